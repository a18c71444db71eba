def oTwo {e : Nat} (f : Nat) (a x : JT (e + 2)) : Nat ⊕ JT (e + 2) :=
  if f = 0 then oHas a x else if f = 1 then oCont a x else if f = 2 then oJoin a x else if f = 3 then oWB a x else if f = 4 then oWE a x else if f = 5 then oBeg a x else if f = 6 then oEnds a x else if f = 7 then oInd a x else if f = 8 then oFlat a x else oAt a x
section PE
variable {f g : Nat → Int64} {v u e : Nat} {o o' : Int32} {n fu : Nat} {r : RS}
theorem at_w (hn : 10000 < n) {a x : JT (e + 1)} (ha : At f v 0 (jc (e + 1) a)) (hoa : jok (e + 1) a) (hx : At g u 0 (jc (e + 1) x)) (hox : jok (e + 1) x) (hr : RV r) : OK r (fH_at n f (i3 v) o g (i3 u) o' r.1 (i3 r.2.1) r.2.2) (oAt1 a x) := by
  obtain ⟨a0, _, _, a5, a6⟩ := isk (o := o) ha hoa n
  obtain ⟨x0, x3, x4, _, _⟩ := isk (o := o') hx hox n
  unfold fH_at
  simp only [b4, a0, a5, a6, x0, x3, x4, Option.bind_some, c1]
  by_cases h1 : kd (e + 1) a = 6 ∧ kd (e + 1) x = 4
  · obtain ⟨l, rfl⟩ := kdo hoa h1.1
    obtain ⟨s, rfl⟩ := kds hox h1.2
    rw [if_neg (Decidable.not_not.mpr h1.1), if_neg (Decidable.not_not.mpr h1.2)]
    have hres : oAt1 (jo l : JT (e + 1)) (js s) = .inr (match lu s l with | none => jk 0 | some y => lf e y) := rfl
    rw [hres]
    rcases At.vo (n := n) (o := o) (o' := o') (q := 0) ha hoa hox (show At g u 0 (strc s) from hx) (by omega) with ⟨r', y, g1, g2, g3, g4⟩ | ⟨g1, g4⟩
    · have h5 := g3.2
      have h6 := jc_pos e y
      obtain ⟨y', hy', rfl⟩ := List.mem_map.mp g2
      have g4' : fR_valueOfa n 0 0 f (i3 v) o g (i3 u) o' = some (i3 r') := g4
      rw [g4', Option.bind_some, if_neg (by rw [i3_m1 (by omega)]; exact not_false), g1]
      exact copy_w (n := n) (o := o) (q := r') hr (d := e + 1) (j := lf e y'.2) (by rw [jc_lf]; exact g3) ((jok_lf e y'.2).mpr (hoa.1 y' hy').2)
    · have g4' : fR_valueOfa n 0 0 f (i3 v) o g (i3 u) o' = some (-1) := g4
      rw [g4', Option.bind_some, if_pos rfl, g1]
      exact nothing_w hr
  · by_cases h2 : kd (e + 1) a = 5 ∧ kd (e + 1) x = 3
    · obtain ⟨l, rfl⟩ := kda hoa h2.1
      obtain ⟨z, rfl⟩ := kdn hox h2.2
      rw [jok_n] at hox
      have en : fR_number n 0 g (i3 u) o' = some (cW z) := At.num (p := 0) hx hox.1 hox.2
      rw [if_pos (by rw [kd_a]; omega), if_neg (Decidable.not_not.mpr h2.1), if_neg (Decidable.not_not.mpr h2.2), en, Option.bind_some]
      exact elementAt_w hn hox.1 hox.2 ha hoa hr
    · have mid : OK r (if ¬ kd (e + 1) a = 0 then some ((1 : Int32), r.1, i3 r.2.1, r.2.2) else if ¬ kd (e + 1) x = 0 then (if ¬ kd (e + 1) x = 3 then (if ¬ kd (e + 1) x = 4 then some ((1 : Int32), r.1, i3 r.2.1, r.2.2) else fH_nothing n r.1 (i3 r.2.1) r.2.2) else fH_nothing n r.1 (i3 r.2.1) r.2.2) else fH_nothing n r.1 (i3 r.2.1) r.2.2) (oAt1 a x) := by
        by_cases h0 : kd (e + 1) a = 0
        · have ha0 := kdk hoa (by omega)
          rw [h0] at ha0
          subst ha0
          rw [if_neg (Decidable.not_not.mpr h0)]
          rcases jcases x with ⟨k', rfl⟩ | ⟨z', rfl⟩ | ⟨s', rfl⟩ | ⟨l', rfl⟩ | ⟨l', rfl⟩
          · rw [jok_k] at hox
            rw [kd_k]
            by_cases hk : k' = 0
            · subst hk
              rw [if_neg (by decide)]
              exact nothing_w hr
            · rw [if_pos hk, if_pos (by omega), if_pos (by omega)]
              have : oAt1 (jk 0 : JT (e + 1)) (jk k') = .inl 1 := by
                obtain ⟨k', rfl⟩ : ∃ j, k' = j + 1 := ⟨k' - 1, by omega⟩
                rfl
              rw [this]
              exact OK.refuse (k := 1) hr (by omega) (by omega)
          · rw [kd_n, if_pos (by decide), if_neg (by decide)]
            exact nothing_w hr
          · rw [kd_s, if_pos (by decide), if_pos (by decide), if_neg (by decide)]
            exact nothing_w hr
          · rw [kd_a, if_pos (by decide), if_pos (by decide), if_pos (by decide)]
            exact OK.refuse (k := 1) hr (by omega) (by omega)
          · rw [kd_o, if_pos (by decide), if_pos (by decide), if_pos (by decide)]
            exact OK.refuse (k := 1) hr (by omega) (by omega)
        · rw [if_pos h0]
          have : oAt1 a x = .inl 1 := by
            rcases jcases a with ⟨k, rfl⟩ | ⟨z, rfl⟩ | ⟨s, rfl⟩ | ⟨l, rfl⟩ | ⟨l, rfl⟩
            · have hk0 : k ≠ 0 := h0
              obtain ⟨k, rfl⟩ : ∃ j, k = j + 1 := ⟨k - 1, by omega⟩
              rcases jcases x with ⟨k', rfl⟩ | ⟨z', rfl⟩ | ⟨s', rfl⟩ | ⟨l', rfl⟩ | ⟨l', rfl⟩ <;> rfl
            · rcases jcases x with ⟨k', rfl⟩ | ⟨z', rfl⟩ | ⟨s', rfl⟩ | ⟨l', rfl⟩ | ⟨l', rfl⟩ <;> rfl
            · rcases jcases x with ⟨k', rfl⟩ | ⟨z', rfl⟩ | ⟨s', rfl⟩ | ⟨l', rfl⟩ | ⟨l', rfl⟩ <;> rfl
            · rcases jcases x with ⟨k', rfl⟩ | ⟨z', rfl⟩ | ⟨s', rfl⟩ | ⟨l', rfl⟩ | ⟨l', rfl⟩ <;> first | rfl | exact absurd ⟨rfl, rfl⟩ h2
            · rcases jcases x with ⟨k', rfl⟩ | ⟨z', rfl⟩ | ⟨s', rfl⟩ | ⟨l', rfl⟩ | ⟨l', rfl⟩ <;> first | rfl | exact absurd ⟨rfl, rfl⟩ h1
          rw [this]
          exact OK.refuse (k := 1) hr (by omega) (by omega)
      by_cases h6 : kd (e + 1) a = 6
      · have h4 : ¬ kd (e + 1) x = 4 := fun h => h1 ⟨h6, h⟩
        have h5 : ¬ kd (e + 1) a = 5 := by omega
        rw [if_neg (Decidable.not_not.mpr h6), if_pos h4, if_pos h5]
        exact mid
      · rw [if_pos h6]
        by_cases h5 : kd (e + 1) a = 5
        · have h3 : ¬ kd (e + 1) x = 3 := fun h => h2 ⟨h5, h⟩
          rw [if_neg (Decidable.not_not.mpr h5), if_pos h3]
          exact mid
        · rw [if_pos h5]
          exact mid
/-- the text is any that is whole -/
def OK7 {d : Nat} (r : RS) (out : Option (Int32 × (Nat → Int32) × Int32 × Int32 × (Nat → Int64) × Int32 × Int32)) (res : Nat ⊕ JT d) : Prop := ∃ (c : Nat) (t' : TS) (r' : RS), out = some (i3 c, t'.1, i3 t'.2.1, t'.2.2, r'.1, i3 r'.2.1, r'.2.2) ∧ RV t' ∧ OK r (some (i3 c, r'.1, i3 r'.2.1, r'.2.2)) res
theorem OK.up {d : Nat} {res : Nat ⊕ JT d} {out : Option Out4} {t : TS} (ht : RV t) (h : OK r out res) : OK7 r (out.bind fun y => some (y.1, t.1, i3 t.2.1, t.2.2, y.2.1, y.2.2.1, y.2.2.2)) res := by
  obtain ⟨c, r', e1, h1, h2⟩ := h
  refine ⟨c, t, r', ?_, ht, ⟨c, r', rfl, h1, h2⟩⟩
  rw [e1]
  rfl
theorem two_op (hn : 60000 < n) (hfu : e + 2 ≤ fu) (he : e + 2 ≤ 1000) {k : Nat} (hk : k ≤ 9) {a x : JT (e + 2)} {t : TS} (ha : At f v 0 (jc (e + 2) a)) (hoa : jok (e + 2) a) (hx : At g u 0 (jc (e + 2) x)) (hox : jok (e + 2) x) (hja : jd (e + 2) a ≤ 60) (ht : RV t) (hr : RV r) : OK7 r (fH_apply fu n (i3 k) f (i3 v) o g (i3 u) o' t.1 (i3 t.2.1) t.2.2 r.1 (i3 r.2.1) r.2.2) (oTwo k a x) := by
  obtain ⟨_, _, _, a5, _⟩ := isk (o := o) ha hoa n
  obtain ⟨_, _, _, x5, _⟩ := isk (o := o') hx hox n
  unfold fH_apply oTwo
  obtain rfl | rfl | rfl | rfl | rfl | rfl | rfl | rfl | rfl | rfl : k = 0 ∨ k = 1 ∨ k = 2 ∨ k = 3 ∨ k = 4 ∨ k = 5 ∨ k = 6 ∨ k = 7 ∨ k = 8 ∨ k = 9 := by omega
  · rw [if_pos (by decide), if_pos rfl]
    exact (has_w (by omega) ha hoa hx hox hr).up ht
  · rw [if_neg (by decide), if_pos (by decide), if_neg (by decide), if_pos rfl]
    exact (contains_w (by omega) (by omega) ha hoa hx hox hja hr).up ht
  · rw [if_neg (by decide), if_neg (by decide), if_pos (by decide), if_neg (by decide), if_neg (by decide), if_pos rfl]
    obtain ⟨c, t2, r', e1, h1, h2⟩ := joined_w (n := n) (fu := fu) (o := o) (o' := o') (by omega) (by omega) ha hoa hx hox ht hr
    rw [e1]
    exact ⟨c, t2, r', rfl, h1, h2⟩
  · rw [if_neg (by decide), if_neg (by decide), if_neg (by decide), if_pos (by decide), if_neg (by decide), if_neg (by decide), if_neg (by decide), if_pos rfl]
    exact (wb_w (by omega) ha hoa hx hox hr).up ht
  · rw [if_neg (by decide), if_neg (by decide), if_neg (by decide), if_neg (by decide), if_pos (by decide), if_neg (by decide), if_neg (by decide), if_neg (by decide), if_neg (by decide), if_pos rfl]
    exact (we_w (by omega) ha hoa hx hox hr).up ht
  · rw [if_neg (by decide), if_neg (by decide), if_neg (by decide), if_neg (by decide), if_neg (by decide), if_pos (by decide), if_neg (by decide), if_neg (by decide), if_neg (by decide), if_neg (by decide), if_neg (by decide), if_pos rfl]
    have h := (beg_w (n := n) (o := o) (o' := o') (by omega) ha hoa hx hox hr).up ht
    rw [strs_w ha hoa hx hox, Option.bind_some] at h ⊢
    by_cases hc : kd (e + 1 + 1) a = 4 ∧ kd (e + 1 + 1) x = 4
    · rw [if_pos hc, if_neg (by decide)] at h ⊢
      rw [Option.bind_assoc] at h
      exact h
    · rw [if_neg hc, if_pos (by decide)] at h ⊢
      exact h
  · rw [if_neg (by decide), if_neg (by decide), if_neg (by decide), if_neg (by decide), if_neg (by decide), if_neg (by decide), if_pos (by decide), if_neg (by decide), if_neg (by decide), if_neg (by decide), if_neg (by decide), if_neg (by decide), if_neg (by decide), if_pos rfl]
    have h := (end_w (n := n) (o := o) (o' := o') (by omega) ha hoa hx hox hr).up ht
    rw [strs_w ha hoa hx hox, Option.bind_some] at h ⊢
    by_cases hc : kd (e + 1 + 1) a = 4 ∧ kd (e + 1 + 1) x = 4
    · rw [if_pos hc, if_neg (by decide)] at h ⊢
      rw [Option.bind_assoc] at h
      exact h
    · rw [if_neg hc, if_pos (by decide)] at h ⊢
      exact h
  · rw [if_neg (by decide), if_neg (by decide), if_neg (by decide), if_neg (by decide), if_neg (by decide), if_neg (by decide), if_neg (by decide), if_pos (by decide), if_neg (by decide), if_neg (by decide), if_neg (by decide), if_neg (by decide), if_neg (by decide), if_neg (by decide), if_neg (by decide), if_pos rfl]
    exact (indices_w hn hfu he ha hoa hx hox hja hr).up ht
  · rw [if_neg (by decide), if_neg (by decide), if_neg (by decide), if_neg (by decide), if_neg (by decide), if_neg (by decide), if_neg (by decide), if_neg (by decide), if_pos (by decide), if_neg (by decide), if_neg (by decide), if_neg (by decide), if_neg (by decide), if_neg (by decide), if_neg (by decide), if_neg (by decide), if_neg (by decide), if_pos rfl]
    exact (flat_w (by omega) (by omega) ha hoa hx hox hja hr).up ht
  · rw [if_neg (by decide), if_neg (by decide), if_neg (by decide), if_neg (by decide), if_neg (by decide), if_neg (by decide), if_neg (by decide), if_neg (by decide), if_neg (by decide), if_neg (by decide), if_neg (by decide), if_neg (by decide), if_neg (by decide), if_neg (by decide), if_neg (by decide), if_neg (by decide), if_neg (by decide), if_neg (by decide), a5, Option.bind_some]
    unfold oAt
    by_cases h5 : kd (e + 2) a = 5
    · rw [if_pos h5, if_neg (by decide), x5, Option.bind_some]
      by_cases hx5 : kd (e + 2) x = 5
      · rw [if_pos hx5, if_neg (by decide), if_pos ⟨h5, hx5⟩]
        exact (indices_w hn hfu he ha hoa hx hox hja hr).up ht
      · rw [if_neg hx5, if_pos (by decide), if_neg (fun h => hx5 h.2)]
        exact (at_w (by omega) ha hoa hx hox hr).up ht
    · rw [if_neg h5, if_pos (by decide), if_neg (fun h => h5 h.1)]
      exact (at_w (by omega) ha hoa hx hox hr).up ht
end PE
