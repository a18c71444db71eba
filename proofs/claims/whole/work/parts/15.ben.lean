section ZBen41
/-! ===== the bench: what is kept ===== -/
theorem esc_pos (c : Nat) : 1 ≤ (esc c).length := by
  unfold esc
  repeat' split
  all_goals simp
theorem escs_len (s : Sx) : s.length ≤ (s.flatMap esc).length := by
  induction s with
  | nil => exact Nat.le_refl _
  | cons c s ih =>
    have := esc_pos c
    rw [List.flatMap_cons, List.length_append, List.length_cons]
    omega
theorem qt_len (s : Sx) : s.length + 2 ≤ (qt s).length := by
  unfold qt
  have := escs_len s
  rw [List.length_cons, List.length_append, List.length_singleton]
  omega
def sml {α : Type} (g : α → List Nat) (l : List α) : Nat := (l.map (fun x => (g x).length)).sum
theorem fm44 {l : List (List Nat)} : (l.flatMap (fun y => 44 :: y)).length = (l.map List.length).sum + l.length := by
  induction l with
  | nil => rfl
  | cons x l ih =>
    rw [List.flatMap_cons, List.length_append, ih, List.map_cons, List.sum_cons, List.length_cons, List.length_cons]
    omega
theorem cj_len {l : List (List Nat)} : (cj l).length + 1 = (l.map List.length).sum + max l.length 1 := by
  cases l with
  | nil => rfl
  | cons x l =>
    rw [cj, List.length_append, fm44, List.map_cons, List.sum_cons, List.length_cons]
    omega
theorem nlA_pos : ∀ (f k n : Nat), 1 ≤ k → 1 ≤ nlA f k n := by
  intro f
  induction f with
  | zero => intro k n h; exact h
  | succ f ih =>
    intro k n h
    rw [nlA]
    split
    · exact h
    · exact ih _ _ (by omega)
theorem dgs_len : ∀ (k n : Nat), (dgs k n).length = k := by
  intro k
  induction k with
  | zero => intro n; rfl
  | succ k ih => intro n; rw [dgs, List.length_cons, ih]
theorem nt_pos (z : Int) : 1 ≤ (nt z).length := by
  unfold nt
  have := nlA_pos 15 1 z.natAbs (by omega)
  rw [List.length_append, dgs_len]
  unfold nl
  omega
theorem wd_pos (k : Nat) : 4 ≤ (wd k).length := by
  unfold wd
  split
  · simp
  · split <;> simp
theorem sum_le {α : Type} {a b : α → Nat} : ∀ {l : List α}, (∀ x ∈ l, a x ≤ b x) → (l.map a).sum ≤ (l.map b).sum := by
  intro l
  induction l with
  | nil => intro _; exact Nat.le_refl _
  | cons x l ih =>
    intro h
    rw [List.map_cons, List.map_cons, List.sum_cons, List.sum_cons]
    have := h x (List.mem_cons_self ..)
    have := ih (fun y hy => h y (List.mem_cons_of_mem _ hy))
    omega
/-- the cells are not more than the text -/
theorem jc_le_jt : ∀ (d : Nat) (j : JT d), (jc d j).length ≤ (jt d j).length := by
  intro d
  induction d with
  | zero => exact fun j => (j0 j).elim
  | succ d ih =>
    intro j
    rcases jcases j with ⟨k, rfl⟩ | ⟨z, rfl⟩ | ⟨s, rfl⟩ | ⟨l, rfl⟩ | ⟨l, rfl⟩
    · rw [jt_k]
      have := wd_pos k
      show 1 ≤ _
      omega
    · exact nt_pos z
    · rw [jc_s, strc_len, jt_s]
      have := qt_len s
      omega
    · rw [jc_a, jt_a, lst_len, sm_flat, List.length_cons, List.length_append]
      have h1 := cj_len (l := l.map (jt d))
      rw [List.map_map] at h1
      have h2 : sm (fun x => (jc d x).length) l ≤ (l.map (List.length ∘ jt d)).sum := sum_le (fun x _ => ih x)
      rw [List.length_singleton]
      omega
    · rw [jc_o, jt_o, lst_len, sm_flat, List.length_cons, List.length_append]
      have h1 := cj_len (l := l.map (fun p => qt p.1 ++ 58 :: jt d p.2))
      rw [List.map_map] at h1
      have h2 : sm (fun x : Sx × JT d => (strc x.1 ++ jc d x.2).length) l ≤ (l.map (List.length ∘ (fun p : Sx × JT d => qt p.1 ++ 58 :: jt d p.2))).sum := sum_le (fun x _ => by
        have := ih x.2
        have := qt_len x.1
        show (strc x.1 ++ jc d x.2).length ≤ (qt x.1 ++ 58 :: jt d x.2).length
        rw [List.length_append, List.length_append, strc_len, List.length_cons]
        omega)
      rw [List.length_singleton]
      omega
theorem jd_lt5 {d : Nat} {j : JT (d + 1)} (h : kd (d + 1) j < 5) : jd (d + 1) j = 0 := by
  rcases jcases j with ⟨k, rfl⟩ | ⟨z, rfl⟩ | ⟨s, rfl⟩ | ⟨l, rfl⟩ | ⟨l, rfl⟩
  · rfl
  · rfl
  · rfl
  · exact absurd h (by rw [kd_a]; omega)
  · exact absurd h (by rw [kd_o]; omega)
/-- what may stand in a register -/
def fit {d : Nat} (j : JT d) : Prop := jd d j ≤ 60 ∧ (jt d j).length ≤ 4096
noncomputable def fitD {d : Nat} (j : JT d) : Decidable (fit j) := Classical.propDecidable _
def rg (x : Int32) : Prop := ¬ (x < 0) ∧ ¬ ((7 : Int32) < x)
section BE
variable {n fu : Nat}
theorem within_w (x m : Int32) : fB_isWithin n x m = some (if ¬ x < 0 ∧ ¬ m < x then 1 else 0) := by
  unfold fB_isWithin
  by_cases h1 : x < 0
  · rw [if_pos h1, if_neg (fun h => h.1 h1)]
  · rw [if_neg h1]
    by_cases h2 : m < x
    · rw [if_pos h2, if_neg (fun h => h.2 h2)]
    · rw [if_neg h2, if_pos ⟨h1, h2⟩]
theorem reg_T {x : Int32} (h : ¬ x < 0 ∧ ¬ (7 : Int32) < x) : fB_isRegister n x = some 1 := by
  unfold fB_isRegister
  rw [within_w, Option.bind_some, if_pos h]
  rfl
theorem reg_F {x : Int32} (h : ¬ (¬ x < 0 ∧ ¬ (7 : Int32) < x)) : fB_isRegister n x = some 0 := by
  unfold fB_isRegister
  rw [within_w, Option.bind_some, if_neg h]
  rfl
theorem dem0 : fB_demand n 0 = some 1 := rfl
theorem dem1 : fB_demand n 1 = some 0 := rfl
theorem reg_i {x : Int32} (h : ¬ x < 0 ∧ ¬ (7 : Int32) < x) : ¬ (x < 0 ∨ 8 ≤ x.toNatClampNeg) ∧ ∃ k, k < 8 ∧ x = i3 k := by
  rcases i3_cases x with h' | ⟨k, hk, rfl⟩
  · exact absurd h' h.1
  · have h2 := h.2
    rw [show (7 : Int32) = i3 7 from rfl, i3_lt (by omega) (by omega)] at h2
    exact ⟨i3_idx (by omega) (by omega), k, by omega, rfl⟩
theorem with_i {x : Int32} {m : Nat} (hm : m < 1000) (h : ¬ x < 0 ∧ ¬ i3 m < x) : ∃ k, k ≤ m ∧ x = i3 k := by
  rcases i3_cases x with h' | ⟨k, hk, rfl⟩
  · exact absurd h' h.1
  · have h2 := h.2
    rw [i3_lt (by omega) (by omega)] at h2
    exact ⟨k, by omega, rfl⟩
variable {f0 : Nat → Int32} {v1 v2 : Int32} {f3 : Nat → Int32} {v4 v5 : Int32} {f9 f10 f12 f14 : Nat → Int32} {p11 p13 : Nat} {v15 v19 v20 : Int32}
theorem keepSpare_w (hn : 140000 < n) {e : Nat} (hfu : e + 1 ≤ fu) (hfu2 : 61 ≤ fu) {x : Int32} (hx : ¬ x < 0 ∧ ¬ (7 : Int32) < x) {t : TS} {r0 r : RS} (h0 : r0.2.1 = 0 ∧ r0.2.2 = 0) {j : JT (e + 1)} (hj : jok (e + 1) j) (hw : Wr r0 (jc (e + 1) j) r) : ∃ t' : TS, RV t' ∧ ((fit j ∧ fB_keepSpare fu n x f0 v1 v2 f3 v4 v5 t.1 (i3 t.2.1) t.2.2 f9 f10 p11 f12 p13 f14 v15 r.1 (i3 r.2.1) r.2.2 v19 v20 = some (0, i3 (jt (e + 1) j).length, t'.1, i3 t'.2.1, t'.2.2) ∧ r.2.1 = (jc (e + 1) j).length ∧ r.2.2 = 0 ∧ At r.1 r.2.1 0 (jc (e + 1) j)) ∨ (¬ fit j ∧ fB_keepSpare fu n x f0 v1 v2 f3 v4 v5 t.1 (i3 t.2.1) t.2.2 f9 f10 p11 f12 p13 f14 v15 r.1 (i3 r.2.1) r.2.2 v19 v20 = some (1, 0, t'.1, i3 t'.2.1, t'.2.2))) := by
  have hle := jc_le_jt (e + 1) j
  obtain ⟨hx1, _⟩ := reg_i hx
  have hrv := hw.v
  unfold fB_keepSpare fT_clear fT_size
  rw [Option.bind_some]
  dsimp only
  by_cases hr : r.2.2 = 0
  · obtain ⟨g1, _, g3⟩ := hw.end0 hr
    rw [h0.1, Nat.zero_add] at g1
    have hat : At r.1 r.2.1 0 (jc (e + 1) j) := by
      rcases hw.2 with ⟨_, _, _, _, _, g⟩ | ⟨_, g⟩
      · rw [h0.1] at g
        exact ⟨g, by omega, g3⟩
      · rw [hr] at g
        exact absurd g (by decide)
    obtain ⟨t1, e1, k1, k2, k3⟩ := write_w (n := n) (by omega) (e + 1) fu j r.1 0 r.2.1 0 r.2.2 (t.1, 0, 0) hj hat hfu (by omega) ⟨by simp, Or.inl rfl⟩
    have e1' : fP_write fu n 0 0 r.1 (i3 r.2.1) r.2.2 t.1 0 0 = some (t1.1, i3 t1.2.1, t1.2.2) := e1
    refine ⟨t1, k1, ?_⟩
    rw [e1', Option.bind_some]
    have ho : fR_isOver n r.1 (i3 r.2.1) r.2.2 = some 0 := by unfold fR_isOver; rw [hr]; rfl
    rw [ho, Option.bind_some, if_pos rfl]
    dsimp only
    have over : t1.2.2 = 1 → ((fT_isOver n t1.1 (i3 t1.2.1) t1.2.2).bind fun o8 => if o8 = 0 then (if x < 0 ∨ 8 ≤ x.toNatClampNeg then none else if x < 0 ∨ 8 ≤ x.toNatClampNeg then none else (some (i3 t1.2.1)).bind fun o13 => some (0, o13, t1.1, i3 t1.2.1, t1.2.2)) else some (1, 0, t1.1, i3 t1.2.1, t1.2.2)) = some ((1 : Nat), (0 : Int32), t1.1, i3 t1.2.1, t1.2.2) := by
      intro h
      unfold fT_isOver
      rw [h]
      rfl
    by_cases hd : jd (e + 1) j ≤ 60
    · have hw1 := k2 (Or.inr (by omega))
      by_cases hl : (jt (e + 1) j).length ≤ 4096
      · have hz := hw1.fits rfl (by rw [List.length_map]; show 0 + _ ≤ 4096; omega)
        obtain ⟨z1, _, _⟩ := hw1.end0 hz
        rw [List.length_map] at z1
        have z2 : t1.2.1 = (jt (e + 1) j).length := by rw [z1]; show 0 + _ = _; omega
        refine Or.inl ⟨⟨hd, hl⟩, ?_, g1, hr, hat⟩
        have ho2 : fT_isOver n t1.1 (i3 t1.2.1) t1.2.2 = some 0 := by unfold fT_isOver; rw [hz]; rfl
        rw [ho2, Option.bind_some, if_pos rfl, if_neg hx1, if_neg hx1, Option.bind_some, z2]
      · refine Or.inr ⟨fun h => hl h.2, over ?_⟩
        rcases hw1.2 with ⟨_, g, _⟩ | ⟨_, g⟩
        · rw [List.length_map] at g
          have : 0 + (jt (e + 1) j).length ≤ 4096 := g
          omega
        · exact g
    · refine Or.inr ⟨fun h => hd h.1, over (k3 ?_)⟩
      rintro (h | h)
      · rw [jd_lt5 h] at hd
        omega
      · exact hd (by omega)
  · have hr1 : r.2.2 = 1 := hrv.2.resolve_left hr
    obtain ⟨t1, e1, k1⟩ := writeT (n := n) (f := r.1) (v := r.2.1) (o := r.2.2) hn hrv.1 fu 0 0 (t.1, 0, 0) (by omega) (by omega) (by omega) ⟨by simp, Or.inl rfl⟩
    have e1' : fP_write fu n 0 0 r.1 (i3 r.2.1) r.2.2 t.1 0 0 = some (t1.1, i3 t1.2.1, t1.2.2) := e1
    refine ⟨t1, k1, Or.inr ⟨?_, ?_⟩⟩
    · intro h
      rcases hw.2 with ⟨_, _, g, _⟩ | ⟨g, _⟩
      · exact hr g
      · rw [h0.1, h0.2] at g
        rcases g with g | g
        · exact absurd g (by decide)
        · have := h.2
          omega
    · rw [e1', Option.bind_some]
      have ho : fR_isOver n r.1 (i3 r.2.1) r.2.2 = some 1 := by unfold fR_isOver; rw [hr1]; rfl
      rw [ho, Option.bind_some, if_neg (by decide)]
theorem done_0 {f6 : Nat → Int32} {v7 v8 : Int32} {f16 : Nat → Int64} {v17 v18 : Int32} : fB_demandDone n 0 f0 v1 v2 f3 v4 v5 f6 v7 v8 f9 f10 p11 f12 p13 f14 v15 f16 v17 v18 v19 v20 = some (0, v20) := rfl
theorem done_k {k : Nat} (h1 : 1 ≤ k) (h2 : k ≤ 5) {f6 : Nat → Int32} {v7 v8 : Int32} {f16 : Nat → Int64} {v17 v18 : Int32} : fB_demandDone n (i3 k) f0 v1 v2 f3 v4 v5 f6 v7 v8 f9 f10 p11 f12 p13 f14 v15 f16 v17 v18 v19 v20 = some (1, i3 k) := by
  obtain rfl | rfl | rfl | rfl | rfl : k = 1 ∨ k = 2 ∨ k = 3 ∨ k = 4 ∨ k = 5 := by omega
  all_goals rfl
end BE
end ZBen41
section ZOk42
/-! ===== what an operation gives is well formed ===== -/
def RJ {d : Nat} (res : Nat ⊕ JT d) : Prop := ∀ j, res = .inr j → jok d j
theorem RJ.l {d : Nat} {k : Nat} : RJ (.inl k : Nat ⊕ JT d) := fun j h => by simp at h
theorem RJ.r {d : Nat} {j : JT d} (h : jok d j) : RJ (.inr j : Nat ⊕ JT d) := fun j' h' => by
  obtain rfl := Sum.inr.inj h'
  exact h
theorem RJ.ite {d : Nat} {c : Prop} [Decidable c] {a b : Nat ⊕ JT d} (ha : RJ a) (hb : RJ b) : RJ (if c then a else b) := by
  by_cases h : c
  · rw [if_pos h]; exact ha
  · rw [if_neg h]; exact hb
theorem lum {α : Type} {s : Sx} {x : α} : ∀ {l : List (Sx × α)}, lu s l = some x → (s, x) ∈ l := by
  intro l
  induction l with
  | nil => intro h; simp [lu] at h
  | cons p l ih =>
    intro h
    rw [lu] at h
    split at h
    · rename_i hp
      obtain rfl := Option.some.inj h
      rw [← hp]
      exact List.mem_cons_self ..
    · exact List.mem_cons_of_mem _ (ih h)
theorem lun {α : Type} {s : Sx} : ∀ {l : List (Sx × α)}, lu s l = none ↔ s ∉ l.map (fun p => p.1) := by
  intro l
  induction l with
  | nil => simp [lu]
  | cons p l ih =>
    rw [lu]
    split
    · rename_i hp
      simp [hp]
    · rename_i hp
      rw [ih, List.map_cons, List.mem_cons]
      exact ⟨fun h h' => h'.elim (fun e => hp e.symm) h, fun h h' => h (Or.inr h')⟩
theorem bw_ok {e : Nat} {sel : JT e → JT e → JT e} (hsel : ∀ x y, jok e x → jok e y → jok e (sel x y)) {l m : List (Sx × JT e)} (hl : jok (e + 1) (jo l)) (hm : jok (e + 1) (jo m)) : jok (e + 1) (jo (bw sel l m)) := by
  rw [jok_o] at *
  have hbn : ∀ p ∈ bn l m, p ∈ m ∧ p.1 ∉ l.map (fun p => p.1) := fun p hp => by
    obtain ⟨h1, h2⟩ := List.mem_filter.mp hp
    exact ⟨h1, lun.mp (Option.isNone_iff_eq_none.mp h2)⟩
  refine ⟨fun p hp => ?_, ?_⟩
  · rcases List.mem_append.mp hp with hp | hp
    · obtain ⟨q, hq, rfl⟩ := List.mem_map.mp hp
      refine ⟨(hl.1 q hq).1, ?_⟩
      unfold bv
      dsimp only
      split
      · exact (hl.1 q hq).2
      · rename_i y hy
        exact hsel _ _ (hl.1 q hq).2 (hm.1 _ (lum hy)).2
    · exact hm.1 p (hbn p hp).1
  · unfold bw
    rw [List.map_append, List.map_map]
    have : ((fun p : Sx × JT e => p.1) ∘ bv sel m) = fun p => p.1 := rfl
    rw [this]
    refine List.nodup_append.mpr ⟨hl.2, ?_, ?_⟩
    · exact hm.2.sublist (List.filter_sublist.map _)
    · intro a ha b hb hab
      subst hab
      obtain ⟨q, hq, rfl⟩ := List.mem_map.mp hb
      exact (hbn q hq).2 ha
theorem selD_ok : ∀ (e : Nat) (x y : JT e), jok e x → jok e y → jok e (selD e x y) := by
  intro e
  induction e with
  | zero => exact fun x => (j0 x).elim
  | succ e ih =>
    intro x y hx hy
    by_cases h : kd (e + 1) x ≠ 6 ∨ kd (e + 1) y ≠ 6
    · rw [selD_n h hx hy]
      exact hy
    · obtain ⟨l, rfl⟩ := kdo hx (by omega)
      obtain ⟨m, rfl⟩ := kdo hy (by omega)
      exact bw_ok ih hx hy
section OKX
variable {e : Nat}
theorem numR_ok {z : Int} : RJ (numR z : Nat ⊕ JT (e + 1)) := by
  unfold numR
  split
  · rename_i h
    exact RJ.r h
  · exact RJ.l
theorem oNum_ok {op : Nat} {x y : Int} : RJ (oNum op x y : Nat ⊕ JT (e + 1)) := by
  unfold oNum
  repeat' split
  all_goals first | exact numR_ok | exact RJ.l
theorem oPlus_ok {a b : JT (e + 1)} (ha : jok (e + 1) a) (hb : jok (e + 1) b) : RJ (oPlus a b) := by
  unfold oPlus
  split
  · exact RJ.r hb
  split
  · exact RJ.r ha
  rcases jcases a with ⟨k, rfl⟩ | ⟨z, rfl⟩ | ⟨s, rfl⟩ | ⟨l, rfl⟩ | ⟨l, rfl⟩ <;> rcases jcases b with ⟨k', rfl⟩ | ⟨z', rfl⟩ | ⟨s', rfl⟩ | ⟨l', rfl⟩ | ⟨l', rfl⟩ <;> try exact RJ.l
  · refine RJ.r (fun c hc => ?_)
    rcases List.mem_append.mp hc with hc | hc
    · exact ha c hc
    · exact hb c hc
  · refine RJ.r (fun c hc => ?_)
    rcases List.mem_append.mp hc with hc | hc
    · exact ha c hc
    · exact hb c hc
  · exact RJ.r (bw_ok (fun x y _ hy => hy) ha hb)
theorem oMinus_ok {a b : JT (e + 1)} (ha : jok (e + 1) a) : RJ (oMinus a b) := by
  unfold oMinus
  rcases jcases a with ⟨k, rfl⟩ | ⟨z, rfl⟩ | ⟨s, rfl⟩ | ⟨l, rfl⟩ | ⟨l, rfl⟩ <;> rcases jcases b with ⟨k', rfl⟩ | ⟨z', rfl⟩ | ⟨s', rfl⟩ | ⟨l', rfl⟩ | ⟨l', rfl⟩ <;> try exact RJ.l
  exact RJ.r (fun x hx => ha x ((List.mem_filter.mp hx).1))
theorem rep_ok {s : Sx} {z : Int} (hs : sok s) : sok (rep s z) := by
  intro c hc
  unfold rep at hc
  obtain ⟨t, ht, hc⟩ := List.mem_flatten.mp hc
  rw [(List.mem_replicate.mp ht).2] at hc
  exact hs c hc
theorem oTimes_ok {a b : JT (e + 1)} (ha : jok (e + 1) a) (hb : jok (e + 1) b) : RJ (oTimes a b) := by
  unfold oTimes
  rcases jcases a with ⟨k, rfl⟩ | ⟨z, rfl⟩ | ⟨s, rfl⟩ | ⟨l, rfl⟩ | ⟨l, rfl⟩ <;> rcases jcases b with ⟨k', rfl⟩ | ⟨z', rfl⟩ | ⟨s', rfl⟩ | ⟨l', rfl⟩ | ⟨l', rfl⟩ <;> try exact RJ.l
  · show RJ (repR s' z)
    unfold repR
    split
    · exact RJ.r (show (0 : Nat) < 3 by omega)
    · exact RJ.r (rep_ok hb)
  · show RJ (repR s z')
    unfold repR
    split
    · exact RJ.r (show (0 : Nat) < 3 by omega)
    · exact RJ.r (rep_ok ha)
  · exact RJ.r (bw_ok (selD_ok e) ha hb)
theorem drop_ok {s : Sx} {k : Nat} (hs : sok s) : sok (s.drop k) := fun c hc => hs c (List.mem_of_mem_drop hc)
theorem take_ok {s : Sx} {k : Nat} (hs : sok s) : sok (s.take k) := fun c hc => hs c (List.mem_of_mem_take hc)
theorem spl_ok {s t : Sx} (hs : sok s) : ∀ (m k b : Nat), ∀ x ∈ spl s t m k b, sok x := by
  intro m
  induction m with
  | zero =>
    intro k b x hx
    rw [List.mem_singleton.mp hx]
    exact drop_ok hs
  | succ m ih =>
    intro k b x hx
    rw [spl] at hx
    split at hx
    · rcases List.mem_cons.mp hx with rfl | hx
      · exact take_ok (drop_ok hs)
      · exact ih _ _ x hx
    · exact ih _ _ x hx
theorem pcs_ok {s t : Sx} (hs : sok s) : ∀ x ∈ pcs s t, sok x := by
  intro x hx
  unfold pcs at hx
  split at hx
  · obtain ⟨c, hc, rfl⟩ := List.mem_map.mp hx
    intro c' hc'
    rw [List.mem_singleton.mp hc']
    exact hs c hc
  · split at hx
    · exact absurd hx (by simp)
    · exact spl_ok hs _ _ _ x hx
theorem strs_ok {l : List Sx} (h : ∀ x ∈ l, sok x) : jok (e + 2) (ja (l.map (fun x => (js x : JT (e + 1))))) := fun y hy => by
  obtain ⟨x, hx, rfl⟩ := List.mem_map.mp hy
  exact h x hx
theorem oPieces_ok {a b : JT (e + 2)} (ha : jok (e + 2) a) : RJ (oPieces a b) := by
  unfold oPieces
  rcases jcases a with ⟨k, rfl⟩ | ⟨z, rfl⟩ | ⟨s, rfl⟩ | ⟨l, rfl⟩ | ⟨l, rfl⟩ <;> rcases jcases b with ⟨k', rfl⟩ | ⟨z', rfl⟩ | ⟨s', rfl⟩ | ⟨l', rfl⟩ | ⟨l', rfl⟩ <;> try exact RJ.l
  exact RJ.r (strs_ok (pcs_ok ha))
theorem oBin_ok {op : Nat} {a b : JT (e + 2)} (ha : jok (e + 2) a) (hb : jok (e + 2) b) : RJ (oBin op a b) := by
  by_cases h : kd (e + 2) a = 3 ∧ kd (e + 2) b = 3
  · obtain ⟨x, rfl⟩ := kdn ha h.1
    obtain ⟨y, rfl⟩ := kdn hb h.2
    exact oNum_ok
  · rw [oBin_ne h]
    repeat' split
    · exact oPlus_ok ha hb
    · exact oMinus_ok ha
    · exact oTimes_ok ha hb
    · exact oPieces_ok ha
    · exact RJ.l
theorem tru_ok {b : Bool} : jok (e + 1) (tru b) := by
  show (if b then 2 else 1) < 3
  cases b <;> decide
theorem jnN_ok {k : Nat} (h : k ≤ 9007199254740991) : jok (e + 1) (jn (k : Nat)) := by
  rw [jok_n]
  omega
/-- a short list's numbers -/
theorem oLen_ok {a : JT (e + 1)} (ha : jok (e + 1) a) (hl : (jc (e + 1) a).length ≤ 4096) : RJ (oLen a) := by
  unfold oLen
  rcases jcases a with ⟨k, rfl⟩ | ⟨z, rfl⟩ | ⟨s, rfl⟩ | ⟨l, rfl⟩ | ⟨l, rfl⟩
  · show RJ (if k = 0 then _ else _)
    split
    · exact RJ.r (jnN_ok (k := 0) (by omega))
    · exact RJ.l
  · refine RJ.r (jnN_ok ?_)
    rw [jok_n] at ha
    omega
  · rw [jc_s, strc_len] at hl
    exact RJ.r (jnN_ok (by omega))
  · rw [jc_a, lst_len] at hl
    have := ja_len (l := l)
    exact RJ.r (jnN_ok (by omega))
  · rw [jc_o, lst_len] at hl
    have := jo_len (l := l)
    exact RJ.r (jnN_ok (by omega))
theorem oKeys_ok {a : JT (e + 2)} (ha : jok (e + 2) a) (hl : (jc (e + 2) a).length ≤ 4096) : RJ (oKeys a) := by
  unfold oKeys
  rcases jcases a with ⟨k, rfl⟩ | ⟨z, rfl⟩ | ⟨s, rfl⟩ | ⟨l, rfl⟩ | ⟨l, rfl⟩ <;> try exact RJ.l
  · rw [jc_a, lst_len] at hl
    have := ja_len (l := l)
    refine RJ.r (fun y hy => ?_)
    obtain ⟨k, hk, rfl⟩ := List.mem_map.mp hy
    have := List.mem_range.mp hk
    exact jnN_ok (by omega)
  · refine RJ.r (fun y hy => ?_)
    obtain ⟨p, hp, rfl⟩ := List.mem_map.mp hy
    exact (ha.1 p hp).1
theorem byT_mem {α : Type} {T : List Nat} {l : List α} : ∀ x ∈ byT T l, x ∈ l := fun x hx => by
  obtain ⟨t, _, h⟩ := List.mem_filterMap.mp hx
  exact List.mem_of_getElem? h
theorem oSortK_ok {a : JT (e + 2)} (ha : jok (e + 2) a) (hl : (jc (e + 2) a).length ≤ 4096) : RJ (oSortK a) := by
  by_cases h6 : kd (e + 2) a = 6
  · obtain ⟨l, rfl⟩ := kdo ha h6
    refine RJ.r (fun y hy => ?_)
    obtain ⟨p, hp, rfl⟩ := List.mem_map.mp hy
    exact (ha.1 p (byT_mem p hp)).1
  · have : oSortK a = oKeys a := by
      unfold oSortK
      rcases jcases a with ⟨k, rfl⟩ | ⟨z, rfl⟩ | ⟨s, rfl⟩ | ⟨l, rfl⟩ | ⟨l, rfl⟩ <;> first | rfl | exact absurd rfl h6
    rw [this]
    exact oKeys_ok ha hl
theorem pTN_ok {s : Sx} {z : Int} (h : pTN s = some z) : -9007199254740991 ≤ z ∧ z ≤ 9007199254740991 := by
  unfold pTN at h
  cases hp : pN s with
  | inl x => rw [hp] at h; simp at h
  | inr q =>
    obtain ⟨y, r⟩ := q
    rw [hp] at h
    dsimp only at h
    split at h
    · obtain rfl := Option.some.inj h
      obtain ⟨_, _, h3, h4⟩ := (pN_suf s).2 y r hp
      exact ⟨h3, h4⟩
    · simp at h
theorem pT_ok {k o : Nat} (hk : o ≤ k) {s : Sx} {j : JT (k + 1)} (h : pT k o s = .inr j) : jok (k + 1) j ∧ jd (k + 1) j ≤ o := by
  unfold pT at h
  cases hp : pV k o s with
  | inl x => rw [hp] at h; simp at h
  | inr q =>
    obtain ⟨y, r⟩ := q
    rw [hp] at h
    dsimp only at h
    split at h
    · obtain rfl := Sum.inr.inj h
      exact ((pV_suf k o hk s).2 y r hp).2.2.2
    · simp at h
theorem oStr_ok {a : JT (e + 1)} (ha : jok (e + 1) a) : RJ (oStr a) := by
  unfold oStr
  rcases jcases a with ⟨k, rfl⟩ | ⟨z, rfl⟩ | ⟨s, rfl⟩ | ⟨l, rfl⟩ | ⟨l, rfl⟩
  · exact RJ.r (jt_lt _ _ ha)
  · exact RJ.r (jt_lt _ _ ha)
  · exact RJ.r ha
  · exact RJ.r (jt_lt _ _ ha)
  · exact RJ.r (jt_lt _ _ ha)
theorem oNumb_ok {a : JT (e + 1)} (ha : jok (e + 1) a) : RJ (oNumb a) := by
  unfold oNumb
  rcases jcases a with ⟨k, rfl⟩ | ⟨z, rfl⟩ | ⟨s, rfl⟩ | ⟨l, rfl⟩ | ⟨l, rfl⟩ <;> try exact RJ.l
  · exact RJ.r ha
  · show RJ (match pTN s with | none => .inl 4 | some z => .inr (jn z))
    cases hp : pTN s with
    | none => exact RJ.l
    | some z => exact RJ.r (pTN_ok hp)
theorem oFrom_ok (he : 40 ≤ e) {a : JT (e + 1)} : RJ (oFrom a) := by
  unfold oFrom
  rcases jcases a with ⟨k, rfl⟩ | ⟨z, rfl⟩ | ⟨s, rfl⟩ | ⟨l, rfl⟩ | ⟨l, rfl⟩ <;> try exact RJ.l
  show RJ (match pT e 40 s with | .inl _ => .inl 5 | .inr j => .inr j)
  cases hp : pT e 40 s with
  | inl x => exact RJ.l
  | inr j => exact RJ.r (pT_ok he hp).1
theorem oOne_ok (he : 40 ≤ e + 1) {k : Nat} {a : JT (e + 2)} (ha : jok (e + 2) a) (hl : (jc (e + 2) a).length ≤ 4096) : RJ (oOne k a) := by
  unfold oOne
  refine RJ.ite ?_ (RJ.ite ?_ (RJ.ite ?_ (RJ.ite ?_ (RJ.ite ?_ (RJ.ite ?_ (RJ.ite ?_ (RJ.ite ?_ (RJ.ite ?_ (RJ.ite ?_ (RJ.ite ?_ (RJ.ite ?_ (RJ.ite ?_ ?_))))))))))))
  · exact RJ.r tru_ok
  · exact oLen_ok ha hl
  · exact oSortK_ok ha hl
  · exact oKeys_ok ha hl
  · exact oStr_ok ha
  · exact oNumb_ok ha
  · exact RJ.r (jt_lt _ _ ha)
  · exact oFrom_ok he
  · unfold oSort
    rcases jcases a with ⟨k, rfl⟩ | ⟨z, rfl⟩ | ⟨s, rfl⟩ | ⟨l, rfl⟩ | ⟨l, rfl⟩ <;> try exact RJ.l
    exact RJ.r (fun x hx => ha x (byT_mem x hx))
  · unfold oRev
    rcases jcases a with ⟨k, rfl⟩ | ⟨z, rfl⟩ | ⟨s, rfl⟩ | ⟨l, rfl⟩ | ⟨l, rfl⟩ <;> try exact RJ.l
    · show RJ (if k = 0 then _ else _)
      split
      · exact RJ.r (fun x hx => absurd hx (by simp))
      · exact RJ.l
    · exact RJ.r (fun x hx => ha x (List.mem_reverse.mp hx))
    · exact RJ.r (fun x hx => ha x (List.mem_reverse.mp hx))
  · unfold oExp
    rcases jcases a with ⟨k, rfl⟩ | ⟨z, rfl⟩ | ⟨s, rfl⟩ | ⟨l, rfl⟩ | ⟨l, rfl⟩ <;> try exact RJ.l
    refine RJ.r (fun y hy => ?_)
    obtain ⟨c, hc, rfl⟩ := List.mem_map.mp hy
    have : c < 128 := ha c hc
    exact jnN_ok (by omega)
  · unfold oImp
    rcases jcases a with ⟨k, rfl⟩ | ⟨z, rfl⟩ | ⟨s, rfl⟩ | ⟨l, rfl⟩ | ⟨l, rfl⟩ <;> try exact RJ.l
    show RJ (if _ then (if _ then _ else _) else _)
    split
    · split
      · rename_i h
        refine RJ.r (fun c hc => ?_)
        obtain ⟨z, hz, rfl⟩ := List.mem_map.mp hc
        have := of_decide_eq_true (List.all_eq_true.mp h z hz)
        omega
      · exact RJ.l
    · exact RJ.l
  · unfold oCase
    rcases jcases a with ⟨k, rfl⟩ | ⟨z, rfl⟩ | ⟨s, rfl⟩ | ⟨l, rfl⟩ | ⟨l, rfl⟩ <;> try exact RJ.l
    refine RJ.r (fun c hc => ?_)
    obtain ⟨c', hc', rfl⟩ := List.mem_map.mp hc
    exact (low_all c' (ha c' hc')).1
  · unfold oCase
    rcases jcases a with ⟨k, rfl⟩ | ⟨z, rfl⟩ | ⟨s, rfl⟩ | ⟨l, rfl⟩ | ⟨l, rfl⟩ <;> try exact RJ.l
    refine RJ.r (fun c hc => ?_)
    obtain ⟨c', hc', rfl⟩ := List.mem_map.mp hc
    exact (up_all c' (ha c' hc')).1
theorem oNul_ok : RJ (.inr (jk 0) : Nat ⊕ JT (e + 1)) := RJ.r (show (0 : Nat) < 3 by omega)
theorem nums_ok {l : List Nat} (h : ∀ k ∈ l, k ≤ 9007199254740991) : jok (e + 2) (numsOf l : JT (e + 2)) := fun y hy => by
  obtain ⟨k, hk, rfl⟩ := List.mem_map.mp hy
  exact jnN_ok (h k hk)
theorem rng_ok {n : Nat} (hn : n ≤ 4096) {p : Nat → Bool} : ∀ k ∈ (List.range n).filter p, k ≤ 9007199254740991 := fun k hk => by
  have := List.mem_range.mp (List.mem_filter.mp hk).1
  omega
theorem oInd_ok {a x : JT (e + 2)} (hl : (jc (e + 2) a).length ≤ 4096) : RJ (oInd a x) := by
  rcases jcases a with ⟨k, rfl⟩ | ⟨z, rfl⟩ | ⟨s, rfl⟩ | ⟨l, rfl⟩ | ⟨l, rfl⟩
  · cases k with
    | zero => exact oNul_ok
    | succ k => exact RJ.l
  · exact RJ.l
  · rw [jc_s, strc_len] at hl
    rcases jcases x with ⟨k', rfl⟩ | ⟨z', rfl⟩ | ⟨s', rfl⟩ | ⟨l', rfl⟩ | ⟨l', rfl⟩ <;> try exact RJ.l
    show RJ (.inr (if s' = [] then jk 0 else numsOf (ixS s s')))
    split
    · exact oNul_ok
    · exact RJ.r (nums_ok (rng_ok (by omega)))
  · rw [jc_a, lst_len] at hl
    have := ja_len (l := l)
    have ho : RJ (.inr (numsOf (ixO l x)) : Nat ⊕ JT (e + 2)) := RJ.r (nums_ok (rng_ok (by omega)))
    rcases jcases x with ⟨k', rfl⟩ | ⟨z', rfl⟩ | ⟨s', rfl⟩ | ⟨l', rfl⟩ | ⟨l', rfl⟩
    · exact ho
    · exact ho
    · exact ho
    · show RJ (.inr (if l' = [] then jk 0 else numsOf (ixA l l')))
      split
      · exact oNul_ok
      · exact RJ.r (nums_ok (rng_ok (by omega)))
    · exact ho
  · exact RJ.l
theorem flt_ok : ∀ (e z : Nat) (l : List (JT e)), (∀ x ∈ l, jok e x) → ∀ x ∈ flt e z l, jok e x := by
  intro e
  induction e with
  | zero => intro z l h x; exact (j0 x).elim
  | succ e ih =>
    intro z l h x hx
    rw [flt] at hx
    obtain ⟨y, hy, hx⟩ := List.mem_flatMap.mp hx
    have hjy := h y hy
    have plain : ∀ {w : JT (e + 1)}, jok (e + 1) w → x ∈ [w] → jok (e + 1) x := fun hw hm => by rw [List.mem_singleton.mp hm]; exact hw
    rcases jcases y with ⟨k, rfl⟩ | ⟨z', rfl⟩ | ⟨s, rfl⟩ | ⟨l', rfl⟩ | ⟨l', rfl⟩
    · exact plain hjy hx
    · exact plain hjy hx
    · exact plain hjy hx
    · replace hx : x ∈ (if 0 < z then (flt e (z - 1) l').map (lf e) else [ja l']) := hx
      split at hx
      · obtain ⟨w, hw, rfl⟩ := List.mem_map.mp hx
        exact (jok_lf e w).mpr (ih _ l' hjy w hw)
      · exact plain hjy hx
    · exact plain hjy hx
theorem oAt1_ok {a x : JT (e + 1)} (ha : jok (e + 1) a) : RJ (oAt1 a x) := by
  rcases jcases a with ⟨k, rfl⟩ | ⟨z, rfl⟩ | ⟨s, rfl⟩ | ⟨l, rfl⟩ | ⟨l, rfl⟩
  · cases k with
    | zero =>
      rcases jcases x with ⟨k', rfl⟩ | ⟨z', rfl⟩ | ⟨s', rfl⟩ | ⟨l', rfl⟩ | ⟨l', rfl⟩
      · cases k' with
        | zero => exact oNul_ok
        | succ k' => exact RJ.l
      · exact oNul_ok
      · exact oNul_ok
      · exact RJ.l
      · exact RJ.l
    | succ k => exact RJ.l
  · exact RJ.l
  · exact RJ.l
  · rcases jcases x with ⟨k', rfl⟩ | ⟨z', rfl⟩ | ⟨s', rfl⟩ | ⟨l', rfl⟩ | ⟨l', rfl⟩ <;> try exact RJ.l
    show RJ (.inr (match (atI l.length z').bind (fun k => l[k]?) with | none => jk 0 | some y => lf e y))
    cases h : (atI l.length z').bind (fun k => l[k]?) with
    | none => exact oNul_ok
    | some y =>
      obtain ⟨k, _, hk⟩ := Option.bind_eq_some_iff.mp h
      exact RJ.r ((jok_lf e y).mpr (ha y (List.mem_of_getElem? hk)))
  · rcases jcases x with ⟨k', rfl⟩ | ⟨z', rfl⟩ | ⟨s', rfl⟩ | ⟨l', rfl⟩ | ⟨l', rfl⟩ <;> try exact RJ.l
    show RJ (.inr (match lu s' l with | none => jk 0 | some y => lf e y))
    cases h : lu s' l with
    | none => exact oNul_ok
    | some y => exact RJ.r ((jok_lf e y).mpr (ha.1 _ (lum h)).2)
theorem oTwo_ok {k : Nat} {a x : JT (e + 2)} (ha : jok (e + 2) a) (hx : jok (e + 2) x) (hl : (jc (e + 2) a).length ≤ 4096) : RJ (oTwo k a x) := by
  unfold oTwo
  repeat' split
  · unfold oHas
    rcases jcases a with ⟨k, rfl⟩ | ⟨z, rfl⟩ | ⟨s, rfl⟩ | ⟨l, rfl⟩ | ⟨l, rfl⟩ <;> rcases jcases x with ⟨k', rfl⟩ | ⟨z', rfl⟩ | ⟨s', rfl⟩ | ⟨l', rfl⟩ | ⟨l', rfl⟩ <;> first | exact RJ.l | exact RJ.r tru_ok
  · unfold oCont
    split
    · exact RJ.r tru_ok
    · exact RJ.l
  · unfold oJoin
    rcases jcases a with ⟨k, rfl⟩ | ⟨z, rfl⟩ | ⟨s, rfl⟩ | ⟨l, rfl⟩ | ⟨l, rfl⟩ <;> rcases jcases x with ⟨k', rfl⟩ | ⟨z', rfl⟩ | ⟨s', rfl⟩ | ⟨l', rfl⟩ | ⟨l', rfl⟩ <;> try exact RJ.l
    show RJ (if _ then _ else _)
    split
    · exact RJ.r (jn'_lt hx ha)
    · exact RJ.l
  · unfold oWB
    rcases jcases a with ⟨k, rfl⟩ | ⟨z, rfl⟩ | ⟨s, rfl⟩ | ⟨l, rfl⟩ | ⟨l, rfl⟩ <;> rcases jcases x with ⟨k', rfl⟩ | ⟨z', rfl⟩ | ⟨s', rfl⟩ | ⟨l', rfl⟩ | ⟨l', rfl⟩ <;> try exact RJ.r ha
    show RJ (.inr (if _ then _ else _))
    split
    · exact RJ.r (drop_ok ha)
    · exact RJ.r ha
  · unfold oWE
    rcases jcases a with ⟨k, rfl⟩ | ⟨z, rfl⟩ | ⟨s, rfl⟩ | ⟨l, rfl⟩ | ⟨l, rfl⟩ <;> rcases jcases x with ⟨k', rfl⟩ | ⟨z', rfl⟩ | ⟨s', rfl⟩ | ⟨l', rfl⟩ | ⟨l', rfl⟩ <;> try exact RJ.r ha
    show RJ (.inr (if _ then _ else _))
    split
    · exact RJ.r (take_ok ha)
    · exact RJ.r ha
  · unfold oBeg
    rcases jcases a with ⟨k, rfl⟩ | ⟨z, rfl⟩ | ⟨s, rfl⟩ | ⟨l, rfl⟩ | ⟨l, rfl⟩ <;> rcases jcases x with ⟨k', rfl⟩ | ⟨z', rfl⟩ | ⟨s', rfl⟩ | ⟨l', rfl⟩ | ⟨l', rfl⟩ <;> first | exact RJ.l | exact RJ.r tru_ok
  · unfold oEnds
    rcases jcases a with ⟨k, rfl⟩ | ⟨z, rfl⟩ | ⟨s, rfl⟩ | ⟨l, rfl⟩ | ⟨l, rfl⟩ <;> rcases jcases x with ⟨k', rfl⟩ | ⟨z', rfl⟩ | ⟨s', rfl⟩ | ⟨l', rfl⟩ | ⟨l', rfl⟩ <;> first | exact RJ.l | exact RJ.r tru_ok
  · exact oInd_ok hl
  · unfold oFlat
    rcases jcases a with ⟨k, rfl⟩ | ⟨z, rfl⟩ | ⟨s, rfl⟩ | ⟨l, rfl⟩ | ⟨l, rfl⟩ <;> rcases jcases x with ⟨k', rfl⟩ | ⟨z', rfl⟩ | ⟨s', rfl⟩ | ⟨l', rfl⟩ | ⟨l', rfl⟩ <;> try exact RJ.l
    show RJ (if _ then _ else _)
    split
    · exact RJ.l
    · exact RJ.r (flt_ok _ _ l ha)
  · unfold oAt
    split
    · exact oInd_ok hl
    · exact oAt1_ok ha
theorem oKeyed_ok {k : Nat} {a x : JT (e + 1)} (ha : jok (e + 1) a) : RJ (oKeyed k a x) := by
  unfold oKeyed
  rcases jcases a with ⟨k, rfl⟩ | ⟨z, rfl⟩ | ⟨s, rfl⟩ | ⟨l, rfl⟩ | ⟨l, rfl⟩ <;> rcases jcases x with ⟨k', rfl⟩ | ⟨z', rfl⟩ | ⟨s', rfl⟩ | ⟨K, rfl⟩ | ⟨l', rfl⟩ <;> try exact RJ.l
  have up : ∀ {T : List Nat}, jok (e + 2) (ja ((byT T l).map (lf e))) := fun {T} y hy => by
    obtain ⟨w, hw, rfl⟩ := List.mem_map.mp hy
    exact (jok_lf e w).mpr (ha w (byT_mem w hw))
  have one : ∀ (o : Option Nat), RJ (.inr (match o.bind (fun t => l[t]?) with | none => jk 0 | some y => lf (e + 1) (lf e y)) : Nat ⊕ JT (e + 2)) := fun o => by
    cases h : o.bind (fun t => l[t]?) with
    | none => exact oNul_ok
    | some y =>
      obtain ⟨k, _, hk⟩ := Option.bind_eq_some_iff.mp h
      exact RJ.r ((jok_lf _ _).mpr ((jok_lf e y).mpr (ha y (List.mem_of_getElem? hk))))
  refine RJ.ite (RJ.ite ?_ (RJ.ite ?_ (RJ.ite ?_ (RJ.ite ?_ ?_)))) ?_
  · exact RJ.r up
  · refine RJ.r (fun y hy => ?_)
    obtain ⟨g, hg, rfl⟩ := List.mem_map.mp hy
    exact fun w hw => ha w (byT_mem w hw)
  · exact RJ.r up
  · exact one _
  · exact one _
  · exact RJ.l
end OKX
end ZOk42
