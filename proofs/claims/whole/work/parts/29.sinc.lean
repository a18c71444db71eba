theorem numOf_n {e : Nat} {z : Int} : numOf (e + 1) (jn z) = some z := rfl
theorem numOf_some {e : Nat} {x : JT (e + 1)} : (numOf (e + 1) x).isSome = true ↔ ∃ z, x = jn z := by
  rcases jcases x with ⟨k, rfl⟩ | ⟨z, rfl⟩ | ⟨s, rfl⟩ | ⟨l, rfl⟩ | ⟨l, rfl⟩
  · exact ⟨fun h => absurd (show (none : Option Int).isSome = true from h) (by decide), fun ⟨z, h⟩ => by unfold jk jn at h; cases h⟩
  · exact ⟨fun _ => ⟨z, rfl⟩, fun _ => rfl⟩
  · exact ⟨fun h => absurd (show (none : Option Int).isSome = true from h) (by decide), fun ⟨z, h⟩ => by unfold js jn at h; cases h⟩
  · exact ⟨fun h => absurd (show (none : Option Int).isSome = true from h) (by decide), fun ⟨z, h⟩ => by unfold ja jn at h; cases h⟩
  · exact ⟨fun h => absurd (show (none : Option Int).isSome = true from h) (by decide), fun ⟨z, h⟩ => by unfold jo jn at h; cases h⟩
theorem kd3_num {e : Nat} {x : JT e} (ho : jok e x) : kd e x = 3 ↔ (numOf e x).isSome = true := by
  cases e with
  | zero => exact (j0 x).elim
  | succ e =>
    rw [numOf_some]
    exact ⟨fun h => kdn ho h, fun ⟨z, h⟩ => by rw [h]; rfl⟩
section SC
variable {f : Nat → Int64} {v e : Nat} {o : Int32} {n fu : Nat} {r : RS}
theorem ofn_loop {l : List (JT e)} (ha : At f v 0 (jc (e + 1) (ja l))) (hoa : jok (e + 1) (ja l)) : ∀ (l' : List (JT e)) (n i q : Nat), (∀ x ∈ l', x ∈ l) → i + l'.length = l.length → At f v q (l'.flatMap (jc e)) → l'.length < n → fG_isOfNumbers_b f (i3 v) o n 1 (i3 i) (i3 q) = some (if l'.all (fun x => (numOf e x).isSome) then 1 else 0) := by
  have hsz := ha.asz
  have hlen : ∀ n, fR_length n 0 f (i3 v) o = some (i3 l.length) := fun n => ha.alen
  intro l'
  induction l' with
  | nil =>
    intro n i q _ hi _ hn
    obtain ⟨n, rfl⟩ : ∃ j, n = j + 1 := ⟨n - 1, by omega⟩
    rw [List.length_nil] at hi
    rw [fG_isOfNumbers_b, hlen, Option.bind_some, if_pos (by rw [i3_le (by omega) (by omega)]; omega)]
    rfl
  | cons x l' ih =>
    intro n i q hsub hi hat hn
    obtain ⟨n, rfl⟩ : ∃ j, n = j + 1 := ⟨n - 1, by omega⟩
    rw [List.length_cons] at hi hn
    obtain ⟨at1, at2⟩ := hat.acons
    have hx := hoa x (hsub x (List.mem_cons_self ..))
    have his : fR_is n (i3 q) 3 f (i3 v) o = some (if kd e x = 3 then 1 else 0) := at1.is (k := 3) hx (by omega)
    rw [fG_isOfNumbers_b, hlen, Option.bind_some, if_neg (by rw [i3_le (by omega) (by omega)]; omega), his, Option.bind_some, List.all_cons]
    by_cases h : kd e x = 3
    · rw [if_pos h, if_neg (by decide), at1.after hx, Option.bind_some, i3_one, ih n (i + 1) _ (fun y hy => hsub y (List.mem_cons_of_mem _ hy)) (by omega) at2 (by omega), (kd3_num hx).mp h, Bool.true_and]
    · rw [if_neg h, if_pos (by decide)]
      have : (numOf e x).isSome = false := by
        cases hh : (numOf e x).isSome with
        | false => rfl
        | true => exact absurd ((kd3_num hx).mpr hh) h
      rw [this, Bool.false_and]
      rfl
theorem ofc_loop {l : List (JT e)} (ha : At f v 0 (jc (e + 1) (ja l))) (hoa : jok (e + 1) (ja l)) {r0 r1 : RS} {x0 : Int64} (h01 : Wr r0 [x0] r1) : ∀ (l' : List (JT e)) (n i : Nat) (U : Sx) (r2 : RS), (∀ x ∈ l', x ∈ l ∧ (numOf e x).isSome = true) → i + l'.length = l.length → U.length = i → At f v (i + 1) (l'.flatMap (jc e)) → Wr r1 (U.map (fun c => cW (c : Nat))) r2 → l'.length < n →
    OK (d := e + 1) r0 (fG_ofCodes_b f (i3 v) o n 1 (i3 (i + 1)) (i3 r1.2.1 - 1) r2.1 (i3 r2.2.1) r2.2.2) (if (l'.filterMap (numOf e)).all (fun z => decide (0 ≤ z ∧ z ≤ 127)) then .inr (js (U ++ (l'.filterMap (numOf e)).map Int.toNat)) else .inl 2) := by
  have hsz := ha.asz
  have hlen : ∀ n, fR_length n 0 f (i3 v) o = some (i3 l.length) := fun n => ha.alen
  intro l'
  induction l' with
  | nil =>
    intro n i U r2 _ hi hU _ hw hn
    obtain ⟨n, rfl⟩ : ∃ j, n = j + 1 := ⟨n - 1, by omega⟩
    rw [List.length_nil] at hi
    obtain ⟨r3, e3, e4, w3⟩ := fin_s (n := n) h01 hw rfl (by omega)
    rw [fG_ofCodes_b, hlen, Option.bind_some, if_pos (by rw [i3_lt (by omega) (by omega)]; omega), Option.bind_some, show l.length = U.length by omega, e3, Option.bind_some, List.filterMap_nil, List.all_nil, if_pos rfl, List.map_nil, List.append_nil]
    exact OK.val (r' := r3) (j := js U) (by rw [e4]) w3
  | cons x l' ih =>
    intro n i U r2 hsub hi hU hat hw hn
    obtain ⟨n, rfl⟩ : ∃ j, n = j + 1 := ⟨n - 1, by omega⟩
    rw [List.length_cons] at hi hn
    obtain ⟨at1, at2⟩ := hat.acons
    obtain ⟨hxl, hx1⟩ := hsub x (List.mem_cons_self ..)
    have hx := hoa x hxl
    cases e with
    | zero => exact (j0 x).elim
    | succ e =>
      obtain ⟨z, rfl⟩ := numOf_some.mp hx1
      rw [jok_n] at hx
      have hnum : fR_number n (i3 (i + 1)) f (i3 v) o = some (cW z) := at1.num hx.1 hx.2
      rw [fG_ofCodes_b, hlen, Option.bind_some, if_neg (by rw [i3_lt (by omega) (by omega)]; omega), hnum, Option.bind_some, show (0 : Int64) = cW 0 from rfl, show (127 : Int64) = cW 127 from rfl, lg_cW (by omega) (by omega) (by omega) (by omega), lg_cW (by omega) (by omega) (by omega) (by omega), List.filterMap_cons, numOf_n]
      dsimp only
      rw [List.all_cons]
      by_cases hz : 0 ≤ z ∧ z ≤ 127
      · obtain ⟨r3, e3, w3⟩ := put_w (n := n) hw.v (cW z)
        rw [if_neg (by rw [izs_lt0]; omega), if_pos (by rw [izs_le0]; omega), e3, Option.bind_some, i3_one, show decide (0 ≤ z ∧ z ≤ 127) = true by simpa using hz, Bool.true_and, List.map_cons]
        have := ih n (i + 1) (U ++ [z.toNat]) r3 (fun y hy => hsub y (List.mem_cons_of_mem _ hy)) (by omega) (by simp; omega) at2 (by
          rw [List.map_append]
          have h5 := hw.app w3
          rw [show cW z = cW ((z.toNat : Nat) : Int) by congr 1; omega] at h5
          exact h5) (by omega)
        rw [List.append_assoc] at this
        exact this
      · rw [show decide (0 ≤ z ∧ z ≤ 127) = false by simpa using hz, Bool.false_and, if_neg (by decide : ¬ (false = true))]
        by_cases h0 : z < 0
        · rw [if_pos (by rw [izs_lt0]; omega)]
          exact OK.ref (k := 2) rfl hw.v (by omega) (by omega)
        · rw [if_neg (by rw [izs_lt0]; omega), if_neg (by rw [izs_le0]; omega)]
          exact OK.ref (k := 2) rfl hw.v (by omega) (by omega)
theorem ofCodes_w (hn : 10000 < n) {a : JT (e + 1)} (ha : At f v 0 (jc (e + 1) a)) (hoa : jok (e + 1) a) (hr : RV r) : OK r (fG_ofCodes n f (i3 v) o r.1 (i3 r.2.1) r.2.2) (oImp a) := by
  have i5 : fR_is n 0 5 f (i3 v) o = some (if kd (e + 1) a = 5 then 1 else 0) := At.is (p := 0) (k := 5) ha hoa (by omega)
  unfold fG_ofCodes fG_isOfNumbers
  rw [i5, Option.bind_some]
  by_cases h5 : kd (e + 1) a = 5
  · obtain ⟨l, rfl⟩ := kda hoa h5
    have hsz := ha.asz
    have hn1 : fG_isOfNumbers_b f (i3 v) o n 1 0 1 = some (if l.all (fun x => (numOf e x).isSome) then 1 else 0) := ofn_loop (o := o) ha hoa l n 0 1 (fun x hx => hx) (by omega) ha.abody (by omega)
    rw [if_pos h5, if_neg (by decide), hn1, Option.bind_some]
    have hres : oImp (ja l : JT (e + 1)) = if l.all (fun x => (numOf e x).isSome) then (if (l.filterMap (numOf e)).all (fun z => decide (0 ≤ z ∧ z ≤ 127)) then .inr (js ((l.filterMap (numOf e)).map Int.toNat)) else .inl 2) else .inl 1 := rfl
    rw [hres]
    cases hall : l.all (fun x => (numOf e x).isSome) with
    | true =>
      rw [if_neg (by decide), if_pos rfl]
      obtain ⟨r1, e1, w1⟩ := open_w (n := n) hr
      rw [e1, Option.bind_some]
      exact ofc_loop (o := o) ha hoa w1 l n 0 [] r1 (fun x hx => ⟨hx, List.all_eq_true.mp hall x hx⟩) (by omega) rfl ha.abody (Wr.nil w1.v) (by omega)
    | false =>
      rw [if_pos (by decide), if_neg (by decide : ¬ (false = true))]
      exact OK.refuse (k := 1) hr (by omega) (by omega)
  · rw [if_neg h5, if_pos (by decide), Option.bind_some, if_pos (by decide)]
    have : oImp a = .inl 1 := by
      unfold oImp
      rcases jcases a with ⟨k, rfl⟩ | ⟨z, rfl⟩ | ⟨s, rfl⟩ | ⟨l, rfl⟩ | ⟨l, rfl⟩ <;> first | rfl | exact absurd rfl h5
    rw [this]
    exact OK.refuse (k := 1) hr (by omega) (by omega)
/-! texts into rows -/
theorem text_at {t : TS} {s : Sx} (hs : ∀ c ∈ s, c < 256) (hseg : seg t.1 0 (s.map sb)) (hl : s.length = t.2.1) (h4 : t.2.1 ≤ 4096) {i : Nat} (hi : i < s.length) : fT_at n (i3 i) t.1 (i3 t.2.1) t.2.2 = some (i3 s[i]) := by
  unfold fT_at
  have h1 := seg_get hseg (i := i) (by simpa using hi)
  rw [Nat.zero_add, List.getElem_map] at h1
  rw [if_neg (i3_nn (by omega)), if_neg (i3_nle (by omega) (by omega)), if_neg (i3_idx (by omega) (by omega)), i3_N (by omega), h1, sb_and (hs _ (List.getElem_mem _))]
theorem text_end {t : TS} (h4 : t.2.1 ≤ 4096) {i : Nat} (hi : t.2.1 ≤ i) (hi2 : i < 2147483648) : fT_at n (i3 i) t.1 (i3 t.2.1) t.2.2 = some (-1) := by
  unfold fT_at
  rw [if_neg (i3_nn (by omega)), if_pos (by rw [i3_le (by omega) (by omega)]; omega)]
theorem pt_loop {t : TS} {s : Sx} (hs : ∀ c ∈ s, c < 256) (hseg : seg t.1 0 (s.map sb)) (hl : s.length = t.2.1) (h4 : t.2.1 ≤ 4096) (ho : t.2.2 = 0) {r0 r1 : RS} {x0 : Int64} (h01 : Wr r0 [x0] r1) : ∀ (s' : Sx) (n i : Nat) (U : Sx) (r2 : RS), U ++ s' = s → U.length = i → Wr r1 (U.map (fun c => cW (c : Nat))) r2 → s'.length < n →
    ∃ r' : RS, fR_putText_b t.1 (i3 t.2.1) t.2.2 n 1 (i3 i) (i3 r1.2.1 - 1) r2.1 (i3 r2.2.1) r2.2.2 = some (r'.1, i3 r'.2.1, r'.2.2) ∧ Wr r0 (strc s) r' := by
  have hsz : ∀ n, fT_size n t.1 (i3 t.2.1) t.2.2 = some (i3 t.2.1) := fun n => rfl
  have hov : ∀ n, fT_isOver n t.1 (i3 t.2.1) t.2.2 = some 0 := fun n => by
    unfold fT_isOver
    rw [ho]
    rfl
  intro s'
  induction s' with
  | nil =>
    intro n i U r2 hU hi hw hn
    obtain ⟨n, rfl⟩ : ∃ j, n = j + 1 := ⟨n - 1, by omega⟩
    rw [List.append_nil] at hU
    subst hU
    obtain ⟨r3, e3, e4, w3⟩ := fin_s (n := n) h01 hw rfl (by omega)
    rw [hl] at e3
    refine ⟨r3, ?_, w3⟩
    rw [fR_putText_b, hsz, Option.bind_some, if_pos (by rw [i3_le (by omega) (by omega)]; omega), Option.bind_some, e3, Option.bind_some]
    rw [e4]
    rcases hw.v.2 with h0 | h1
    · rw [if_pos h0, hov, Option.bind_some, if_pos rfl, h0]
    · rw [if_neg (by rw [h1]; decide), h1]
  | cons c s' ih =>
    intro n i U r2 hU hi hw hn
    obtain ⟨n, rfl⟩ : ∃ j, n = j + 1 := ⟨n - 1, by omega⟩
    rw [List.length_cons] at hn
    have hsl : s.length = U.length + (s'.length + 1) := by rw [← hU, List.length_append, List.length_cons]
    have hc : s[i]'(by omega) = c := by
      have h1 : s[i]? = some c := by rw [← hU, List.getElem?_append_right (by omega), hi]; simp
      exact (List.getElem?_eq_some_iff.mp h1).2
    have hc1 : c < 256 := by rw [← hc]; exact hs _ (List.getElem_mem _)
    obtain ⟨r3, e3, w3⟩ := put_w (n := n) hw.v (cW (c : Nat))
    rw [fR_putText_b, hsz, Option.bind_some, if_neg (by rw [i3_le (by omega) (by omega)]; omega), text_at hs hseg hl h4 (i := i) (by omega), Option.bind_some, hc, i3_64 (by omega), e3, Option.bind_some, i3_one]
    exact ih n (i + 1) (U ++ [c]) r3 (by rw [← hU]; simp) (by simp; omega) (by rw [List.map_append]; exact hw.app w3) (by omega)
theorem putText_w (hn : 5000 < n) {t : TS} {s : Sx} (hs : ∀ c ∈ s, c < 256) (hseg : seg t.1 0 (s.map sb)) (hl : s.length = t.2.1) (h4 : t.2.1 ≤ 4096) (ho : t.2.2 = 0) (hr : RV r) : ∃ r' : RS, fR_putText n r.1 (i3 r.2.1) r.2.2 t.1 (i3 t.2.1) t.2.2 = some (r'.1, i3 r'.2.1, r'.2.2) ∧ Wr r (strc s) r' := by
  obtain ⟨r1, e1, w1⟩ := open_w (n := n) hr
  obtain ⟨r2, e2, w2⟩ := pt_loop hs hseg hl h4 ho w1 s n 0 [] r1 rfl rfl (Wr.nil w1.v) (by omega)
  refine ⟨r2, ?_, w2⟩
  unfold fR_putText
  rw [e1, Option.bind_some]
  exact e2
/-- a text that is over makes the row over -/
theorem pt_over {t : TS} (h4 : t.2.1 ≤ 4096) (ho : t.2.2 = 1) {y : Int32} : ∀ (m n i : Nat) (r2 : RS), i + m = t.2.1 → RV r2 → m < n →
    ∃ r' : RS, fR_putText_b t.1 (i3 t.2.1) t.2.2 n 1 (i3 i) y r2.1 (i3 r2.2.1) r2.2.2 = some (r'.1, i3 r'.2.1, r'.2.2) ∧ RV r' ∧ r'.2.2 = 1 := by
  have hsz : ∀ n, fT_size n t.1 (i3 t.2.1) t.2.2 = some (i3 t.2.1) := fun n => rfl
  have hov : ∀ n, fT_isOver n t.1 (i3 t.2.1) t.2.2 = some 1 := fun n => by
    unfold fT_isOver
    rw [ho]
    rfl
  intro m
  induction m with
  | zero =>
    intro n i r2 hi hr hn
    obtain ⟨n, rfl⟩ : ∃ j, n = j + 1 := ⟨n - 1, by omega⟩
    obtain ⟨f3, hf3⟩ : ∃ f3, fR_close n y 4 (i3 t.2.1) r2.1 (i3 r2.2.1) r2.2.2 = some f3 := by
      unfold fR_close
      split
      · split
        · exact ⟨_, rfl⟩
        · split
          · exact ⟨_, rfl⟩
          · rename_i h1 h2 h3
            rcases i3_cases y with hy | ⟨p, hp, rfl⟩
            · exact absurd hy h2
            · rw [i3_le (by have := hr.1; omega) hp] at h3
              have := hr.1
              rw [if_neg (i3_idx (by omega) hp)]
              exact ⟨_, rfl⟩
      · exact ⟨_, rfl⟩
    refine ⟨(f3, r2.2.1, 1), ?_, ⟨hr.1, Or.inr rfl⟩, rfl⟩
    rw [fR_putText_b, hsz, Option.bind_some, if_pos (by rw [i3_le (by omega) (by omega)]; omega), Option.bind_some, hf3, Option.bind_some]
    split
    · rw [hov, Option.bind_some, if_neg (by decide)]
    · rfl
  | succ m ih =>
    intro n i r2 hi hr hn
    obtain ⟨n, rfl⟩ : ∃ j, n = j + 1 := ⟨n - 1, by omega⟩
    obtain ⟨z, hz⟩ : ∃ z, fT_at n (i3 i) t.1 (i3 t.2.1) t.2.2 = some z := by
      unfold fT_at
      rw [if_neg (i3_nn (by omega)), if_neg (i3_nle (by omega) (by omega)), if_neg (i3_idx (by omega) (by omega))]
      exact ⟨_, rfl⟩
    obtain ⟨r3, e3, w3⟩ := put_w (n := n) hr z.toInt64
    rw [fR_putText_b, hsz, Option.bind_some, if_neg (by rw [i3_le (by omega) (by omega)]; omega), hz, Option.bind_some, e3, Option.bind_some, i3_one]
    exact ih n (i + 1) r3 (by omega) w3.v (by omega)
theorem putText_over (hn : 5000 < n) {t : TS} (h4 : t.2.1 ≤ 4096) (ho : t.2.2 = 1) (hr : RV r) : ∃ r' : RS, fR_putText n r.1 (i3 r.2.1) r.2.2 t.1 (i3 t.2.1) t.2.2 = some (r'.1, i3 r'.2.1, r'.2.2) ∧ RV r' ∧ r'.2.2 = 1 := by
  obtain ⟨r1, e1, w1⟩ := open_w (n := n) hr
  obtain ⟨r2, e2, w2⟩ := pt_over h4 ho t.2.1 n 0 r1 (by omega) w1.v (by omega)
  refine ⟨r2, ?_, w2⟩
  unfold fR_putText
  rw [e1, Option.bind_some]
  exact e2
end SC
