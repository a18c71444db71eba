def om (o : Option Nat) : Int32 := match o with
  | none => -1
  | some d => i3 d
def hd1 (g : Nat → Option Nat) (r : List Nat) : Option Nat := match r with
  | [] => none
  | c :: _ => g c
theorem digitOf_h {n : Nat} {r : List Nat} (hr : ∀ c ∈ r, c < 256) : fD_digitOf n (hv r) = some (om (hd1 hexv r)) := by
  cases r with
  | nil => rfl
  | cons c r =>
    have hc := hr c (List.mem_cons_self ..)
    show fD_digitOf n (i3 c) = some (om (hexv c))
    revert hc
    revert c
    intro c _ hc
    have : ∀ c, c < 256 → fD_digitOf 0 (i3 c) = some (om (hexv c)) := by decide +kernel
    exact this c hc
theorem codeOf_h {n : Nat} {r : List Nat} (hr : ∀ c ∈ r, c < 256) : fD_codeOf n (hv r) = some (om (hd1 cof r)) := by
  cases r with
  | nil => rfl
  | cons c r =>
    have hc := hr c (List.mem_cons_self ..)
    show fD_codeOf n (i3 c) = some (om (cof c))
    have : ∀ c, c < 256 → fD_codeOf 0 (i3 c) = some (om (cof c)) := by decide +kernel
    exact this c hc
theorem hexv_lt {c d : Nat} (h : hexv c = some d) : d < 16 := by
  unfold hexv at h
  split at h
  · obtain rfl := Option.some.inj h; omega
  · split at h
    · obtain rfl := Option.some.inj h; omega
    · split at h
      · obtain rfl := Option.some.inj h; omega
      · simp at h
section RS2
variable {t : TS} {src : List Nat} {n : Nat}
/-- one character; a is where its last byte is -/
def RC (src : List Nat) (v7 : Int32) (out : Option (Int32 × Int32 × Int32)) (res : List Nat ⊕ (Nat × List Nat)) : Prop := match res with
  | .inl x => ∃ a, out = some (-1, a, pos src x) ∧ x <:+ src
  | .inr (c, rest) => ∃ a, out = some (i3 c, a, v7) ∧ a + 1 = pos src rest ∧ rest <:+ src ∧ c < 128
theorem four_l (hs : TSrc t src) {f3 : Nat → Int64} {v4 v5 v7 : Int32} {start : List Nat} (hst : start <:+ src) : ∀ (m n v : Nat) (h : List Nat) (a : Int32), h <:+ start → a + 1 = pos src h → v ≤ 65536 → m ≤ 4 → m < n → (m = 4 → v = 0) → (m < 4 → v < 16 ^ (4 - m)) → RC src v7 (fD_fourDigits_b t.1 (i3 t.2.1) t.2.2 f3 v4 v5 n 1 (i3 (4 - m)) (i3 v) (pos src start) a v7) (hex4 start m v h) := by
  intro m
  induction m with
  | zero =>
    intro n v h a hh ha hv1 _ hn _ _
    obtain ⟨n, rfl⟩ : ∃ j, n = j + 1 := ⟨n - 1, by omega⟩
    rw [fD_fourDigits_b, if_pos (by decide), hex4]
    by_cases h127 : 127 < v
    · rw [if_neg (by rw [show (127 : Int32) = i3 127 from rfl, i3_le (by omega) (by omega)]; omega), if_pos h127]
      exact ⟨a, rfl, hst⟩
    · rw [if_pos (by rw [show (127 : Int32) = i3 127 from rfl, i3_le (by omega) (by omega)]; omega), if_neg h127]
      exact ⟨a, rfl, ha, hh.trans hst, by omega⟩
  | succ m ih =>
    intro n v h a hh ha hv1 hm hn hz hlt
    obtain ⟨n, rfl⟩ : ∃ j, n = j + 1 := ⟨n - 1, by omega⟩
    have hsf := hh.trans hst
    obtain ⟨h1, h2, h3⟩ := suf_lt hs hsf
    rw [fD_fourDigits_b, if_neg (by rw [show (4 : Int32) = i3 4 from rfl, i3_le (by omega) (by omega)]; omega), ha, at_h hs hsf, Option.bind_some, digitOf_h h1, Option.bind_some]
    cases h with
    | nil =>
      rw [if_pos (by rfl)]
      exact ⟨_, rfl, hsf⟩
    | cons x h =>
      rw [hex4, show hd1 hexv (x :: h) = hexv x from rfl]
      cases hx : hexv x with
      | none =>
        rw [if_pos (by rfl)]
        exact ⟨_, rfl, hsf⟩
      | some d =>
        have hd := hexv_lt hx
        rw [show om (some d) = i3 d from rfl]
        dsimp only
        have hvb : v < 4096 := by
          obtain rfl | rfl | rfl | rfl : m = 0 ∨ m = 1 ∨ m = 2 ∨ m = 3 := by omega
          · have := hlt (by omega); omega
          · have := hlt (by omega); omega
          · have := hlt (by omega); omega
          · have := hz rfl; omega
        rw [if_neg (by rw [i3_m1 (by omega)]; exact not_false), show (16 : Int32) = i3 16 from rfl, i3_mul, i3_add, i3_one, show 4 - (m + 1) + 1 = 4 - m by omega, Nat.mul_comm v 16]
        have hb2 : 16 * v + d < 16 ^ (4 - m) := by
          obtain rfl | rfl | rfl | rfl : m = 0 ∨ m = 1 ∨ m = 2 ∨ m = 3 := by omega
          · have := hlt (by omega); omega
          · have := hlt (by omega); omega
          · have := hlt (by omega); omega
          · have := hz rfl; omega
        have hb3 : 16 ^ (4 - m) ≤ 16 ^ 4 := Nat.pow_le_pow_right (by omega) (by omega)
        exact ih n (16 * v + d) h _ ((List.suffix_cons x h).trans hh) (pos_c hs hsf) (by omega) (by omega) (by omega) (fun h4 => by omega) (fun _ => hb2)
theorem esc_w (hs : TSrc t src) {f3 : Nat → Int64} {v4 v5 v7 : Int32} {r : List Nat} (hn : 5 < n) (h : (92 :: r) <:+ src) : RC src v7 (if hv r = 117 then fD_fourDigits n t.1 (i3 t.2.1) t.2.2 f3 v4 v5 (pos src (92 :: r)) v7 else fD_letter n t.1 (i3 t.2.1) t.2.2 f3 v4 v5 (pos src (92 :: r)) v7) (pcE 92 r) := by
  have hr := (List.suffix_cons 92 r).trans h
  obtain ⟨h1, h2, h3⟩ := suf_lt hs hr
  have hlet : fD_letter n t.1 (i3 t.2.1) t.2.2 f3 v4 v5 (pos src (92 :: r)) v7 = (match hd1 cof r with | none => some (-1, pos src r, pos src r) | some d => some (i3 d, pos src r, v7)) := by
    unfold fD_letter
    rw [pos_c hs h, at_h hs hr, Option.bind_some, codeOf_h h1, Option.bind_some]
    cases r with
    | nil => rfl
    | cons c r =>
      rw [show hd1 cof (c :: r) = cof c from rfl]
      cases hc : cof c with
      | none => rfl
      | some d =>
        have := cof_lt hc
        rw [show om (some d) = i3 d from rfl]
        dsimp only
        rw [if_neg (by rw [i3_m1 (by omega)]; exact not_false)]
  unfold pcE
  cases r with
  | nil =>
    rw [if_neg (by decide), hlet]
    exact ⟨_, rfl, hr⟩
  | cons e r =>
    dsimp only
    have he := h1 e (List.mem_cons_self ..)
    have e117 : (hv (e :: r) = 117) = (e = 117) := i3_eq (b := 117) (by omega) (by omega)
    by_cases h117 : e = 117
    · rw [if_pos (by rw [e117]; exact h117), if_pos h117]
      unfold fD_fourDigits
      refine four_l hs h 4 n 0 r _ ((List.suffix_cons e r).trans (List.suffix_cons 92 _)) ?_ (by omega) (by omega) (by omega) (fun _ => rfl) (fun h4 => by omega)
      rw [pos_c hs h, pos_c hs hr]
    · rw [if_neg (by rw [e117]; exact h117), if_neg h117, hlet, show hd1 cof (e :: r) = cof e from rfl]
      cases hc : cof e with
      | none => exact ⟨_, rfl, hr⟩
      | some d => exact ⟨_, rfl, pos_c hs hr, (List.suffix_cons e r).trans hr, cof_lt hc⟩
theorem plain_w (hs : TSrc t src) {f3 : Nat → Int64} {v4 v5 v7 : Int32} {c : Nat} {r : List Nat} (h : (c :: r) <:+ src) : fD_plain n t.1 (i3 t.2.1) t.2.2 f3 v4 v5 (pos src (c :: r)) v7 = if 32 ≤ c ∧ c < 127 then some (i3 c, v7) else some (-1, pos src (c :: r)) := by
  obtain ⟨h1, h2, h3⟩ := suf_lt hs h
  have hc := h1 c (List.mem_cons_self ..)
  unfold fD_plain
  rw [at_h hs h, Option.bind_some, show hv (c :: r) = i3 c from rfl]
  by_cases h32 : c < 32
  · rw [if_pos (by rw [show (32 : Int32) = i3 32 from rfl, i3_lt (by omega) (by omega)]; exact h32), if_neg (by omega)]
    rfl
  · rw [if_neg (by rw [show (32 : Int32) = i3 32 from rfl, i3_lt (by omega) (by omega)]; exact h32)]
    by_cases h127 : 127 ≤ c
    · rw [if_pos (by rw [show (127 : Int32) = i3 127 from rfl, i3_le (by omega) (by omega)]; exact h127), if_neg (by omega)]
      rfl
    · rw [if_neg (by rw [show (127 : Int32) = i3 127 from rfl, i3_le (by omega) (by omega)]; exact h127), if_pos (by omega)]
/-- the end of a string whose length is told by the cells -/
theorem sz_end {r0 r1 r2 : RS} {x0 : Int64} (h01 : Wr r0 [x0] r1) {U : Sx} (hw : Wr r1 (U.map (fun c => cW (c : Nat))) r2) : ∃ r3 : RS, fR_close n (i3 r1.2.1 - 1) 4 ((i3 r2.2.1 - (i3 r1.2.1 - 1)) - 1) r2.1 (i3 r2.2.1) r2.2.2 = some r3.1 ∧ r3.2 = r2.2 ∧ Wr r0 (strc U) r3 := by
  by_cases hov : r2.2.2 = 1
  · refine ⟨r2, by rw [hov, close_over], rfl, ?_⟩
    obtain ⟨f3, e3, w3⟩ := close_w (n := n) (k := 4) (len := U.length) h01 hw (by omega) (fun h => by rw [hov] at h; exact absurd h (by decide))
    rw [hov, close_over] at e3
    have e4 : f3 = r2.1 := (Option.some.inj e3).symm
    rw [e4] at w3
    rw [strc_lst]
    exact w3
  · have h0 : r2.2.2 = 0 := hw.v.2.resolve_right hov
    obtain ⟨a1, a2, a3⟩ := hw.at0 h0
    obtain ⟨b1, b2, b3'⟩ := h01.at0 a3
    have hv2 := hw.v.1
    rw [List.length_singleton] at b2
    rw [List.length_map] at a2
    obtain ⟨r3, e3, e4, w3⟩ := fin_s (n := n) h01 hw rfl (by omega)
    refine ⟨r3, ?_, e4, w3⟩
    have e5 : (i3 r2.2.1 - (i3 r1.2.1 - 1)) - 1 = i3 U.length := by
      rw [i3_pred (by omega), i3_sub (by omega), i3_pred (by omega)]
      congr 1
      omega
    rw [e5]
    exact e3
theorem str_l (hs : TSrc t src) {r0 r1 : RS} {x0 : Int64} (h01 : Wr r0 [x0] r1) {v7 : Int32} : ∀ (m n : Nat) (r : List Nat) (U : Sx) (r2 : RS), r <:+ src → r.length < m → r.length + 10 < n → Wr r1 (U.map (fun c => cW (c : Nat))) r2 → RO r0 src v7 (fD_string_b t.1 (i3 t.2.1) t.2.2 n 1 (i3 r1.2.1 - 1) r2.1 (i3 r2.2.1) r2.2.2 (pos src r) v7) (match pS m r with | .inl x => .inl x | .inr (s, rest) => .inr (strc (U ++ s), rest)) := by
  intro m
  induction m with
  | zero => intro n r U r2 _ h; omega
  | succ m ih =>
    intro n r U r2 h hm hn hw
    obtain ⟨n, rfl⟩ : ∃ j, n = j + 1 := ⟨n - 1, by omega⟩
    obtain ⟨h1, h2, h3⟩ := suf_lt hs h
    -- close and take
    have fin : RO r0 src v7 ((fR_size n r2.1 (i3 r2.2.1) r2.2.2).bind fun o4 => (fR_close n (i3 r1.2.1 - 1) 4 ((o4 - (i3 r1.2.1 - 1)) - 1) r2.1 (i3 r2.2.1) r2.2.2).bind fun o7 => (fD_take n 34 t.1 (i3 t.2.1) t.2.2 o7 (i3 r2.2.1) r2.2.2 (pos src r) v7).bind fun o9 => if ¬ (o9.1 = 0 ∨ o9.1 = 1) then none else some (o9.1, o7, i3 r2.2.1, r2.2.2, o9.2.1, o9.2.2)) (if r.head? = some 34 then .inr (strc U, r.tail) else .inl r) := by
      obtain ⟨r3, e3, e4, w3⟩ := sz_end (n := n) h01 hw
      rw [show fR_size n r2.1 (i3 r2.2.1) r2.2.2 = some (i3 r2.2.1) from rfl, Option.bind_some, e3, Option.bind_some, show (34 : Int32) = i3 34 from rfl, take_w hs (by omega) h]
      by_cases hc : r.head? = some 34
      · rw [if_pos hc, if_pos hc, Option.bind_some, if_neg (by simp)]
        exact ⟨r3, by rw [e4], w3, (tail_suf r).trans h⟩
      · rw [if_neg hc, if_neg hc, Option.bind_some, if_neg (by simp)]
        exact ⟨r3, _, by rw [e4], w3.v, h⟩
    rw [fD_string_b, show fT_size n t.1 (i3 t.2.1) t.2.2 = some (i3 t.2.1) from rfl, Option.bind_some, pS]
    cases r with
    | nil =>
      rw [if_pos (by rw [size_le hs h]), if_neg (by simp)]
      rw [if_neg (by simp)] at fin
      exact fin
    | cons c r =>
      have hc := h1 c (List.mem_cons_self ..)
      have hr := (List.suffix_cons c r).trans h
      have e34 : (hv (c :: r) = 34) = (c = 34) := i3_eq (b := 34) (by omega) (by omega)
      have e92 : (hv (c :: r) = 92) = (c = 92) := i3_eq (b := 92) (by omega) (by omega)
      rw [List.length_cons] at hm hn
      rw [if_neg (by rw [size_le hs h]; simp), at_h hs h, Option.bind_some]
      by_cases hq : c = 34
      · subst hq
        rw [if_pos (by rw [e34]), if_pos (by simp)]
        rw [if_pos (by simp)] at fin
        dsimp only
        rw [List.append_nil]
        exact fin
      · rw [if_neg (by rw [e34]; exact hq), if_neg (by simpa using hq), Option.bind_some, pc]
        -- go on behind a character
        have go : ∀ (d : Nat) (rest : List Nat), d < 128 → rest <:+ src → rest.length ≤ r.length → RO r0 src v7 ((fR_put n (i3 d).toInt64 r2.1 (i3 r2.2.1) r2.2.2).bind fun o16 => fD_string_b t.1 (i3 t.2.1) t.2.2 n 1 (i3 r1.2.1 - 1) o16.1 o16.2.1 o16.2.2 (pos src rest) v7) (match (match pS m rest with | .inl x => (.inl x : List Nat ⊕ (Sx × List Nat)) | .inr (s, r2) => .inr (d :: s, r2)) with | .inl x => .inl x | .inr (s, rest) => .inr (strc (U ++ s), rest)) := by
          intro d rest hd hrest hl
          obtain ⟨r3, e3, w3⟩ := put_w (n := n) hw.v (cW (d : Nat))
          rw [i3_64 (by omega), e3, Option.bind_some]
          have := ih n rest (U ++ [d]) r3 hrest (by omega) (by omega) (by rw [List.map_append]; exact hw.app w3)
          cases hp : pS m rest with
          | inl x =>
            rw [hp] at this
            exact this
          | inr q =>
            obtain ⟨s, r4⟩ := q
            rw [hp] at this
            dsimp only at this ⊢
            rw [List.append_assoc] at this
            exact this
        by_cases hb : c = 92
        · subst hb
          rw [if_pos (by rw [e92]), if_pos rfl, pos_c hs h, at_h hs hr, Option.bind_some]
          have hE := esc_w hs (n := n) (f3 := r2.1) (v4 := i3 r2.2.1) (v5 := r2.2.2) (v7 := v7) (by omega) h
          have hEs := pc_suf (92 :: r)
          have hpc : pc (92 :: r) = pcE 92 r := by rw [pc, if_pos rfl]
          rw [hpc] at hEs
          -- both ways of the branch are one
          have both : ∀ K : Int32 × Int32 × Int32 → Option Out6, (if hv r = 117 then (fD_fourDigits n t.1 (i3 t.2.1) t.2.2 r2.1 (i3 r2.2.1) r2.2.2 (pos src (92 :: r)) v7).bind K else (fD_letter n t.1 (i3 t.2.1) t.2.2 r2.1 (i3 r2.2.1) r2.2.2 (pos src (92 :: r)) v7).bind K) = (if hv r = 117 then fD_fourDigits n t.1 (i3 t.2.1) t.2.2 r2.1 (i3 r2.2.1) r2.2.2 (pos src (92 :: r)) v7 else fD_letter n t.1 (i3 t.2.1) t.2.2 r2.1 (i3 r2.2.1) r2.2.2 (pos src (92 :: r)) v7).bind K := fun K => by split <;> rfl
          rw [both]
          cases hp : pcE 92 r with
          | inl x =>
            rw [hp] at hE
            obtain ⟨a, e1, hx⟩ := hE
            rw [e1, Option.bind_some]
            dsimp only
            rw [if_pos rfl]
            exact ⟨r2, a, rfl, hw.v, hx⟩
          | inr q =>
            obtain ⟨d, rest⟩ := q
            rw [hp] at hE
            obtain ⟨a, e1, e2, hx, hd⟩ := hE
            have hl := (hEs.2 d rest hp).2.1
            rw [List.length_cons] at hl
            rw [e1, Option.bind_some]
            dsimp only
            rw [if_neg (by rw [i3_m1 (by omega)]; exact not_false), e2]
            exact go d rest hd hx (by omega)
        · rw [if_neg (by rw [e92]; exact hb), if_neg hb, plain_w hs h]
          by_cases h32 : 32 ≤ c ∧ c < 127
          · rw [if_pos h32, if_pos h32, Option.bind_some]
            dsimp only
            rw [if_neg (by rw [i3_m1 (by omega)]; exact not_false), pos_c hs h]
            exact go c r (by omega) hr (Nat.le_refl _)
          · rw [if_neg h32, if_neg h32, Option.bind_some]
            dsimp only
            rw [if_pos rfl]
            exact ⟨r2, _, rfl, hw.v, h⟩
theorem string_r (hs : TSrc t src) (hn : 5000 < n) {r0 : RS} (hr0 : RV r0) {v7 : Int32} {r : List Nat} (h : r <:+ src) {m : Nat} (hm : r.length < m) : RO r0 src v7 (fD_string n t.1 (i3 t.2.1) t.2.2 r0.1 (i3 r0.2.1) r0.2.2 (pos src r) v7) (if r.head? = some 34 then mp strc (pS m r.tail) else .inl r) := by
  obtain ⟨h1, h2, h3⟩ := suf_lt hs h
  obtain ⟨r1, e1, w1⟩ := open_w (n := n) hr0
  unfold fD_string
  rw [e1, Option.bind_some]
  dsimp only
  rw [show (34 : Int32) = i3 34 from rfl, take_w hs (by omega) h]
  by_cases hc : r.head? = some 34
  · have htl := tail_len hc
    rw [if_pos hc, if_pos hc, Option.bind_some, if_neg (show ¬ (1 : Int32) = 0 by decide)]
    have := str_l hs w1 (v7 := v7) m n r.tail [] r1 ((tail_suf r).trans h) (by omega) (by omega) (Wr.nil w1.v)
    dsimp only
    cases hp : pS m r.tail with
    | inl x => rw [hp] at this; exact this
    | inr q =>
      obtain ⟨s, rest⟩ := q
      rw [hp] at this
      exact this
  · rw [if_neg hc, if_neg hc, Option.bind_some, if_pos rfl]
    exact ⟨r1, _, rfl, w1.v, h⟩
end RS2
