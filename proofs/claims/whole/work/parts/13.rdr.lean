section ZRds37
def om (o : Option Nat) : Int32 := match o with
  | none => -1
  | some d => i3 d
def hd1 (g : Nat → Option Nat) (r : List Nat) : Option Nat := match r with
  | [] => none
  | c :: _ => g c
theorem digitOf_h {n : Nat} {r : List Nat} (hr : ∀ c ∈ r, c < 256) : fD_digitOf n (hv r) = some (om (hd1 hexv r)) := by
  cases r with
  | nil => rfl
  | cons c r =>
    have hc := hr c (List.mem_cons_self ..)
    show fD_digitOf n (i3 c) = some (om (hexv c))
    revert hc
    revert c
    intro c _ hc
    have : ∀ c, c < 256 → fD_digitOf 0 (i3 c) = some (om (hexv c)) := by decide +kernel
    exact this c hc
theorem codeOf_h {n : Nat} {r : List Nat} (hr : ∀ c ∈ r, c < 256) : fD_codeOf n (hv r) = some (om (hd1 cof r)) := by
  cases r with
  | nil => rfl
  | cons c r =>
    have hc := hr c (List.mem_cons_self ..)
    show fD_codeOf n (i3 c) = some (om (cof c))
    have : ∀ c, c < 256 → fD_codeOf 0 (i3 c) = some (om (cof c)) := by decide +kernel
    exact this c hc
theorem hexv_lt {c d : Nat} (h : hexv c = some d) : d < 16 := by
  unfold hexv at h
  split at h
  · obtain rfl := Option.some.inj h; omega
  · split at h
    · obtain rfl := Option.some.inj h; omega
    · split at h
      · obtain rfl := Option.some.inj h; omega
      · simp at h
section RS2
variable {t : TS} {src : List Nat} {n : Nat}
/-- one character; a is where its last byte is -/
def RC (src : List Nat) (v7 : Int32) (out : Option (Int32 × Int32 × Int32)) (res : List Nat ⊕ (Nat × List Nat)) : Prop := match res with
  | .inl x => ∃ a, out = some (-1, a, pos src x) ∧ x <:+ src
  | .inr (c, rest) => ∃ a, out = some (i3 c, a, v7) ∧ a + 1 = pos src rest ∧ rest <:+ src ∧ c < 128
theorem four_l (hs : TSrc t src) {f3 : Nat → Int64} {v4 v5 v7 : Int32} {start : List Nat} (hst : start <:+ src) : ∀ (m n v : Nat) (h : List Nat) (a : Int32), h <:+ start → a + 1 = pos src h → v ≤ 65536 → m ≤ 4 → m < n → (m = 4 → v = 0) → (m < 4 → v < 16 ^ (4 - m)) → RC src v7 (fD_fourDigits_b t.1 (i3 t.2.1) t.2.2 f3 v4 v5 n 1 (i3 (4 - m)) (i3 v) (pos src start) a v7) (hex4 start m v h) := by
  intro m
  induction m with
  | zero =>
    intro n v h a hh ha hv1 _ hn _ _
    obtain ⟨n, rfl⟩ : ∃ j, n = j + 1 := ⟨n - 1, by omega⟩
    rw [fD_fourDigits_b, if_pos (by decide), hex4]
    by_cases h127 : 127 < v
    · rw [if_neg (by rw [show (127 : Int32) = i3 127 from rfl, i3_le (by omega) (by omega)]; omega), if_pos h127]
      exact ⟨a, rfl, hst⟩
    · rw [if_pos (by rw [show (127 : Int32) = i3 127 from rfl, i3_le (by omega) (by omega)]; omega), if_neg h127]
      exact ⟨a, rfl, ha, hh.trans hst, by omega⟩
  | succ m ih =>
    intro n v h a hh ha hv1 hm hn hz hlt
    obtain ⟨n, rfl⟩ : ∃ j, n = j + 1 := ⟨n - 1, by omega⟩
    have hsf := hh.trans hst
    obtain ⟨h1, h2, h3⟩ := suf_lt hs hsf
    rw [fD_fourDigits_b, if_neg (by rw [show (4 : Int32) = i3 4 from rfl, i3_le (by omega) (by omega)]; omega), ha, at_h hs hsf, Option.bind_some, digitOf_h h1, Option.bind_some]
    cases h with
    | nil =>
      rw [if_pos (by rfl)]
      exact ⟨_, rfl, hsf⟩
    | cons x h =>
      rw [hex4, show hd1 hexv (x :: h) = hexv x from rfl]
      cases hx : hexv x with
      | none =>
        rw [if_pos (by rfl)]
        exact ⟨_, rfl, hsf⟩
      | some d =>
        have hd := hexv_lt hx
        rw [show om (some d) = i3 d from rfl]
        dsimp only
        have hvb : v < 4096 := by
          obtain rfl | rfl | rfl | rfl : m = 0 ∨ m = 1 ∨ m = 2 ∨ m = 3 := by omega
          · have := hlt (by omega); omega
          · have := hlt (by omega); omega
          · have := hlt (by omega); omega
          · have := hz rfl; omega
        rw [if_neg (by rw [i3_m1 (by omega)]; exact not_false), show (16 : Int32) = i3 16 from rfl, i3_mul, i3_add, i3_one, show 4 - (m + 1) + 1 = 4 - m by omega, Nat.mul_comm v 16]
        have hb2 : 16 * v + d < 16 ^ (4 - m) := by
          obtain rfl | rfl | rfl | rfl : m = 0 ∨ m = 1 ∨ m = 2 ∨ m = 3 := by omega
          · have := hlt (by omega); omega
          · have := hlt (by omega); omega
          · have := hlt (by omega); omega
          · have := hz rfl; omega
        have hb3 : 16 ^ (4 - m) ≤ 16 ^ 4 := Nat.pow_le_pow_right (by omega) (by omega)
        exact ih n (16 * v + d) h _ ((List.suffix_cons x h).trans hh) (pos_c hs hsf) (by omega) (by omega) (by omega) (fun h4 => by omega) (fun _ => hb2)
theorem esc_w (hs : TSrc t src) {f3 : Nat → Int64} {v4 v5 v7 : Int32} {r : List Nat} (hn : 5 < n) (h : (92 :: r) <:+ src) : RC src v7 (if hv r = 117 then fD_fourDigits n t.1 (i3 t.2.1) t.2.2 f3 v4 v5 (pos src (92 :: r)) v7 else fD_letter n t.1 (i3 t.2.1) t.2.2 f3 v4 v5 (pos src (92 :: r)) v7) (pcE 92 r) := by
  have hr := (List.suffix_cons 92 r).trans h
  obtain ⟨h1, h2, h3⟩ := suf_lt hs hr
  have hlet : fD_letter n t.1 (i3 t.2.1) t.2.2 f3 v4 v5 (pos src (92 :: r)) v7 = (match hd1 cof r with | none => some (-1, pos src r, pos src r) | some d => some (i3 d, pos src r, v7)) := by
    unfold fD_letter
    rw [pos_c hs h, at_h hs hr, Option.bind_some, codeOf_h h1, Option.bind_some]
    cases r with
    | nil => rfl
    | cons c r =>
      rw [show hd1 cof (c :: r) = cof c from rfl]
      cases hc : cof c with
      | none => rfl
      | some d =>
        have := cof_lt hc
        rw [show om (some d) = i3 d from rfl]
        dsimp only
        rw [if_neg (by rw [i3_m1 (by omega)]; exact not_false)]
  unfold pcE
  cases r with
  | nil =>
    rw [if_neg (by decide), hlet]
    exact ⟨_, rfl, hr⟩
  | cons e r =>
    dsimp only
    have he := h1 e (List.mem_cons_self ..)
    have e117 : (hv (e :: r) = 117) = (e = 117) := i3_eq (b := 117) (by omega) (by omega)
    by_cases h117 : e = 117
    · rw [if_pos (by rw [e117]; exact h117), if_pos h117]
      unfold fD_fourDigits
      refine four_l hs h 4 n 0 r _ ((List.suffix_cons e r).trans (List.suffix_cons 92 _)) ?_ (by omega) (by omega) (by omega) (fun _ => rfl) (fun h4 => by omega)
      rw [pos_c hs h, pos_c hs hr]
    · rw [if_neg (by rw [e117]; exact h117), if_neg h117, hlet, show hd1 cof (e :: r) = cof e from rfl]
      cases hc : cof e with
      | none => exact ⟨_, rfl, hr⟩
      | some d => exact ⟨_, rfl, pos_c hs hr, (List.suffix_cons e r).trans hr, cof_lt hc⟩
theorem plain_w (hs : TSrc t src) {f3 : Nat → Int64} {v4 v5 v7 : Int32} {c : Nat} {r : List Nat} (h : (c :: r) <:+ src) : fD_plain n t.1 (i3 t.2.1) t.2.2 f3 v4 v5 (pos src (c :: r)) v7 = if 32 ≤ c ∧ c < 127 then some (i3 c, v7) else some (-1, pos src (c :: r)) := by
  obtain ⟨h1, h2, h3⟩ := suf_lt hs h
  have hc := h1 c (List.mem_cons_self ..)
  unfold fD_plain
  rw [at_h hs h, Option.bind_some, show hv (c :: r) = i3 c from rfl]
  by_cases h32 : c < 32
  · rw [if_pos (by rw [show (32 : Int32) = i3 32 from rfl, i3_lt (by omega) (by omega)]; exact h32), if_neg (by omega)]
    rfl
  · rw [if_neg (by rw [show (32 : Int32) = i3 32 from rfl, i3_lt (by omega) (by omega)]; exact h32)]
    by_cases h127 : 127 ≤ c
    · rw [if_pos (by rw [show (127 : Int32) = i3 127 from rfl, i3_le (by omega) (by omega)]; exact h127), if_neg (by omega)]
      rfl
    · rw [if_neg (by rw [show (127 : Int32) = i3 127 from rfl, i3_le (by omega) (by omega)]; exact h127), if_pos (by omega)]
/-- the end of a string whose length is told by the cells -/
theorem sz_end {r0 r1 r2 : RS} {x0 : Int64} (h01 : Wr r0 [x0] r1) {U : Sx} (hw : Wr r1 (U.map (fun c => cW (c : Nat))) r2) : ∃ r3 : RS, fR_close n (i3 r1.2.1 - 1) 4 ((i3 r2.2.1 - (i3 r1.2.1 - 1)) - 1) r2.1 (i3 r2.2.1) r2.2.2 = some r3.1 ∧ r3.2 = r2.2 ∧ Wr r0 (strc U) r3 := by
  by_cases hov : r2.2.2 = 1
  · refine ⟨r2, by rw [hov, close_over], rfl, ?_⟩
    obtain ⟨f3, e3, w3⟩ := close_w (n := n) (k := 4) (len := U.length) h01 hw (by omega) (fun h => by rw [hov] at h; exact absurd h (by decide))
    rw [hov, close_over] at e3
    have e4 : f3 = r2.1 := (Option.some.inj e3).symm
    rw [e4] at w3
    rw [strc_lst]
    exact w3
  · have h0 : r2.2.2 = 0 := hw.v.2.resolve_right hov
    obtain ⟨a1, a2, a3⟩ := hw.at0 h0
    obtain ⟨b1, b2, b3'⟩ := h01.at0 a3
    have hv2 := hw.v.1
    rw [List.length_singleton] at b2
    rw [List.length_map] at a2
    obtain ⟨r3, e3, e4, w3⟩ := fin_s (n := n) h01 hw rfl (by omega)
    refine ⟨r3, ?_, e4, w3⟩
    have e5 : (i3 r2.2.1 - (i3 r1.2.1 - 1)) - 1 = i3 U.length := by
      rw [i3_pred (by omega), i3_sub (by omega), i3_pred (by omega)]
      congr 1
      omega
    rw [e5]
    exact e3
theorem str_l (hs : TSrc t src) {r0 r1 : RS} {x0 : Int64} (h01 : Wr r0 [x0] r1) {v7 : Int32} : ∀ (m n : Nat) (r : List Nat) (U : Sx) (r2 : RS), r <:+ src → r.length < m → r.length + 10 < n → Wr r1 (U.map (fun c => cW (c : Nat))) r2 → RO r0 src v7 (fD_string_b t.1 (i3 t.2.1) t.2.2 n 1 (i3 r1.2.1 - 1) r2.1 (i3 r2.2.1) r2.2.2 (pos src r) v7) (match pS m r with | .inl x => .inl x | .inr (s, rest) => .inr (strc (U ++ s), rest)) := by
  intro m
  induction m with
  | zero => intro n r U r2 _ h; omega
  | succ m ih =>
    intro n r U r2 h hm hn hw
    obtain ⟨n, rfl⟩ : ∃ j, n = j + 1 := ⟨n - 1, by omega⟩
    obtain ⟨h1, h2, h3⟩ := suf_lt hs h
    -- close and take
    have fin : RO r0 src v7 ((fR_size n r2.1 (i3 r2.2.1) r2.2.2).bind fun o4 => (fR_close n (i3 r1.2.1 - 1) 4 ((o4 - (i3 r1.2.1 - 1)) - 1) r2.1 (i3 r2.2.1) r2.2.2).bind fun o7 => (fD_take n 34 t.1 (i3 t.2.1) t.2.2 o7 (i3 r2.2.1) r2.2.2 (pos src r) v7).bind fun o9 => if ¬ (o9.1 = 0 ∨ o9.1 = 1) then none else some (o9.1, o7, i3 r2.2.1, r2.2.2, o9.2.1, o9.2.2)) (if r.head? = some 34 then .inr (strc U, r.tail) else .inl r) := by
      obtain ⟨r3, e3, e4, w3⟩ := sz_end (n := n) h01 hw
      rw [show fR_size n r2.1 (i3 r2.2.1) r2.2.2 = some (i3 r2.2.1) from rfl, Option.bind_some, e3, Option.bind_some, show (34 : Int32) = i3 34 from rfl, take_w hs (by omega) h]
      by_cases hc : r.head? = some 34
      · rw [if_pos hc, if_pos hc, Option.bind_some, if_neg (by simp)]
        exact ⟨r3, by rw [e4], w3, (tail_suf r).trans h⟩
      · rw [if_neg hc, if_neg hc, Option.bind_some, if_neg (by simp)]
        exact ⟨r3, _, by rw [e4], w3.v, h⟩
    rw [fD_string_b, show fT_size n t.1 (i3 t.2.1) t.2.2 = some (i3 t.2.1) from rfl, Option.bind_some, pS]
    cases r with
    | nil =>
      rw [if_pos (by rw [size_le hs h]), if_neg (by simp)]
      rw [if_neg (by simp)] at fin
      exact fin
    | cons c r =>
      have hc := h1 c (List.mem_cons_self ..)
      have hr := (List.suffix_cons c r).trans h
      have e34 : (hv (c :: r) = 34) = (c = 34) := i3_eq (b := 34) (by omega) (by omega)
      have e92 : (hv (c :: r) = 92) = (c = 92) := i3_eq (b := 92) (by omega) (by omega)
      rw [List.length_cons] at hm hn
      rw [if_neg (by rw [size_le hs h]; simp), at_h hs h, Option.bind_some]
      by_cases hq : c = 34
      · subst hq
        rw [if_pos (by rw [e34]), if_pos (by simp)]
        rw [if_pos (by simp)] at fin
        dsimp only
        rw [List.append_nil]
        exact fin
      · rw [if_neg (by rw [e34]; exact hq), if_neg (by simpa using hq), Option.bind_some, pc]
        -- go on behind a character
        have go : ∀ (d : Nat) (rest : List Nat), d < 128 → rest <:+ src → rest.length ≤ r.length → RO r0 src v7 ((fR_put n (i3 d).toInt64 r2.1 (i3 r2.2.1) r2.2.2).bind fun o16 => fD_string_b t.1 (i3 t.2.1) t.2.2 n 1 (i3 r1.2.1 - 1) o16.1 o16.2.1 o16.2.2 (pos src rest) v7) (match (match pS m rest with | .inl x => (.inl x : List Nat ⊕ (Sx × List Nat)) | .inr (s, r2) => .inr (d :: s, r2)) with | .inl x => .inl x | .inr (s, rest) => .inr (strc (U ++ s), rest)) := by
          intro d rest hd hrest hl
          obtain ⟨r3, e3, w3⟩ := put_w (n := n) hw.v (cW (d : Nat))
          rw [i3_64 (by omega), e3, Option.bind_some]
          have := ih n rest (U ++ [d]) r3 hrest (by omega) (by omega) (by rw [List.map_append]; exact hw.app w3)
          cases hp : pS m rest with
          | inl x =>
            rw [hp] at this
            exact this
          | inr q =>
            obtain ⟨s, r4⟩ := q
            rw [hp] at this
            dsimp only at this ⊢
            rw [List.append_assoc] at this
            exact this
        by_cases hb : c = 92
        · subst hb
          rw [if_pos (by rw [e92]), if_pos rfl, pos_c hs h, at_h hs hr, Option.bind_some]
          have hE := esc_w hs (n := n) (f3 := r2.1) (v4 := i3 r2.2.1) (v5 := r2.2.2) (v7 := v7) (by omega) h
          have hEs := pc_suf (92 :: r)
          have hpc : pc (92 :: r) = pcE 92 r := by rw [pc, if_pos rfl]
          rw [hpc] at hEs
          -- both ways of the branch are one
          have both : ∀ K : Int32 × Int32 × Int32 → Option Out6, (if hv r = 117 then (fD_fourDigits n t.1 (i3 t.2.1) t.2.2 r2.1 (i3 r2.2.1) r2.2.2 (pos src (92 :: r)) v7).bind K else (fD_letter n t.1 (i3 t.2.1) t.2.2 r2.1 (i3 r2.2.1) r2.2.2 (pos src (92 :: r)) v7).bind K) = (if hv r = 117 then fD_fourDigits n t.1 (i3 t.2.1) t.2.2 r2.1 (i3 r2.2.1) r2.2.2 (pos src (92 :: r)) v7 else fD_letter n t.1 (i3 t.2.1) t.2.2 r2.1 (i3 r2.2.1) r2.2.2 (pos src (92 :: r)) v7).bind K := fun K => by split <;> rfl
          rw [both]
          cases hp : pcE 92 r with
          | inl x =>
            rw [hp] at hE
            obtain ⟨a, e1, hx⟩ := hE
            rw [e1, Option.bind_some]
            dsimp only
            rw [if_pos rfl]
            exact ⟨r2, a, rfl, hw.v, hx⟩
          | inr q =>
            obtain ⟨d, rest⟩ := q
            rw [hp] at hE
            obtain ⟨a, e1, e2, hx, hd⟩ := hE
            have hl := (hEs.2 d rest hp).2.1
            rw [List.length_cons] at hl
            rw [e1, Option.bind_some]
            dsimp only
            rw [if_neg (by rw [i3_m1 (by omega)]; exact not_false), e2]
            exact go d rest hd hx (by omega)
        · rw [if_neg (by rw [e92]; exact hb), if_neg hb, plain_w hs h]
          by_cases h32 : 32 ≤ c ∧ c < 127
          · rw [if_pos h32, if_pos h32, Option.bind_some]
            dsimp only
            rw [if_neg (by rw [i3_m1 (by omega)]; exact not_false), pos_c hs h]
            exact go c r (by omega) hr (Nat.le_refl _)
          · rw [if_neg h32, if_neg h32, Option.bind_some]
            dsimp only
            rw [if_pos rfl]
            exact ⟨r2, _, rfl, hw.v, h⟩
theorem string_r (hs : TSrc t src) (hn : 5000 < n) {r0 : RS} (hr0 : RV r0) {v7 : Int32} {r : List Nat} (h : r <:+ src) {m : Nat} (hm : r.length < m) : RO r0 src v7 (fD_string n t.1 (i3 t.2.1) t.2.2 r0.1 (i3 r0.2.1) r0.2.2 (pos src r) v7) (if r.head? = some 34 then mp strc (pS m r.tail) else .inl r) := by
  obtain ⟨h1, h2, h3⟩ := suf_lt hs h
  obtain ⟨r1, e1, w1⟩ := open_w (n := n) hr0
  unfold fD_string
  rw [e1, Option.bind_some]
  dsimp only
  rw [show (34 : Int32) = i3 34 from rfl, take_w hs (by omega) h]
  by_cases hc : r.head? = some 34
  · have htl := tail_len hc
    rw [if_pos hc, if_pos hc, Option.bind_some, if_neg (show ¬ (1 : Int32) = 0 by decide)]
    have := str_l hs w1 (v7 := v7) m n r.tail [] r1 ((tail_suf r).trans h) (by omega) (by omega) (Wr.nil w1.v)
    dsimp only
    cases hp : pS m r.tail with
    | inl x => rw [hp] at this; exact this
    | inr q =>
      obtain ⟨s, rest⟩ := q
      rw [hp] at this
      exact this
  · rw [if_neg hc, if_neg hc, Option.bind_some, if_pos rfl]
    exact ⟨r1, _, rfl, w1.v, h⟩
end RS2
end ZRds37
section ZRdv38
theorem Wr.split {α : Type} {r0 r2 : BS α} {a b : List α} (h : Wr r0 (a ++ b) r2) (h0 : r2.2.2 = 0) : Wr r0 a (r2.1, r0.2.1 + a.length, 0) ∧ Wr (r2.1, r0.2.1 + a.length, 0) b r2 := by
  obtain ⟨hv, h⟩ := h
  rcases h with ⟨a1, a2, a3, a4, a5, a6⟩ | ⟨_, a2⟩
  · rw [List.length_append] at a2 a4
    obtain ⟨s1, s2⟩ := seg_app.mp a6
    refine ⟨⟨⟨by dsimp only; omega, Or.inl rfl⟩, Or.inl ⟨a1, by omega, rfl, rfl, a5, s1⟩⟩, ⟨hv, Or.inl ⟨rfl, by dsimp only; omega, h0, by dsimp only; omega, fun i _ => rfl, s2⟩⟩⟩
  · rw [h0] at a2
    exact absurd a2 (by decide)
theorem Wr.end0 {α : Type} {r0 r2 : BS α} {a : List α} (h : Wr r0 a r2) (h0 : r2.2.2 = 0) : r2.2.1 = r0.2.1 + a.length ∧ r0.2.2 = 0 ∧ r2.2.1 ≤ 4096 := by
  obtain ⟨hv, h⟩ := h
  rcases h with ⟨a1, a2, a3, a4, a5, a6⟩ | ⟨_, a2⟩
  · exact ⟨a4, a1, hv.1⟩
  · rw [h0] at a2
    exact absurd a2 (by decide)
theorem Wr.fits {α : Type} {r0 r2 : BS α} {a : List α} (h : Wr r0 a r2) (h0 : r0.2.2 = 0) (hl : r0.2.1 + a.length ≤ 4096) : r2.2.2 = 0 := by
  obtain ⟨hv, h⟩ := h
  rcases h with ⟨a1, a2, a3, a4, a5, a6⟩ | ⟨a1, a2⟩
  · exact a3
  · rcases a1 with a1 | a1
    · rw [h0] at a1
      exact absurd a1 (by decide)
    · omega
section RV2
variable {t : TS} {src : List Nat} {n : Nat}
theorem close_z {r0 r2 : RS} {x0 : Int64} {w : List Int64} {k len : Nat} (h : Wr r0 (x0 :: w) r2) (h0 : r2.2.2 = 0) (hk : k < 8) (hl : len < 65536) : ∃ r3 : RS, fR_close n (i3 r0.2.1) (i3 k) (i3 len) r2.1 (i3 r2.2.1) r2.2.2 = some r3.1 ∧ r3.2 = r2.2 ∧ Wr r0 (lst k len w) r3 := by
  obtain ⟨w1, w2⟩ := Wr.split (a := [x0]) (b := w) h h0
  obtain ⟨f3, e3, w3⟩ := close_w (n := n) (k := k) (len := len) w1 w2 hk (fun _ => hl)
  refine ⟨(f3, r2.2.1, r2.2.2), ?_, rfl, w3⟩
  have e4 : i3 (r0.2.1 + 1) - 1 = i3 r0.2.1 := i3_pred (by omega)
  rw [← e4]
  exact e3
theorem comma_w (hs : TSrc t src) {f3 : Nat → Int64} {v4 v5 v7 : Int32} {r : List Nat} (h : r <:+ src) (hn : 5000 < n) : fD_comma n t.1 (i3 t.2.1) t.2.2 f3 v4 v5 (pos src r) v7 = if (blk r).head? = some 44 then some (1, pos src (blk r).tail) else some (0, pos src (blk r)) := by
  have hb := (blk_suf r).trans h
  obtain ⟨h1, h2, h3⟩ := suf_lt hs hb
  unfold fD_comma
  rw [skip_w hs h (by omega), Option.bind_some, at_h hs hb, Option.bind_some]
  by_cases hc : (blk r).head? = some 44
  · rw [if_pos (by rw [show (44 : Int32) = i3 44 from rfl, hv_eq h1 (by omega)]; exact hc), if_pos hc, pos_t hs hb hc]
  · rw [if_neg (by rw [show (44 : Int32) = i3 44 from rfl, hv_eq h1 (by omega)]; exact hc), if_neg hc]
    unfold pos
    rw [show (0 : Int32) = i3 0 from rfl, i3_add, Nat.add_zero]
abbrev RecV : Type := Int32 → (Nat → Int32) → Int32 → Int32 → (Nat → Int64) → Int32 → Int32 → Int32 → Int32 → Option Out6
def RecOK (t : TS) (src : List Nat) (v7 : Int32) (kk : Int32) (rec : RecV) {α : Type} (cl : α → List Int64) (recA : List Nat → List Nat ⊕ (α × List Nat)) : Prop := ∀ (r : List Nat) (row : RS), r <:+ src → RV row → row.2.2 = 0 → row.2.1 + r.length ≤ 4096 → RO row src v7 (rec kk t.1 (i3 t.2.1) t.2.2 row.1 (i3 row.2.1) row.2.2 (pos src r) v7) (mp cl (recA r))
theorem arr_l (hs : TSrc t src) {v7 y1 : Int32} {rec : RecV} {α : Type} {cl : α → List Int64} {ok : α → Prop} {recA : List Nat → List Nat ⊕ (α × List Nat)} (hrec : RecOK t src v7 (y1 + 1) rec cl recA) (hps : PS recA (fun v => (cl v).length) ok) {r0 : RS} {x0 : Int64} :
    ∀ (m n c : Nat) (r : List Nat) (w : List Int64) (r2 : RS), r <:+ src → r.length < m → r.length + 6000 < n → Wr r0 (x0 :: w) r2 → r2.2.2 = 0 → r2.2.1 + r.length ≤ 4096 → 2 * c + r.length ≤ 4096 →
    RO r0 src v7 (fD_array_b rec t.1 (i3 t.2.1) t.2.2 n 1 1 (i3 c) (i3 r0.2.1) y1 r2.1 (i3 r2.2.1) r2.2.2 (pos src r) v7) (match pE recA m r with | .inl x => .inl x | .inr (l, rest) => .inr (lst 5 (c + l.length) (w ++ l.flatMap cl), rest)) := by
  intro m
  induction m with
  | zero => intro n c r w r2 _ h; omega
  | succ m ih =>
    intro n c r w r2 h hm hn hw h0 hsz hc
    obtain ⟨n, rfl⟩ : ∃ j, n = j + 1 := ⟨n - 1, by omega⟩
    have hval := hrec r r2 h hw.v h0 hsz
    obtain ⟨p1, p2⟩ := hps r
    rw [fD_array_b, if_neg (by decide), if_neg (by rw [show (4096 : Int32) = i3 4096 from rfl, i3_le (by omega) (by omega)]; omega), pE]
    cases hv : recA r with
    | inl x =>
      rw [hv] at hval
      obtain ⟨r', a, e1, g1, g2⟩ := hval
      rw [e1, Option.bind_some, if_pos rfl]
      exact ⟨r', a, rfl, g1, g2⟩
    | inr q =>
      obtain ⟨v, r4⟩ := q
      rw [hv] at hval
      obtain ⟨r3, e1, w3, g2⟩ := hval
      obtain ⟨q1, q2, q3, q4⟩ := p2 v r4 hv
      dsimp only at q2 q3
      have hend := hw.end0 h0
      have h30 := w3.fits h0 (by omega)
      have hend3 := w3.end0 h30
      have hw3 : Wr r0 (x0 :: (w ++ cl v)) r3 := hw.app w3
      have hb := (blk_suf r4).trans g2
      have hbl := blk_len r4
      rw [e1, Option.bind_some, if_neg (show ¬ (1 : Int32) = 0 by decide)]
      dsimp only
      rw [comma_w hs g2 (by omega)]
      by_cases hcm : (blk r4).head? = some 44
      · have htl := tail_len hcm
        rw [if_pos hcm, if_pos hcm, Option.bind_some, i3_one]
        have := ih n (c + 1) (blk r4).tail (w ++ cl v) r3 ((tail_suf _).trans hb) (by omega) (by omega) hw3 h30 (by omega) (by omega)
        cases hp : pE recA m (blk r4).tail with
        | inl x => rw [hp] at this; exact this
        | inr q =>
          obtain ⟨l, rest⟩ := q
          rw [hp] at this
          dsimp only at this ⊢
          rw [List.length_cons, List.flatMap_cons, ← List.append_assoc, show c + (l.length + 1) = c + 1 + l.length by omega]
          exact this
      · rw [if_neg hcm, if_neg hcm, Option.bind_some, i3_one]
        obtain ⟨n, rfl⟩ : ∃ j, n = j + 1 := ⟨n - 1, by omega⟩
        obtain ⟨r5, e5, e6, w5⟩ := close_z (n := n) (k := 5) (len := c + 1) hw3 h30 (by omega) (by omega)
        dsimp only
        rw [fD_array_b, if_pos rfl, show (5 : Int32) = i3 5 from rfl, e5, Option.bind_some, show (93 : Int32) = i3 93 from rfl, take_w hs (by omega) hb]
        by_cases h93 : (blk r4).head? = some 93
        · rw [if_pos h93, if_pos h93, Option.bind_some, if_neg (by simp)]
          refine ⟨r5, by rw [e6], ?_, (tail_suf _).trans hb⟩
          simpa using w5
        · rw [if_neg h93, if_neg h93, Option.bind_some, if_neg (by simp)]
          exact ⟨r5, _, by rw [e6], w5.v, hb⟩
theorem array_r (hs : TSrc t src) (hn : 20000 < n) {v7 y1 : Int32} {rec : RecV} {α : Type} {cl : α → List Int64} {ok : α → Prop} {recA : List Nat → List Nat ⊕ (α × List Nat)} (hrec : RecOK t src v7 (y1 + 1) rec cl recA) (hps : PS recA (fun v => (cl v).length) ok) {r0 : RS} {r : List Nat} {c : Nat} (h : (c :: r) <:+ src) (hr0 : RV r0) (h0 : r0.2.2 = 0) (hsz : r0.2.1 + (r.length + 1) ≤ 4096) : RO r0 src v7 (fD_array rec n y1 t.1 (i3 t.2.1) t.2.2 r0.1 (i3 r0.2.1) r0.2.2 (pos src (c :: r)) v7) (match pA recA r with | .inl x => .inl x | .inr (l, rest) => .inr (lst 5 l.length (l.flatMap cl), rest)) := by
  have hr := (List.suffix_cons c r).trans h
  have hb := (blk_suf r).trans hr
  have hbl := blk_len r
  obtain ⟨h1, h2, h3⟩ := suf_lt hs hb
  obtain ⟨_, h4, _⟩ := suf_lt hs h
  rw [List.length_cons] at h4
  obtain ⟨r1, e1, w1⟩ := open_w (n := n) hr0
  have h10 := w1.fits h0 (by simp; omega)
  have hend := w1.end0 h10
  rw [List.length_singleton] at hend
  have hhead : i3 r1.2.1 - 1 = i3 r0.2.1 := by
    rw [i3_pred (by omega)]
    congr 1
    omega
  unfold fD_array pA
  rw [e1, Option.bind_some]
  dsimp only
  rw [pos_c hs h, skip_w hs hr (by omega), Option.bind_some, at_h hs hb, Option.bind_some, hhead]
  by_cases h93 : (blk r).head? = some 93
  · rw [if_pos (by rw [show (93 : Int32) = i3 93 from rfl, hv_eq h1 (by omega)]; exact h93), if_pos h93]
    obtain ⟨n, rfl⟩ : ∃ j, n = j + 1 := ⟨n - 1, by omega⟩
    obtain ⟨r5, e5, e6, w5⟩ := close_z (n := n) (k := 5) (len := 0) w1 h10 (by omega) (by omega)
    have e5' : fR_close n (i3 r0.2.1) 5 0 r1.1 (i3 r1.2.1) r1.2.2 = some r5.1 := e5
    rw [fD_array_b, if_pos rfl, e5', Option.bind_some, show (93 : Int32) = i3 93 from rfl, take_w hs (by omega) hb, if_pos h93, Option.bind_some, if_neg (by simp)]
    exact ⟨r5, by rw [e6], w5, (tail_suf _).trans hb⟩
  · rw [if_neg (by rw [show (93 : Int32) = i3 93 from rfl, hv_eq h1 (by omega)]; exact h93), if_neg h93]
    have := arr_l hs hrec hps (r0 := r0) (r.length + 1) n 0 (blk r) [] r1 hb (by omega) (by omega) w1 h10 (by omega) (by omega)
    cases hp : pE recA (r.length + 1) (blk r) with
    | inl x => rw [hp] at this; exact this
    | inr q =>
      obtain ⟨l, rest⟩ := q
      rw [hp] at this
      dsimp only at this ⊢
      rw [Nat.zero_add] at this
      exact this
/-! objects -/
theorem isNew_w (hn : 10000 < n) {d : Nat} {r0 r3 : RS} {x0 : Int64} {L : List (Sx × JT d)} {s : Sx} (hL : ∀ p ∈ L, sok p.1 ∧ jok d p.2) (hs : sok s) (hw : Wr r0 (x0 :: (L.flatMap oc ++ strc s)) r3) (h0 : r3.2.2 = 0) {v7 st : Int32} {t1 : Nat → Int32} {t2 t3 a6 : Int32} : ∃ (r4 : RS) (x1 : Int64), r4.2 = r3.2 ∧ Wr r0 (x1 :: (L.flatMap oc ++ strc s)) r4 ∧ fD_isNew n (i3 (r0.2.1 + 1 + (L.flatMap oc).length)) st (i3 r0.2.1) (i3 L.length) t1 t2 t3 r3.1 (i3 r3.2.1) r3.2.2 a6 v7 = some (if s ∈ L.map (fun p => p.1) then (0, r4.1, st) else (1, r4.1, v7)) := by
  have hend := hw.end0 h0
  have hLl : L.length ≤ (L.flatMap oc).length := jo_len
  simp only [List.length_cons, List.length_append, strc_len] at hend
  obtain ⟨r4, e4, e5, w4⟩ := close_z (n := n) (k := 6) (len := L.length) hw h0 (by omega) (by omega)
  have h40 : r4.2.2 = 0 := by rw [e5]; exact h0
  obtain ⟨at0, hv4, _⟩ := w4.at0 h40
  refine ⟨r4, _, e5, w4, ?_⟩
  have hb := at0.lbody
  obtain ⟨b1, b2⟩ := hb.app
  have hlen : ∀ n, fR_length n (i3 r0.2.1) r4.1 (i3 r4.2.1) r4.2.2 = some (i3 L.length) := fun n => at0.llen (by omega) (by rw [List.length_append]; omega)
  have hvo := vo_loop (o := r4.2.2) (o' := r4.2.2) (s := s) hs b2 L.length (by omega) hlen L n 0 (r0.2.1 + 1) hL (by omega) b1 (by omega)
  unfold fD_isNew
  rw [show (6 : Int32) = i3 6 from rfl, e4, Option.bind_some, al_vo]
  have e6 : i3 r3.2.1 = i3 r4.2.1 := by rw [e5]
  have e7 : r3.2.2 = r4.2.2 := by rw [e5]
  rw [e6, e7]
  unfold fR_valueOfa
  rw [i3_one]
  rcases hvo with ⟨q, y, g1, g2, g3, g4⟩ | ⟨g1, g4⟩
  · have g4' : fR_valueOfa_b r4.1 (i3 r4.2.1) r4.2.2 r4.1 (i3 r4.2.1) r4.2.2 n 1 0 (i3 (r0.2.1 + 1)) (i3 r0.2.1) (i3 (r0.2.1 + 1 + (L.flatMap oc).length)) = some (i3 q) := g4
    have h5 := g3.2
    have h6 := jc_pos d y
    rw [g4', Option.bind_some, if_neg (by rw [i3_m1 (by omega)]; exact not_false), if_pos]
    · rfl
    · apply Decidable.byContradiction
      intro hne
      rw [lu_none.mpr hne] at g1
      exact absurd g1 (by simp)
  · have g4' : fR_valueOfa_b r4.1 (i3 r4.2.1) r4.2.2 r4.1 (i3 r4.2.1) r4.2.2 n 1 0 (i3 (r0.2.1 + 1)) (i3 r0.2.1) (i3 (r0.2.1 + 1 + (L.flatMap oc).length)) = some (-1) := g4
    rw [g4', Option.bind_some, if_pos rfl, if_neg (lu_none.mp g1)]
theorem colon_w (hs : TSrc t src) {f3 : Nat → Int64} {v4 v5 v7 : Int32} {r : List Nat} (h : r <:+ src) (hn : 5000 < n) : fD_colon n t.1 (i3 t.2.1) t.2.2 f3 v4 v5 (pos src r) v7 = if (blk r).head? = some 58 then some (1, pos src (blk r).tail, v7) else some (0, pos src (blk r), pos src (blk r)) := by
  have hb := (blk_suf r).trans h
  unfold fD_colon
  rw [skip_w hs h (by omega), Option.bind_some, show (58 : Int32) = i3 58 from rfl, take_w hs (by omega) hb]
  split
  · rw [Option.bind_some, if_neg (by simp)]
  · rw [Option.bind_some, if_neg (by simp)]
theorem obj_l {d : Nat} (hs : TSrc t src) {v7 y1 : Int32} {rec : RecV} {ok : JT d → Prop} (hokj : ∀ j, ok j → jok d j) {recA : List Nat → List Nat ⊕ (JT d × List Nat)} (hrec : RecOK t src v7 (y1 + 1) rec (jc d) recA) (hps : PS recA (fun v => (jc d v).length) ok) {r0 : RS} :
    ∀ (m n : Nat) (r : List Nat) (x0 : Int64) (L : List (Sx × JT d)) (r2 : RS), r <:+ src → r.length < m → r.length + 12000 < n → (∀ p ∈ L, sok p.1 ∧ jok d p.2) → Wr r0 (x0 :: L.flatMap oc) r2 → r2.2.2 = 0 → r2.2.1 + r.length ≤ 4096 → 2 * L.length + r.length ≤ 4096 →
    RO r0 src v7 (fD_object_b rec t.1 (i3 t.2.1) t.2.2 n 1 1 (i3 L.length) (i3 r0.2.1) y1 r2.1 (i3 r2.2.1) r2.2.2 (pos src r) v7) (match pF recA m (L.map (fun p => p.1)) r with | .inl x => .inl x | .inr (l, rest) => .inr (lst 6 (L.length + l.length) ((L ++ l).flatMap oc), rest)) := by
  intro m
  induction m with
  | zero => intro n r x0 L r2 _ h; omega
  | succ m ih =>
    intro n r x0 L r2 h hm hn hL hw h0 hsz hc
    obtain ⟨n, rfl⟩ : ∃ j, n = j + 1 := ⟨n - 1, by omega⟩
    have hb := (blk_suf r).trans h
    have hbl := blk_len r
    have hend := hw.end0 h0
    rw [List.length_cons] at hend
    have hstr := string_r hs (n := n) (by omega) hw.v (v7 := v7) hb (m := r.length + 1) (by omega)
    rw [fD_object_b, if_neg (by decide), if_neg (by rw [show (4096 : Int32) = i3 4096 from rfl, i3_le (by omega) (by omega)]; omega), skip_w hs h (by omega), Option.bind_some, show fR_size n r2.1 (i3 r2.2.1) r2.2.2 = some (i3 r2.2.1) from rfl, Option.bind_some, pF]
    unfold pM
    by_cases hq : (blk r).head? = some 34
    · have htl := tail_len hq
      have hpss := pS_suf (r.length + 1) (blk r).tail
      rw [if_pos hq] at hstr ⊢
      cases hpS : pS (r.length + 1) (blk r).tail with
      | inl x =>
        rw [hpS] at hstr
        obtain ⟨r', a, e1, g1, g2⟩ := hstr
        rw [e1, Option.bind_some, if_pos rfl]
        exact ⟨r', a, rfl, g1, g2⟩
      | inr q =>
        obtain ⟨s, r4⟩ := q
        rw [hpS] at hstr
        obtain ⟨r3, e1, w3, g2⟩ := hstr
        obtain ⟨z1, z2, z3⟩ := hpss.2 s r4 hpS
        have h30 := w3.fits h0 (by rw [strc_len]; omega)
        have hend3 := w3.end0 h30
        rw [strc_len] at hend3
        have hw3 : Wr r0 (x0 :: (L.flatMap oc ++ strc s)) r3 := hw.app w3
        obtain ⟨r5, x1, e5, w5, hnew⟩ := isNew_w (n := n) (by omega) hL z3 hw3 h30 (v7 := v7) (st := pos src (blk r)) (t1 := t.1) (t2 := i3 t.2.1) (t3 := t.2.2) (a6 := pos src r4)
        rw [e1, Option.bind_some, if_neg (show ¬ (1 : Int32) = 0 by decide)]
        dsimp only
        rw [show i3 r2.2.1 = i3 (r0.2.1 + 1 + (L.flatMap oc).length) by congr 1; omega, hnew, Option.bind_some]
        by_cases hin : s ∈ L.map (fun p => p.1)
        · rw [if_pos hin, if_pos hin, if_pos rfl]
          exact ⟨r5, _, by rw [e5], w5.v, hb⟩
        · have hb4 := (blk_suf r4).trans g2
          have hbl4 := blk_len r4
          rw [if_neg hin, if_neg hin, if_neg (show ¬ (1 : Int32) = 0 by decide)]
          dsimp only
          rw [colon_w hs g2 (by omega)]
          by_cases h58 : (blk r4).head? = some 58
          · have htl4 := tail_len h58
            rw [if_pos h58, if_pos h58, Option.bind_some, if_neg (show ¬ (1 : Int32) = 0 by decide)]
            dsimp only
            have h50 : r5.2.2 = 0 := by rw [e5]; exact h30
            have h51 : r5.2.1 = r3.2.1 := by rw [e5]
            have hval := hrec (blk r4).tail r5 ((tail_suf _).trans hb4) w5.v h50 (by omega)
            rw [h51] at hval
            obtain ⟨p1, p2⟩ := hps (blk r4).tail
            have e52 : r5.2.2 = r3.2.2 := by rw [e5]
            rw [e52] at hval
            cases hv : recA (blk r4).tail with
            | inl x =>
              rw [hv] at hval
              obtain ⟨r', a, e6, g3, g4⟩ := hval
              rw [e6, Option.bind_some, if_pos rfl]
              exact ⟨r', a, rfl, g3, g4⟩
            | inr q =>
              obtain ⟨v, r6⟩ := q
              rw [hv] at hval
              obtain ⟨r7, e6, w7, g3⟩ := hval
              obtain ⟨q1, q2, q3, q4⟩ := p2 v r6 hv
              dsimp only at q2 q3
              have w7' : Wr r5 (jc d v) r7 := w7
              have h70 := w7'.fits h50 (by omega)
              have hend7 := w7'.end0 h70
              have hw7 : Wr r0 (x1 :: (L ++ [(s, v)]).flatMap oc) r7 := by
                rw [List.flatMap_append]
                have := w5.app w7'
                simpa using this
              have hb6 := (blk_suf r6).trans g3
              have hbl6 := blk_len r6
              have hL' : ∀ p ∈ L ++ [(s, v)], sok p.1 ∧ jok d p.2 := fun p hp => by
                rcases List.mem_append.mp hp with hp | hp
                · exact hL p hp
                · rw [List.mem_singleton.mp hp]
                  exact ⟨z3, hokj v q4⟩
              have hLl : (L ++ [(s, v)]).length = L.length + 1 := by simp
              rw [e6, Option.bind_some, if_neg (show ¬ (1 : Int32) = 0 by decide)]
              dsimp only
              rw [comma_w hs g3 (by omega)]
              by_cases hcm : (blk r6).head? = some 44
              · have htl6 := tail_len hcm
                rw [if_pos hcm, if_pos hcm, Option.bind_some, i3_one]
                have := ih n (blk r6).tail x1 (L ++ [(s, v)]) r7 ((tail_suf _).trans hb6) (by omega) (by omega) hL' hw7 h70 (by omega) (by rw [hLl]; omega)
                rw [List.map_append, hLl] at this
                rw [show [(s, v)].map (fun p : Sx × JT d => p.1) = [s] from rfl] at this
                cases hp : pF recA m (L.map (fun p => p.1) ++ [s]) (blk r6).tail with
                | inl x => rw [hp] at this; exact this
                | inr q =>
                  obtain ⟨l, rest⟩ := q
                  rw [hp] at this
                  dsimp only at this ⊢
                  rw [List.length_cons, show L.length + (l.length + 1) = L.length + 1 + l.length by omega, show L ++ (s, v) :: l = L ++ [(s, v)] ++ l by simp]
                  exact this
              · rw [if_neg hcm, if_neg hcm, Option.bind_some, i3_one]
                obtain ⟨n, rfl⟩ : ∃ j, n = j + 1 := ⟨n - 1, by omega⟩
                obtain ⟨r8, e8, e9, w8⟩ := close_z (n := n) (k := 6) (len := L.length + 1) hw7 h70 (by omega) (by omega)
                dsimp only
                rw [fD_object_b, if_pos rfl, show (6 : Int32) = i3 6 from rfl, e8, Option.bind_some, show (125 : Int32) = i3 125 from rfl, take_w hs (by omega) hb6]
                by_cases h125 : (blk r6).head? = some 125
                · rw [if_pos h125, if_pos h125, Option.bind_some, if_neg (by simp)]
                  exact ⟨r8, by rw [e9], w8, (tail_suf _).trans hb6⟩
                · rw [if_neg h125, if_neg h125, Option.bind_some, if_neg (by simp)]
                  exact ⟨r8, _, by rw [e9], w8.v, hb6⟩
          · rw [if_neg h58, if_neg h58, Option.bind_some, if_pos rfl]
            exact ⟨r5, _, by rw [e5], w5.v, hb4⟩
    · rw [if_neg hq] at hstr ⊢
      obtain ⟨r', a, e1, g1, g2⟩ := hstr
      rw [e1, Option.bind_some, if_pos rfl]
      exact ⟨r', a, rfl, g1, g2⟩
theorem object_r {d : Nat} (hs : TSrc t src) (hn : 20000 < n) {v7 y1 : Int32} {rec : RecV} {ok : JT d → Prop} (hokj : ∀ j, ok j → jok d j) {recA : List Nat → List Nat ⊕ (JT d × List Nat)} (hrec : RecOK t src v7 (y1 + 1) rec (jc d) recA) (hps : PS recA (fun v => (jc d v).length) ok) {r0 : RS} {r : List Nat} {c : Nat} (h : (c :: r) <:+ src) (hr0 : RV r0) (h0 : r0.2.2 = 0) (hsz : r0.2.1 + (r.length + 1) ≤ 4096) : RO r0 src v7 (fD_object rec n y1 t.1 (i3 t.2.1) t.2.2 r0.1 (i3 r0.2.1) r0.2.2 (pos src (c :: r)) v7) (match pO recA r with | .inl x => .inl x | .inr (l, rest) => .inr (lst 6 l.length (l.flatMap oc), rest)) := by
  have hr := (List.suffix_cons c r).trans h
  have hb := (blk_suf r).trans hr
  have hbl := blk_len r
  obtain ⟨h1, h2, h3⟩ := suf_lt hs hb
  obtain ⟨_, h4, _⟩ := suf_lt hs h
  rw [List.length_cons] at h4
  obtain ⟨r1, e1, w1⟩ := open_w (n := n) hr0
  have h10 := w1.fits h0 (by simp; omega)
  have hend := w1.end0 h10
  rw [List.length_singleton] at hend
  have hhead : i3 r1.2.1 - 1 = i3 r0.2.1 := by
    rw [i3_pred (by omega)]
    congr 1
    omega
  unfold fD_object pO
  rw [e1, Option.bind_some]
  dsimp only
  rw [pos_c hs h, skip_w hs hr (by omega), Option.bind_some, at_h hs hb, Option.bind_some, hhead]
  by_cases h93 : (blk r).head? = some 125
  · rw [if_pos (by rw [show (125 : Int32) = i3 125 from rfl, hv_eq h1 (by omega)]; exact h93), if_pos h93]
    obtain ⟨n, rfl⟩ : ∃ j, n = j + 1 := ⟨n - 1, by omega⟩
    obtain ⟨r5, e5, e6, w5⟩ := close_z (n := n) (k := 6) (len := 0) w1 h10 (by omega) (by omega)
    have e5' : fR_close n (i3 r0.2.1) 6 0 r1.1 (i3 r1.2.1) r1.2.2 = some r5.1 := e5
    rw [fD_object_b, if_pos rfl, e5', Option.bind_some, show (125 : Int32) = i3 125 from rfl, take_w hs (by omega) hb, if_pos h93, Option.bind_some, if_neg (by simp)]
    exact ⟨r5, by rw [e6], w5, (tail_suf _).trans hb⟩
  · rw [if_neg (by rw [show (125 : Int32) = i3 125 from rfl, hv_eq h1 (by omega)]; exact h93), if_neg h93]
    have := obj_l hs hokj hrec hps (r0 := r0) (r.length + 1) n (blk r) _ [] r1 hb (by omega) (by omega) (fun p hp => absurd hp (by simp)) w1 h10 (by omega) (by rw [List.length_nil]; omega)
    have e0 : (([] : List (Sx × JT d)).map (fun p => p.1)) = [] := rfl
    rw [e0] at this
    cases hp : pF recA (r.length + 1) [] (blk r) with
    | inl x => rw [hp] at this; exact this
    | inr q =>
      obtain ⟨l, rest⟩ := q
      rw [hp] at this
      dsimp only at this ⊢
      rw [List.length_nil, Nat.zero_add, List.nil_append] at this
      exact this
theorem mp_wd {k j : Nat} {r : List Nat} : mp (jc (k + 1)) (pWd j r) = (match pw (wd j) r with | .inl x => .inl x | .inr r1 => .inr ([cW (j : Nat)], r1)) := by
  unfold pWd
  cases pw (wd j) r <;> rfl
theorem mp_mp {α β γ : Type} {g : α → β} {g' : β → γ} {x : List Nat ⊕ (α × List Nat)} : mp g' (mp g x) = mp (fun a => g' (g a)) x := by
  cases x <;> rfl
/-- a value, the lists in it read by what is given -/
theorem value_c (hs : TSrc t src) (hn : 20000 < n) {v7 : Int32} {k fu : Nat} {x1 : Int32} {r : List Nat} {row : RS} (h : r <:+ src) (hrow : RV row) (A O : List Nat ⊕ (JT (k + 1) × List Nat))
    (hA : ∀ c r', blk r = c :: r' → c = 91 → RO row src v7 (if 40 ≤ x1 then some (0, row.1, i3 row.2.1, row.2.2, pos src (blk r), pos src (blk r)) else fD_array (fD_value fu n) n x1 t.1 (i3 t.2.1) t.2.2 row.1 (i3 row.2.1) row.2.2 (pos src (blk r)) v7) (mp (jc (k + 1)) A))
    (hO : ∀ c r', blk r = c :: r' → c = 123 → RO row src v7 (if 40 ≤ x1 then some (0, row.1, i3 row.2.1, row.2.2, pos src (blk r), pos src (blk r)) else fD_object (fD_value fu n) n x1 t.1 (i3 t.2.1) t.2.2 row.1 (i3 row.2.1) row.2.2 (pos src (blk r)) v7) (mp (jc (k + 1)) O)) :
    RO row src v7 (fD_value (fu + 1) n x1 t.1 (i3 t.2.1) t.2.2 row.1 (i3 row.2.1) row.2.2 (pos src r) v7) (mp (jc (k + 1)) (if (blk r).head? = some 110 then pWd 0 (blk r) else if (blk r).head? = some 102 then pWd 1 (blk r) else if (blk r).head? = some 116 then pWd 2 (blk r) else if (blk r).head? = some 34 then mp js (pS (r.length + 1) (blk r).tail)
    else if (blk r).head? = some 91 then A else if (blk r).head? = some 123 then O else mp jn (pN (blk r)))) := by
  have hb := (blk_suf r).trans h
  have hbl := blk_len r
  obtain ⟨h1, h2, h3⟩ := suf_lt hs hb
  obtain ⟨w0, w1, w2⟩ := word_r hs (n := n) hrow (v7 := v7) hb
  have hst := string_r hs (n := n) (by omega) hrow (v7 := v7) hb (m := r.length + 1) (by omega)
  have hnm := number_r hs (n := n) (by omega) hrow (v7 := v7) hb
  have hq : ∀ c, c < 256 → (hv (blk r) = i3 c) = ((blk r).head? = some c) := fun c hc => hv_eq h1 hc
  have hq34 : (hv (blk r) = 34) = ((blk r).head? = some 34) := hq 34 (by omega)
  have hq91 : (hv (blk r) = 91) = ((blk r).head? = some 91) := hq 91 (by omega)
  have hq102 : (hv (blk r) = 102) = ((blk r).head? = some 102) := hq 102 (by omega)
  have hq110 : (hv (blk r) = 110) = ((blk r).head? = some 110) := hq 110 (by omega)
  have hq116 : (hv (blk r) = 116) = ((blk r).head? = some 116) := hq 116 (by omega)
  have hq123 : (hv (blk r) = 123) = ((blk r).head? = some 123) := hq 123 (by omega)
  have brk : ∀ X : Option Out6, ∀ res, RO row src v7 (if 40 ≤ x1 then some (0, row.1, i3 row.2.1, row.2.2, pos src (blk r), pos src (blk r)) else X) res → RO row src v7 (if 40 ≤ x1 then (fD_broken n (pos src (blk r)) t.1 (i3 t.2.1) t.2.2 row.1 (i3 row.2.1) row.2.2 (pos src (blk r)) v7).bind fun o12 => if ¬ (o12.1 = 0 ∨ o12.1 = 1) then none else some (o12.1, row.1, i3 row.2.1, row.2.2, (pos src (blk r)), o12.2) else X.bind fun o => if ¬ (o.1 = 0 ∨ o.1 = 1) then none else some (o.1, o.2.1, o.2.2.1, o.2.2.2.1, o.2.2.2.2.1, o.2.2.2.2.2)) res := fun X res hX => by
    split
    · rename_i h40
      rw [if_pos h40] at hX
      unfold fD_broken
      rw [Option.bind_some, if_neg (by simp)]
      exact hX
    · rename_i h40
      rw [if_neg h40] at hX
      exact hX.chk
  rw [fD_value, skip_w hs h (by omega), Option.bind_some, at_h hs hb, Option.bind_some]
  cases hbr : blk r with
  | nil =>
    rw [hbr] at hnm
    rw [if_neg (by decide), if_neg (by decide), if_neg (by decide), if_neg (by decide), if_neg (by decide), if_neg (by decide), if_neg (by simp), if_neg (by simp), if_neg (by simp), if_neg (by simp), if_neg (by simp), if_neg (by simp), mp_mp]
    exact hnm.chk
  | cons c r' =>
    have hc : c < 256 := by
      rw [hbr] at h1
      exact h1 c (List.mem_cons_self ..)
    have hcc : ∀ d : Nat, d < 256 → (hv (c :: r') = i3 d) = (c = d) := fun d hd => i3_eq (by omega) (by omega)
    have g34 : (hv (c :: r') = 34) = (c = 34) := hcc 34 (by omega)
    have g91 : (hv (c :: r') = 91) = (c = 91) := hcc 91 (by omega)
    have g102 : (hv (c :: r') = 102) = (c = 102) := hcc 102 (by omega)
    have g110 : (hv (c :: r') = 110) = (c = 110) := hcc 110 (by omega)
    have g116 : (hv (c :: r') = 116) = (c = 116) := hcc 116 (by omega)
    have g123 : (hv (c :: r') = 123) = (c = 123) := hcc 123 (by omega)
    simp only [List.head?_cons, Option.some.injEq]
    rw [hbr] at w0 w1 w2 hst hnm brk hA hO
    by_cases e34 : c = 34
    · subst e34
      rw [if_pos (by rw [g34]), if_neg (by omega), if_neg (by omega), if_neg (by omega), if_pos rfl, mp_mp]
      rw [if_pos (by simp)] at hst
      exact hst.chk
    rw [if_neg (by rw [g34]; exact e34)]
    by_cases e91 : c = 91
    · subst e91
      rw [if_pos (by rw [g91]), if_neg (show ¬ (91 : Nat) = 110 by omega), if_neg (show ¬ (91 : Nat) = 102 by omega), if_neg (show ¬ (91 : Nat) = 116 by omega), if_neg (show ¬ (91 : Nat) = 34 by omega), if_pos (show (91 : Nat) = 91 from rfl)]
      exact brk _ _ (hA 91 r' rfl rfl)
    rw [if_neg (by rw [g91]; exact e91)]
    by_cases e102 : c = 102
    · subst e102
      rw [if_pos (by rw [g102]), if_neg (by omega), if_pos rfl, mp_wd]
      exact w1.chk
    rw [if_neg (by rw [g102]; exact e102)]
    by_cases e110 : c = 110
    · subst e110
      rw [if_pos (by rw [g110]), if_pos rfl, mp_wd]
      exact w0.chk
    rw [if_neg (by rw [g110]; exact e110)]
    by_cases e116 : c = 116
    · subst e116
      rw [if_pos (by rw [g116]), if_neg (by omega), if_neg (by omega), if_pos rfl, mp_wd]
      exact w2.chk
    rw [if_neg (by rw [g116]; exact e116)]
    by_cases e123 : c = 123
    · subst e123
      rw [if_pos (by rw [g123]), if_neg (show ¬ (123 : Nat) = 110 by omega), if_neg (show ¬ (123 : Nat) = 102 by omega), if_neg (show ¬ (123 : Nat) = 116 by omega), if_neg (show ¬ (123 : Nat) = 34 by omega), if_neg (show ¬ (123 : Nat) = 91 by omega), if_pos (show (123 : Nat) = 123 from rfl)]
      exact brk _ _ (hO 123 r' rfl rfl)
    rw [if_neg (by rw [g123]; exact e123), if_neg e110, if_neg e102, if_neg e116, if_neg e34, if_neg e91, if_neg e123, mp_mp]
    exact hnm.chk
theorem value_r (hs : TSrc t src) (hn : 20000 < n) {v7 : Int32} : ∀ (k o fu : Nat), o ≤ k → o ≤ 40 → k < fu → RecOK t src v7 (i3 (40 - o)) (fD_value fu n) (jc (k + 1)) (pV k o) := by
  intro k
  induction k with
  | zero =>
    intro o fu ho ho40 hfu r row h hrow h0 hsz
    obtain ⟨fu, rfl⟩ : ∃ j, fu = j + 1 := ⟨fu - 1, by omega⟩
    obtain rfl : o = 0 := by omega
    have hb := (blk_suf r).trans h
    have := value_c hs hn (v7 := v7) (fu := fu) (k := 0) (x1 := i3 (40 - 0)) h hrow (.inl (blk r)) (.inl (blk r)) (fun c r' _ _ => by
      rw [if_pos (by decide)]
      exact ⟨row, _, rfl, hrow, hb⟩) (fun c r' _ _ => by
      rw [if_pos (by decide)]
      exact ⟨row, _, rfl, hrow, hb⟩)
    rw [pV]
    have e1 : (if (blk r).head? = some 91 then (.inl (blk r) : List Nat ⊕ (JT (0 + 1) × List Nat)) else if (blk r).head? = some 123 then .inl (blk r) else mp jn (pN (blk r))) = (if (blk r).head? = some 91 ∨ (blk r).head? = some 123 then .inl (blk r) else mp jn (pN (blk r))) := by
      by_cases g1 : (blk r).head? = some 91
      · rw [if_pos g1, if_pos (Or.inl g1)]
      · rw [if_neg g1]
        by_cases g2 : (blk r).head? = some 123
        · rw [if_pos g2, if_pos (Or.inr g2)]
        · rw [if_neg g2, if_neg (fun g => g.elim g1 g2)]
    rw [e1] at this
    exact this
  | succ k ih =>
    intro o fu ho ho40 hfu r row h hrow h0 hsz
    obtain ⟨fu, rfl⟩ : ∃ j, fu = j + 1 := ⟨fu - 1, by omega⟩
    have hb := (blk_suf r).trans h
    have hbl := blk_len r
    have hx : ∀ {c r'}, blk r = c :: r' → (c :: r') <:+ src ∧ row.2.1 + (r'.length + 1) ≤ 4096 := fun {c r'} e => by
      rw [e] at hb hbl
      rw [List.length_cons] at hbl
      exact ⟨hb, by omega⟩
    have hk1 : o ≠ 0 → RecOK t src v7 (i3 (40 - o) + 1) (fD_value fu n) (jc (k + 1)) (pV k (o - 1)) := fun hne => by
      rw [i3_one, show 40 - o + 1 = 40 - (o - 1) by omega]
      exact ih (o - 1) fu (by omega) (by omega) (by omega)
    have hc40 : (40 ≤ i3 (40 - o)) = (o = 0) := by
      rw [show (40 : Int32) = i3 40 from rfl, i3_le (by omega) (by omega)]
      exact propext (by omega)
    have hpv := fun hne : o ≠ 0 => pV_suf k (o - 1) (by omega)
    have := value_c hs hn (v7 := v7) (fu := fu) (k := k + 1) (x1 := i3 (40 - o)) h hrow (if o = 0 then .inl (blk r) else mp ja (pA (pV k (o - 1)) (blk r).tail)) (if o = 0 then .inl (blk r) else mp jo (pO (pV k (o - 1)) (blk r).tail)) (fun c r' e1 e2 => by
      obtain ⟨g1, g2⟩ := hx e1
      by_cases hne : o = 0
      · rw [if_pos (by rw [hc40]; exact hne), if_pos hne]
        exact ⟨row, _, rfl, hrow, hb⟩
      · rw [if_neg (by rw [hc40]; exact hne), if_neg hne, e1, mp_mp]
        have ha := array_r hs hn (hk1 hne) (hpv hne) g1 hrow h0 g2
        rw [List.tail_cons]
        cases hp : pA (pV k (o - 1)) r' with
        | inl x => rw [hp] at ha; exact ha
        | inr q =>
          obtain ⟨l, rest⟩ := q
          rw [hp] at ha
          exact ha) (fun c r' e1 e2 => by
      obtain ⟨g1, g2⟩ := hx e1
      by_cases hne : o = 0
      · rw [if_pos (by rw [hc40]; exact hne), if_pos hne]
        exact ⟨row, _, rfl, hrow, hb⟩
      · rw [if_neg (by rw [hc40]; exact hne), if_neg hne, e1, mp_mp]
        have ha := object_r hs hn (fun j hj => hj.1) (hk1 hne) (hpv hne) g1 hrow h0 g2
        rw [List.tail_cons]
        cases hp : pO (pV k (o - 1)) r' with
        | inl x => rw [hp] at ha; exact ha
        | inr q =>
          obtain ⟨l, rest⟩ := q
          rw [hp] at ha
          exact ha)
    rw [pV]
    exact this
/-- the whole text -/
theorem readValue_w (hs : TSrc t src) (hn : 20000 < n) {k fu : Nat} (hk : 40 ≤ k) (hfu : k < fu) {row : RS} (hrow : RV row) (h0 : row.2.1 = 0 ∧ row.2.2 = 0) : ∃ (r' : RS) (a : Int32), RV r' ∧ (match pT k 40 src with
    | .inl x => fD_readValue fu n t.1 (i3 t.2.1) t.2.2 row.1 (i3 row.2.1) row.2.2 0 (-1) = some (pos src x, r'.1, i3 r'.2.1, r'.2.2, a, pos src x) ∧ x <:+ src
    | .inr j => fD_readValue fu n t.1 (i3 t.2.1) t.2.2 row.1 (i3 row.2.1) row.2.2 0 (-1) = some (-1, r'.1, i3 r'.2.1, r'.2.2, a, -1) ∧ Wr row (jc (k + 1) j) r' ∧ jok (k + 1) j ∧ jd (k + 1) j ≤ 40) := by
  have hsl := hs.2.2
  have hv := value_r hs hn (v7 := -1) k 40 fu hk (by omega) hfu src row (List.suffix_refl _) hrow h0.2 (by omega)
  have hp0 : pos src src = 0 := by unfold pos; rw [Nat.sub_self]; rfl
  rw [hp0] at hv
  have hv' : RO row src (-1) (fD_value fu n 0 t.1 (i3 t.2.1) t.2.2 row.1 (i3 row.2.1) row.2.2 0 (-1)) (mp (jc (k + 1)) (pV k 40 src)) := hv
  obtain ⟨p1, p2⟩ := pV_suf k 40 hk src
  unfold fD_readValue pT
  cases hp : pV k 40 src with
  | inl x =>
    rw [hp] at hv'
    obtain ⟨r', a, e1, g1, g2⟩ := hv'
    refine ⟨r', a, g1, ?_, g2⟩
    rw [e1, Option.bind_some, if_pos rfl]
  | inr q =>
    obtain ⟨j, r1⟩ := q
    rw [hp] at hv'
    obtain ⟨r', e1, g1, g2⟩ := hv'
    obtain ⟨q1, q2, q3, q4⟩ := p2 j r1 hp
    have hb := (blk_suf r1).trans g2
    refine ⟨r', pos src (blk r1), g1.v, ?_⟩
    dsimp only
    rw [e1, Option.bind_some, if_neg (show ¬ (1 : Int32) = 0 by decide)]
    dsimp only
    rw [skip_w hs g2 (by omega), Option.bind_some]
    unfold fD_demandEnd
    rw [show fT_size n t.1 (i3 t.2.1) t.2.2 = some (i3 t.2.1) from rfl, Option.bind_some]
    by_cases hbe : blk r1 = []
    · rw [if_pos hbe]
      dsimp only
      rw [if_pos (show i3 t.2.1 ≤ pos src (blk r1) by rw [size_le hs hb]; exact hbe)]
      exact ⟨rfl, g1, q4.1, q4.2⟩
    · rw [if_neg hbe]
      dsimp only
      rw [if_neg (show ¬ i3 t.2.1 ≤ pos src (blk r1) by rw [size_le hs hb]; exact hbe)]
      exact ⟨rfl, hb⟩
/-- a number alone -/
def pTN (src : List Nat) : Option Int := match pN src with
  | .inl _ => none
  | .inr (z, r) => if r = [] then some z else none
theorem readNumber_w (hs : TSrc t src) (hn : 20000 < n) {row : RS} (hrow : RV row) : ∃ (r' : RS) (a b c : Int32), RV r' ∧ fD_readNumber n t.1 (i3 t.2.1) t.2.2 row.1 (i3 row.2.1) row.2.2 0 (-1) = some (a, r'.1, i3 r'.2.1, r'.2.2, b, c) ∧ (match pTN src with
    | none => a ≠ -1
    | some z => a = -1 ∧ Wr row [cW (z * 8 + 3)] r' ∧ -9007199254740991 ≤ z ∧ z ≤ 9007199254740991) := by
  have hp0 : pos src src = 0 := by unfold pos; rw [Nat.sub_self]; rfl
  have hv := number_r hs (n := n) (by omega) hrow (v7 := -1) (List.suffix_refl src)
  rw [hp0] at hv
  obtain ⟨p1, p2⟩ := pN_suf src
  unfold fD_readNumber pTN
  cases hp : pN src with
  | inl x =>
    rw [hp] at hv
    obtain ⟨r', a, e1, g1, g2⟩ := hv
    refine ⟨r', pos src x, a, pos src x, g1, ?_, ?_⟩
    · rw [e1, Option.bind_some, if_pos rfl]
    · intro h
      rw [pos_m1 hs g2] at h
      exact h
  | inr q =>
    obtain ⟨z, r1⟩ := q
    rw [hp] at hv
    obtain ⟨r', e1, g1, g2⟩ := hv
    obtain ⟨q1, q2, q3, q4⟩ := p2 z r1 hp
    rw [e1, Option.bind_some, if_neg (show ¬ (1 : Int32) = 0 by decide)]
    unfold fD_demandEnd
    rw [show fT_size n t.1 (i3 t.2.1) t.2.2 = some (i3 t.2.1) from rfl, Option.bind_some]
    dsimp only
    by_cases hbe : r1 = []
    · rw [if_pos hbe, if_pos (show i3 t.2.1 ≤ pos src r1 by rw [size_le hs g2]; exact hbe)]
      exact ⟨r', -1, pos src r1, -1, g1.v, rfl, rfl, g1, q3, q4⟩
    · rw [if_neg hbe, if_neg (show ¬ i3 t.2.1 ≤ pos src r1 by rw [size_le hs g2]; exact hbe)]
      refine ⟨r', pos src r1, pos src r1, pos src r1, g1.v, rfl, ?_⟩
      dsimp only
      intro h
      rw [pos_m1 hs g2] at h
      exact h
end RV2
end ZRdv38
