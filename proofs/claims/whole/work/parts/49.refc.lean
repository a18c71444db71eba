/-! ===== the reference: strings, numbers, what waits ===== -/
/-- costs with e exceptions -/
def CostE (st st' : xS) (c s e : Nat) : Prop := 6 * c ≤ s ∧ s + pt st ≤ pt st' + 6 * e
theorem Cost.e {st st' : xS} {c s : Nat} (h : Cost st st' c s) : CostE st st' c s 0 := ⟨h.1, h.2⟩
theorem CostE.trans {a b d : xS} {c c' s s' e e' : Nat} (h : CostE a b c s e) (h' : CostE b d c' s' e') : CostE a d (c + c') (s + s') (e + e') := ⟨by have := h.1; have := h'.1; omega, by have := h.2; have := h'.2; omega⟩
def isStr (vs : List VR) (cs : List Nat) (c : Nat) (s : Sx) : Prop := 1 ≤ c ∧ ∃ v, vs[c - 1]? = some v ∧ v.1 = 4 ∧ v.2.2.1 = s.length ∧ v.2.2.2.1 = 0 ∧ v.2.2.2.2.1 = s.length + 1 ∧ (∀ i x, s[i]? = some x → cs[v.2.1 + i]? = some x)
section RC2
variable {st : xS} {vs : List VR} {cs : List Nat} {ks ws : List NP} {n : Nat}
theorem MS.vc (hM : MS st vs cs ks ws) {c : Nat} (h1 : 1 ≤ c) {v : VR} (hv : vs[c - 1]? = some v) : ¬ (c = 0 ∨ xct st < c) ∧ VRat st (c - 1) v ∧ c ≤ vs.length := by
  have hl := (List.getElem?_eq_some_iff.mp hv).1
  have := hM.2.2.1.1
  exact ⟨by omega, hM.1.2.1 _ _ hv, by omega⟩
theorem letters_loop {c from' : Nat} {v : VR} {s : Sx} {cs0 : List Nat} (h1 : 1 ≤ c) (hv : vs[c - 1]? = some v) (hsz : v.2.2.1 = s.length) (hs : ∀ i x, s[i]? = some x → cs0[v.2.1 + i]? = some x) (hb : cs0.length + s.length ≤ bC) : ∀ (q n i : Nat) (st : xS) (wc wn : Nat), i + q = s.length → MS st vs (cs0 ++ s.take i) ks ws → bC + q < n → ∃ (cc k : Nat) (st' : xS), fM_letters_b n 1 (i3 i) c st wc wn = some (wc + cc, wn + k, st') ∧ MS st' vs (cs0 ++ s) ks ws ∧ Cost st st' cc k ∧ Fr0 st st' ∧ SK st st' := by
  have hbc : bC = 100000 := rfl
  intro q
  induction q with
  | zero =>
    intro n i st wc wn hi hM hn
    obtain ⟨n, rfl⟩ : ∃ j, n = j + 1 := ⟨n - 1, by omega⟩
    obtain ⟨g1, g2, _⟩ := hM.vc h1 hv
    refine ⟨0, 0, st, ?_, by rw [List.take_of_length_le (by omega)] at hM; exact hM, Cost.refl, Fr0.refl, SK.refl⟩
    rw [fM_letters_b, if_neg g1, g2.2.2.1, hsz, if_pos (by rw [i3_le (by omega) (by omega)]; omega)]
    exact xmo_some (Nat.le_refl _) (Nat.le_refl _)
  | succ q ih =>
    intro n i st wc wn hi hM hn
    obtain ⟨n, rfl⟩ : ∃ j, n = j + 1 := ⟨n - 1, by omega⟩
    obtain ⟨g1, g2, _⟩ := hM.vc h1 hv
    have hx : s[i]? = some s[i] := List.getElem?_eq_getElem (by omega)
    have hc := hs i _ hx
    have hcl := (List.getElem?_eq_some_iff.mp hc).1
    obtain ⟨y1, y2⟩ := hM.1.2.2.1 (v.2.1 + i) s[i] (by rw [List.getElem?_append_left hcl]; exact hc)
    have hln := hM.2.2.2.1.1
    rw [List.length_append] at hln
    obtain ⟨cc, k, st1, e1, m1, m2, m3, m4⟩ := letter_w (n := n) hM y2 (by rw [List.length_append, List.length_take]; omega) (by omega)
    have hm1 : MS st1 vs (cs0 ++ s.take (i + 1)) ks ws := by
      rw [List.take_add_one, hx, ← List.append_assoc]
      exact m1
    obtain ⟨cc', k', st2, e2, q1, q2, q3, q4⟩ := ih n (i + 1) st1 (wc + cc) (wn + k) (by omega) hm1 (by omega)
    refine ⟨cc + cc', k + k', st2, ?_, q1, m2.trans q2, m3.trans q3, m4.trans q4⟩
    rw [fM_letters_b, if_neg g1, g2.2.2.1, hsz, if_neg (by rw [i3_le (by omega) (by omega)]; omega), g2.2.1, i3_add, if_neg (i3_idx (by omega) (by omega)), i3_N (by omega), y1, e1, Option.bind_some, i3_one]
    dsimp only
    rw [e2, ← Nat.add_assoc, ← Nat.add_assoc]
    have hin : xmo (fun a : Nat × Nat × xS => a.1) (fun a => a.2.1) (wc + cc) (wn + k) (some (wc + cc + cc', wn + k + k', st2)) = some (wc + cc + cc', wn + k + k', st2) := xmo_some (by show wc + cc ≤ wc + cc + cc'; omega) (by show wn + k ≤ wn + k + k'; omega)
    rw [hin]
    exact xmo_some (by show wc ≤ wc + cc + cc'; omega) (by show wn ≤ wn + k + k'; omega)
theorem letters_w (hM : MS st vs cs ks ws) {c : Nat} {s : Sx} (hs : isStr vs cs c s) (hb : cs.length + s.length ≤ bC) (hn : 2 * bC < n) : ∃ (cc k : Nat) (st' : xS), fM_letters n st c = some (cc, k, st') ∧ MS st' vs (cs ++ s) ks ws ∧ Cost st st' cc k ∧ Fr0 st st' ∧ SK st st' := by
  have hbc : bC = 100000 := rfl
  obtain ⟨h1, v, hv, _, hsz, _, _, hg⟩ := hs
  obtain ⟨cc, k, st', e1, r⟩ := letters_loop (ks := ks) (ws := ws) (from' := 0) h1 hv hsz hg hb s.length n 0 st 0 0 (by omega) (by rw [List.take_zero, List.append_nil]; exact hM) (by omega)
  refine ⟨cc, k, st', ?_, r⟩
  rw [Nat.zero_add, Nat.zero_add] at e1
  exact e1
/-- the last value's record is set anew -/
theorem set_last {w : VR} (hM : MS st (vs ++ [w]) cs ks ws) {st' : xS} {v : VR} (h1 : VRat st' vs.length v) (h2 : ∀ i x, i < vs.length → VRat st i x → VRat st' i x) (h3 : st'.1 = st.1) (h4 : st'.2.1 = st.2.1) (h5 : st'.2.2.1 = st.2.2.1) (h6 : st'.2.2.2.1 = st.2.2.2.1) (h7 : st'.2.2.2.2.2.2 = st.2.2.2.2.2.2) : MS st' (vs ++ [v]) cs ks ws ∧ Fr0 st st' ∧ SK st st' ∧ pt st' = pt st := by
  obtain ⟨a1, a2, a3, a4, a5, a6, a7⟩ := st
  obtain ⟨b1, b2, b3, b4, b5, b6, b7⟩ := st'
  dsimp only at h3 h4 h5 h6 h7
  subst h3 h4 h5 h6 h7
  obtain ⟨⟨⟨k1, k2, k3, k4⟩, k5, k6, k7, k8⟩, r1, r2, r3, r4, r5, r6, r7⟩ := hM
  refine ⟨⟨⟨⟨?_, k2, k3, k4⟩, fun i x hx => ?_, k6, k7, k8⟩, r1, ⟨?_, r2.2⟩, r3, r4, r5, r6, r7⟩, ⟨fun _ _ _ _ _ => rfl, fun _ _ _ _ _ _ _ => ⟨rfl, rfl⟩⟩, SK.same rfl rfl rfl rfl (fun _ _ => ⟨rfl, rfl⟩) rfl, rfl⟩
  · rw [List.length_append] at k1 ⊢
    exact k1
  · rcases get_snoc hx with ⟨h, hi⟩ | ⟨rfl, rfl⟩
    · exact h2 i x hi (k5 i x (by rw [List.getElem?_append_left hi]; exact h))
    · exact h1
  · have := r2.1
    rw [List.length_append] at this ⊢
    exact this
theorem i3_sub' {a b : Nat} (h : b ≤ a) : i3 a - i3 b = i3 (a - b) := i3_sub h
theorem string_w (hM : MS st vs cs ks ws) {x0 : Nat} (hx : x0 ≤ cs.length) (hb : vs.length + 1 ≤ bV) (hn : bV < n) : ∃ (cc s : Nat) (st' : xS), fM_string n st (i3 x0) = (if 1 + (cs.length - x0) ≤ 60000 then some (0, cc, s, vs.length + 1, st') else some (1, cc + 1, s + 6, 0, st')) ∧ MS st' (vs ++ [(4, x0, cs.length - x0, 0, 1 + (cs.length - x0), 0)]) cs ks ws ∧ Cost st st' cc s ∧ Fr0 st st' ∧ SK st st' := by
  have hbc : bC = 100000 := rfl
  have hcl := hM.cl.2.1
  obtain ⟨cc, s, st1, e1, m1, m2, m3, m4⟩ := fresh_w hM 4 hb hn
  have e1' : fM_fresh n st 4 = some (cc, s, vs.length + 1, st1) := e1
  have hct := m1.2.2.1.1
  rw [List.length_append, List.length_singleton] at hct
  have h4 := m1.1.1.2.1
  have hv := m1.1.2.1 vs.length _ (by rw [List.getElem?_append_right (Nat.le_refl _), Nat.sub_self]; rfl)
  have hlast := set_last m1 (st' := xsP (xsP (xsP st1 2 (vs.length + 1 - 1) (i3 x0)) 3 (vs.length + 1 - 1) (i3 (cs.length - x0))) 5 (vs.length + 1 - 1) (i3 (1 + (cs.length - x0)))) (v := (4, x0, cs.length - x0, 0, 1 + (cs.length - x0), 0)) (by
    rw [Nat.add_sub_cancel]
    obtain ⟨a0, a1, a2, a3, a4, a5⟩ := hv
    exact ⟨a0, upd_eq, upd_eq, a3, upd_eq, a5⟩) (fun i x hi hx => by
    rw [Nat.add_sub_cancel]
    obtain ⟨a0, a1, a2, a3, a4, a5⟩ := hx
    have hne : i ≠ vs.length := by omega
    exact ⟨a0, (upd_ne hne).trans a1, (upd_ne hne).trans a2, a3, (upd_ne hne).trans a4, a5⟩) rfl rfl rfl rfl rfl
  obtain ⟨l1, l2, l3, l4⟩ := hlast
  refine ⟨cc, s, _, ?_, l1, ⟨m2.1, by have := m2.2; omega⟩, m3.trans l2, m4.trans l3⟩
  unfold fM_string
  rw [e1', Option.bind_some]
  dsimp only
  have e60 : (60000 : Int32) = i3 60000 := rfl
  have e5 : (1 : Int32) + i3 (cs.length - x0) = i3 (1 + (cs.length - x0)) := i3_add 1 _
  rw [if_neg (by omega), upd_eq, upd_eq, h4, i3_sub' hx, e5]
  have hcmp : (i3 (1 + (cs.length - x0)) ≤ (60000 : Int32)) = (1 + (cs.length - x0) ≤ 60000) := by rw [e60, i3_le (by omega) (by omega)]
  by_cases hw : 1 + (cs.length - x0) ≤ 60000
  · rw [if_pos (hcmp ▸ hw), if_pos hw, Nat.zero_add, Nat.zero_add]
    exact xmo_some (Nat.le_refl _) (Nat.le_refl _)
  · rw [if_neg (hcmp ▸ hw), if_neg hw]
    unfold fM_limit
    rw [Option.bind_some, if_pos rfl, Nat.zero_add, Nat.zero_add, Nat.zero_add, Nat.zero_add]
    have hin : ∀ z : xS, xmo (fun a : Nat × Nat × Nat × Nat × xS => a.2.1) (fun a => a.2.2.1) (cc + 1) (s + 6) (some (1, cc + 1, s + 6, 0, z)) = some (1, cc + 1, s + 6, 0, z) := fun z => xmo_some (Nat.le_refl _) (Nat.le_refl _)
    dsimp only
    rw [hin]
    exact xmo_some (by show cc ≤ cc + 1; omega) (by show s ≤ s + 6; omega)
theorem numM_w (hM : MS st vs cs ks ws) {z : Int} (h1 : -9223372036854775808 ≤ z) (h2 : z < 9223372036854775808) (hb : vs.length + 1 ≤ bV) (hn : bV < n) : (-9007199254740991 ≤ z ∧ z ≤ 9007199254740991 → ∃ (cc s : Nat) (st' : xS), fM_number n st (cW z) = some (0, cc, s, vs.length + 1, st') ∧ MS st' (vs ++ [(3, 0, 0, 0, 1, z)]) cs ks ws ∧ Cost st st' cc s ∧ Fr0 st st' ∧ SK st st') ∧ (¬ (-9007199254740991 ≤ z ∧ z ≤ 9007199254740991) → fM_number n st (cW z) = some (1, 1, 6, 0, xsI st 8 2)) := by
  have c1 : (0 < lg_cmp (cW z) 9007199254740991) = (9007199254740991 < z) := by
    rw [show (9007199254740991 : Int64) = cW 9007199254740991 from rfl, lg_cW h1 h2 (by omega) (by omega), izs_gt0]
    exact propext (by omega)
  have c2 : (0 ≤ lg_cmp (cW z) (-9007199254740991)) = (-9007199254740991 ≤ z) := by
    rw [show (-9007199254740991 : Int64) = cW (-9007199254740991) from rfl, lg_cW h1 h2 (by omega) (by omega), izs_ge0]
    exact propext (by omega)
  have ref : ∀ x : Option (Nat × Nat × Nat × Nat × xS), x = ((fM_refuse n st 2).bind fun o1 => (if o1.1 = 1 then xmo (fun a => a.2.1) (fun a => a.2.2.1) (0 + o1.2.1) (0 + o1.2.2.1) (some (1, (0 + o1.2.1), (0 + o1.2.2.1), 0, o1.2.2.2.2)) else none)) → x = some (1, 1, 6, 0, xsI st 8 2) := fun x hx => by
    rw [hx]
    unfold fM_refuse
    rw [Option.bind_some, if_pos rfl]
    exact xmo_some (Nat.le_refl _) (Nat.le_refl _)
  constructor
  · intro hz
    obtain ⟨cc, s, st1, e1, m1, m2, m3, m4⟩ := fresh_w hM 3 hb hn
    have e1' : fM_fresh n st 3 = some (cc, s, vs.length + 1, st1) := e1
    have hct := m1.2.2.1.1
    rw [List.length_append, List.length_singleton] at hct
    have hv := m1.1.2.1 vs.length _ (by rw [List.getElem?_append_right (Nat.le_refl _), Nat.sub_self]; rfl)
    obtain ⟨l1, l2, l3, l4⟩ := set_last m1 (st' := xsN st1 (vs.length + 1 - 1) (cW z)) (v := (3, 0, 0, 0, 1, z)) (by
      rw [Nat.add_sub_cancel]
      obtain ⟨a0, a1, a2, a3, a4, a5⟩ := hv
      exact ⟨a0, a1, a2, a3, a4, up_eq⟩) (fun i x hi hx => by
      rw [Nat.add_sub_cancel]
      obtain ⟨a0, a1, a2, a3, a4, a5⟩ := hx
      have hne : i ≠ vs.length := by omega
      exact ⟨a0, a1, a2, a3, a4, (up_ne hne).trans a5⟩) rfl rfl rfl rfl rfl
    refine ⟨cc, s, _, ?_, l1, ⟨m2.1, by have := m2.2; omega⟩, m3.trans l2, m4.trans l3⟩
    unfold fM_number
    rw [if_neg (by rw [c1]; omega), if_pos (by rw [c2]; exact hz.1), e1', Option.bind_some]
    dsimp only
    rw [if_neg (by omega), Nat.zero_add, Nat.zero_add]
    exact xmo_some (Nat.le_refl _) (Nat.le_refl _)
  · intro hz
    unfold fM_number
    by_cases hg : 9007199254740991 < z
    · rw [if_pos (by rw [c1]; exact hg)]
      exact ref _ rfl
    · rw [if_neg (by rw [c1]; exact hg), if_neg (by rw [c2]; omega)]
      exact ref _ rfl
theorem kid_w (hM : MS st vs cs ks ws) {c i : Nat} {v : VR} {p : NP} (h1 : 1 ≤ c) (hv : vs[c - 1]? = some v) (hp : ks[v.2.1 + i]? = some p) : fM_kid n st c (i3 i) = some p.1 ∧ fM_name n st c (i3 i) = some p.2 := by
  obtain ⟨g1, g2, _⟩ := hM.vc h1 hv
  have hl := (List.getElem?_eq_some_iff.mp hp).1
  have hcl := hM.cl.2.2.1
  have hbk : bK = 32000 := rfl
  have r4 := hM.2.2.2.2.1
  obtain ⟨k1, k2⟩ := hM.1.2.2.2.1 _ _ hp
  unfold fM_kid fM_name
  rw [if_neg g1, g2.2.1, i3_add, if_neg (i3_idx (by omega) (by omega)), i3_N (by omega), k1, if_neg g1, if_neg (i3_id2 (by omega) (by omega)), k2]
  exact ⟨rfl, rfl⟩
theorem put_w2 (hM : MS st vs cs ks ws) {a b : Nat} (ha : a ≤ xct st) (hb : b ≤ xct st) (hr : ws.length < xln st 10) : MS (xsI (xsC (xsC st 10 ws.length a) 11 ws.length b) 12 (i3 (ws.length + 1))) vs cs ks (ws ++ [(a, b)]) ∧ Fr0 st (xsI (xsC (xsC st 10 ws.length a) 11 ws.length b) 12 (i3 (ws.length + 1))) ∧ SK st (xsI (xsC (xsC st 10 ws.length a) 11 ws.length b) 12 (i3 (ws.length + 1))) := by
  obtain ⟨⟨⟨h1, h2, h3, h4⟩, h5, h6, h7, h8⟩, r1, r2, r3, r4, r5, r6, r7⟩ := hM
  refine ⟨⟨⟨⟨h1, h2, h3, ?_⟩, h5, h6, h7, fun i x hx => ?_⟩, r1, r2, r3, r4, ⟨?_, r5.2⟩, fun i => ?_, r7⟩, ⟨fun k _ _ _ k4 => up_ne k4, fun k _ _ _ _ _ _ => ⟨rfl, rfl⟩⟩, SK.same rfl rfl rfl rfl (fun _ _ => ⟨rfl, rfl⟩) rfl⟩
  · rw [List.length_append]
    rfl
  · show va_up (xvc st 10) ws.length a i = x.1 ∧ va_up (xvc st 11) ws.length b i = x.2
    rcases get_snoc hx with ⟨h, hi⟩ | ⟨rfl, rfl⟩
    · rw [up_ne (by omega), up_ne (by omega)]
      exact h8 i x h
    · exact ⟨up_eq, up_eq⟩
  · rw [List.length_append]
    exact hr
  · obtain ⟨b1, b2, b3, b4, b5⟩ := r6 i
    refine ⟨b1, b2, b3, ?_, ?_⟩
    · show va_up (xvc st 10) ws.length a i ≤ xct st
      by_cases hi : i = ws.length
      · rw [hi, up_eq]; exact ha
      · rw [up_ne hi]; exact b4
    · show va_up (xvc st 11) ws.length b i ≤ xct st
      by_cases hi : i = ws.length
      · rw [hi, up_eq]; exact hb
      · rw [up_ne hi]; exact b5
theorem grow_w (hM : MS st vs cs ks ws) {m : Nat} {f g : Nat → Nat} (hm : xln st 10 ≤ m) (hm2 : m ≤ 2 * bK) (hf : ∀ i, i < ws.length → f i = xvc st 10 i ∧ g i = xvc st 11 i) (hf2 : ∀ i, f i ≤ xct st ∧ g i ≤ xct st) : MS (xsH (xsH st 10 m f) 11 m g) vs cs ks ws ∧ Fr0 st (xsH (xsH st 10 m f) 11 m g) ∧ SK st (xsH (xsH st 10 m f) 11 m g) ∧ pt (xsH (xsH st 10 m f) 11 m g) + 4 * xln st 10 = pt st + 4 * m := by
  obtain ⟨⟨⟨h1, h2, h3, h4⟩, h5, h6, h7, h8⟩, r1, r2, r3, r4, r5, r6, r7⟩ := hM
  refine ⟨⟨⟨⟨h1, h2, h3, h4⟩, h5, h6, h7, fun i x hx => ?_⟩, r1, r2, r3, r4, ?_, fun i => ?_, r7⟩, ⟨fun k k1 _ _ _ => rfl, fun k _ _ _ _ k5 k6 => ⟨(up_ne k6).trans (up_ne k5), rfl⟩⟩, SK.same rfl rfl rfl rfl (fun k hk => ⟨(up_ne (by omega)).trans (up_ne (by omega)), rfl⟩) rfl, ?_⟩
  · show f i = x.1 ∧ g i = x.2
    obtain ⟨f1, f2⟩ := hf i (List.getElem?_eq_some_iff.mp hx).1
    rw [f1, f2]
    exact h8 i x hx
  · show ws.length ≤ m ∧ m = m ∧ 64 ≤ m ∧ m ≤ 2 * bK
    omega
  · obtain ⟨b1, b2, b3, b4, b5⟩ := r6 i
    exact ⟨b1, b2, b3, (hf2 i).1, (hf2 i).2⟩
  · show 2 * (xln st 1 + xln st 3 + xln st 5 + xln st 6 + m + m + xln st 13 + xln st 14 + xln st 21) + 6 * xct st + 4 * xln st 10 = pt st + 4 * m
    unfold pt
    omega
theorem wait_loop (hM : MS st vs cs ks ws) {a b m wc wn : Nat} (ha : a ≤ xct st) (hb : b ≤ xct st) (hm : ws.length < m) (hm2 : m ≤ 2 * bK) : ∀ (q n i : Nat) (f g : Nat → Nat), i + q = ws.length → q < n → (∀ k, k < i → f k = xvc st 10 k ∧ g k = xvc st 11 k) → (∀ k, f k ≤ xct st ∧ g k ≤ xct st) → ∃ f' g' : Nat → Nat, fM_wait_b n 1 (i3 i) b a m f m g st wc wn = some (wc, wn, xsI (xsC (xsC (xsH (xsH st 10 m f') 11 m g') 10 ws.length a) 11 ws.length b) 12 (i3 (ws.length + 1))) ∧ (∀ k, k < ws.length → f' k = xvc st 10 k ∧ g' k = xvc st 11 k) ∧ (∀ k, f' k ≤ xct st ∧ g' k ≤ xct st) := by
  have hcl := hM.cl.2.2.2
  have hbk : bK = 32000 := rfl
  have h4 := hM.1.1.2.2.2
  have r5 := hM.2.2.2.2.2.1
  have r6 := hM.2.2.2.2.2.2.1
  intro q
  induction q with
  | zero =>
    intro n i f g hi hn hfg hle
    obtain ⟨n, rfl⟩ : ∃ j, n = j + 1 := ⟨n - 1, by omega⟩
    obtain rfl : i = ws.length := by omega
    refine ⟨f, g, ?_, hfg, hle⟩
    rw [fM_wait_b, h4, if_pos (by rw [i3_le (by omega) (by omega)]; omega), if_neg (by omega), if_neg (i3_idx (by omega) (by omega)), if_neg (by omega), if_neg (i3_idx (by omega) (by omega)), i3_N (by omega), i3_one]
    exact xmo_some (Nat.le_refl _) (Nat.le_refl _)
  | succ q ih =>
    intro n i f g hi hn hfg hle
    obtain ⟨n, rfl⟩ : ∃ j, n = j + 1 := ⟨n - 1, by omega⟩
    obtain ⟨_, _, _, b4, b5⟩ := r6 i
    obtain ⟨f', g', e1, e2, e3⟩ := ih n (i + 1) (va_up f i (xvc st 10 i)) (va_up g i (xvc st 11 i)) (by omega) (by omega) (fun k hk => by
      by_cases hk' : k = i
      · rw [hk', up_eq, up_eq]
        exact ⟨rfl, rfl⟩
      · rw [up_ne hk', up_ne hk']
        exact hfg k (by omega)) (fun k => by
      by_cases hk' : k = i
      · rw [hk', up_eq, up_eq]
        exact ⟨b4, b5⟩
      · rw [up_ne hk', up_ne hk']
        exact hle k)
    refine ⟨f', g', ?_, e2, e3⟩
    rw [fM_wait_b, h4, if_neg (by rw [i3_le (by omega) (by omega)]; omega), if_neg (i3_idx (by omega) (by omega)), i3_N (by omega), if_neg (by omega), if_neg (i3_id2 (by omega) (by omega)), if_neg (i3_id2 (by omega) (by omega)), if_neg (by omega), if_neg (i3_id2 (by omega) (by omega)), i3_one, e1]
    exact xmo_some (Nat.le_refl _) (Nat.le_refl _)
theorem wait_w (hM : MS st vs cs ks ws) {a b : Nat} (ha : a ≤ vs.length) (hb : b ≤ vs.length) (hl : ws.length + 1 ≤ bK) (hn : bK < n) : ∃ (cc s : Nat) (st' : xS), fM_wait n st b a = some (cc, s, st') ∧ MS st' vs cs ks (ws ++ [(a, b)]) ∧ Cost st st' cc s ∧ Fr0 st st' ∧ SK st st' := by
  have hcl := hM.cl.2.2.2
  have hbk : bK = 32000 := rfl
  have h4 := hM.1.1.2.2.2
  have r2 := hM.2.2.1
  have r5 := hM.2.2.2.2.2.1
  unfold fM_wait
  by_cases hf : ws.length = xln st 10
  · have e2 : (2 : Int32) * i3 ws.length = i3 (2 * ws.length) := i3_mul 2 ws.length
    rw [h4, e2, if_pos (by rw [← hf]; rfl), i3_N (by omega), if_neg (fun h => h.elim (i3_nn (by omega)) (by omega)), if_neg (fun h => h.elim (i3_nn (by omega)) (by omega))]
    obtain ⟨f, g, e1, g1, g2⟩ := wait_loop hM (a := a) (b := b) (m := 2 * ws.length) (wc := 0 + 1 + 1) (wn := 0 + 2 * ws.length + 2 * ws.length) (by omega) (by omega) (by omega) (by omega) ws.length n 0 (fun _ => 0) (fun _ => 0) (by omega) (by omega) (fun k hk => absurd hk (by omega)) (fun k => ⟨Nat.zero_le _, Nat.zero_le _⟩)
    have e1' : fM_wait_b n 1 0 b a (2 * ws.length) (fun _ => 0) (2 * ws.length) (fun _ => 0) st (0 + 1 + 1) (0 + 2 * ws.length + 2 * ws.length) = _ := e1
    rw [e1']
    obtain ⟨m1, m2, m3, m4⟩ := grow_w hM (m := 2 * ws.length) (f := f) (g := g) (by omega) (by omega) g1 g2
    obtain ⟨p1, p2, p3⟩ := put_w2 m1 (a := a) (b := b) (show a ≤ xct st by omega) (show b ≤ xct st by omega) (show ws.length < 2 * ws.length by omega)
    have hin : ∀ z : xS, xmo (fun a : Nat × Nat × xS => a.1) (fun a => a.2.1) (0 + 1 + 1) (0 + 2 * ws.length + 2 * ws.length) (some (0 + 1 + 1, 0 + 2 * ws.length + 2 * ws.length, z)) = some (0 + 1 + 1, 0 + 2 * ws.length + 2 * ws.length, z) := fun z => xmo_some (Nat.le_refl _) (Nat.le_refl _)
    rw [hin]
    refine ⟨_, _, _, xmo_some (by show 0 + 1 ≤ 0 + 1 + 1; omega) (by show 0 + 2 * ws.length ≤ 0 + 2 * ws.length + 2 * ws.length; omega), p1, ⟨by omega, ?_⟩, m2.trans p2, m3.trans p3⟩
    show 0 + 2 * ws.length + 2 * ws.length + pt st ≤ pt (xsH (xsH st 10 (2 * ws.length) f) 11 (2 * ws.length) g)
    omega
  · rw [h4, if_neg (by rw [show Int32.ofNat (xln st 10) = i3 (xln st 10) from rfl, i3_eq (by omega) (by omega)]; exact hf), if_neg (by omega), if_neg (i3_idx (by omega) (by omega)), if_neg (by omega), if_neg (i3_idx (by omega) (by omega)), i3_N (by omega), i3_one]
    obtain ⟨p1, p2, p3⟩ := put_w2 hM (a := a) (b := b) (by omega) (by omega) (by omega)
    exact ⟨0, 0, _, rfl, p1, ⟨by omega, Nat.le_of_eq (by rw [Nat.zero_add]; rfl)⟩, p2, p3⟩
end RC2
