section RA
variable {st : xS} {vs : List VR} {cs : List Nat} {ks ws : List NP} {n : Nat}
theorem MS.cl (hM : MS st vs cs ks ws) : vs.length ≤ 2 * bV ∧ cs.length ≤ 2 * bC ∧ ks.length ≤ 2 * bK ∧ ws.length ≤ 2 * bK := by
  obtain ⟨_, r1, r2, r3, r4, r5, r6, r7⟩ := hM
  exact ⟨by omega, by omega, by omega, by omega⟩
theorem SV.top (hM : MS st vs cs ks ws) {f : Nat → Int32} {hi : Nat} (h : SV st f hi) (h3 : xsr st = 3) : hi ≤ cs.length := by
  obtain ⟨t, t0, t1, t2⟩ := h.2.2.2 h3
  have := hM.cl.2.1
  rw [hM.1.1.2.1] at t1
  unfold bC at this
  have := (i3_eq (by omega) t0).mp t1
  omega
/-- the state with one more character, where there is room -/
theorem put_c (hM : MS st vs cs ks ws) {c : Nat} (hc : c < 128) (hr : cs.length < xln st 3) : MS (xsI (xsB st 3 cs.length (i3 c)) 4 (i3 (cs.length + 1))) vs (cs ++ [c]) ks ws ∧ Fr0 st (xsI (xsB st 3 cs.length (i3 c)) 4 (i3 (cs.length + 1))) ∧ SK st (xsI (xsB st 3 cs.length (i3 c)) 4 (i3 (cs.length + 1))) := by
  have hM' := hM
  have hcl := hM.cl.2.1
  unfold bC at hcl
  obtain ⟨⟨⟨h1, h2, h3, h4⟩, h5, h6, h7, h8⟩, r1, r2, r3, r4, r5, r6, r7⟩ := hM
  refine ⟨⟨⟨⟨h1, ?_, h3, h4⟩, h5, fun i x hx => ?_, h7, h8⟩, r1, r2, ⟨?_, r3.2⟩, r4, r5, r6, r7⟩, ⟨fun k _ k2 _ _ => up_ne k2, fun k _ k2 _ _ _ _ => ⟨rfl, up_ne k2⟩⟩, ?_⟩
  · rw [List.length_append]
    rfl
  · show upd (xba st 3) cs.length (i3 c) i = i3 x ∧ x < 128
    rcases get_snoc hx with ⟨h, hi⟩ | ⟨rfl, rfl⟩
    · rw [upd_ne (by omega)]
      exact h6 i x h
    · exact ⟨upd_eq, hc⟩
  · rw [List.length_append]
    exact hr
  · refine ⟨?_, fun _ => rfl⟩
    intro f hi hS
    have hS' := hS
    obtain ⟨s1, s2, s3, s4⟩ := hS'
    refine ⟨s1, s2, fun i hi' => ?_, fun h => ⟨cs.length + 1, by omega, rfl, ?_⟩⟩
    · rw [← s3 i hi']
      show xrb (xsB st 3 cs.length (i3 c)) (xsr st) i = _
      unfold xrb
      split
      · show va_up (xba st) 3 (upd (xba st 3) cs.length (i3 c)) (xsr st) i = xba st (xsr st) i
        by_cases h3' : xsr st = 3
        · have := SV.top hM' hS h3'
          rw [h3', up_eq]
          exact upd_ne (by omega)
        · rw [up_ne h3']
      · rfl
    · have := SV.top hM' hS h
      omega
/-- a longer row of characters -/
theorem grow_c (hM : MS st vs cs ks ws) {m : Nat} {f : Nat → Int32} (hm : xln st 3 ≤ m) (hm2 : m ≤ 2 * bC) (hf : ∀ i, i < cs.length → f i = xba st 3 i) : MS (xsO st m f) vs cs ks ws ∧ Fr0 st (xsO st m f) ∧ SK st (xsO st m f) ∧ pt (xsO st m f) + 2 * xln st 3 = pt st + 2 * m := by
  have hM' := hM
  obtain ⟨⟨⟨h1, h2, h3, h4⟩, h5, h6, h7, h8⟩, r1, r2, r3, r4, r5, r6, r7⟩ := hM
  refine ⟨⟨⟨⟨h1, h2, h3, h4⟩, h5, fun i x hx => ?_, h7, h8⟩, r1, r2, ?_, r4, r5, r6, ?_⟩, ⟨fun k _ k2 _ _ => rfl, fun k _ k2 _ _ _ _ => ⟨up_ne k2, up_ne k2⟩⟩, ?_, ?_⟩
  · show f i = i3 x ∧ x < 128
    rw [hf i (List.getElem?_eq_some_iff.mp hx).1]
    exact h6 i x hx
  · show cs.length ≤ m ∧ 64 ≤ m ∧ m ≤ 2 * bC
    omega
  · show (if xsr st = 3 then 41 + xgl st else xsr st) < 41 + (xgl st + 1)
    split <;> omega
  · refine ⟨?_, fun h => if_neg h⟩
    intro g hi hS
    obtain ⟨s1, s2, s3, s4⟩ := hS
    by_cases h3' : xsr st = 3
    · have hsr : xsr (xsO st m f) = 41 + xgl st := if_pos h3'
      refine ⟨?_, ?_, fun i hi' => ?_, fun h => ?_⟩
      · rw [hsr]
        show 41 + xgl st = 3 ∨ (32 ≤ 41 + xgl st ∧ 41 + xgl st < 41) ∨ (41 ≤ 41 + xgl st ∧ 41 + xgl st < 41 + (xgl st + 1))
        omega
      · rw [hsr]
        unfold xrl
        rw [if_neg (by omega), show 41 + xgl st - 41 = xgl st by omega]
        show hi ≤ va_up (xgn st) (xgl st) (xln st 3) (xgl st)
        rw [up_eq]
        rw [h3'] at s2
        exact s2
      · rw [hsr]
        unfold xrb
        rw [if_neg (by omega), show 41 + xgl st - 41 = xgl st by omega]
        show va_up (xgb st) (xgl st) (xba st 3) (xgl st) i = g i
        rw [up_eq, ← s3 i hi', h3']
        rfl
      · rw [hsr] at h
        omega
    · have hsr : xsr (xsO st m f) = xsr st := if_neg h3'
      refine ⟨?_, ?_, fun i hi' => ?_, fun h => absurd (hsr ▸ h) h3'⟩
      · rw [hsr]
        show xsr st = 3 ∨ (32 ≤ xsr st ∧ xsr st < 41) ∨ (41 ≤ xsr st ∧ xsr st < 41 + (xgl st + 1))
        rcases s1 with s1 | s1 | s1 <;> omega
      · rw [hsr]
        refine Nat.le_trans s2 (Nat.le_of_eq ?_)
        unfold xrl
        split
        · exact (up_ne h3').symm
        · exact (up_ne (by omega)).symm
      · rw [hsr, ← s3 i hi']
        unfold xrb
        split
        · exact congrFun (up_ne h3') i
        · exact congrFun (up_ne (by omega)) i
  · show 2 * (xln st 1 + m + xln st 5 + xln st 6 + xln st 10 + xln st 11 + xln st 13 + xln st 14 + xln st 21) + 6 * xct st + 2 * xln st 3 = pt st + 2 * m
    unfold pt
    omega
theorem nar_l {c : Nat} (hc : c < 128) : vp_nar .byte (i3 c).toInt8.toInt32 = i3 c := by
  rw [vp_nb, nar_c c hc, nar_c c hc]
theorem letter_loop (hM : MS st vs cs ks ws) {c m wc wn : Nat} (hc : c < 128) (hsr : xsr st < 41 + xgl st) (hm : cs.length < m) (hm2 : m ≤ 2 * bC) : ∀ (q n i : Nat) (tf : Nat → Int32), i + q = cs.length → q < n → (∀ k, k < i → tf k = xba st 3 k) → ∃ tf' : Nat → Int32, fM_letter_b n 1 (i3 i) (i3 c) m tf st wc wn = some (wc, wn, xsI (xsB (xsO st m tf') 3 cs.length (i3 c)) 4 (i3 (cs.length + 1))) ∧ (∀ k, k < cs.length → tf' k = xba st 3 k) := by
  have hcl := hM.cl.2.1
  unfold bC at hcl hm2
  have h2 := hM.1.1.2.1
  have r3 := hM.2.2.2.1
  intro q
  induction q with
  | zero =>
    intro n i tf hi hn htf
    obtain ⟨n, rfl⟩ : ∃ j, n = j + 1 := ⟨n - 1, by omega⟩
    obtain rfl : i = cs.length := by omega
    refine ⟨tf, ?_, htf⟩
    rw [fM_letter_b, h2, if_pos (by rw [i3_le (by omega) (by omega)]; omega), if_neg (by omega), if_neg (i3_idx (by omega) (by omega)), i3_N (by omega), i3_one, nar_l hc]
    exact xmo_some (Nat.le_refl _) (Nat.le_refl _)
  | succ q ih =>
    intro n i tf hi hn htf
    obtain ⟨n, rfl⟩ : ∃ j, n = j + 1 := ⟨n - 1, by omega⟩
    have hx : cs[i]? = some cs[i] := List.getElem?_eq_getElem (by omega)
    obtain ⟨x1, x2⟩ := hM.1.2.2.1 i _ hx
    obtain ⟨tf', e1, e2⟩ := ih n (i + 1) (upd tf i (xba st 3 i)) (by omega) (by omega) (fun k hk => by
      by_cases hk' : k = i
      · rw [hk', upd_eq]
      · rw [upd_ne hk', htf k (by omega)])
    refine ⟨tf', ?_, e2⟩
    rw [fM_letter_b, h2, if_neg (by rw [i3_le (by omega) (by omega)]; omega), if_neg (i3_idx (by omega) (by omega)), if_neg (i3_idx (by omega) (by omega)), i3_N (by omega), i3_one, vp_nb, x1, nar_c _ x2, ← x1, e1]
    exact xmo_some (Nat.le_refl _) (Nat.le_refl _)
theorem letter_w (hM : MS st vs cs ks ws) {c : Nat} (hc : c < 128) (hb : cs.length + 1 ≤ bC) (hn : bC < n) : ∃ (cc s : Nat) (st' : xS), fM_letter n st (i3 c) = some (cc, s, st') ∧ MS st' vs (cs ++ [c]) ks ws ∧ Cost st st' cc s ∧ Fr0 st st' ∧ SK st st' := by
  have hcl := hM.cl.2.1
  have h2 := hM.1.1.2.1
  have r3 := hM.2.2.2.1
  have hsr := hM.2.2.2.2.2.2.2
  unfold fM_letter
  by_cases hf : cs.length = xln st 3
  · have hbc : bC = 100000 := rfl
    have e2 : (2 : Int32) * i3 cs.length = i3 (2 * cs.length) := i3_mul 2 cs.length
    rw [h2, e2, if_pos (by rw [← hf]; rfl), i3_N (by omega), if_neg (fun h => h.elim (i3_nn (by omega)) (by omega))]
    obtain ⟨tf, e1, g1⟩ := letter_loop hM hc (m := 2 * cs.length) (wc := 0 + 1) (wn := 0 + 2 * cs.length) hsr (by omega) (by omega) cs.length n 0 (fun _ => 0) (by omega) (by omega) (fun k hk => absurd hk (by omega))
    have e1' : fM_letter_b n 1 0 (i3 c) (2 * cs.length) (fun _ => 0) st (0 + 1) (0 + 2 * cs.length) = _ := e1
    rw [e1']
    obtain ⟨m1, m2, m3, m4⟩ := grow_c hM (m := 2 * cs.length) (f := tf) (by omega) (by omega) g1
    obtain ⟨p1, p2, p3⟩ := put_c m1 hc (show cs.length < 2 * cs.length by omega)
    refine ⟨_, _, _, xmo_some (Nat.le_refl _) (Nat.le_refl _), p1, ⟨by omega, ?_⟩, m2.trans p2, m3.trans p3⟩
    show 0 + 2 * cs.length + pt st ≤ pt (xsO st (2 * cs.length) tf)
    omega
  · have hbc : bC = 100000 := rfl
    rw [h2, if_neg (by rw [show Int32.ofNat (xln st 3) = i3 (xln st 3) from rfl, i3_eq (by omega) (by omega)]; exact hf), if_neg (i3_idx (by omega) (by omega)), i3_N (by omega), i3_one, nar_l hc]
    obtain ⟨p1, p2, p3⟩ := put_c hM hc (by omega)
    exact ⟨0, 0, _, rfl, p1, ⟨by omega, Nat.le_of_eq (by rw [Nat.zero_add]; rfl)⟩, p2, p3⟩
end RA
