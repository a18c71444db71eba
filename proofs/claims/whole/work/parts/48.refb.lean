section RB
theorem i3_id2 {p m : Nat} (h : p < m) (hp : p < 2147483648) : ¬ (i3 p < 0 ∨ m ≤ p) := fun h' => h'.elim (i3_nn hp) (by omega)
variable {st : xS} {vs : List VR} {cs : List Nat} {ks ws : List NP} {n : Nat}
/-- the source is where it was -/
theorem SK.same {st st' : xS} (h1 : xsr st' = xsr st) (h2 : xgl st' = xgl st) (h3 : xgn st' = xgn st) (h4 : xgb st' = xgb st) (h5 : ∀ k, (k = 3 ∨ 32 ≤ k) → xln st' k = xln st k ∧ xba st' k = xba st k) (h6 : xsi st' 4 = xsi st 4) : SK st st' := by
  refine ⟨?_, fun _ => h1⟩
  intro f hi ⟨s1, s2, s3, s4⟩
  have hl : xrl st' (xsr st) = xrl st (xsr st) ∧ xrb st' (xsr st) = xrb st (xsr st) := by
    unfold xrl xrb
    rw [h3, h4]
    split
    · rename_i hc
      exact h5 _ (by rcases s1 with s1 | s1 | s1 <;> omega)
    · exact ⟨rfl, rfl⟩
  refine ⟨?_, ?_, ?_, ?_⟩
  · rw [h1]
    show xsr st = 3 ∨ (32 ≤ xsr st ∧ xsr st < 41) ∨ (41 ≤ xsr st ∧ xsr st < 41 + xgl st')
    rw [h2]
    exact s1
  · rw [h1, hl.1]
    exact s2
  · rw [h1, hl.2]
    exact s3
  · rw [h1, h6]
    exact s4
def setV (st : xS) (c : Nat) (k : Int32) : xS := xsP (xsP (xsP (xsP (xsN (xsP st 0 (c - 1) k) (c - 1) 0) 2 (c - 1) 0) 3 (c - 1) 0) 4 (c - 1) 0) 5 (c - 1) 1
theorem put_v (hM : MS st vs cs ks ws) (hr : vs.length < xct st) (k : Nat) : MS (setV (xsI st 2 (i3 (vs.length + 1))) (vs.length + 1) (i3 k)) (vs ++ [(k, 0, 0, 0, 1, 0)]) cs ks ws ∧ Fr0 st (setV (xsI st 2 (i3 (vs.length + 1))) (vs.length + 1) (i3 k)) ∧ SK st (setV (xsI st 2 (i3 (vs.length + 1))) (vs.length + 1) (i3 k)) := by
  obtain ⟨⟨⟨h1, h2, h3, h4⟩, h5, h6, h7, h8⟩, r1, r2, r3, r4, r5, r6, r7⟩ := hM
  refine ⟨⟨⟨⟨?_, h2, h3, h4⟩, fun i x hx => ?_, h6, h7, h8⟩, r1, ⟨?_, r2.2⟩, r3, r4, r5, r6, r7⟩, ⟨fun k k1 _ _ _ => up_ne k1, fun k _ k2 _ _ _ _ => ⟨rfl, rfl⟩⟩, SK.same rfl rfl rfl rfl (fun _ _ => ⟨rfl, rfl⟩) rfl⟩
  · rw [List.length_append]
    rfl
  · rcases get_snoc hx with ⟨h, hi⟩ | ⟨rfl, rfl⟩
    · have := h5 i x h
      unfold VRat at this ⊢
      have hne : i ≠ vs.length + 1 - 1 := by omega
      refine ⟨?_, ?_, ?_, ?_, ?_, ?_⟩
      · show upd (xpi st 0) (vs.length + 1 - 1) (i3 k) i = _
        rw [upd_ne hne]; exact this.1
      · show upd (xpi st 2) (vs.length + 1 - 1) 0 i = _
        rw [upd_ne hne]; exact this.2.1
      · show upd (xpi st 3) (vs.length + 1 - 1) 0 i = _
        rw [upd_ne hne]; exact this.2.2.1
      · show upd (xpi st 4) (vs.length + 1 - 1) 0 i = _
        rw [upd_ne hne]; exact this.2.2.2.1
      · show upd (xpi st 5) (vs.length + 1 - 1) 1 i = _
        rw [upd_ne hne]; exact this.2.2.2.2.1
      · show va_up (xpl st) (vs.length + 1 - 1) 0 i = _
        rw [up_ne hne]; exact this.2.2.2.2.2
    · refine ⟨?_, ?_, ?_, ?_, ?_, ?_⟩
      · show upd (xpi st 0) (vs.length + 1 - 1) (i3 k) vs.length = _
        rw [Nat.add_sub_cancel, upd_eq]
      · show upd (xpi st 2) (vs.length + 1 - 1) 0 vs.length = _
        rw [Nat.add_sub_cancel, upd_eq]; rfl
      · show upd (xpi st 3) (vs.length + 1 - 1) 0 vs.length = _
        rw [Nat.add_sub_cancel, upd_eq]; rfl
      · show upd (xpi st 4) (vs.length + 1 - 1) 0 vs.length = _
        rw [Nat.add_sub_cancel, upd_eq]; rfl
      · show upd (xpi st 5) (vs.length + 1 - 1) 1 vs.length = _
        rw [Nat.add_sub_cancel, upd_eq]; rfl
      · show va_up (xpl st) (vs.length + 1 - 1) 0 vs.length = _
        rw [Nat.add_sub_cancel, up_eq]; rfl
  · rw [List.length_append]
    exact hr
/-- one more object -/
theorem more_v (hM : MS st vs cs ks ws) (hr : vs.length = xct st) (hl : xct st < xln st 1) : MS (xsC (xsA st) 1 vs.length (xct st + 1)) vs cs ks ws ∧ Fr0 st (xsC (xsA st) 1 vs.length (xct st + 1)) ∧ SK st (xsC (xsA st) 1 vs.length (xct st + 1)) ∧ pt (xsC (xsA st) 1 vs.length (xct st + 1)) = pt st + 6 := by
  obtain ⟨⟨⟨h1, h2, h3, h4⟩, h5, h6, h7, h8⟩, r1, r2, r3, r4, r5, r6, r7⟩ := hM
  refine ⟨⟨⟨⟨h1, h2, h3, h4⟩, fun i x hx => ?_, h6, h7, h8⟩, fun i => ?_, ⟨?_, ?_, r2.2.2⟩, r3, r4, r5, fun i => ?_, r7⟩, ⟨fun k k1 _ _ _ => rfl, fun k _ k2 _ _ _ _ => ⟨rfl, rfl⟩⟩, SK.same rfl rfl rfl rfl (fun _ _ => ⟨rfl, rfl⟩) rfl, ?_⟩
  · have hi := (List.getElem?_eq_some_iff.mp hx).1
    have hne : i ≠ xct st := by omega
    obtain ⟨a0, a1, a2, a3, a4, a5⟩ := h5 i x hx
    refine ⟨?_, ?_, ?_, ?_, ?_, ?_⟩
    · exact (upd_ne hne).trans a0
    · exact (upd_ne hne).trans a1
    · exact (upd_ne hne).trans a2
    · exact (upd_ne hne).trans a3
    · exact (upd_ne hne).trans a4
    · exact (up_ne hne).trans a5
  · show va_up (xvc st 1) vs.length (xct st + 1) i = if i < xct st + 1 then i + 1 else 0
    by_cases hi : i = vs.length
    · rw [hi, up_eq, hr, if_pos (by omega)]
    · rw [up_ne hi, r1 i]
      by_cases h : i < xct st
      · rw [if_pos h, if_pos (by omega)]
      · rw [if_neg h, if_neg (by omega)]
  · show vs.length ≤ xct st + 1
    omega
  · show xct st + 1 ≤ xln st 1
    omega
  · obtain ⟨b1, b2, b3, b4, b5⟩ := r6 i
    refine ⟨?_, Nat.le_succ_of_le b2, Nat.le_succ_of_le b3, Nat.le_succ_of_le b4, Nat.le_succ_of_le b5⟩
    show va_up (xvc st 1) vs.length (xct st + 1) i ≤ xct st + 1
    by_cases hi : i = vs.length
    · rw [hi, up_eq]
      exact Nat.le_refl _
    · rw [up_ne hi]
      exact Nat.le_succ_of_le b1
  · show 2 * (xln st 1 + xln st 3 + xln st 5 + xln st 6 + xln st 10 + xln st 11 + xln st 13 + xln st 14 + xln st 21) + 6 * (xct st + 1) = pt st + 6
    unfold pt
    omega
/-- a longer row of objects -/
theorem grow_v (hM : MS st vs cs ks ws) {m : Nat} {f : Nat → Nat} (hm : xln st 1 ≤ m) (hm2 : m ≤ 2 * bV) (hf : ∀ i, f i = xvc st 1 i) : MS (xsH st 1 m f) vs cs ks ws ∧ Fr0 st (xsH st 1 m f) ∧ SK st (xsH st 1 m f) ∧ pt (xsH st 1 m f) + 2 * xln st 1 = pt st + 2 * m := by
  obtain ⟨⟨⟨h1, h2, h3, h4⟩, h5, h6, h7, h8⟩, r1, r2, r3, r4, r5, r6, r7⟩ := hM
  refine ⟨⟨⟨⟨h1, h2, h3, h4⟩, h5, h6, h7, h8⟩, fun i => ?_, ⟨r2.1, ?_⟩, r3, r4, r5, fun i => ?_, r7⟩, ⟨fun k k1 _ _ _ => rfl, fun k k1 k2 _ _ _ _ => ⟨up_ne k1, rfl⟩⟩, SK.same rfl rfl rfl rfl (fun k hk => ⟨up_ne (by omega), rfl⟩) rfl, ?_⟩
  · exact (hf i).trans (r1 i)
  · show xct st ≤ m ∧ 64 ≤ m ∧ m ≤ 2 * bV
    omega
  · obtain ⟨b1, b2, b3, b4, b5⟩ := r6 i
    refine ⟨?_, b2, b3, b4, b5⟩
    show f i ≤ xct st
    rw [hf i]
    exact b1
  · show 2 * (m + xln st 3 + xln st 5 + xln st 6 + xln st 10 + xln st 11 + xln st 13 + xln st 14 + xln st 21) + 6 * xct st + 2 * xln st 1 = pt st + 2 * m
    unfold pt
    omega
theorem fresh_loop (hM : MS st vs cs ks ws) {k m wc wn : Nat} (hr : vs.length = xct st) (hl : xct st = xln st 1) (hm : vs.length < m) (hm2 : m ≤ 2 * bV) : ∀ (q n i : Nat) (tf : Nat → Nat), i + q = vs.length → q < n → (∀ j, tf j = if j < i then xvc st 1 j else 0) → ∃ tf' : Nat → Nat, fM_fresh_b n 1 (i3 i) (i3 k) m tf st wc wn = some (wc + 1, wn + 6, vs.length + 1, setV (xsI (xsC (xsA (xsH st 1 m tf')) 1 vs.length (xct st + 1)) 2 (i3 (vs.length + 1))) (vs.length + 1) (i3 k)) ∧ (∀ j, tf' j = xvc st 1 j) := by
  have hcl := hM.cl.1
  have hbv : bV = 32000 := rfl
  have h2 := hM.1.1.1
  have r1 := hM.2.1
  have r2 := hM.2.2.1
  intro q
  induction q with
  | zero =>
    intro n i tf hi hn htf
    obtain ⟨n, rfl⟩ : ∃ j, n = j + 1 := ⟨n - 1, by omega⟩
    obtain rfl : i = vs.length := by omega
    have hall : ∀ j, tf j = xvc st 1 j := fun j => by
      rw [htf j, r1 j]
      by_cases hj : j < vs.length
      · rw [if_pos hj]
      · rw [if_neg hj, if_neg (by omega)]
    have hg := (grow_v hM (m := m) (f := tf) (by omega) hm2 hall).1
    have htop : tf vs.length = 0 := by rw [htf, if_neg (by omega)]
    refine ⟨tf, ?_, hall⟩
    rw [fM_fresh_b, h2, if_pos (by rw [i3_le (by omega) (by omega)]; omega), if_neg (i3_idx (by omega) (by omega)), i3_N (by omega), htop, if_pos rfl, if_pos hg.2.2.2.2.2.2.1, if_neg (by omega), if_neg (i3_id2 (by omega) (by omega)), if_neg (i3_id2 (by omega) (by omega)), up_eq, if_neg (by omega), i3_one, hr, xmo_some (by exact Nat.le_refl _) (by exact Nat.le_refl _)]
    exact xmo_some (Nat.le_succ _) (by show wn ≤ wn + 6; omega)
  | succ q ih =>
    intro n i tf hi hn htf
    obtain ⟨n, rfl⟩ : ∃ j, n = j + 1 := ⟨n - 1, by omega⟩
    have hx := r1 i
    rw [if_pos (by omega)] at hx
    obtain ⟨tf', e1, e2⟩ := ih n (i + 1) (va_up tf i (xvc st 1 i)) (by omega) (by omega) (fun j => by
      by_cases hj : j = i
      · rw [hj, up_eq, if_pos (by omega)]
      · rw [up_ne hj, htf j]
        by_cases hj2 : j < i
        · rw [if_pos hj2, if_pos (by omega)]
        · rw [if_neg hj2, if_neg (by omega)])
    refine ⟨tf', ?_, e2⟩
    rw [fM_fresh_b, h2, if_neg (by rw [i3_le (by omega) (by omega)]; omega), if_neg (i3_idx (by omega) (by omega)), i3_N (by omega), if_neg (by omega), if_neg (i3_id2 (by omega) (by omega)), i3_one, e1]
    exact xmo_some (Nat.le_succ _) (by show wn ≤ wn + 6; omega)
theorem fresh_w (hM : MS st vs cs ks ws) (k : Nat) (hb : vs.length + 1 ≤ bV) (hn : bV < n) : ∃ (cc s : Nat) (st' : xS), fM_fresh n st (i3 k) = some (cc, s, vs.length + 1, st') ∧ MS st' (vs ++ [(k, 0, 0, 0, 1, 0)]) cs ks ws ∧ Cost st st' cc s ∧ Fr0 st st' ∧ SK st st' := by
  have hcl := hM.cl.1
  have hbv : bV = 32000 := rfl
  have h2 := hM.1.1.1
  have r1 := hM.2.1
  have r2 := hM.2.2.1
  have r6 := hM.2.2.2.2.2.2.1
  unfold fM_fresh
  by_cases hf : vs.length = xln st 1
  · have e2 : (2 : Int32) * i3 vs.length = i3 (2 * vs.length) := i3_mul 2 vs.length
    rw [h2, e2, if_pos (by rw [← hf]; rfl), i3_N (by omega), if_neg (fun h => h.elim (i3_nn (by omega)) (by omega))]
    obtain ⟨tf, e1, g1⟩ := fresh_loop hM (k := k) (m := 2 * vs.length) (wc := 0 + 1) (wn := 0 + 2 * vs.length) (by omega) (by omega) (by omega) (by omega) vs.length n 0 (fun _ => 0) (by omega) (by omega) (fun j => by rw [if_neg (by omega)])
    have e1' : fM_fresh_b n 1 0 (i3 k) (2 * vs.length) (fun _ => 0) st (0 + 1) (0 + 2 * vs.length) = _ := e1
    rw [e1']
    obtain ⟨m1, m2, m3, m4⟩ := grow_v hM (m := 2 * vs.length) (f := tf) (by omega) (by omega) g1
    obtain ⟨q1, q2, q3, q4⟩ := more_v m1 (show vs.length = xct st by omega) (show xct st < 2 * vs.length by omega)
    obtain ⟨p1, p2, p3⟩ := put_v q1 (show vs.length < xct st + 1 by omega) k
    refine ⟨_, _, _, xmo_some (by show 0 + 1 ≤ 0 + 1 + 1; omega) (by show 0 + 2 * vs.length ≤ 0 + 2 * vs.length + 6; omega), p1, ⟨by omega, ?_⟩, (m2.trans q2).trans p2, (m3.trans q3).trans p3⟩
    show 0 + 2 * vs.length + 6 + pt st ≤ pt (xsC (xsA (xsH st 1 (2 * vs.length) tf)) 1 vs.length (xct st + 1))
    have q4' : pt (xsC (xsA (xsH st 1 (2 * vs.length) tf)) 1 vs.length (xct st + 1)) = pt (xsH st 1 (2 * vs.length) tf) + 6 := q4
    omega
  · rw [h2, if_neg (by rw [show Int32.ofNat (xln st 1) = i3 (xln st 1) from rfl, i3_eq (by omega) (by omega)]; exact hf), if_neg (i3_idx (by omega) (by omega)), i3_N (by omega)]
    by_cases ht : vs.length = xct st
    · rw [r1 vs.length, if_neg (show ¬ vs.length < xct st by omega), if_pos rfl, if_pos r6, if_neg (by omega), if_neg (i3_id2 (by omega) (by omega)), if_neg (i3_id2 (by omega) (by omega)), up_eq, if_neg (by omega), i3_one]
      obtain ⟨q1, q2, q3, q4⟩ := more_v hM ht (by omega)
      obtain ⟨p1, p2, p3⟩ := put_v q1 (show vs.length < xct st + 1 by omega) k
      rw [← ht] at p1 p2 p3 q2 q3 q4 ⊢
      refine ⟨_, _, _, xmo_some (Nat.le_refl _) (Nat.le_refl _), p1, ⟨by omega, ?_⟩, q2.trans p2, q3.trans p3⟩
      show 0 + 6 + pt st ≤ pt (xsC (xsA st) 1 vs.length (vs.length + 1))
      omega
    · have hm : xvc st 1 vs.length = vs.length + 1 := by rw [r1, if_pos (by omega)]
      rw [hm, if_neg (by omega), if_neg (i3_id2 (by omega) (by omega)), if_neg (by omega), i3_one]
      obtain ⟨p1, p2, p3⟩ := put_v hM (show vs.length < xct st by omega) k
      exact ⟨0, 0, _, rfl, p1, ⟨by omega, Nat.le_of_eq (by rw [Nat.zero_add]; rfl)⟩, p2, p3⟩
end RB
