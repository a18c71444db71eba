section BIN
variable {st : xS} {vs : List VR} {cs : List Nat} {ks ws : List NP} {e n : Nat}
theorem oMi_ne {x y : JT (e + 1)} (h : ¬ (kd (e + 1) x = 5 ∧ kd (e + 1) y = 5)) : oMinus x y = .inl 1 := by
  rcases jcases x with ⟨k, rfl⟩ | ⟨z, rfl⟩ | ⟨s, rfl⟩ | ⟨l, rfl⟩ | ⟨l, rfl⟩ <;> rcases jcases y with ⟨k', rfl⟩ | ⟨z', rfl⟩ | ⟨s', rfl⟩ | ⟨l', rfl⟩ | ⟨l', rfl⟩ <;> first
    | rfl
    | (exact absurd ⟨rfl, rfl⟩ h)
theorem oPi_ne {x y : JT (e + 2)} (h : ¬ (kd (e + 2) x = 4 ∧ kd (e + 2) y = 4)) : oPieces x y = .inl 1 := by
  rcases jcases x with ⟨k, rfl⟩ | ⟨z, rfl⟩ | ⟨s, rfl⟩ | ⟨l, rfl⟩ | ⟨l, rfl⟩ <;> rcases jcases y with ⟨k', rfl⟩ | ⟨z', rfl⟩ | ⟨s', rfl⟩ | ⟨l', rfl⟩ | ⟨l', rfl⟩ <;> first
    | rfl
    | (exact absurd ⟨rfl, rfl⟩ h)
theorem tdiv_b {x y : Int} (hx : -9007199254740991 ≤ x ∧ x ≤ 9007199254740991) : -9007199254740991 ≤ x.tdiv y ∧ x.tdiv y ≤ 9007199254740991 := by
  have : (x.tdiv y).natAbs ≤ x.natAbs := by
    rw [Int.natAbs_tdiv]
    exact Nat.div_le_self _ _
  omega
theorem tmod_b {x y : Int} (hx : -9007199254740991 ≤ x ∧ x ≤ 9007199254740991) : -9007199254740991 ≤ x - x.tdiv y * y ∧ x - x.tdiv y * y ≤ 9007199254740991 := by
  have h1 := Int.mul_tdiv_add_tmod x y
  have h2 : (x.tmod y).natAbs ≤ x.natAbs := by
    rw [Int.natAbs_tmod]
    exact Nat.mod_le _ _
  have h3 : x.tdiv y * y = y * x.tdiv y := Int.mul_comm _ _
  omega
theorem binary1M {fu op : Nat} {x y : JT (e + 2)} {a b : Nat} (hop : op ≤ 4) (hM : MS st vs cs ks ws) (ha : Arg vs cs ks (e + 2) x a) (hb : Arg vs cs ks (e + 2) y b) (hB : Bd vs cs ks ws) (hfu : e + 3 ≤ fu) (hn : 3000000000 < n) : OpO st 0 0 1 2 (fM_binary1 fu n st (i3 op) a b) vs cs ks ws (oBin op x y) := by
  obtain ⟨a1, a2, a3, _⟩ := ha.g hM
  obtain ⟨b1, b2, b3, _⟩ := hb.g hM
  have ka := ha.k7
  have kb := hb.k7
  have hB1 := hB.1
  have hbv : bV = 32000 := rfl
  obtain ⟨x3, x4, x5, _⟩ := kdc ha.2.1 _ rfl
  obtain ⟨y3, y4, y5, _⟩ := kdc hb.2.1 _ rfl
  have P : ∀ c : Nat, c < 8 → (i3 (kd (e + 2) x) = i3 c) = (kd (e + 2) x = c) := fun c hc => ke ka hc
  have Q : ∀ c : Nat, c < 8 → (i3 (kd (e + 2) y) = i3 c) = (kd (e + 2) y = c) := fun c hc => ke kb hc
  unfold fM_binary1
  obtain rfl | rfl | rfl | rfl | rfl : op = 0 ∨ op = 1 ∨ op = 2 ∨ op = 3 ∨ op = 4 := by omega
  · rw [if_pos (by decide)]
    exact OpO.t2 (by omega) (addedM hM ha hb hB (by omega))
  · rw [if_neg (by decide), if_pos (by decide), if_neg a1, a3, b3]
    by_cases c1 : kd (e + 2) x = 3 ∧ kd (e + 2) y = 3
    · obtain ⟨z, rfl⟩ := x3 c1.1
      obtain ⟨w, rfl⟩ := y3 c1.2
      have hz : -9007199254740991 ≤ z ∧ z ≤ 9007199254740991 := ha.2.1
      have hw : -9007199254740991 ≤ w ∧ w ≤ 9007199254740991 := hb.2.1
      rw [kd_n, kd_n, if_pos (by decide), if_neg b1, if_pos (by decide), ha.1.num hM, hb.1.num hM, show cW z - cW w = cW (z - w) from (Int64.ofInt_sub _ _).symm]
      exact OpO.r1 (number_o (n := n) hM (by omega) (by omega) (by omega) (by omega))
    rw [oBin_np (by omega)]
    show OpO _ _ _ _ _ _ _ _ _ _ (oMinus x y)
    by_cases c5 : kd (e + 2) x = 5 ∧ kd (e + 2) y = 5
    · obtain ⟨l, rfl⟩ := x5 c5.1
      obtain ⟨m, rfl⟩ := y5 c5.2
      rw [kd_a, kd_a, if_neg (by decide), if_pos (by decide), if_neg b1, if_pos (by decide)]
      exact OpO.l1 (cR := 1) (by omega) (withoutM hM ha hb (by omega) hB hn)
    rw [oMi_ne c5]
    by_cases h3 : kd (e + 2) x = 3
    · rw [if_pos (show i3 (kd (e + 2) x) = 3 by rw [h3]; rfl), if_neg b1, if_neg (show ¬ i3 (kd (e + 2) y) = 3 from fun hh => c1 ⟨h3, (Q 3 (by omega)).mp hh⟩), if_neg (show ¬ i3 (kd (e + 2) x) = 5 from fun hh => by have := (P 5 (by omega)).mp hh; omega)]
      exact refuse_o (k := 1) hM
    · rw [if_neg (show ¬ i3 (kd (e + 2) x) = 3 from fun hh => h3 ((P 3 (by omega)).mp hh))]
      by_cases h5 : kd (e + 2) x = 5
      · rw [if_pos (show i3 (kd (e + 2) x) = 5 by rw [h5]; rfl), if_neg b1, if_neg (show ¬ i3 (kd (e + 2) y) = 5 from fun hh => c5 ⟨h5, (Q 5 (by omega)).mp hh⟩)]
        exact refuse_o (k := 1) hM
      · rw [if_neg (show ¬ i3 (kd (e + 2) x) = 5 from fun hh => h5 ((P 5 (by omega)).mp hh))]
        exact refuse_o (k := 1) hM
  · rw [if_neg (by decide), if_neg (by decide), if_pos (by decide)]
    exact OpO.t2 (by omega) (timesM hM ha hb hB hfu (by omega))
  · rw [if_neg (by decide), if_neg (by decide), if_neg (by decide), if_pos (by decide), if_neg a1, a3, b3]
    by_cases c1 : kd (e + 2) x = 3 ∧ kd (e + 2) y = 3
    · obtain ⟨z, rfl⟩ := x3 c1.1
      obtain ⟨w, rfl⟩ := y3 c1.2
      have hz : -9007199254740991 ≤ z ∧ z ≤ 9007199254740991 := ha.2.1
      have hw : -9007199254740991 ≤ w ∧ w ≤ 9007199254740991 := hb.2.1
      have ht := tdiv_b (y := w) hz
      rw [kd_n, kd_n, if_neg (by decide), if_pos (by decide), if_neg b1, if_pos (by decide), ha.1.num hM, hb.1.num hM, cW_div (by omega) (by omega) (by omega) (by omega)]
      show OpO _ _ _ _ _ _ _ _ _ _ (if w = 0 then .inl 3 else numR (z.tdiv w))
      have hc : (lg_cmp (cW w) 0 = 0) = (w = 0) := by
        rw [show (0 : Int64) = cW 0 from rfl, lg_cW (by omega) (by omega) (by omega) (by omega), izs_eq0, Int.sub_zero]
      by_cases h0 : w = 0
      · rw [if_pos (by rw [hc]; exact h0), if_pos h0]
        exact refuse_o (k := 3) hM
      · rw [if_neg (by rw [hc]; exact h0), if_neg h0, if_neg (show ¬ cW w = 0 by rw [show (0 : Int64) = cW 0 from rfl, cW_eq (by omega) (by omega) (by omega) (by omega)]; exact h0)]
        exact OpO.r1 (number_o (n := n) hM (by omega) (by omega) (by omega) (by omega))
    rw [oBin_np (by omega)]
    show OpO _ _ _ _ _ _ _ _ _ _ (oPieces x y)
    by_cases c4 : kd (e + 2) x = 4 ∧ kd (e + 2) y = 4
    · obtain ⟨s, rfl⟩ := x4 c4.1
      obtain ⟨t, rfl⟩ := y4 c4.2
      rw [kd_s, kd_s, if_pos (by decide), if_neg b1, if_pos (by decide)]
      exact OpO.l1 (cR := 1) (by omega) (splitM hM ha hb hB hn)
    rw [oPi_ne c4]
    by_cases h4 : kd (e + 2) x = 4
    · rw [if_pos (show i3 (kd (e + 2) x) = 4 by rw [h4]; rfl), if_neg b1, if_neg (show ¬ i3 (kd (e + 2) y) = 4 from fun hh => c4 ⟨h4, (Q 4 (by omega)).mp hh⟩), if_neg (show ¬ i3 (kd (e + 2) x) = 3 from fun hh => by have := (P 3 (by omega)).mp hh; omega)]
      exact refuse_o (k := 1) hM
    · rw [if_neg (show ¬ i3 (kd (e + 2) x) = 4 from fun hh => h4 ((P 4 (by omega)).mp hh))]
      by_cases h3 : kd (e + 2) x = 3
      · rw [if_pos (show i3 (kd (e + 2) x) = 3 by rw [h3]; rfl), if_neg b1, if_neg (show ¬ i3 (kd (e + 2) y) = 3 from fun hh => c1 ⟨h3, (Q 3 (by omega)).mp hh⟩)]
        exact refuse_o (k := 1) hM
      · rw [if_neg (show ¬ i3 (kd (e + 2) x) = 3 from fun hh => h3 ((P 3 (by omega)).mp hh))]
        exact refuse_o (k := 1) hM
  · rw [if_neg (by decide), if_neg (by decide), if_neg (by decide), if_neg (by decide), if_neg a1, a3, b3]
    by_cases c1 : kd (e + 2) x = 3 ∧ kd (e + 2) y = 3
    · obtain ⟨z, rfl⟩ := x3 c1.1
      obtain ⟨w, rfl⟩ := y3 c1.2
      have hz : -9007199254740991 ≤ z ∧ z ≤ 9007199254740991 := ha.2.1
      have hw : -9007199254740991 ≤ w ∧ w ≤ 9007199254740991 := hb.2.1
      have ht := tmod_b (y := w) hz
      rw [kd_n, kd_n, if_pos (by decide), if_neg b1, if_pos (by decide), ha.1.num hM, hb.1.num hM, cW_div (by omega) (by omega) (by omega) (by omega), cW_mul, show cW z - cW (z.tdiv w * w) = cW (z - z.tdiv w * w) from (Int64.ofInt_sub _ _).symm]
      show OpO _ _ _ _ _ _ _ _ _ _ (if w = 0 then .inl 3 else numR (z - z.tdiv w * w))
      have hc : (lg_cmp (cW w) 0 = 0) = (w = 0) := by
        rw [show (0 : Int64) = cW 0 from rfl, lg_cW (by omega) (by omega) (by omega) (by omega), izs_eq0, Int.sub_zero]
      by_cases h0 : w = 0
      · rw [if_pos (by rw [hc]; exact h0), if_pos h0]
        exact refuse_o (k := 3) hM
      · rw [if_neg (by rw [hc]; exact h0), if_neg h0, if_neg (show ¬ cW w = 0 by rw [show (0 : Int64) = cW 0 from rfl, cW_eq (by omega) (by omega) (by omega) (by omega)]; exact h0)]
        exact OpO.r1 (number_o (n := n) hM (by omega) (by omega) (by omega) (by omega))
    rw [oBin_np (by omega)]
    show OpO _ _ _ _ _ _ _ _ _ _ (.inl 1)
    by_cases h3 : kd (e + 2) x = 3
    · rw [if_pos (show i3 (kd (e + 2) x) = 3 by rw [h3]; rfl), if_neg b1, if_neg (show ¬ i3 (kd (e + 2) y) = 3 from fun hh => c1 ⟨h3, (Q 3 (by omega)).mp hh⟩)]
      exact refuse_o (k := 1) hM
    · rw [if_neg (show ¬ i3 (kd (e + 2) x) = 3 from fun hh => h3 ((P 3 (by omega)).mp hh))]
      exact refuse_o (k := 1) hM
end BIN
