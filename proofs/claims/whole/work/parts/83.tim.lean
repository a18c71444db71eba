section TIM3
variable {st : xS} {vs : List VR} {cs : List Nat} {ks ws : List NP} {e n : Nat}
theorem tiX {d0 a b p q : Nat} (a1 : ¬ (a = 0 ∨ xct st < a)) (b1 : ¬ (b = 0 ∨ xct st < b)) (a3 : xpi st 0 (a - 1) = i3 p) (b3 : xpi st 0 (b - 1) = i3 q) (hp : p < 7) (hq : q < 7) (h : ¬ (p = 3 ∧ q = 3) ∧ ¬ (p = 6 ∧ q = 6) ∧ ¬ (p = 3 ∧ q = 4) ∧ ¬ (p = 4 ∧ q = 3)) : fM_times (d0 + 1) n st a b = (fM_refuse n st 1).bind fun o3 => ((if o3.1 = 1 then xmo (fun a => a.2.1) (fun a => a.2.2.1) (0 + o3.2.1) (0 + o3.2.2.1) (some (1, (0 + o3.2.1), (0 + o3.2.2.1), 0, o3.2.2.2.2)) else none)) := by
  have P : ∀ c : Nat, c < 8 → (i3 p = i3 c) = (p = c) := fun c hc => ke hp hc
  have Q : ∀ c : Nat, c < 8 → (i3 q = i3 c) = (q = c) := fun c hc => ke hq hc
  rw [fM_times, if_neg a1, a3, b3]
  by_cases p3 : p = 3
  · rw [if_pos (show i3 p = 3 by rw [p3]; rfl), if_neg b1, if_neg (show ¬ i3 q = 3 from fun hh => h.1 ⟨p3, (Q 3 (by omega)).mp hh⟩), if_neg (show ¬ i3 p = 6 from fun hh => by have := (P 6 (by omega)).mp hh; omega), if_pos (show i3 p = 3 by rw [p3]; rfl), if_neg (show ¬ i3 q = 4 from fun hh => h.2.2.1 ⟨p3, (Q 4 (by omega)).mp hh⟩), if_neg (show ¬ i3 p = 4 from fun hh => by have := (P 4 (by omega)).mp hh; omega)]
  · rw [if_neg (show ¬ i3 p = 3 from fun hh => p3 ((P 3 (by omega)).mp hh))]
    by_cases p6 : p = 6
    · rw [if_pos (show i3 p = 6 by rw [p6]; rfl), if_neg b1, if_neg (show ¬ i3 q = 6 from fun hh => h.2.1 ⟨p6, (Q 6 (by omega)).mp hh⟩), if_neg (show ¬ i3 p = 3 from fun hh => p3 ((P 3 (by omega)).mp hh)), if_neg (show ¬ i3 p = 4 from fun hh => by have := (P 4 (by omega)).mp hh; omega)]
    · rw [if_neg (show ¬ i3 p = 6 from fun hh => p6 ((P 6 (by omega)).mp hh)), if_neg (show ¬ i3 p = 3 from fun hh => p3 ((P 3 (by omega)).mp hh))]
      by_cases p4 : p = 4
      · rw [if_pos (show i3 p = 4 by rw [p4]; rfl), if_neg b1, if_neg (show ¬ i3 q = 3 from fun hh => h.2.2.2 ⟨p4, (Q 3 (by omega)).mp hh⟩)]
      · rw [if_neg (show ¬ i3 p = 4 from fun hh => p4 ((P 4 (by omega)).mp hh))]
theorem oT_ne {x y : JT (e + 1)} (h : ¬ (kd (e + 1) x = 6 ∧ kd (e + 1) y = 6) ∧ ¬ (kd (e + 1) x = 3 ∧ kd (e + 1) y = 4) ∧ ¬ (kd (e + 1) x = 4 ∧ kd (e + 1) y = 3)) : oTimes x y = .inl 1 := by
  rcases jcases x with ⟨k, rfl⟩ | ⟨z, rfl⟩ | ⟨s, rfl⟩ | ⟨l, rfl⟩ | ⟨l, rfl⟩ <;> rcases jcases y with ⟨k', rfl⟩ | ⟨z', rfl⟩ | ⟨s', rfl⟩ | ⟨l', rfl⟩ | ⟨l', rfl⟩ <;> first
    | rfl
    | (exact absurd ⟨rfl, rfl⟩ h.1)
    | (exact absurd ⟨rfl, rfl⟩ h.2.1)
    | (exact absurd ⟨rfl, rfl⟩ h.2.2)
theorem kdc {x : JT (e + 1)} (hx : jok (e + 1) x) (c : Nat) (hc : kd (e + 1) x = c) : (c = 3 → ∃ z, x = jn z) ∧ (c = 4 → ∃ s, x = js s) ∧ (c = 5 → ∃ l, x = ja l) ∧ (c = 6 → ∃ l, x = jo l) := by
  rcases jcases x with ⟨k, rfl⟩ | ⟨z, rfl⟩ | ⟨s, rfl⟩ | ⟨l, rfl⟩ | ⟨l, rfl⟩
  · have h3 : k < 3 := hx
    rw [kd_k] at hc
    refine ⟨fun h => ?_, fun h => ?_, fun h => ?_, fun h => ?_⟩ <;> omega
  · rw [kd_n] at hc
    exact ⟨fun _ => ⟨z, rfl⟩, fun h => by omega, fun h => by omega, fun h => by omega⟩
  · rw [kd_s] at hc
    exact ⟨fun h => by omega, fun _ => ⟨s, rfl⟩, fun h => by omega, fun h => by omega⟩
  · rw [kd_a] at hc
    exact ⟨fun h => by omega, fun h => by omega, fun _ => ⟨l, rfl⟩, fun h => by omega⟩
  · rw [kd_o] at hc
    exact ⟨fun h => by omega, fun h => by omega, fun h => by omega, fun _ => ⟨l, rfl⟩⟩
theorem timN {d0 : Nat} {x y : Int} {a b : Nat} (hM : MS st vs cs ks ws) (ha : Arg vs cs ks (e + 1) (jn x) a) (hb : Arg vs cs ks (e + 1) (jn y) b) (hB : Bd vs cs ks ws) (hn : 5000000 < n) : OpO st 0 0 1 2 (fM_times (d0 + 1) n st a b) vs cs ks ws (oNum 2 x y : Nat ⊕ JT (e + 1)) := by
  obtain ⟨a1, a2, a3, _⟩ := ha.g hM
  obtain ⟨b1, b2, b3, _⟩ := hb.g hM
  have hbv : bV = 32000 := rfl
  have hB1 := hB.1
  have hx : -9007199254740991 ≤ x ∧ x ≤ 9007199254740991 := ha.2.1
  have hy : -9007199254740991 ≤ y ∧ y ≤ 9007199254740991 := hb.2.1
  rw [fM_times, if_neg a1, a3, b3, kd_n, kd_n, if_pos (by decide), if_neg b1, if_pos (by decide), ha.1.num hM, hb.1.num hM, abs_cW (by omega) (by omega), abs_cW (by omega) (by omega), cW_mul]
  show OpO _ _ _ _ _ _ _ _ _ _ (if x ≠ 0 ∧ 9007199254740991 / x.natAbs < y.natAbs then .inl 2 else numR (x * y))
  have hc0 : (lg_cmp (cW (x.natAbs : Nat)) 0 = 0) = (x = 0) := by
    rw [show (0 : Int64) = cW 0 from rfl, lg_cW (by omega) (by omega) (by omega) (by omega), izs_eq0]
    exact propext (by omega)
  by_cases h0 : x = 0
  · rw [if_pos (by rw [hc0]; exact h0), if_neg (fun h => h.1 h0)]
    exact OpO.r1 (number_o (n := n) hM (by rw [h0, Int.zero_mul]; omega) (by rw [h0, Int.zero_mul]; omega) (by omega) (by omega))
  · rw [if_neg (by rw [hc0]; exact h0), if_neg (show ¬ cW (x.natAbs : Nat) = 0 by rw [show (0 : Int64) = cW 0 from rfl, cW_eq (by omega) (by omega) (by omega) (by omega)]; omega), show (9007199254740991 : Int64) = cW ((9007199254740991 : Nat) : Int) from rfl, q_div (by omega) (by omega)]
    have hq := Nat.div_le_self 9007199254740991 x.natAbs
    have hcmp : (lg_cmp (cW (y.natAbs : Nat)) (cW ((9007199254740991 / x.natAbs : Nat) : Int)) ≤ 0) = (y.natAbs ≤ 9007199254740991 / x.natAbs) := by
      generalize 9007199254740991 / x.natAbs = w at hq
      rw [lg_cW (by omega) (by omega) (by omega) (by omega), izs_le0]
      exact propext (by omega)
    by_cases h : y.natAbs ≤ 9007199254740991 / x.natAbs
    · rw [if_pos (by rw [hcmp]; exact h), if_neg (fun hh => by omega)]
      have hm : (x * y).natAbs ≤ 9007199254740991 := by
        rw [Int.natAbs_mul, Nat.mul_comm]
        exact (Nat.le_div_iff_mul_le (by omega)).mp h
      exact OpO.r1 (number_o (n := n) hM (by omega) (by omega) (by omega) (by omega))
    · rw [if_neg (by rw [hcmp]; exact h), if_pos ⟨h0, by omega⟩]
      exact refuse_o (k := 2) hM
theorem timesM {fu : Nat} {x y : JT (e + 2)} {a b : Nat} (hM : MS st vs cs ks ws) (ha : Arg vs cs ks (e + 2) x a) (hb : Arg vs cs ks (e + 2) y b) (hB : Bd vs cs ks ws) (hfu : e + 3 ≤ fu) (hn : 5000000 < n) : OpO st 0 0 1 2 (fM_times fu n st a b) vs cs ks ws (oBin 2 x y) := by
  obtain ⟨fu, rfl⟩ : ∃ f, fu = f + 1 := ⟨fu - 1, by omega⟩
  obtain ⟨a1, a2, a3, _⟩ := ha.g hM
  obtain ⟨b1, b2, b3, _⟩ := hb.g hM
  have ka := ha.k7
  have kb := hb.k7
  have hB' := hB
  obtain ⟨B1, B2, B3, B4⟩ := hB
  have hbv : bV = 32000 := rfl
  have hbk : bK = 32000 := rfl
  obtain ⟨x3, x4, _, x6⟩ := kdc ha.2.1 _ rfl
  obtain ⟨y3, y4, _, y6⟩ := kdc hb.2.1 _ rfl
  by_cases c1 : kd (e + 2) x = 3 ∧ kd (e + 2) y = 3
  · obtain ⟨z, rfl⟩ := x3 c1.1
    obtain ⟨w, rfl⟩ := y3 c1.2
    exact timN hM ha hb hB' hn
  rw [oBin_np (by omega)]
  show OpO _ _ _ _ _ _ _ _ _ _ (oTimes x y)
  by_cases c2 : kd (e + 2) x = 6 ∧ kd (e + 2) y = 6
  · obtain ⟨l, rfl⟩ := x6 c2.1
    obtain ⟨m, rfl⟩ := y6 c2.2
    have h1 : cl (jo l) ≤ 4096 := ha.2.2.2.2
    have h2 : cl (jo m) ≤ 4096 := hb.2.2.2.2
    have hm := mergeM (cs := cs) (n := n) (by omega) (e + 2) fu (by omega) st vs ks ws _ _ a b ha.1 hb.1 ha.2.1 hb.2.1 rfl rfl hM (by omega) (by omega) (by omega)
    rw [fM_times, if_neg a1, a3, b3, kd_o, kd_o, if_neg (by decide), if_pos (by decide), if_neg b1, if_pos (by decide)]
    exact OpO.l1 (cR := 1) (by omega) hm.op
  by_cases c3 : kd (e + 2) x = 3 ∧ kd (e + 2) y = 4
  · obtain ⟨z, rfl⟩ := x3 c3.1
    obtain ⟨s, rfl⟩ := y4 c3.2
    obtain ⟨fu, rfl⟩ : ∃ f, fu = f + 1 := ⟨fu - 1, by omega⟩
    have hs := timesS (d0 := fu) (n := n) hM hb ha hB' hn
    rw [fM_times, if_neg a1, a3, b3, kd_n, kd_s, if_pos (by decide), if_neg b1, if_neg (by decide), if_neg (by decide), if_pos (by decide), if_pos (by decide)]
    exact OpO.t2 (by omega) hs
  by_cases c4 : kd (e + 2) x = 4 ∧ kd (e + 2) y = 3
  · obtain ⟨s, rfl⟩ := x4 c4.1
    obtain ⟨z, rfl⟩ := y3 c4.2
    exact timesS hM ha hb hB' hn
  rw [oT_ne ⟨c2, c3, c4⟩, tiX a1 b1 a3 b3 ka kb ⟨c1, c2, c3, c4⟩]
  exact refuse_o (k := 1) hM
end TIM3
