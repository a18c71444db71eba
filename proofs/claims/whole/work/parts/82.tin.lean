section TIN
variable {st : xS} {vs : List VR} {cs : List Nat} {ks ws : List NP} {e n : Nat}
theorem i3_div {a b : Nat} (ha : a < 2147483648) (hb : b < 2147483648) : i3 a / i3 b = i3 (a / b) := by
  apply Int32.toInt_inj.mp
  rw [i3_iz, i3_iz, Int32.toInt_div, iz_int (by omega) (by omega), iz_int (by omega) (by omega), i3_iz]
  exact (Int32.toInt_ofInt).symm
theorem rep_big {s : Sx} {z : Int} (hs : 1 ≤ s.length) (hz : ((60000 / s.length : Nat) : Int) < z) : 60000 < (jc (e + 1) (js (rep s z) : JT (e + 1))).length := by
  rw [jc_s, strc_ln]
  unfold rep
  rw [rp_len]
  have h1 : 60000 / s.length < z.toNat := by omega
  have h2 := (Nat.div_lt_iff_lt_mul (show 0 < s.length by omega)).mp h1
  omega
theorem timA {rec : xS → Nat → Nat → Option (Nat × Nat × Nat × Nat × xS)} {d0 : Nat} {s : Sx} {z : Int} {a b : Nat} (hM : MS st vs cs ks ws) (ha : Arg vs cs ks (e + 1) (js s) a) (hb : Arg vs cs ks (e + 1) (jn z) b) (hB : Bd vs cs ks ws) (hz : 1 ≤ z) (hn : 5000000 < n) : OpO st 0 0 1 2 (if i3 s.length ≤ 0 then fM_times_b rec d0 n 1 0 (i3 cs.length) a b st 0 0 else if i3 s.length = 0 then none else (if (lg_cmp (cW z) (60000 / (i3 s.length)).toInt64) ≤ 0 then fM_times_b rec d0 n 1 0 (i3 cs.length) a b st 0 0 else (fM_limit n st).bind fun o4 => ((if o4.1 = 1 then xmo (fun a => a.2.1) (fun a => a.2.2.1) (0 + o4.2.1) (0 + o4.2.2.1) (some (2, (0 + o4.2.1), (0 + o4.2.2.1), 0, st)) else none)))) vs cs ks ws (.inr (js (rep s z)) : Nat ⊕ JT (e + 1)) := by
  obtain ⟨B1, B2, B3, B4⟩ := hB
  have hbv : bV = 32000 := rfl
  have hbc : bC = 100000 := rfl
  have hsl := ha.ls
  have hzr : -9007199254740991 ≤ z ∧ z ≤ 9007199254740991 := hb.2.1
  by_cases h0 : s.length = 0
  · obtain rfl : s = [] := List.length_eq_zero_iff.mp h0
    obtain ⟨n, rfl⟩ : ∃ j, n = j + 1 := ⟨n - 1, by omega⟩
    obtain ⟨b1, _, _, _⟩ := hb.g hM
    obtain ⟨a1, _, _, _⟩ := ha.g hM
    have hrep : rep [] z = [] := by unfold rep; exact List.length_eq_zero_iff.mp (by rw [rp_len]; rfl)
    rw [if_pos (by decide), fM_times_b, if_neg b1, hb.1.num hM, if_neg (by rw [show (0 : Int64) = cW 0 from rfl, lg_cW (by omega) (by omega) (by omega) (by omega), izs_ge0]; omega), if_neg a1, (ha.1.szs hM).1, if_pos (by decide), hrep]
    have := OpO.l1 (wc := 0) (wn := 0) (q := 2) (cR' := 1) (by omega) (string_o (st := st) (vs := vs) (cs := cs) (ks := ks) (ws := ws) (s := []) (n := n) (cR := 1) (d := e) (by rw [List.append_nil]; exact hM) (by omega) (by omega))
    rw [List.append_nil] at this
    exact OpO.wrap this
  · rw [if_neg (by rw [show (0 : Int32) = i3 0 from rfl, i3_le (by omega) (by omega)]; omega), if_neg (by rw [show (0 : Int32) = i3 0 from rfl, i3_eq (by omega) (by omega)]; omega), show (60000 : Int32) = i3 60000 from rfl, i3_div (by omega) (by omega), i3_64 (by have := Nat.div_le_self 60000 s.length; omega)]
    have hq := Nat.div_le_self 60000 s.length
    have hcmp : (lg_cmp (cW z) (cW ((60000 / s.length : Nat) : Int)) ≤ 0) = (z ≤ ((60000 / s.length : Nat) : Int)) := by
      generalize 60000 / s.length = w at hq
      rw [lg_cW (by omega) (by omega) (by omega) (by omega), izs_le0]
      exact propext (by omega)
    by_cases h : z ≤ ((60000 / s.length : Nat) : Int)
    · rw [if_pos (by rw [hcmp]; exact h)]
      obtain ⟨Z, rfl⟩ : ∃ Z : Nat, z = (Z : Int) := ⟨z.toNat, by omega⟩
      have hZ : Z * s.length ≤ 60000 := (Nat.le_div_iff_mul_le (by omega)).mp (by omega)
      have := timL (rec := rec) (d0 := d0) (ws := ws) (isStr_rep ha.1) hb.1 (by omega) hZ (by omega) (by omega) Z n 0 st 0 0 (by omega) (by rw [List.replicate_zero, List.flatten_nil, List.append_nil]; exact hM) (by have : Z * 1 ≤ Z * s.length := Nat.mul_le_mul_left Z (by omega); omega)
      rw [List.replicate_zero, List.flatten_nil, List.append_nil] at this
      exact this
    · rw [if_neg (by rw [hcmp]; exact h)]
      exact limit_o hM (by omega) (Or.inr (rep_big (by omega) (by omega)))
theorem timesS {d0 : Nat} {s : Sx} {z : Int} {a b : Nat} (hM : MS st vs cs ks ws) (ha : Arg vs cs ks (e + 1) (js s) a) (hb : Arg vs cs ks (e + 1) (jn z) b) (hB : Bd vs cs ks ws) (hn : 5000000 < n) : OpO st 0 0 1 2 (fM_times (d0 + 1) n st a b) vs cs ks ws (repR s z : Nat ⊕ JT (e + 1)) := by
  obtain ⟨a1, a2, a3, _⟩ := ha.g hM
  obtain ⟨b1, b2, b3, _⟩ := hb.g hM
  have hsl := ha.ls
  have hbv : bV = 32000 := rfl
  have hzr : -9007199254740991 ≤ z ∧ z ≤ 9007199254740991 := hb.2.1
  have hc1 : (0 ≤ lg_cmp (cW z) 1) = (1 ≤ z) := by
    rw [show (1 : Int64) = cW 1 from rfl, lg_cW (by omega) (by omega) (by omega) (by omega), izs_ge0]
    exact propext (by omega)
  have hc6 : (lg_cmp (cW z) 60000 ≤ 0) = (z ≤ 60000) := by
    rw [show (60000 : Int64) = cW 60000 from rfl, lg_cW (by omega) (by omega) (by omega) (by omega), izs_le0]
    exact propext (by omega)
  unfold repR
  rw [fM_times, if_neg a1, a3, b3, kd_s, kd_n, if_neg (by decide), if_neg (by decide), if_neg (by decide), if_pos (by decide), if_neg b1, if_pos (by decide), hb.1.num hM, (ha.1.szs hM).1, hM.1.1.2.1]
  by_cases h1 : 1 ≤ z
  · rw [if_pos (by rw [hc1]; exact h1), if_neg (show ¬ z < 1 by omega)]
    have hA := timA (rec := fM_times d0 n) (d0 := d0) hM ha hb hB h1 hn
    by_cases c : lg_cmp (cW z * ((i3 s.length).toInt64 + 1)) 600000 ≤ 0
    · rw [if_pos c]
      exact hA
    · rw [if_neg c]
      by_cases c2 : i3 s.length ≤ 0
      · rw [if_pos c2] at hA ⊢
        rw [if_pos c2]
        exact hA
      · rw [if_neg c2]
        by_cases c3 : z ≤ 60000
        · rw [if_pos (by rw [hc6]; exact c3)]
          exact hA
        · rw [if_neg (by rw [hc6]; exact c3)]
          have hs1 : 1 ≤ s.length := by
            rw [show (0 : Int32) = i3 0 from rfl, i3_le (by omega) (by omega)] at c2
            omega
          have := Nat.div_le_self 60000 s.length
          exact limit_o hM (by omega) (Or.inr (rep_big hs1 (by omega)))
  · rw [if_neg (by rw [hc1]; exact h1), if_pos (show z < 1 by omega)]
    exact fresh_o (k := 0) hM (by have := hB.1; omega) (by omega)
end TIN
