/-! ===== texts ===== -/
def sb (b : Nat) : Int32 := if b < 128 then i3 b else iz ((b : Int) - 256)
theorem sb_lt {b : Nat} (h : b < 128) : sb b = i3 b := if_pos h
theorem sb_int {b : Nat} (h : b < 256) : (sb b).toInt = if b < 128 then (b : Int) else (b : Int) - 256 := by
  unfold sb
  split
  · rw [i3_int (by omega)]
  · rw [iz_int (by omega) (by omega)]
theorem vp_nb (x : Int32) : vp_nar .byte x = x.toInt8.toInt32 := rfl
theorem nar_sb (z : Int) : vp_nar .byte (iz z).toInt8.toInt32 = sb (z % 256).toNat := by
  rw [vp_nb]
  apply Int32.toInt_inj.mp
  rw [sb_int (by omega)]
  have e1 : (iz z).toInt = z.bmod 4294967296 := Int32.toInt_ofInt
  have e2 : ∀ x : Int32, x.toInt8.toInt = x.toInt.bmod (2 ^ 8) := fun x => Int32.toInt_toInt8 x
  rw [Int8.toInt_toInt32, e2, Int8.toInt_toInt32, e2, e1]
  have h1 : ∀ x : Int, (x.bmod (2 ^ 8)).bmod (2 ^ 8) = x.bmod (2 ^ 8) := fun x => Int.bmod_bmod
  rw [h1]
  rw [Int.bmod_def, Int.bmod_def]
  omega
theorem i3_iz (n : Nat) : i3 n = iz n := (iz_nat n).symm
theorem sb_and {b : Nat} (h : b < 256) : sb b &&& 255 = i3 b := by
  unfold sb
  split
  · rw [i3_iz, iz_and8]
    congr 1
    omega
  · rw [iz_and8]
    congr 1
    omega
theorem x_iz (x : Int32) : x = iz x.toInt := (Int32.ofInt_toInt x).symm
section TX
variable {n : Nat} {t : TS}
theorem add_w (ht : RV t) (z : Int) : ∃ t' : TS, fT_add n (iz z) t.1 (i3 t.2.1) t.2.2 = some (t'.1, i3 t'.2.1, t'.2.2) ∧ Wr t [sb (z % 256).toNat] t' := by
  obtain ⟨f, v, o⟩ := t
  obtain ⟨hv, ho⟩ := ht
  simp only at hv ho
  unfold fT_add
  dsimp only
  by_cases h : v < 4096
  · rw [if_pos (by rw [show (4096 : Int32) = i3 4096 from rfl, i3_lt (by omega) (by omega)]; exact h), if_neg (i3_idx (by omega) (by omega)), i3_N (by omega), i3_one, nar_sb]
    refine ⟨(upd f v (sb (z % 256).toNat), v + 1, o), rfl, ⟨by show v + 1 ≤ 4096; omega, ho⟩, ?_⟩
    rcases ho with rfl | rfl
    · refine Or.inl ⟨rfl, by show v + 1 ≤ 4096; omega, rfl, rfl, fun i hi => ?_, seg_one.mpr ?_⟩
      · show upd f v _ i = f i
        unfold upd
        rw [if_neg]
        simp only at hi
        omega
      · show upd f v _ v = _
        unfold upd
        rw [if_pos rfl]
    · exact Or.inr ⟨Or.inl rfl, rfl⟩
  · rw [if_neg (by rw [show (4096 : Int32) = i3 4096 from rfl, i3_lt (by omega) (by omega)]; exact h)]
    exact ⟨(f, v, 1), rfl, ⟨hv, Or.inr rfl⟩, Or.inr ⟨Or.inr (by show 4096 < v + 1; omega), rfl⟩⟩
theorem add_c (ht : RV t) {c : Nat} (hc : c < 128) : ∃ t' : TS, fT_add n (i3 c) t.1 (i3 t.2.1) t.2.2 = some (t'.1, i3 t'.2.1, t'.2.2) ∧ Wr t [sb c] t' := by
  obtain ⟨t', e, h⟩ := add_w (n := n) ht (c : Int)
  rw [show ((c : Int) % 256).toNat = c by omega] at h
  exact ⟨t', by rw [← iz_nat]; exact e, h⟩
theorem add_x (ht : RV t) (x : Int32) : ∃ t' : TS, fT_add n x t.1 (i3 t.2.1) t.2.2 = some (t'.1, i3 t'.2.1, t'.2.2) ∧ Wr t [sb (x.toInt % 256).toNat] t' := by
  obtain ⟨t', e, h⟩ := add_w (n := n) ht x.toInt
  rw [← x_iz] at e
  exact ⟨t', e, h⟩
theorem word_w (ht : RV t) : (∃ t' : TS, fT_addWord n t.1 (i3 t.2.1) t.2.2 = some (t'.1, i3 t'.2.1, t'.2.2) ∧ Wr t ((wd 0).map sb) t') ∧ (∃ t' : TS, fT_addWorda n t.1 (i3 t.2.1) t.2.2 = some (t'.1, i3 t'.2.1, t'.2.2) ∧ Wr t ((wd 1).map sb) t') ∧ (∃ t' : TS, fT_addWordb n t.1 (i3 t.2.1) t.2.2 = some (t'.1, i3 t'.2.1, t'.2.2) ∧ Wr t ((wd 2).map sb) t') := by
  refine ⟨?_, ?_, ?_⟩
  · obtain ⟨t1, e1, h1⟩ := add_c (n := n) ht (c := 110) (by omega)
    obtain ⟨t2, e2, h2⟩ := add_c (n := n) h1.v (c := 117) (by omega)
    obtain ⟨t3, e3, h3⟩ := add_c (n := n) h2.v (c := 108) (by omega)
    obtain ⟨t4, e4, h4⟩ := add_c (n := n) h3.v (c := 108) (by omega)
    refine ⟨t4, ?_, ((h1.app h2).app h3).app h4⟩
    unfold fT_addWord
    rw [show (110 : Int32) = i3 110 from rfl, show (117 : Int32) = i3 117 from rfl, show (108 : Int32) = i3 108 from rfl, e1, Option.bind_some]
    dsimp only
    rw [e2, Option.bind_some]
    dsimp only
    rw [e3, Option.bind_some]
    dsimp only
    rw [e4, Option.bind_some]
  · obtain ⟨t1, e1, h1⟩ := add_c (n := n) ht (c := 102) (by omega)
    obtain ⟨t2, e2, h2⟩ := add_c (n := n) h1.v (c := 97) (by omega)
    obtain ⟨t3, e3, h3⟩ := add_c (n := n) h2.v (c := 108) (by omega)
    obtain ⟨t4, e4, h4⟩ := add_c (n := n) h3.v (c := 115) (by omega)
    obtain ⟨t5, e5, h5⟩ := add_c (n := n) h4.v (c := 101) (by omega)
    refine ⟨t5, ?_, (((h1.app h2).app h3).app h4).app h5⟩
    unfold fT_addWorda
    rw [show (102 : Int32) = i3 102 from rfl, show (97 : Int32) = i3 97 from rfl, show (108 : Int32) = i3 108 from rfl, show (115 : Int32) = i3 115 from rfl, show (101 : Int32) = i3 101 from rfl, e1, Option.bind_some]
    dsimp only
    rw [e2, Option.bind_some]
    dsimp only
    rw [e3, Option.bind_some]
    dsimp only
    rw [e4, Option.bind_some]
    dsimp only
    rw [e5, Option.bind_some]
  · obtain ⟨t1, e1, h1⟩ := add_c (n := n) ht (c := 116) (by omega)
    obtain ⟨t2, e2, h2⟩ := add_c (n := n) h1.v (c := 114) (by omega)
    obtain ⟨t3, e3, h3⟩ := add_c (n := n) h2.v (c := 117) (by omega)
    obtain ⟨t4, e4, h4⟩ := add_c (n := n) h3.v (c := 101) (by omega)
    refine ⟨t4, ?_, ((h1.app h2).app h3).app h4⟩
    unfold fT_addWordb
    rw [show (116 : Int32) = i3 116 from rfl, show (114 : Int32) = i3 114 from rfl, show (117 : Int32) = i3 117 from rfl, show (101 : Int32) = i3 101 from rfl, e1, Option.bind_some]
    dsimp only
    rw [e2, Option.bind_some]
    dsimp only
    rw [e3, Option.bind_some]
    dsimp only
    rw [e4, Option.bind_some]
end TX
/-! digits -/
theorem cW_add (a b : Int) : cW a + cW b = cW (a + b) := (Int64.ofInt_add a b).symm
theorem cW_mul (a b : Int) : cW a * cW b = cW (a * b) := (Int64.ofInt_mul a b).symm
theorem cW_div {a b : Int} (h1 : -9223372036854775808 < a) (h2 : a < 9223372036854775808) (h3 : -9223372036854775808 ≤ b) (h4 : b < 9223372036854775808) : cW a / cW b = cW (a.tdiv b) := by
  apply Int64.toInt_inj.mp
  rw [Int64.toInt_div, cW_int (by omega) h2, cW_int h3 h4]
  exact (Int64.toInt_ofInt).symm
theorem ten_le {k : Nat} (h : k ≤ 15) : 10 ^ k ≤ 1000000000000000 := Nat.pow_le_pow_right (n := 10) (by omega) h
theorem ten_pos (k : Nat) : 1 ≤ 10 ^ k := Nat.one_le_pow _ _ (by omega)
theorem q_div {m b : Nat} (hm : m < 9223372036854775808) (hb : b < 9223372036854775808) : cW (m : Int) / cW (b : Int) = cW ((m / b : Nat) : Int) := by
  rw [cW_div (by omega) (by omega) (by omega) (by omega)]
  rfl
theorem dig_code {q : Nat} (hq : q < 9223372036854775808) : ((48 : Int64) + (cW (q : Int) - cW (q : Int) / 10 * 10)).toInt32 = i3 (48 + q % 10) := by
  rw [show (10 : Int64) = cW ((10 : Nat) : Int) from rfl, q_div hq (by omega), cW_mul, cW_sub, show (48 : Int64) = cW 48 from rfl, cW_add, cW_32, ← iz_nat]
  congr 1
  omega
section AN
variable {t : TS}
theorem an2 {m : Nat} (hm : m < 10000000000000000) {z : Int64} : ∀ (k n : Nat) (t : TS), k ≤ 15 → k + 2 < n → RV t → ∃ t' : TS, fT_addNumber_b n 2 (cW ((10 ^ k : Nat) : Int)) (cW (m : Int)) z t.1 (i3 t.2.1) t.2.2 = some (t'.1, i3 t'.2.1, t'.2.2) ∧ Wr t ((dgs (k + 1) m).map sb) t' := by
  intro k
  induction k with
  | zero =>
    intro n t _ hn ht
    obtain ⟨n, rfl⟩ : ∃ j, n = j + 2 := ⟨n - 2, by omega⟩
    have hq := Nat.div_le_self m (10 ^ 0)
    obtain ⟨t1, e1, h1⟩ := add_c (n := n + 1) ht (c := 48 + m / 10 ^ 0 % 10) (by omega)
    refine ⟨t1, ?_, h1⟩
    have hc : ¬ lg_cmp (cW ((10 ^ 0 : Nat) : Int)) 0 ≤ 0 := by
      rw [show (0 : Int64) = cW 0 from rfl, lg_cW (by omega) (by omega) (by omega) (by omega), izs_le0]
      omega
    rw [fT_addNumber_b, if_neg (by decide), if_neg hc, if_neg (by decide), q_div (by omega) (by omega), dig_code (by omega), e1, Option.bind_some]
    dsimp only
    rw [show cW ((10 ^ 0 : Nat) : Int) / 10 = 0 by decide, fT_addNumber_b, if_neg (by decide), if_pos (by decide)]
  | succ k ih =>
    intro n t hk hn ht
    obtain ⟨n, rfl⟩ : ∃ j, n = j + 1 := ⟨n - 1, by omega⟩
    have hq := Nat.div_le_self m (10 ^ (k + 1))
    have h15 := ten_le hk
    have hp := ten_pos (k + 1)
    have hp' := ten_pos k
    have hs : 10 ^ (k + 1) = 10 ^ k * 10 := Nat.pow_succ 10 k
    obtain ⟨t1, e1, h1⟩ := add_c (n := n) ht (c := 48 + m / 10 ^ (k + 1) % 10) (by omega)
    obtain ⟨t2, e2, h2⟩ := ih n t1 (by omega) (by omega) h1.v
    refine ⟨t2, ?_, h1.app h2⟩
    have hc : ¬ lg_cmp (cW ((10 ^ (k + 1) : Nat) : Int)) 0 ≤ 0 := by
      rw [show (0 : Int64) = cW 0 from rfl, lg_cW (by omega) (by omega) (by omega) (by omega), izs_le0]
      omega
    have hc2 : ¬ cW ((10 ^ (k + 1) : Nat) : Int) = 0 := by
      rw [show (0 : Int64) = cW 0 from rfl, cW_eq (by omega) (by omega) (by omega) (by omega)]
      omega
    have hd : cW ((10 ^ (k + 1) : Nat) : Int) / 10 = cW ((10 ^ k : Nat) : Int) := by
      rw [show (10 : Int64) = cW ((10 : Nat) : Int) from rfl, q_div (by omega) (by omega), hs, Nat.mul_div_cancel _ (by omega)]
    rw [fT_addNumber_b, if_neg (by decide), if_neg hc, if_neg hc2, q_div (by omega) (by omega), dig_code (by omega), e1, Option.bind_some]
    dsimp only
    rw [hd, e2]
theorem an1 {m : Nat} (hm : m < 10000000000000000) {z : Int64} : ∀ (f k n : Nat) (t : TS), k + f = 15 → 40 < n + k → RV t → ∃ t' : TS, fT_addNumber_b n 1 (cW ((10 ^ k : Nat) : Int)) (cW (m : Int)) z t.1 (i3 t.2.1) t.2.2 = some (t'.1, i3 t'.2.1, t'.2.2) ∧ Wr t ((dgs (nlA f (k + 1) m) m).map sb) t' := by
  intro f
  induction f with
  | zero =>
    intro k n t hk hn ht
    obtain rfl : k = 15 := by omega
    obtain ⟨n, rfl⟩ : ∃ j, n = j + 1 := ⟨n - 1, by omega⟩
    obtain ⟨t1, e1, h1⟩ := an2 hm (z := z) 15 n t (by omega) (by omega) ht
    refine ⟨t1, ?_, h1⟩
    rw [fT_addNumber_b, if_pos rfl, if_pos (by decide)]
    exact e1
  | succ f ih =>
    intro k n t hk hn ht
    obtain ⟨n, rfl⟩ : ∃ j, n = j + 1 := ⟨n - 1, by omega⟩
    have h14 : 10 ^ k ≤ 100000000000000 := Nat.pow_le_pow_right (n := 10) (by omega) (show k ≤ 14 by omega)
    have hp := ten_pos k
    have hs : 10 ^ (k + 1) = 10 ^ k * 10 := Nat.pow_succ 10 k
    have hq := Nat.div_le_self m (10 ^ k)
    have hc1 : ¬ 0 < lg_cmp (cW ((10 ^ k : Nat) : Int)) 900719925474099 := by
      rw [show (900719925474099 : Int64) = cW 900719925474099 from rfl, lg_cW (by omega) (by omega) (by omega) (by omega), izs_gt0]
      omega
    have hc2 : ¬ cW ((10 ^ k : Nat) : Int) = 0 := by
      rw [show (0 : Int64) = cW 0 from rfl, cW_eq (by omega) (by omega) (by omega) (by omega)]
      omega
    have hlt : m / 10 ^ k < 10 ↔ m < 10 ^ (k + 1) := by
      rw [Nat.div_lt_iff_lt_mul (by omega), hs, Nat.mul_comm]
    have hc3 : (lg_cmp (cW ((m / 10 ^ k : Nat) : Int)) 10 < 0) = (m < 10 ^ (k + 1)) := by
      rw [← propext hlt]
      generalize m / 10 ^ k = q at hq
      rw [show (10 : Int64) = cW 10 from rfl, lg_cW (by omega) (by omega) (by omega) (by omega), izs_lt0]
      exact propext (by omega)
    unfold nlA
    rw [fT_addNumber_b, if_pos rfl, if_neg hc1, if_neg hc2, q_div (by omega) (by omega)]
    by_cases h : m < 10 ^ (k + 1)
    · rw [if_pos h, if_pos (by rw [hc3]; exact h)]
      exact an2 hm k n t (by omega) (by omega) ht
    · rw [if_neg h, if_neg (by rw [hc3]; exact h)]
      have e : cW ((10 ^ k : Nat) : Int) * 10 = cW ((10 ^ (k + 1) : Nat) : Int) := by
        rw [show (10 : Int64) = cW 10 from rfl, cW_mul, hs]
        rfl
      rw [e]
      exact ih (k + 1) n t (by omega) (by omega) ht
theorem cW_neg (a : Int) : - cW a = cW (-a) := (Int64.ofInt_neg a).symm
theorem abs_cW {z : Int} (h1 : -9223372036854775807 ≤ z) (h2 : z ≤ 9223372036854775807) : (if 0 < cW z then cW z else - cW z) = cW (z.natAbs : Nat) := by
  by_cases h : 0 < z
  · rw [if_pos (by rw [show (0 : Int64) = cW 0 from rfl, cW_lt (by omega) (by omega) (by omega) (by omega)]; exact h)]
    congr 1
    omega
  · rw [if_neg (by rw [show (0 : Int64) = cW 0 from rfl, cW_lt (by omega) (by omega) (by omega) (by omega)]; exact h), cW_neg]
    congr 1
    omega
theorem addNumber_w {n : Nat} (hn : 40 < n) (ht : RV t) {z : Int} (h1 : -9007199254740991 ≤ z) (h2 : z ≤ 9007199254740991) : ∃ t' : TS, fT_addNumber n (cW z) t.1 (i3 t.2.1) t.2.2 = some (t'.1, i3 t'.2.1, t'.2.2) ∧ Wr t ((nt z).map sb) t' := by
  unfold fT_addNumber nt nl
  rw [abs_cW (by omega) (by omega)]
  have hc : (0 ≤ lg_cmp (cW z) 0) = (0 ≤ z) := by
    rw [show (0 : Int64) = cW 0 from rfl, lg_cW (by omega) (by omega) (by omega) (by omega), izs_ge0, Int.sub_zero]
  by_cases h : z < 0
  · rw [if_neg (by rw [hc]; omega), if_pos h]
    obtain ⟨t1, e1, g1⟩ := add_c (n := n) ht (c := 45) (by omega)
    obtain ⟨t2, e2, g2⟩ := an1 (m := z.natAbs) (by omega) (z := cW z) 15 0 n t1 (by omega) (by omega) g1.v
    refine ⟨t2, ?_, by rw [List.map_append]; exact g1.app g2⟩
    rw [show (45 : Int32) = i3 45 from rfl, e1, Option.bind_some]
    exact e2
  · rw [if_pos (by rw [hc]; omega), if_neg h]
    exact an1 (m := z.natAbs) (by omega) (z := cW z) 15 0 n t (by omega) (by omega) ht
end AN
