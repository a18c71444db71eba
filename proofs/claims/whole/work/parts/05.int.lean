/-! ===== numbers: ints out of naturals, cells out of integers ===== -/
def i3 (n : Nat) : Int32 := Int32.ofNat n
def iz (z : Int) : Int32 := Int32.ofInt z
def cW (w : Int) : Int64 := Int64.ofInt w
theorem i3_lit (n : Nat) : (OfNat.ofNat n : Int32) = i3 (OfNat.ofNat n) := rfl
theorem i3_int {n : Nat} (h : n < 2147483648) : (i3 n).toInt = n := Int32.toInt_ofNat_of_lt h
theorem iz_int {z : Int} (h : -2147483648 ≤ z) (h' : z < 2147483648) : (iz z).toInt = z := Int32.toInt_ofInt_of_le h h'
theorem cW_int {z : Int} (h : -9223372036854775808 ≤ z) (h' : z < 9223372036854775808) : (cW z).toInt = z := Int64.toInt_ofInt_of_le h h'
theorem iz_nat (n : Nat) : iz (n : Int) = i3 n := by
  unfold iz i3
  rfl
theorem i3_add (a b : Nat) : i3 a + i3 b = i3 (a + b) := (Int32.ofNat_add a b).symm
theorem i3_one (a : Nat) : i3 a + 1 = i3 (a + 1) := i3_add a 1
theorem i3_sub {a b : Nat} (h : b ≤ a) : i3 a - i3 b = i3 (a - b) := (Int32.ofNat_sub a b h).symm
theorem i3_pred {a : Nat} (h : 1 ≤ a) : i3 a - 1 = i3 (a - 1) := i3_sub h
theorem i3_N {n : Nat} (h : n < 2147483648) : (i3 n).toNatClampNeg = n := Int32.toNatClampNeg_ofNat_of_lt h
theorem i3_lt {a b : Nat} (ha : a < 2147483648) (hb : b < 2147483648) : (i3 a < i3 b) = (a < b) := by
  rw [Int32.lt_iff_toInt_lt, i3_int ha, i3_int hb]
  exact propext Int.ofNat_lt
theorem i3_le {a b : Nat} (ha : a < 2147483648) (hb : b < 2147483648) : (i3 a ≤ i3 b) = (a ≤ b) := by
  rw [Int32.le_iff_toInt_le, i3_int ha, i3_int hb]
  exact propext Int.ofNat_le
theorem i3_eq {a b : Nat} (ha : a < 2147483648) (hb : b < 2147483648) : (i3 a = i3 b) = (a = b) := by
  rw [← Int32.toInt_inj, i3_int ha, i3_int hb]
  exact propext Int.ofNat_inj
theorem i3_neg {a : Nat} (ha : a < 2147483648) : (i3 a < 0) = False := by
  have := i3_lt (a := a) (b := 0) ha (by omega)
  rw [show (0 : Int32) = i3 0 from rfl, this]
  exact eq_false (by omega)
theorem i3_m1 {a : Nat} (ha : a < 2147483648) : (i3 a = -1) = False := by
  refine eq_false (fun h => ?_)
  have h2 := congrArg Int32.toInt h
  rw [i3_int ha] at h2
  have h3 : (-1 : Int32).toInt = -1 := by decide
  omega
theorem iz_lt {a b : Int} (h1 : -2147483648 ≤ a) (h2 : a < 2147483648) (h3 : -2147483648 ≤ b) (h4 : b < 2147483648) : (iz a < iz b) = (a < b) := by
  rw [Int32.lt_iff_toInt_lt, iz_int h1 h2, iz_int h3 h4]
theorem iz_le {a b : Int} (h1 : -2147483648 ≤ a) (h2 : a < 2147483648) (h3 : -2147483648 ≤ b) (h4 : b < 2147483648) : (iz a ≤ iz b) = (a ≤ b) := by
  rw [Int32.le_iff_toInt_le, iz_int h1 h2, iz_int h3 h4]
theorem iz_eq {a b : Int} (h1 : -2147483648 ≤ a) (h2 : a < 2147483648) (h3 : -2147483648 ≤ b) (h4 : b < 2147483648) : (iz a = iz b) = (a = b) := by
  rw [← Int32.toInt_inj, iz_int h1 h2, iz_int h3 h4]
theorem i3_of {x : Int32} (h : ¬ x < 0) : x = i3 x.toNatClampNeg := by
  apply Int32.toInt_inj.mp
  have h0 : (0 : Int32).toInt = 0 := by decide
  rw [Int32.lt_iff_toInt_lt, h0] at h
  have h1 : x.toInt < 2147483648 := x.toInt_lt
  have h2 : x.toNatClampNeg = x.toInt.toNat := rfl
  rw [i3_int (by rw [h2]; omega), h2]
  omega
/-- an int is a natural number or below 0 -/
theorem i3_cases (x : Int32) : x < 0 ∨ ∃ n : Nat, n < 2147483648 ∧ x = i3 n := by
  by_cases h : x < 0
  · exact Or.inl h
  · refine Or.inr ⟨x.toNatClampNeg, ?_, i3_of h⟩
    have := x.toNatClampNeg_lt
    omega
/-! cells -/
theorem i3_and (a k : Nat) : i3 a &&& i3 (2 ^ k - 1) = i3 (a % 4294967296 % 2 ^ k % 4294967296) := by
  apply Int32.toBitVec_inj.mp
  show (BitVec.ofNat 32 a &&& BitVec.ofNat 32 (2 ^ k - 1)) = BitVec.ofNat 32 _
  by_cases hk : k ≤ 32
  · apply BitVec.eq_of_toNat_eq
    have h2 : 2 ^ k - 1 < 2 ^ 32 := by
      have := Nat.pow_le_pow_right (n := 2) (by omega) hk
      have := Nat.two_pow_pos k
      omega
    simp only [BitVec.toNat_and, BitVec.toNat_ofNat]
    rw [Nat.mod_eq_of_lt h2, Nat.and_two_pow_sub_one_eq_mod]
    have h3 : a % 4294967296 % 2 ^ k ≤ a % 4294967296 := Nat.mod_le _ _
    have h4 : a % 4294967296 < 4294967296 := Nat.mod_lt _ (by omega)
    show a % 4294967296 % 2 ^ k = a % 4294967296 % 2 ^ k % 4294967296 % 4294967296
    rw [Nat.mod_mod, Nat.mod_eq_of_lt (Nat.lt_of_le_of_lt h3 h4)]
  · have hk2 : 2 ^ 32 ≤ 2 ^ k := Nat.pow_le_pow_right (by omega) (by omega)
    have e : (BitVec.ofNat 32 (2 ^ k - 1)) = BitVec.allOnes 32 := by
      apply BitVec.eq_of_toNat_eq
      rw [BitVec.toNat_ofNat, BitVec.toNat_allOnes]
      obtain ⟨c, rfl⟩ : ∃ c, k = 32 + c := ⟨k - 32, by omega⟩
      rw [Nat.pow_add]
      have := Nat.two_pow_pos c
      obtain ⟨b, hb⟩ : ∃ b, 2 ^ c = b + 1 := ⟨2 ^ c - 1, by omega⟩
      rw [hb]
      omega
    rw [e, BitVec.and_allOnes]
    apply BitVec.eq_of_toNat_eq
    simp only [BitVec.toNat_ofNat]
    have h3 : a % 4294967296 < 2 ^ k := by
      have : a % 4294967296 < 4294967296 := Nat.mod_lt _ (by omega)
      omega
    rw [Nat.mod_eq_of_lt h3]
    omega
theorem iz_mod (z : Int) : iz z = i3 (z % 4294967296).toNat := by
  apply Int32.toBitVec_inj.mp
  show BitVec.ofInt 32 z = BitVec.ofNat 32 _
  apply BitVec.eq_of_toNat_eq
  simp only [BitVec.toNat_ofInt, BitVec.toNat_ofNat]
  show (z % 4294967296).toNat = (z % 4294967296).toNat % 4294967296
  omega
theorem cW_32 (z : Int) : (cW z).toInt32 = iz z := Int64.toInt32_ofInt
theorem iz_and7 (z : Int) : iz z &&& 7 = i3 (z % 8).toNat := by
  rw [iz_mod]
  have := i3_and (z % 4294967296).toNat 3
  rw [show (7 : Int32) = i3 (2 ^ 3 - 1) from rfl, this]
  congr 1
  omega
theorem iz_and16 (z : Int) : iz z &&& 65535 = i3 (z % 65536).toNat := by
  rw [iz_mod]
  have := i3_and (z % 4294967296).toNat 16
  rw [show (65535 : Int32) = i3 (2 ^ 16 - 1) from rfl, this]
  congr 1
  omega
theorem iz_and8 (z : Int) : iz z &&& 255 = i3 (z % 256).toNat := by
  rw [iz_mod]
  have := i3_and (z % 4294967296).toNat 8
  rw [show (255 : Int32) = i3 (2 ^ 8 - 1) from rfl, this]
  congr 1
  omega
theorem cW_shr {z : Int} (h : -9223372036854775808 ≤ z) (h' : z < 9223372036854775808) {k : Int64} {m : Nat} (hk : (k.toBitVec.smod 64).toNat = m) : cW z >>> k = cW (z / 2 ^ m) := by
  apply Int64.toBitVec_inj.mp
  apply BitVec.toInt_inj.mp
  have e : (cW z >>> k).toBitVec = (cW z).toBitVec.sshiftRight m := by
    rw [← hk]
    rfl
  have h2 : (cW z).toBitVec.toInt = z := cW_int h h'
  rw [e, BitVec.toInt_sshiftRight, h2, Int.shiftRight_eq_div_pow]
  have hp : (0 : Int) < 2 ^ m := Int.pow_pos (by omega)
  have hd1 : z / 2 ^ m < 9223372036854775808 := by
    apply Int.ediv_lt_of_lt_mul hp
    have : (9223372036854775808 : Int) * 1 ≤ 9223372036854775808 * 2 ^ m := Int.mul_le_mul_of_nonneg_left (by omega) (by omega)
    omega
  have hd2 : -9223372036854775808 ≤ z / 2 ^ m := by
    apply Int.le_ediv_of_mul_le hp
    have : (-9223372036854775808 : Int) * 2 ^ m ≤ -9223372036854775808 * 1 := Int.mul_le_mul_of_nonpos_left (by omega) (by omega)
    omega
  have h3 : (cW (z / 2 ^ m)).toBitVec.toInt = z / 2 ^ m := cW_int hd2 hd1
  rw [h3]
  norm_cast
theorem cW_shr3 {z : Int} (h : -9223372036854775808 ≤ z) (h' : z < 9223372036854775808) : cW z >>> ((3 : Int32).toInt64 &&& 63) = cW (z / 8) := cW_shr (m := 3) h h' (by decide)
theorem cW_shr19 {z : Int} (h : -9223372036854775808 ≤ z) (h' : z < 9223372036854775808) : cW z >>> ((19 : Int32).toInt64 &&& 63) = cW (z / 524288) := cW_shr (m := 19) h h' (by decide)
theorem cW_and7 (z : Int) : cW z &&& 7 = cW (z % 8) := by
  apply Int64.toBitVec_inj.mp
  show (BitVec.ofInt 64 z &&& 7#64) = BitVec.ofInt 64 _
  apply BitVec.eq_of_toNat_eq
  simp only [BitVec.toNat_and, BitVec.toNat_ofInt]
  show (z % 18446744073709551616).toNat &&& (2 ^ 3 - 1) = (z % 8 % 18446744073709551616).toNat
  rw [Nat.and_two_pow_sub_one_eq_mod]
  omega
theorem cW_eq {a b : Int} (h1 : -9223372036854775808 ≤ a) (h2 : a < 9223372036854775808) (h3 : -9223372036854775808 ≤ b) (h4 : b < 9223372036854775808) : (cW a = cW b) = (a = b) := by
  rw [← Int64.toInt_inj, cW_int h1 h2, cW_int h3 h4]
theorem cW_lt {a b : Int} (h1 : -9223372036854775808 ≤ a) (h2 : a < 9223372036854775808) (h3 : -9223372036854775808 ≤ b) (h4 : b < 9223372036854775808) : (cW a < cW b) = (a < b) := by
  rw [Int64.lt_iff_toInt_lt, cW_int h1 h2, cW_int h3 h4]
theorem cW_lit (n : Nat) : (OfNat.ofNat n : Int64) = cW (OfNat.ofNat n : Nat) := by
  show Int64.ofNat n = Int64.ofInt (n : Int)
  rfl
/-- sign of a comparison -/
def sg (z : Int) : Int := if z < 0 then -1 else if z = 0 then 0 else 1
theorem lg_cW {a b : Int} (h1 : -9223372036854775808 ≤ a) (h2 : a < 9223372036854775808) (h3 : -9223372036854775808 ≤ b) (h4 : b < 9223372036854775808) : lg_cmp (cW a) (cW b) = iz (sg (a - b)) := by
  have e1 := cW_lt h3 h4 h1 h2
  have e2 := cW_eq h1 h2 h3 h4
  unfold lg_cmp sg
  by_cases h : b < a
  · rw [if_pos (show cW b < cW a from e1 ▸ h), if_neg (by omega), if_neg (by omega)]
    rfl
  · rw [if_neg (show ¬ cW b < cW a from e1 ▸ h)]
    by_cases h' : a = b
    · rw [if_pos (e2 ▸ h'), if_neg (by omega), if_pos (by omega)]
      rfl
    · rw [if_neg (e2 ▸ h'), if_pos (by omega)]
      rfl
theorem sg_le (z : Int) : -1 ≤ sg z ∧ sg z ≤ 1 := by unfold sg; split <;> (try split) <;> omega
theorem sg_lt0 (z : Int) : sg z < 0 ↔ z < 0 := by unfold sg; split <;> (try split) <;> omega
theorem sg_eq0 (z : Int) : sg z = 0 ↔ z = 0 := by unfold sg; split <;> (try split) <;> omega
theorem sg_gt0 (z : Int) : 0 < sg z ↔ 0 < z := by unfold sg; split <;> (try split) <;> omega
theorem sg_neg (z : Int) : sg (-z) = - sg z := by unfold sg; split <;> (try split) <;> (try split) <;> (try split) <;> omega
theorem izs_lt0 (z : Int) : (iz (sg z) < 0) = (z < 0) := by
  have := sg_le z
  rw [show (0 : Int32) = iz 0 from rfl, iz_lt (by omega) (by omega) (by omega) (by omega)]
  exact propext (sg_lt0 z)
theorem izs_eq0 (z : Int) : (iz (sg z) = 0) = (z = 0) := by
  have := sg_le z
  rw [show (0 : Int32) = iz 0 from rfl, iz_eq (by omega) (by omega) (by omega) (by omega)]
  exact propext (sg_eq0 z)
theorem izs_ge0 (z : Int) : (0 ≤ iz (sg z)) = (0 ≤ z) := by
  have := sg_le z
  rw [show (0 : Int32) = iz 0 from rfl, iz_le (by omega) (by omega) (by omega) (by omega)]
  have := sg_lt0 z
  exact propext (by omega)
theorem izs_gt0 (z : Int) : (0 < iz (sg z)) = (0 < z) := by
  have := sg_le z
  rw [show (0 : Int32) = iz 0 from rfl, iz_lt (by omega) (by omega) (by omega) (by omega)]
  exact propext (sg_gt0 z)
theorem izs_le0 (z : Int) : (iz (sg z) ≤ 0) = (z ≤ 0) := by
  have := sg_le z
  rw [show (0 : Int32) = iz 0 from rfl, iz_le (by omega) (by omega) (by omega) (by omega)]
  have := sg_gt0 z
  exact propext (by omega)
theorem cW_nat (n : Nat) : cW (n : Int) = Int64.ofNat n := rfl
theorem i3_64 {n : Nat} (h : n < 2147483648) : (i3 n).toInt64 = cW n := by
  apply Int64.toInt_inj.mp
  rw [Int32.toInt_toInt64, i3_int h, cW_int (by omega) (by omega)]
theorem cW_or {a b k : Nat} (hb : b < 2 ^ k) : cW ((a * 2 ^ k : Nat) : Int) ||| cW (b : Int) = cW ((a * 2 ^ k + b : Nat) : Int) := by
  apply Int64.toBitVec_inj.mp
  show (BitVec.ofNat 64 (a * 2 ^ k) ||| BitVec.ofNat 64 b) = BitVec.ofNat 64 _
  rw [← BitVec.ofNat_or, Nat.mul_comm, ← Nat.two_pow_add_eq_or_of_lt hb]
theorem cW_shl {a m : Nat} {k : Int64} (hk : (k.toBitVec.smod 64).toNat = m) : cW (a : Int) <<< k = cW ((a * 2 ^ m : Nat) : Int) := by
  apply Int64.toBitVec_inj.mp
  have e : (cW (a : Int) <<< k).toBitVec = BitVec.ofNat 64 a <<< m := by
    rw [← hk]
    rfl
  rw [e]
  show _ = BitVec.ofNat 64 (a * 2 ^ m)
  apply BitVec.eq_of_toNat_eq
  rw [BitVec.toNat_shiftLeft, BitVec.toNat_ofNat, BitVec.toNat_ofNat, Nat.shiftLeft_eq, Nat.mod_mul_mod]
/-- the head of a string or a list, as close makes it -/
theorem head_mk {sp ln kd : Nat} (hs : sp < 2147483648) (hl : ln < 65536) (hk : kd < 8) : (((i3 sp).toInt64 <<< ((19 : Int32).toInt64 &&& 63)) ||| ((i3 ln).toInt64 <<< ((3 : Int32).toInt64 &&& 63))) ||| (i3 kd).toInt64 = cW ((sp * 524288 + ln * 8 + kd : Nat) : Int) := by
  rw [i3_64 hs, i3_64 (by omega), i3_64 (by omega), cW_shl (m := 19) (by decide), cW_shl (m := 3) (by decide), cW_or (a := sp) (b := ln * 2 ^ 3) (k := 19) (by omega)]
  have : sp * 2 ^ 19 + ln * 2 ^ 3 = (sp * 65536 + ln) * 2 ^ 3 := by omega
  rw [this, cW_or (by omega)]
theorem num_mk {z : Int} : (cW z <<< ((3 : Int32).toInt64 &&& 63)) ||| 3 = cW (z * 8 + 3) := by
  apply Int64.toBitVec_inj.mp
  have e : (cW z <<< ((3 : Int32).toInt64 &&& 63)).toBitVec = BitVec.ofInt 64 z <<< 3 := rfl
  show _ ||| 3#64 = BitVec.ofInt 64 _
  rw [e]
  apply BitVec.eq_of_toNat_eq
  rw [BitVec.toNat_or, BitVec.toNat_shiftLeft, BitVec.toNat_ofInt, BitVec.toNat_ofInt]
  show ((z % 18446744073709551616).toNat <<< 3) % 2 ^ 64 ||| 3 = ((z * 8 + 3) % 18446744073709551616).toNat
  rw [Nat.shiftLeft_eq, show (z % 18446744073709551616).toNat * 2 ^ 3 % 2 ^ 64 = 2 ^ 3 * ((z % 18446744073709551616).toNat % 2305843009213693952) by omega, ← Nat.two_pow_add_eq_or_of_lt (i := 3) (by omega)]
  omega
theorem i3_idx {p m : Nat} (h : p < m) (hp : p < 2147483648) : ¬ (i3 p < 0 ∨ m ≤ (i3 p).toNatClampNeg) := by
  rw [i3_N hp]
  rintro (h1 | h1)
  · rw [i3_neg hp] at h1
    exact h1
  · omega
theorem i3_nn {p : Nat} (hp : p < 2147483648) : ¬ i3 p < 0 := by
  rw [i3_neg hp]
  exact not_false
theorem i3_nle {p v : Nat} (h : p < v) (hv : v < 2147483648) : ¬ i3 v ≤ i3 p := by
  rw [i3_le hv (by omega)]
  omega
