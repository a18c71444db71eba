section ZInt5
/-! ===== numbers: ints out of naturals, cells out of integers ===== -/
def i3 (n : Nat) : Int32 := Int32.ofNat n
def iz (z : Int) : Int32 := Int32.ofInt z
def cW (w : Int) : Int64 := Int64.ofInt w
theorem i3_lit (n : Nat) : (OfNat.ofNat n : Int32) = i3 (OfNat.ofNat n) := rfl
theorem i3_int {n : Nat} (h : n < 2147483648) : (i3 n).toInt = n := Int32.toInt_ofNat_of_lt h
theorem iz_int {z : Int} (h : -2147483648 ≤ z) (h' : z < 2147483648) : (iz z).toInt = z := Int32.toInt_ofInt_of_le h h'
theorem cW_int {z : Int} (h : -9223372036854775808 ≤ z) (h' : z < 9223372036854775808) : (cW z).toInt = z := Int64.toInt_ofInt_of_le h h'
theorem iz_nat (n : Nat) : iz (n : Int) = i3 n := by
  unfold iz i3
  rfl
theorem i3_add (a b : Nat) : i3 a + i3 b = i3 (a + b) := (Int32.ofNat_add a b).symm
theorem i3_one (a : Nat) : i3 a + 1 = i3 (a + 1) := i3_add a 1
theorem i3_sub {a b : Nat} (h : b ≤ a) : i3 a - i3 b = i3 (a - b) := (Int32.ofNat_sub a b h).symm
theorem i3_pred {a : Nat} (h : 1 ≤ a) : i3 a - 1 = i3 (a - 1) := i3_sub h
theorem i3_N {n : Nat} (h : n < 2147483648) : (i3 n).toNatClampNeg = n := Int32.toNatClampNeg_ofNat_of_lt h
theorem i3_lt {a b : Nat} (ha : a < 2147483648) (hb : b < 2147483648) : (i3 a < i3 b) = (a < b) := by
  rw [Int32.lt_iff_toInt_lt, i3_int ha, i3_int hb]
  exact propext Int.ofNat_lt
theorem i3_le {a b : Nat} (ha : a < 2147483648) (hb : b < 2147483648) : (i3 a ≤ i3 b) = (a ≤ b) := by
  rw [Int32.le_iff_toInt_le, i3_int ha, i3_int hb]
  exact propext Int.ofNat_le
theorem i3_eq {a b : Nat} (ha : a < 2147483648) (hb : b < 2147483648) : (i3 a = i3 b) = (a = b) := by
  rw [← Int32.toInt_inj, i3_int ha, i3_int hb]
  exact propext Int.ofNat_inj
theorem i3_neg {a : Nat} (ha : a < 2147483648) : (i3 a < 0) = False := by
  have := i3_lt (a := a) (b := 0) ha (by omega)
  rw [show (0 : Int32) = i3 0 from rfl, this]
  exact eq_false (by omega)
theorem i3_m1 {a : Nat} (ha : a < 2147483648) : (i3 a = -1) = False := by
  refine eq_false (fun h => ?_)
  have h2 := congrArg Int32.toInt h
  rw [i3_int ha] at h2
  have h3 : (-1 : Int32).toInt = -1 := by decide
  omega
theorem iz_lt {a b : Int} (h1 : -2147483648 ≤ a) (h2 : a < 2147483648) (h3 : -2147483648 ≤ b) (h4 : b < 2147483648) : (iz a < iz b) = (a < b) := by
  rw [Int32.lt_iff_toInt_lt, iz_int h1 h2, iz_int h3 h4]
theorem iz_le {a b : Int} (h1 : -2147483648 ≤ a) (h2 : a < 2147483648) (h3 : -2147483648 ≤ b) (h4 : b < 2147483648) : (iz a ≤ iz b) = (a ≤ b) := by
  rw [Int32.le_iff_toInt_le, iz_int h1 h2, iz_int h3 h4]
theorem iz_eq {a b : Int} (h1 : -2147483648 ≤ a) (h2 : a < 2147483648) (h3 : -2147483648 ≤ b) (h4 : b < 2147483648) : (iz a = iz b) = (a = b) := by
  rw [← Int32.toInt_inj, iz_int h1 h2, iz_int h3 h4]
theorem i3_of {x : Int32} (h : ¬ x < 0) : x = i3 x.toNatClampNeg := by
  apply Int32.toInt_inj.mp
  have h0 : (0 : Int32).toInt = 0 := by decide
  rw [Int32.lt_iff_toInt_lt, h0] at h
  have h1 : x.toInt < 2147483648 := x.toInt_lt
  have h2 : x.toNatClampNeg = x.toInt.toNat := rfl
  rw [i3_int (by rw [h2]; omega), h2]
  omega
/-- an int is a natural number or below 0 -/
theorem i3_cases (x : Int32) : x < 0 ∨ ∃ n : Nat, n < 2147483648 ∧ x = i3 n := by
  by_cases h : x < 0
  · exact Or.inl h
  · refine Or.inr ⟨x.toNatClampNeg, ?_, i3_of h⟩
    have := x.toNatClampNeg_lt
    omega
/-! cells -/
theorem i3_and (a k : Nat) : i3 a &&& i3 (2 ^ k - 1) = i3 (a % 4294967296 % 2 ^ k % 4294967296) := by
  apply Int32.toBitVec_inj.mp
  show (BitVec.ofNat 32 a &&& BitVec.ofNat 32 (2 ^ k - 1)) = BitVec.ofNat 32 _
  by_cases hk : k ≤ 32
  · apply BitVec.eq_of_toNat_eq
    have h2 : 2 ^ k - 1 < 2 ^ 32 := by
      have := Nat.pow_le_pow_right (n := 2) (by omega) hk
      have := Nat.two_pow_pos k
      omega
    simp only [BitVec.toNat_and, BitVec.toNat_ofNat]
    rw [Nat.mod_eq_of_lt h2, Nat.and_two_pow_sub_one_eq_mod]
    have h3 : a % 4294967296 % 2 ^ k ≤ a % 4294967296 := Nat.mod_le _ _
    have h4 : a % 4294967296 < 4294967296 := Nat.mod_lt _ (by omega)
    show a % 4294967296 % 2 ^ k = a % 4294967296 % 2 ^ k % 4294967296 % 4294967296
    rw [Nat.mod_mod, Nat.mod_eq_of_lt (Nat.lt_of_le_of_lt h3 h4)]
  · have hk2 : 2 ^ 32 ≤ 2 ^ k := Nat.pow_le_pow_right (by omega) (by omega)
    have e : (BitVec.ofNat 32 (2 ^ k - 1)) = BitVec.allOnes 32 := by
      apply BitVec.eq_of_toNat_eq
      rw [BitVec.toNat_ofNat, BitVec.toNat_allOnes]
      obtain ⟨c, rfl⟩ : ∃ c, k = 32 + c := ⟨k - 32, by omega⟩
      rw [Nat.pow_add]
      have := Nat.two_pow_pos c
      obtain ⟨b, hb⟩ : ∃ b, 2 ^ c = b + 1 := ⟨2 ^ c - 1, by omega⟩
      rw [hb]
      omega
    rw [e, BitVec.and_allOnes]
    apply BitVec.eq_of_toNat_eq
    simp only [BitVec.toNat_ofNat]
    have h3 : a % 4294967296 < 2 ^ k := by
      have : a % 4294967296 < 4294967296 := Nat.mod_lt _ (by omega)
      omega
    rw [Nat.mod_eq_of_lt h3]
    omega
theorem iz_mod (z : Int) : iz z = i3 (z % 4294967296).toNat := by
  apply Int32.toBitVec_inj.mp
  show BitVec.ofInt 32 z = BitVec.ofNat 32 _
  apply BitVec.eq_of_toNat_eq
  simp only [BitVec.toNat_ofInt, BitVec.toNat_ofNat]
  show (z % 4294967296).toNat = (z % 4294967296).toNat % 4294967296
  omega
theorem cW_32 (z : Int) : (cW z).toInt32 = iz z := Int64.toInt32_ofInt
theorem iz_and7 (z : Int) : iz z &&& 7 = i3 (z % 8).toNat := by
  rw [iz_mod]
  have := i3_and (z % 4294967296).toNat 3
  rw [show (7 : Int32) = i3 (2 ^ 3 - 1) from rfl, this]
  congr 1
  omega
theorem iz_and16 (z : Int) : iz z &&& 65535 = i3 (z % 65536).toNat := by
  rw [iz_mod]
  have := i3_and (z % 4294967296).toNat 16
  rw [show (65535 : Int32) = i3 (2 ^ 16 - 1) from rfl, this]
  congr 1
  omega
theorem iz_and8 (z : Int) : iz z &&& 255 = i3 (z % 256).toNat := by
  rw [iz_mod]
  have := i3_and (z % 4294967296).toNat 8
  rw [show (255 : Int32) = i3 (2 ^ 8 - 1) from rfl, this]
  congr 1
  omega
theorem cW_shr {z : Int} (h : -9223372036854775808 ≤ z) (h' : z < 9223372036854775808) {k : Int64} {m : Nat} (hk : (k.toBitVec.smod 64).toNat = m) : cW z >>> k = cW (z / 2 ^ m) := by
  apply Int64.toBitVec_inj.mp
  apply BitVec.toInt_inj.mp
  have e : (cW z >>> k).toBitVec = (cW z).toBitVec.sshiftRight m := by
    rw [← hk]
    rfl
  have h2 : (cW z).toBitVec.toInt = z := cW_int h h'
  rw [e, BitVec.toInt_sshiftRight, h2, Int.shiftRight_eq_div_pow]
  have hp : (0 : Int) < 2 ^ m := Int.pow_pos (by omega)
  have hd1 : z / 2 ^ m < 9223372036854775808 := by
    apply Int.ediv_lt_of_lt_mul hp
    have : (9223372036854775808 : Int) * 1 ≤ 9223372036854775808 * 2 ^ m := Int.mul_le_mul_of_nonneg_left (by omega) (by omega)
    omega
  have hd2 : -9223372036854775808 ≤ z / 2 ^ m := by
    apply Int.le_ediv_of_mul_le hp
    have : (-9223372036854775808 : Int) * 2 ^ m ≤ -9223372036854775808 * 1 := Int.mul_le_mul_of_nonpos_left (by omega) (by omega)
    omega
  have h3 : (cW (z / 2 ^ m)).toBitVec.toInt = z / 2 ^ m := cW_int hd2 hd1
  rw [h3]
  norm_cast
theorem cW_shr3 {z : Int} (h : -9223372036854775808 ≤ z) (h' : z < 9223372036854775808) : cW z >>> ((3 : Int32).toInt64 &&& 63) = cW (z / 8) := cW_shr (m := 3) h h' (by decide)
theorem cW_shr19 {z : Int} (h : -9223372036854775808 ≤ z) (h' : z < 9223372036854775808) : cW z >>> ((19 : Int32).toInt64 &&& 63) = cW (z / 524288) := cW_shr (m := 19) h h' (by decide)
theorem cW_and7 (z : Int) : cW z &&& 7 = cW (z % 8) := by
  apply Int64.toBitVec_inj.mp
  show (BitVec.ofInt 64 z &&& 7#64) = BitVec.ofInt 64 _
  apply BitVec.eq_of_toNat_eq
  simp only [BitVec.toNat_and, BitVec.toNat_ofInt]
  show (z % 18446744073709551616).toNat &&& (2 ^ 3 - 1) = (z % 8 % 18446744073709551616).toNat
  rw [Nat.and_two_pow_sub_one_eq_mod]
  omega
theorem cW_eq {a b : Int} (h1 : -9223372036854775808 ≤ a) (h2 : a < 9223372036854775808) (h3 : -9223372036854775808 ≤ b) (h4 : b < 9223372036854775808) : (cW a = cW b) = (a = b) := by
  rw [← Int64.toInt_inj, cW_int h1 h2, cW_int h3 h4]
theorem cW_lt {a b : Int} (h1 : -9223372036854775808 ≤ a) (h2 : a < 9223372036854775808) (h3 : -9223372036854775808 ≤ b) (h4 : b < 9223372036854775808) : (cW a < cW b) = (a < b) := by
  rw [Int64.lt_iff_toInt_lt, cW_int h1 h2, cW_int h3 h4]
theorem cW_lit (n : Nat) : (OfNat.ofNat n : Int64) = cW (OfNat.ofNat n : Nat) := by
  show Int64.ofNat n = Int64.ofInt (n : Int)
  rfl
/-- sign of a comparison -/
def sg (z : Int) : Int := if z < 0 then -1 else if z = 0 then 0 else 1
theorem lg_cW {a b : Int} (h1 : -9223372036854775808 ≤ a) (h2 : a < 9223372036854775808) (h3 : -9223372036854775808 ≤ b) (h4 : b < 9223372036854775808) : lg_cmp (cW a) (cW b) = iz (sg (a - b)) := by
  have e1 := cW_lt h3 h4 h1 h2
  have e2 := cW_eq h1 h2 h3 h4
  unfold lg_cmp sg
  by_cases h : b < a
  · rw [if_pos (show cW b < cW a from e1 ▸ h), if_neg (by omega), if_neg (by omega)]
    rfl
  · rw [if_neg (show ¬ cW b < cW a from e1 ▸ h)]
    by_cases h' : a = b
    · rw [if_pos (e2 ▸ h'), if_neg (by omega), if_pos (by omega)]
      rfl
    · rw [if_neg (e2 ▸ h'), if_pos (by omega)]
      rfl
theorem sg_le (z : Int) : -1 ≤ sg z ∧ sg z ≤ 1 := by unfold sg; split <;> (try split) <;> omega
theorem sg_lt0 (z : Int) : sg z < 0 ↔ z < 0 := by unfold sg; split <;> (try split) <;> omega
theorem sg_eq0 (z : Int) : sg z = 0 ↔ z = 0 := by unfold sg; split <;> (try split) <;> omega
theorem sg_gt0 (z : Int) : 0 < sg z ↔ 0 < z := by unfold sg; split <;> (try split) <;> omega
theorem sg_neg (z : Int) : sg (-z) = - sg z := by unfold sg; split <;> (try split) <;> (try split) <;> (try split) <;> omega
theorem izs_lt0 (z : Int) : (iz (sg z) < 0) = (z < 0) := by
  have := sg_le z
  rw [show (0 : Int32) = iz 0 from rfl, iz_lt (by omega) (by omega) (by omega) (by omega)]
  exact propext (sg_lt0 z)
theorem izs_eq0 (z : Int) : (iz (sg z) = 0) = (z = 0) := by
  have := sg_le z
  rw [show (0 : Int32) = iz 0 from rfl, iz_eq (by omega) (by omega) (by omega) (by omega)]
  exact propext (sg_eq0 z)
theorem izs_ge0 (z : Int) : (0 ≤ iz (sg z)) = (0 ≤ z) := by
  have := sg_le z
  rw [show (0 : Int32) = iz 0 from rfl, iz_le (by omega) (by omega) (by omega) (by omega)]
  have := sg_lt0 z
  exact propext (by omega)
theorem izs_gt0 (z : Int) : (0 < iz (sg z)) = (0 < z) := by
  have := sg_le z
  rw [show (0 : Int32) = iz 0 from rfl, iz_lt (by omega) (by omega) (by omega) (by omega)]
  exact propext (sg_gt0 z)
theorem izs_le0 (z : Int) : (iz (sg z) ≤ 0) = (z ≤ 0) := by
  have := sg_le z
  rw [show (0 : Int32) = iz 0 from rfl, iz_le (by omega) (by omega) (by omega) (by omega)]
  have := sg_gt0 z
  exact propext (by omega)
theorem cW_nat (n : Nat) : cW (n : Int) = Int64.ofNat n := rfl
theorem i3_64 {n : Nat} (h : n < 2147483648) : (i3 n).toInt64 = cW n := by
  apply Int64.toInt_inj.mp
  rw [Int32.toInt_toInt64, i3_int h, cW_int (by omega) (by omega)]
theorem cW_or {a b k : Nat} (hb : b < 2 ^ k) : cW ((a * 2 ^ k : Nat) : Int) ||| cW (b : Int) = cW ((a * 2 ^ k + b : Nat) : Int) := by
  apply Int64.toBitVec_inj.mp
  show (BitVec.ofNat 64 (a * 2 ^ k) ||| BitVec.ofNat 64 b) = BitVec.ofNat 64 _
  rw [← BitVec.ofNat_or, Nat.mul_comm, ← Nat.two_pow_add_eq_or_of_lt hb]
theorem cW_shl {a m : Nat} {k : Int64} (hk : (k.toBitVec.smod 64).toNat = m) : cW (a : Int) <<< k = cW ((a * 2 ^ m : Nat) : Int) := by
  apply Int64.toBitVec_inj.mp
  have e : (cW (a : Int) <<< k).toBitVec = BitVec.ofNat 64 a <<< m := by
    rw [← hk]
    rfl
  rw [e]
  show _ = BitVec.ofNat 64 (a * 2 ^ m)
  apply BitVec.eq_of_toNat_eq
  rw [BitVec.toNat_shiftLeft, BitVec.toNat_ofNat, BitVec.toNat_ofNat, Nat.shiftLeft_eq, Nat.mod_mul_mod]
/-- the head of a string or a list, as close makes it -/
theorem head_mk {sp ln kd : Nat} (hs : sp < 2147483648) (hl : ln < 65536) (hk : kd < 8) : (((i3 sp).toInt64 <<< ((19 : Int32).toInt64 &&& 63)) ||| ((i3 ln).toInt64 <<< ((3 : Int32).toInt64 &&& 63))) ||| (i3 kd).toInt64 = cW ((sp * 524288 + ln * 8 + kd : Nat) : Int) := by
  rw [i3_64 hs, i3_64 (by omega), i3_64 (by omega), cW_shl (m := 19) (by decide), cW_shl (m := 3) (by decide), cW_or (a := sp) (b := ln * 2 ^ 3) (k := 19) (by omega)]
  have : sp * 2 ^ 19 + ln * 2 ^ 3 = (sp * 65536 + ln) * 2 ^ 3 := by omega
  rw [this, cW_or (by omega)]
theorem num_mk {z : Int} : (cW z <<< ((3 : Int32).toInt64 &&& 63)) ||| 3 = cW (z * 8 + 3) := by
  apply Int64.toBitVec_inj.mp
  have e : (cW z <<< ((3 : Int32).toInt64 &&& 63)).toBitVec = BitVec.ofInt 64 z <<< 3 := rfl
  show _ ||| 3#64 = BitVec.ofInt 64 _
  rw [e]
  apply BitVec.eq_of_toNat_eq
  rw [BitVec.toNat_or, BitVec.toNat_shiftLeft, BitVec.toNat_ofInt, BitVec.toNat_ofInt]
  show ((z % 18446744073709551616).toNat <<< 3) % 2 ^ 64 ||| 3 = ((z * 8 + 3) % 18446744073709551616).toNat
  rw [Nat.shiftLeft_eq, show (z % 18446744073709551616).toNat * 2 ^ 3 % 2 ^ 64 = 2 ^ 3 * ((z % 18446744073709551616).toNat % 2305843009213693952) by omega, ← Nat.two_pow_add_eq_or_of_lt (i := 3) (by omega)]
  omega
theorem i3_idx {p m : Nat} (h : p < m) (hp : p < 2147483648) : ¬ (i3 p < 0 ∨ m ≤ (i3 p).toNatClampNeg) := by
  rw [i3_N hp]
  rintro (h1 | h1)
  · rw [i3_neg hp] at h1
    exact h1
  · omega
theorem i3_nn {p : Nat} (hp : p < 2147483648) : ¬ i3 p < 0 := by
  rw [i3_neg hp]
  exact not_false
theorem i3_nle {p v : Nat} (h : p < v) (hv : v < 2147483648) : ¬ i3 v ≤ i3 p := by
  rw [i3_le hv (by omega)]
  omega
end ZInt5
section ZJt6
/-! ===== values: trees with at most d - 1 lists within one another ===== -/
abbrev Sx : Type := List Nat
def JT : Nat → Type
  | 0 => Empty
  | d + 1 => (Nat ⊕ Int ⊕ List Nat) ⊕ (List (JT d) ⊕ List (List Nat × JT d))
def jk {d : Nat} (k : Nat) : JT (d + 1) := Sum.inl (Sum.inl k)
def jn {d : Nat} (z : Int) : JT (d + 1) := Sum.inl (Sum.inr (Sum.inl z))
def js {d : Nat} (s : Sx) : JT (d + 1) := Sum.inl (Sum.inr (Sum.inr s))
def ja {d : Nat} (l : List (JT d)) : JT (d + 1) := Sum.inr (Sum.inl l)
def jo {d : Nat} (l : List (Sx × JT d)) : JT (d + 1) := Sum.inr (Sum.inr l)
theorem jcases {d : Nat} (j : JT (d + 1)) : (∃ k, j = jk k) ∨ (∃ z, j = jn z) ∨ (∃ s, j = js s) ∨ (∃ l, j = ja l) ∨ (∃ l, j = jo l) := by
  rcases j with (k | z | s) | (l | l)
  · exact Or.inl ⟨k, rfl⟩
  · exact Or.inr (Or.inl ⟨z, rfl⟩)
  · exact Or.inr (Or.inr (Or.inl ⟨s, rfl⟩))
  · exact Or.inr (Or.inr (Or.inr (Or.inl ⟨l, rfl⟩)))
  · exact Or.inr (Or.inr (Or.inr (Or.inr ⟨l, rfl⟩)))
/-- the kind, as both programs number it -/
def kd : (d : Nat) → JT d → Nat
  | 0, j => Empty.elim j
  | _ + 1, .inl (.inl k) => k
  | _ + 1, .inl (.inr (.inl _)) => 3
  | _ + 1, .inl (.inr (.inr _)) => 4
  | _ + 1, .inr (.inl _) => 5
  | _ + 1, .inr (.inr _) => 6
/-- a head: kind, length, cells of the whole -/
def hd (k len span : Nat) : Int64 := cW ((span * 524288 + len * 8 + k : Nat) : Int)
def strc (s : Sx) : List Int64 := hd 4 s.length (s.length + 1) :: s.map (fun c => cW (c : Nat))
def lst (k len : Nat) (body : List Int64) : List Int64 := hd k len (body.length + 1) :: body
/-- the cells of a value -/
def jc : (d : Nat) → JT d → List Int64
  | 0, j => Empty.elim j
  | _ + 1, .inl (.inl k) => [cW (k : Nat)]
  | _ + 1, .inl (.inr (.inl z)) => [cW (z * 8 + 3)]
  | _ + 1, .inl (.inr (.inr s)) => strc s
  | d + 1, .inr (.inl l) => lst 5 l.length (l.flatMap (jc d))
  | d + 1, .inr (.inr l) => lst 6 l.length (l.flatMap (fun p => strc p.1 ++ jc d p.2))
/-- what is well formed -/
def sok (s : Sx) : Prop := ∀ c ∈ s, c < 128
def jok : (d : Nat) → JT d → Prop
  | 0, j => Empty.elim j
  | _ + 1, .inl (.inl k) => k < 3
  | _ + 1, .inl (.inr (.inl z)) => -9007199254740991 ≤ z ∧ z ≤ 9007199254740991
  | _ + 1, .inl (.inr (.inr s)) => sok s
  | d + 1, .inr (.inl l) => ∀ x ∈ l, jok d x
  | d + 1, .inr (.inr l) => (∀ p ∈ l, sok p.1 ∧ jok d p.2) ∧ (l.map (fun p => p.1)).Nodup
/-- lists within one another -/
def jd : (d : Nat) → JT d → Nat
  | 0, j => Empty.elim j
  | _ + 1, .inl _ => 0
  | d + 1, .inr (.inl l) => (l.map (jd d)).foldl max 0 + 1
  | d + 1, .inr (.inr l) => (l.map (fun p => jd d p.2)).foldl max 0 + 1
/-! decimal digits -/
def dgs : Nat → Nat → List Nat
  | 0, _ => []
  | k + 1, n => (48 + n / 10 ^ k % 10) :: dgs k n
def nlA : Nat → Nat → Nat → Nat
  | 0, k, _ => k
  | f + 1, k, n => if n < 10 ^ k then k else nlA f (k + 1) n
/-- how many digits -/
def nl (n : Nat) : Nat := nlA 15 1 n
def nt (z : Int) : List Nat := (if z < 0 then [45] else []) ++ dgs (nl z.natAbs) z.natAbs
/-- a character as printed -/
def hx (d : Nat) : Nat := if d < 10 then 48 + d else 87 + d
def esc (c : Nat) : List Nat :=
  if c = 34 then [92, 34] else if c = 92 then [92, 92] else if c = 8 then [92, 98] else if c = 9 then [92, 116] else if c = 10 then [92, 110] else if c = 12 then [92, 102] else if c = 13 then [92, 114]
  else if c < 32 ∨ c = 127 then [92, 117, 48, 48, hx (c / 16), hx (c % 16)] else [c]
def qt (s : Sx) : List Nat := 34 :: (s.flatMap esc ++ [34])
/-- with commas between -/
def cj : List (List Nat) → List Nat
  | [] => []
  | x :: l => x ++ l.flatMap (fun y => 44 :: y)
def wd (k : Nat) : List Nat := if k = 0 then [110, 117, 108, 108] else if k = 1 then [102, 97, 108, 115, 101] else [116, 114, 117, 101]
/-- what is printed -/
def jt : (d : Nat) → JT d → List Nat
  | 0, j => Empty.elim j
  | _ + 1, .inl (.inl k) => wd k
  | _ + 1, .inl (.inr (.inl z)) => nt z
  | _ + 1, .inl (.inr (.inr s)) => qt s
  | d + 1, .inr (.inl l) => 91 :: (cj (l.map (jt d)) ++ [93])
  | d + 1, .inr (.inr l) => 123 :: (cj (l.map (fun p => qt p.1 ++ 58 :: jt d p.2)) ++ [125])
/-! the order -/
def lexC {α β : Type} (c : α → β → Int) : List α → List β → Int
  | [], [] => 0
  | [], _ :: _ => -1
  | _ :: _, [] => 1
  | x :: a, y :: b => if c x y = 0 then lexC c a b else c x y
def cS : Sx → Sx → Int := lexC (fun x y => sg ((x : Int) - y))
/-- the first least name behind the last one -/
def nxA {α : Type} (last : Option Sx) : List (Sx × α) → Option (Sx × α) → Option (Sx × α)
  | [], b => b
  | p :: l, b => nxA last l (if (last.all (fun t => decide (0 < cS p.1 t))) && (b.all (fun t => decide (cS p.1 t.1 < 0))) then some p else b)
def nx {α : Type} (l : List (Sx × α)) (last : Option Sx) : Option (Sx × α) := nxA last l none
def sq {α : Type} (l : List (Sx × α)) : Nat → Option Sx → List (Sx × α)
  | 0, _ => []
  | n + 1, last => match nx l last with
    | none => []
    | some p => p :: sq l n (some p.1)
def srt {α : Type} (l : List (Sx × α)) : List (Sx × α) := sq l l.length none
def objC {α : Type} (c : α → α → Int) (a b : List (Sx × α)) : Int :=
  if lexC cS ((srt a).map (fun p => p.1)) ((srt b).map (fun p => p.1)) = 0 then lexC c ((srt a).map (fun p => p.2)) ((srt b).map (fun p => p.2)) else lexC cS ((srt a).map (fun p => p.1)) ((srt b).map (fun p => p.1))
/-- the kind, of any tree, for the order -/
def rk : (d : Nat) → JT d → Nat
  | 0, j => Empty.elim j
  | _ + 1, .inl (.inl k) => min k 2
  | _ + 1, .inl (.inr (.inl _)) => 3
  | _ + 1, .inl (.inr (.inr _)) => 4
  | _ + 1, .inr (.inl _) => 5
  | _ + 1, .inr (.inr _) => 6
def jcmp : (d : Nat) → JT d → JT d → Int
  | 0, j, _ => Empty.elim j
  | d + 1, x, y => if rk (d + 1) x = rk (d + 1) y then
      match x, y with
      | .inl (.inr (.inl a)), .inl (.inr (.inl b)) => sg (a - b)
      | .inl (.inr (.inr a)), .inl (.inr (.inr b)) => cS a b
      | .inr (.inl a), .inr (.inl b) => lexC (jcmp d) a b
      | .inr (.inr a), .inr (.inr b) => objC (jcmp d) a b
      | _, _ => 0
    else sg ((rk (d + 1) x : Int) - rk (d + 1) y)
/-! in a deeper type -/
def lf : (d : Nat) → JT d → JT (d + 1)
  | 0, j => Empty.elim j
  | _ + 1, .inl b => .inl b
  | d + 1, .inr (.inl l) => .inr (.inl (l.map (lf d)))
  | d + 1, .inr (.inr l) => .inr (.inr (l.map (fun p => (p.1, lf d p.2))))
section JE
variable {d : Nat}
theorem kd_k {k : Nat} : kd (d + 1) (jk k) = k := rfl
theorem kd_n {z : Int} : kd (d + 1) (jn z) = 3 := rfl
theorem kd_s {s : Sx} : kd (d + 1) (js s) = 4 := rfl
theorem kd_a {l : List (JT d)} : kd (d + 1) (ja l) = 5 := rfl
theorem kd_o {l : List (Sx × JT d)} : kd (d + 1) (jo l) = 6 := rfl
theorem jc_k {k : Nat} : jc (d + 1) (jk k) = [cW (k : Nat)] := rfl
theorem jc_n {z : Int} : jc (d + 1) (jn z) = [cW (z * 8 + 3)] := rfl
theorem jc_s {s : Sx} : jc (d + 1) (js s) = strc s := rfl
theorem jc_a {l : List (JT d)} : jc (d + 1) (ja l) = lst 5 l.length (l.flatMap (jc d)) := rfl
theorem jc_o {l : List (Sx × JT d)} : jc (d + 1) (jo l) = lst 6 l.length (l.flatMap (fun p => strc p.1 ++ jc d p.2)) := rfl
theorem jok_k {k : Nat} : jok (d + 1) (jk k) = (k < 3) := rfl
theorem jok_n {z : Int} : jok (d + 1) (jn z) = (-9007199254740991 ≤ z ∧ z ≤ 9007199254740991) := rfl
theorem jok_s {s : Sx} : jok (d + 1) (js s) = sok s := rfl
theorem jok_a {l : List (JT d)} : jok (d + 1) (ja l) = (∀ x ∈ l, jok d x) := rfl
theorem jok_o {l : List (Sx × JT d)} : jok (d + 1) (jo l) = ((∀ p ∈ l, sok p.1 ∧ jok d p.2) ∧ (l.map (fun p => p.1)).Nodup) := rfl
theorem jd_k {k : Nat} : jd (d + 1) (jk k) = 0 := rfl
theorem jd_n {z : Int} : jd (d + 1) (jn z) = 0 := rfl
theorem jd_s {s : Sx} : jd (d + 1) (js s) = 0 := rfl
theorem jd_a {l : List (JT d)} : jd (d + 1) (ja l) = (l.map (jd d)).foldl max 0 + 1 := rfl
theorem jd_o {l : List (Sx × JT d)} : jd (d + 1) (jo l) = (l.map (fun p => jd d p.2)).foldl max 0 + 1 := rfl
theorem jt_k {k : Nat} : jt (d + 1) (jk k) = wd k := rfl
theorem jt_n {z : Int} : jt (d + 1) (jn z) = nt z := rfl
theorem jt_s {s : Sx} : jt (d + 1) (js s) = qt s := rfl
theorem jt_a {l : List (JT d)} : jt (d + 1) (ja l) = 91 :: (cj (l.map (jt d)) ++ [93]) := rfl
theorem jt_o {l : List (Sx × JT d)} : jt (d + 1) (jo l) = 123 :: (cj (l.map (fun p => qt p.1 ++ 58 :: jt d p.2)) ++ [125]) := rfl
theorem jcmp_ne {x y : JT (d + 1)} (h : rk (d + 1) x ≠ rk (d + 1) y) : jcmp (d + 1) x y = sg ((rk (d + 1) x : Int) - rk (d + 1) y) := by
  unfold jcmp
  rw [if_neg h]
theorem rk_ok {x : JT (d + 1)} (h : jok (d + 1) x) : rk (d + 1) x = kd (d + 1) x := by
  rcases jcases x with ⟨k, rfl⟩ | ⟨z, rfl⟩ | ⟨s, rfl⟩ | ⟨l, rfl⟩ | ⟨l, rfl⟩
  · rw [jok_k] at h
    show min k 2 = k
    omega
  · rfl
  · rfl
  · rfl
  · rfl
theorem jcmp_k {a b : Nat} : jcmp (d + 1) (jk a) (jk b) = sg (((min a 2 : Nat) : Int) - (min b 2 : Nat)) := by
  unfold jcmp
  by_cases h : min a 2 = min b 2
  · rw [if_pos (show rk (d + 1) (jk a) = rk (d + 1) (jk b) from h), h]
    show (0 : Int) = sg (((min b 2 : Nat) : Int) - (min b 2 : Nat))
    rw [Int.sub_self]
    rfl
  · rw [if_neg (show ¬ rk (d + 1) (jk a) = rk (d + 1) (jk b) from h)]
    rfl
theorem jcmp_n {a b : Int} : jcmp (d + 1) (jn a) (jn b) = sg (a - b) := rfl
theorem jcmp_s {a b : Sx} : jcmp (d + 1) (js a) (js b) = cS a b := rfl
theorem jcmp_a {a b : List (JT d)} : jcmp (d + 1) (ja a) (ja b) = lexC (jcmp d) a b := rfl
theorem jcmp_o {a b : List (Sx × JT d)} : jcmp (d + 1) (jo a) (jo b) = objC (jcmp d) a b := rfl
theorem lf_k {k : Nat} : lf (d + 1) (jk k) = jk k := rfl
theorem lf_n {z : Int} : lf (d + 1) (jn z) = jn z := rfl
theorem lf_s {s : Sx} : lf (d + 1) (js s) = js s := rfl
theorem lf_a {l : List (JT d)} : lf (d + 1) (ja l) = ja (l.map (lf d)) := rfl
theorem lf_o {l : List (Sx × JT d)} : lf (d + 1) (jo l) = jo (l.map (fun p => (p.1, lf d p.2))) := rfl
end JE
theorem j0 (j : JT 0) : False := Empty.elim j
theorem jc_lf : ∀ (d : Nat) (j : JT d), jc (d + 1) (lf d j) = jc d j := by
  intro d
  induction d with
  | zero => exact fun j => (j0 j).elim
  | succ d ih =>
    intro j
    rcases jcases j with ⟨k, rfl⟩ | ⟨z, rfl⟩ | ⟨s, rfl⟩ | ⟨l, rfl⟩ | ⟨l, rfl⟩
    · rfl
    · rfl
    · rfl
    · rw [lf_a, jc_a, jc_a, List.length_map, List.flatMap_map]
      simp only [ih]
    · rw [lf_o, jc_o, jc_o, List.length_map, List.flatMap_map]
      simp only [ih]
theorem jt_lf : ∀ (d : Nat) (j : JT d), jt (d + 1) (lf d j) = jt d j := by
  intro d
  induction d with
  | zero => exact fun j => (j0 j).elim
  | succ d ih =>
    intro j
    rcases jcases j with ⟨k, rfl⟩ | ⟨z, rfl⟩ | ⟨s, rfl⟩ | ⟨l, rfl⟩ | ⟨l, rfl⟩
    · rfl
    · rfl
    · rfl
    · rw [lf_a, jt_a, jt_a, List.map_map]
      congr 4
      funext x
      exact ih x
    · rw [lf_o, jt_o, jt_o, List.map_map]
      congr 4
      funext x
      exact congrArg (fun y => qt x.1 ++ 58 :: y) (ih x.2)
theorem jok_lf : ∀ (d : Nat) (j : JT d), jok (d + 1) (lf d j) ↔ jok d j := by
  intro d
  induction d with
  | zero => exact fun j => (j0 j).elim
  | succ d ih =>
    intro j
    rcases jcases j with ⟨k, rfl⟩ | ⟨z, rfl⟩ | ⟨s, rfl⟩ | ⟨l, rfl⟩ | ⟨l, rfl⟩
    · exact Iff.rfl
    · exact Iff.rfl
    · exact Iff.rfl
    · rw [lf_a, jok_a, jok_a]
      simp only [List.mem_map, forall_exists_index, and_imp, forall_apply_eq_imp_iff₂, ih]
    · rw [lf_o, jok_o, jok_o]
      simp only [List.mem_map, forall_exists_index, and_imp, forall_apply_eq_imp_iff₂, ih, List.map_map, Function.comp_def]
theorem kd_lf (d : Nat) (j : JT d) : kd (d + 1) (lf d j) = kd d j := by
  cases d with
  | zero => exact (j0 j).elim
  | succ d => rcases jcases j with ⟨k, rfl⟩ | ⟨z, rfl⟩ | ⟨s, rfl⟩ | ⟨l, rfl⟩ | ⟨l, rfl⟩ <;> rfl
theorem jd_lf : ∀ (d : Nat) (j : JT d), jd (d + 1) (lf d j) = jd d j := by
  intro d
  induction d with
  | zero => exact fun j => (j0 j).elim
  | succ d ih =>
    intro j
    rcases jcases j with ⟨k, rfl⟩ | ⟨z, rfl⟩ | ⟨s, rfl⟩ | ⟨l, rfl⟩ | ⟨l, rfl⟩
    · rfl
    · rfl
    · rfl
    · rw [lf_a, jd_a, jd_a, List.map_map]
      congr 3
      funext x
      exact ih x
    · rw [lf_o, jd_o, jd_o, List.map_map]
      congr 3
      funext x
      exact ih x.2
theorem foldl_max_le {l : List Nat} {a b : Nat} : l.foldl max a ≤ b ↔ a ≤ b ∧ ∀ x ∈ l, x ≤ b := by
  induction l generalizing a with
  | nil => simp
  | cons x l ih =>
    rw [List.foldl_cons, ih]
    simp only [List.mem_cons, forall_eq_or_imp]
    rw [Nat.max_le, and_assoc]
theorem jd_le : ∀ (d : Nat) (j : JT d), jd d j ≤ d := by
  intro d
  induction d with
  | zero => exact fun j => (j0 j).elim
  | succ d ih =>
    intro j
    rcases jcases j with ⟨k, rfl⟩ | ⟨z, rfl⟩ | ⟨s, rfl⟩ | ⟨l, rfl⟩ | ⟨l, rfl⟩
    · exact Nat.zero_le _
    · exact Nat.zero_le _
    · exact Nat.zero_le _
    · rw [jd_a]
      refine Nat.succ_le_succ (foldl_max_le.mpr ⟨Nat.zero_le _, fun x hx => ?_⟩)
      obtain ⟨y, _, rfl⟩ := List.mem_map.mp hx
      exact ih y
    · rw [jd_o]
      refine Nat.succ_le_succ (foldl_max_le.mpr ⟨Nat.zero_le _, fun x hx => ?_⟩)
      obtain ⟨y, _, rfl⟩ := List.mem_map.mp hx
      exact ih y.2
/-- the depth of a list is that of each in it, and one -/
theorem jd_a_le {d : Nat} {l : List (JT d)} {n : Nat} : jd (d + 1) (ja l) ≤ n + 1 ↔ ∀ x ∈ l, jd d x ≤ n := by
  rw [jd_a, Nat.add_le_add_iff_right, foldl_max_le]
  simp
theorem jd_o_le {d : Nat} {l : List (Sx × JT d)} {n : Nat} : jd (d + 1) (jo l) ≤ n + 1 ↔ ∀ p ∈ l, jd d p.2 ≤ n := by
  rw [jd_o, Nat.add_le_add_iff_right, foldl_max_le]
  refine ⟨fun h p hp => h.2 _ (List.mem_map_of_mem hp), fun h => ⟨Nat.zero_le _, fun x hx => ?_⟩⟩
  obtain ⟨p, hp, rfl⟩ := List.mem_map.mp hx
  exact h p hp
theorem jd_a_pos {d : Nat} {l : List (JT d)} : 1 ≤ jd (d + 1) (ja l) := Nat.le_add_left _ _
theorem jd_o_pos {d : Nat} {l : List (Sx × JT d)} : 1 ≤ jd (d + 1) (jo l) := Nat.le_add_left _ _
end ZJt6
section ZSeg7
/-! ===== cells in a row ===== -/
def seg {α : Type} (f : Nat → α) (p : Nat) (w : List α) : Prop := ∀ i x, w[i]? = some x → f (p + i) = x
section SG
variable {α : Type} {f g : Nat → α} {p q : Nat} {w u : List α} {x : α}
theorem seg_nil : seg f p [] := fun i x h => by simp at h
theorem seg_cons : seg f p (x :: w) ↔ f p = x ∧ seg f (p + 1) w := by
  constructor
  · intro h
    refine ⟨h 0 x rfl, fun i y hy => ?_⟩
    have := h (i + 1) y (by simpa using hy)
    rw [← this]
    congr 1
    omega
  · rintro ⟨h1, h2⟩ i y hy
    cases i with
    | zero =>
      have := Option.some.inj hy
      rw [← this]
      exact h1
    | succ i =>
      have := h2 i y (by simpa using hy)
      rw [← this]
      congr 1
      omega
theorem seg_app : seg f p (w ++ u) ↔ seg f p w ∧ seg f (p + w.length) u := by
  induction w generalizing p with
  | nil => simp [seg_nil]
  | cons y w ih =>
    rw [List.cons_append, seg_cons, ih, seg_cons, List.length_cons, and_assoc, show p + 1 + w.length = p + (w.length + 1) by omega]
theorem seg_one : seg f p [x] ↔ f p = x := by rw [seg_cons]; simp [seg_nil]
theorem seg_get (h : seg f p w) {i : Nat} (hi : i < w.length) : f (p + i) = w[i] := h i _ (List.getElem?_eq_getElem hi)
/-- a row that agrees there -/
theorem seg_of (h : seg f p w) (he : ∀ i, i < w.length → g (q + i) = f (p + i)) : seg g q w := fun i y hy => by
  obtain ⟨hi, _⟩ := List.getElem?_eq_some_iff.mp hy
  rw [he i hi]
  exact h i y hy
theorem seg_eqs (h : seg f p w) (h' : seg g q w) {i : Nat} (hi : i < w.length) : f (p + i) = g (q + i) := (seg_get h hi).trans (seg_get h' hi).symm
end SG
/-! sizes -/
theorem jc_pos : ∀ (d : Nat) (j : JT d), 1 ≤ (jc d j).length := by
  intro d j
  cases d with
  | zero => exact (j0 j).elim
  | succ d => rcases jcases j with ⟨k, rfl⟩ | ⟨z, rfl⟩ | ⟨s, rfl⟩ | ⟨l, rfl⟩ | ⟨l, rfl⟩ <;> exact Nat.le_add_left 1 _
theorem strc_len (s : Sx) : (strc s).length = s.length + 1 := by simp [strc]
theorem lst_len (k n : Nat) (b : List Int64) : (lst k n b).length = b.length + 1 := rfl
theorem flat_len {β : Type} {l : List β} {c : β → List Int64} (h : ∀ x ∈ l, 1 ≤ (c x).length) : l.length ≤ (l.flatMap c).length := by
  induction l with
  | nil => simp
  | cons x l ih =>
    rw [List.flatMap_cons, List.length_append, List.length_cons]
    have := h x (List.mem_cons_self ..)
    have := ih (fun y hy => h y (List.mem_cons_of_mem _ hy))
    omega
/-! the row's own questions, at a cell that is known -/
section RW
variable {n : Nat} {f : Nat → Int64} {p v : Nat} {o : Int32}
theorem kind_in (hp : p < v) (hv : v ≤ 4096) : fR_kind n (i3 p) f (i3 v) o = some ((f p).toInt32 &&& 7) := by
  unfold fR_kind
  rw [if_neg (i3_nn (by omega)), if_neg (i3_nle (by omega) (by omega)), if_neg (i3_idx (by omega) (by omega)), i3_N (by omega)]
theorem cell_in (hp : p < v) (hv : v ≤ 4096) : fR_cell n (i3 p) f (i3 v) o = some (f p) := by
  unfold fR_cell
  rw [if_neg (i3_nn (by omega)), if_neg (i3_nle (by omega) (by omega)), if_neg (i3_idx (by omega) (by omega)), i3_N (by omega)]
theorem number_in (hp : p < v) (hv : v ≤ 4096) : fR_number n (i3 p) f (i3 v) o = some (f p >>> ((3 : Int32).toInt64 &&& 63)) := by
  unfold fR_number
  rw [if_neg (i3_nn (by omega)), if_neg (i3_nle (by omega) (by omega)), if_neg (i3_idx (by omega) (by omega)), i3_N (by omega)]
theorem length_in (hp : p < v) (hv : v ≤ 4096) : fR_length n (i3 p) f (i3 v) o = some ((f p >>> ((3 : Int32).toInt64 &&& 63)).toInt32 &&& 65535) := by
  unfold fR_length
  rw [if_neg (i3_nn (by omega)), if_neg (i3_nle (by omega) (by omega)), if_neg (i3_idx (by omega) (by omega)), i3_N (by omega)]
theorem code_in {i : Nat} (hp : p + 1 + i < v) (hv : v ≤ 4096) : fR_code n (i3 p) (i3 i) f (i3 v) o = some ((f (p + 1 + i)).toInt32) := by
  unfold fR_code
  rw [i3_one, i3_add, if_neg (i3_nn (by omega)), if_neg (i3_nle (by omega) (by omega)), if_neg (i3_idx (by omega) (by omega)), i3_N (by omega)]
theorem after_in (hp : p < v) (hv : v ≤ 4096) : fR_after n (i3 p) f (i3 v) o = if 0 ≤ lg_cmp (f p &&& 7) 4 then some (i3 p + (f p >>> ((19 : Int32).toInt64 &&& 63)).toInt32) else some (i3 (p + 1)) := by
  unfold fR_after
  rw [if_neg (i3_nn (by omega)), if_neg (i3_nle (by omega) (by omega)), if_neg (i3_idx (by omega) (by omega)), if_neg (i3_idx (by omega) (by omega)), i3_N (by omega), i3_one]
end RW
/-! heads -/
theorem hd_kind {k l s : Nat} (hk : k < 8) : (hd k l s).toInt32 &&& 7 = i3 k := by
  unfold hd
  rw [cW_32, iz_and7]
  congr 1
  omega
theorem hd_len {k l s : Nat} (hk : k < 8) (hl : l < 65536) (hs : s < 2147483648) : (hd k l s >>> ((3 : Int32).toInt64 &&& 63)).toInt32 &&& 65535 = i3 l := by
  unfold hd
  rw [cW_shr3 (by omega) (by omega), cW_32, iz_and16]
  congr 1
  omega
theorem hd_span {k l s : Nat} (hk : k < 8) (hl : l < 65536) (hs : s < 2147483648) : (hd k l s >>> ((19 : Int32).toInt64 &&& 63)).toInt32 = i3 s := by
  unfold hd
  rw [cW_shr19 (by omega) (by omega), cW_32, ← iz_nat]
  congr 1
  omega
theorem hd_and {k l s : Nat} (hk : k < 8) : hd k l s &&& 7 = cW (k : Nat) := by
  unfold hd
  rw [cW_and7]
  congr 1
  omega
theorem nc_kind {z : Int} : (cW (z * 8 + 3)).toInt32 &&& 7 = i3 3 := by
  rw [cW_32, iz_and7]
  congr 1
  omega
theorem nc_num {z : Int} (h : -9007199254740991 ≤ z) (h' : z ≤ 9007199254740991) : cW (z * 8 + 3) >>> ((3 : Int32).toInt64 &&& 63) = cW z := by
  rw [cW_shr3 (by omega) (by omega)]
  congr 1
  omega
theorem kc_kind {k : Nat} (h : k < 8) : (cW (k : Nat)).toInt32 &&& 7 = i3 k := by
  rw [cW_32, iz_and7]
  congr 1
  omega
/-! a value in a row: v cells in use, the value's at p -/
def At (f : Nat → Int64) (v p : Nat) (w : List Int64) : Prop := seg f p w ∧ p + w.length ≤ v ∧ v ≤ 4096
section AT
variable {n : Nat} {f : Nat → Int64} {p v d : Nat} {o : Int32}
theorem jc_head (j : JT d) (hok : jok d j) (hl : (jc d j).length ≤ 4096) : ∃ x w, jc d j = x :: w ∧ x.toInt32 &&& 7 = i3 (kd d j) ∧ (kd d j < 4 → w = []) ∧ x &&& 7 = cW (kd d j : Nat) ∧ (4 ≤ kd d j → (x >>> ((19 : Int32).toInt64 &&& 63)).toInt32 = i3 (w.length + 1)) := by
  cases d with
  | zero => exact (j0 j).elim
  | succ d =>
    rcases jcases j with ⟨k, rfl⟩ | ⟨z, rfl⟩ | ⟨s, rfl⟩ | ⟨l, rfl⟩ | ⟨l, rfl⟩
    · rw [jok_k] at hok
      refine ⟨_, _, jc_k, kc_kind (by omega), fun _ => rfl, ?_, fun h => ?_⟩
      · rw [cW_and7, kd_k]
        congr 1
        omega
      · rw [kd_k] at h
        omega
    · refine ⟨_, _, jc_n, nc_kind, fun _ => rfl, ?_, fun h => by rw [kd_n] at h; omega⟩
      rw [cW_and7, kd_n]
      congr 1
      omega
    · have e : (jc (d + 1) (js s)).length = s.length + 1 := strc_len s
      refine ⟨_, _, jc_s, hd_kind (by omega), fun h => by rw [kd_s] at h; omega, hd_and (by omega), fun _ => ?_⟩
      rw [hd_span (by omega) (by omega) (by omega), List.length_map]
    · have e : (jc (d + 1) (ja l)).length = (l.flatMap (jc d)).length + 1 := rfl
      have := flat_len (l := l) (c := jc d) (fun x _ => jc_pos d x)
      refine ⟨_, _, jc_a, hd_kind (by omega), fun h => by rw [kd_a] at h; omega, hd_and (by omega), fun _ => ?_⟩
      rw [hd_span (by omega) (by omega) (by omega)]
    · have e : (jc (d + 1) (jo l)).length = (l.flatMap (fun p => strc p.1 ++ jc d p.2)).length + 1 := rfl
      have := flat_len (l := l) (c := fun p => strc p.1 ++ jc d p.2) (fun x _ => by rw [List.length_append, strc_len]; omega)
      refine ⟨_, _, jc_o, hd_kind (by omega), fun h => by rw [kd_o] at h; omega, hd_and (by omega), fun _ => ?_⟩
      rw [hd_span (by omega) (by omega) (by omega)]
theorem At.kind {j : JT d} (h : At f v p (jc d j)) (hok : jok d j) : fR_kind n (i3 p) f (i3 v) o = some (i3 (kd d j)) := by
  obtain ⟨h1, h2, h3⟩ := h
  obtain ⟨x, w, e, hk, _⟩ := jc_head j hok (by omega)
  rw [e] at h1 h2
  rw [kind_in (by rw [List.length_cons] at h2; omega) h3, (seg_cons.mp h1).1, hk]
theorem At.after {j : JT d} (h : At f v p (jc d j)) (hok : jok d j) : fR_after n (i3 p) f (i3 v) o = some (i3 (p + (jc d j).length)) := by
  obtain ⟨h1, h2, h3⟩ := h
  obtain ⟨x, w, e, hk, h4, h5, h6⟩ := jc_head j hok (by omega)
  rw [e] at h1 h2 ⊢
  rw [List.length_cons] at h2
  have hk8 : kd d j < 8 := by
    cases d with
    | zero => exact (j0 j).elim
    | succ d =>
      rcases jcases j with ⟨k, rfl⟩ | ⟨z, rfl⟩ | ⟨s, rfl⟩ | ⟨l, rfl⟩ | ⟨l, rfl⟩
      · rw [jok_k] at hok; rw [kd_k]; omega
      · rw [kd_n]; omega
      · rw [kd_s]; omega
      · rw [kd_a]; omega
      · rw [kd_o]; omega
  rw [after_in (by omega) h3, (seg_cons.mp h1).1, h5, show (4 : Int64) = cW ((4 : Nat) : Int) from rfl, lg_cW (by omega) (by omega) (by omega) (by omega)]
  by_cases h7 : 4 ≤ kd d j
  · rw [if_pos (by rw [izs_ge0]; omega), h6 h7, i3_add, List.length_cons]
  · rw [if_neg (by rw [izs_ge0]; omega), h4 (by omega)]
    rfl
end AT
end ZSeg7
section ZRow8
/-! ===== strings in rows ===== -/
theorem cW_sub (a b : Int) : cW a - cW b = cW (a - b) := (Int64.ofInt_sub a b).symm
theorem cW_c {c : Nat} : (cW (c : Nat)).toInt32 = i3 c := by rw [cW_32, iz_nat]
def pf : Sx → Sx → Bool
  | [], _ => true
  | _ :: _, [] => false
  | x :: a, y :: b => decide (x = y) && pf a b
theorem pf_len : ∀ {a b : Sx}, pf a b = true → a.length ≤ b.length := by
  intro a
  induction a with
  | nil => intro b _; exact Nat.zero_le _
  | cons x a ih =>
    intro b h
    cases b with
    | nil => exact absurd h (by simp [pf])
    | cons y b =>
      simp only [pf, Bool.and_eq_true] at h
      exact Nat.succ_le_succ (ih h.2)
/-- first value of a name -/
def lu {α : Type} (s : Sx) : List (Sx × α) → Option α
  | [] => none
  | p :: l => if p.1 = s then some p.2 else lu s l
section ST
variable {n : Nat} {f g : Nat → Int64} {p q v u : Nat} {o o' : Int32} {s t : Sx}
theorem At.le (h : At f v p (strc s)) : p + 1 + s.length ≤ v ∧ v ≤ 4096 := by
  have := h.2
  rw [strc_len] at this
  omega
theorem At.hd4 (h : At f v p (strc s)) : f p = hd 4 s.length (s.length + 1) := (seg_cons.mp h.1).1
theorem At.body (h : At f v p (strc s)) : seg f (p + 1) (s.map (fun c => cW (c : Nat))) := (seg_cons.mp h.1).2
theorem At.slen (h : At f v p (strc s)) : fR_length n (i3 p) f (i3 v) o = some (i3 s.length) := by
  have := h.le
  rw [length_in (by omega) (by omega), h.hd4, hd_len (by omega) (by omega) (by omega)]
theorem At.scell (h : At f v p (strc s)) : fR_cell n (i3 p) f (i3 v) o = some (hd 4 s.length (s.length + 1)) := by
  have := h.le
  rw [cell_in (by omega) (by omega), h.hd4]
theorem At.skind (h : At f v p (strc s)) : fR_kind n (i3 p) f (i3 v) o = some (i3 4) := by
  have := h.le
  rw [kind_in (by omega) (by omega), h.hd4, hd_kind (by omega)]
theorem At.safter (h : At f v p (strc s)) : fR_after n (i3 p) f (i3 v) o = some (i3 (p + (s.length + 1))) := by
  have := h.le
  rw [after_in (by omega) (by omega), h.hd4, hd_and (by omega), show (4 : Int64) = cW ((4 : Nat) : Int) from rfl, lg_cW (by omega) (by omega) (by omega) (by omega), if_pos (by rw [izs_ge0]; omega), hd_span (by omega) (by omega) (by omega), i3_add]
theorem At.scode (h : At f v p (strc s)) {i : Nat} (hi : i < s.length) : fR_code n (i3 p) (i3 i) f (i3 v) o = some (i3 s[i]) := by
  have h2 := h.le
  rw [code_in (by omega) (by omega)]
  have h3 := seg_get h.body (i := i) (by simpa using hi)
  rw [h3, List.getElem_map, cW_c]
theorem lexC_nil_cons {α β : Type} {c : α → β → Int} {y : β} {b : List β} : lexC c [] (y :: b) = -1 := rfl
theorem lexC_cons_nil {α β : Type} {c : α → β → Int} {x : α} {a : List α} : lexC c (x :: a) [] = 1 := rfl
theorem lexC_cons {α β : Type} {c : α → β → Int} {x : α} {a : List α} {y : β} {b : List β} : lexC c (x :: a) (y :: b) = if c x y = 0 then lexC c a b else c x y := rfl
theorem lexC_nil {α β : Type} {c : α → β → Int} : lexC c ([] : List α) ([] : List β) = 0 := rfl
theorem oos_loop : ∀ (n : Nat) (a b : Sx) (k : Nat), 1 ≤ k → (∀ c ∈ a, c < 128) → (∀ c ∈ b, c < 128) → seg f (p + k) (a.map (fun c => cW (c : Nat))) → seg g (q + k) (b.map (fun c => cW (c : Nat))) → p + k + a.length ≤ v → v ≤ 4096 → q + k + b.length ≤ u → u ≤ 4096 → a.length < n →
    fR_orderOfStringsa_b f (i3 v) o g (i3 u) o' n 1 (i3 k) (i3 (min (k - 1 + a.length) (k - 1 + b.length))) (i3 (k - 1 + b.length)) (i3 (k - 1 + a.length)) (i3 p) (i3 q) = some (iz (cS a b)) := by
  intro n
  induction n with
  | zero => intro a b k _ _ _ _ _ _ _ _ _ h; omega
  | succ n ih =>
    intro a b k hk ha hb hfa hgb hpa hv hqb hu hn
    rw [fR_orderOfStringsa_b]
    cases a with
    | nil =>
      rw [if_pos (by rw [i3_lt (by simp at *; omega) (by omega)]; simp; omega)]
      cases b with
      | nil =>
        rw [if_pos rfl]
        rfl
      | cons y b =>
        simp only [List.length_nil, List.length_cons] at *
        rw [if_neg (by rw [i3_eq (by omega) (by omega)]; omega), if_neg (by rw [i3_le (by omega) (by omega)]; omega)]
        rfl
    | cons x a =>
      cases b with
      | nil =>
        simp only [List.length_nil, List.length_cons] at *
        rw [if_pos (by rw [i3_lt (by omega) (by omega)]; omega), if_neg (by rw [i3_eq (by omega) (by omega)]; omega), if_pos (by rw [i3_le (by omega) (by omega)]; omega)]
        rfl
      | cons y b =>
        simp only [List.length_cons, List.map_cons] at *
        obtain ⟨e1, hfa2⟩ := seg_cons.mp hfa
        obtain ⟨e2, hgb2⟩ := seg_cons.mp hgb
        have hx := ha x (List.mem_cons_self ..)
        have hy := hb y (List.mem_cons_self ..)
        rw [if_neg (by rw [i3_lt (by omega) (by omega)]; omega), i3_add, i3_add, if_neg (by rw [i3_le (by omega) (by omega)]; omega), if_neg (by rw [i3_le (by omega) (by omega)]; omega), if_neg (i3_idx (by omega) (by omega)), if_neg (i3_idx (by omega) (by omega)), i3_N (by omega), i3_N (by omega), e1, e2, cW_sub, show (0 : Int64) = cW 0 from rfl, lg_cW (by omega) (by omega) (by omega) (by omega)]
        unfold cS
        rw [lexC_cons]
        by_cases h : x = y
        · subst h
          rw [Int.sub_zero, if_pos (by rw [izs_eq0]; omega), if_pos (by rw [sg_eq0]; omega), i3_one]
          have := ih a b (k + 1) (by omega) (fun c hc => ha c (List.mem_cons_of_mem _ hc)) (fun c hc => hb c (List.mem_cons_of_mem _ hc)) hfa2 hgb2 (by omega) hv (by omega) hu (by omega)
          rw [show k + 1 - 1 + a.length = k - 1 + (a.length + 1) by omega, show k + 1 - 1 + b.length = k - 1 + (b.length + 1) by omega] at this
          exact this
        · rw [Int.sub_zero, if_neg (by rw [izs_eq0]; omega)]
          by_cases h2 : (x : Int) - y < 0
          · rw [if_neg (by rw [izs_ge0]; omega), if_neg (by rw [sg_eq0]; omega), show sg ((x : Int) - y) = -1 by unfold sg; rw [if_pos h2]]
            rfl
          · rw [if_pos (by rw [izs_ge0]; omega), if_neg (by rw [sg_eq0]; omega), show sg ((x : Int) - y) = 1 by unfold sg; rw [if_neg h2, if_neg (by omega)]]
            rfl
theorem At.oos (h : At f v p (strc s)) (h' : At g u q (strc t)) (hs : sok s) (ht : sok t) (hn : 4096 < n) : fR_orderOfStringsa n (i3 p) (i3 q) f (i3 v) o g (i3 u) o' = some (iz (cS s t)) := by
  have h1 := h.le
  have h2 := h'.le
  unfold fR_orderOfStringsa
  rw [if_neg (i3_nn (by omega)), if_neg (i3_nle (by omega) (by omega)), if_neg (i3_nn (by omega)), if_pos (by rw [i3_lt (by omega) (by omega)]; omega), if_neg (i3_idx (by omega) (by omega)), if_neg (i3_idx (by omega) (by omega)), i3_N (by omega), i3_N (by omega), h.hd4, h'.hd4, hd_len (by omega) (by omega) (by omega), hd_len (by omega) (by omega) (by omega)]
  have := oos_loop (o := o) (o' := o') (p := p) (q := q) (v := v) (u := u) (f := f) (g := g) n s t 1 (by omega) hs ht h.body h'.body (by omega) (by omega) (by omega) (by omega) (by omega)
  rw [show 1 - 1 + s.length = s.length by omega, show 1 - 1 + t.length = t.length by omega] at this
  by_cases h3 : t.length ≤ s.length
  · rw [if_pos (by rw [i3_le (by omega) (by omega)]; exact h3)]
    rw [Nat.min_eq_right h3] at this
    exact this
  · rw [if_neg (by rw [i3_le (by omega) (by omega)]; exact h3)]
    rw [Nat.min_eq_left (by omega)] at this
    exact this
end ST
theorem cS_refl : ∀ s : Sx, cS s s = 0 := by
  intro s
  induction s with
  | nil => rfl
  | cons x s ih =>
    unfold cS at *
    rw [lexC_cons, if_pos (by simp [sg]), ih]
theorem cS_eq : ∀ {s t : Sx}, cS s t = 0 → s = t := by
  intro s
  induction s with
  | nil =>
    intro t h
    cases t with
    | nil => rfl
    | cons y t => exact absurd h (by unfold cS; rw [lexC_nil_cons]; omega)
  | cons x s ih =>
    intro t h
    cases t with
    | nil => exact absurd h (by unfold cS; rw [lexC_cons_nil]; omega)
    | cons y t =>
      unfold cS at h
      rw [lexC_cons] at h
      by_cases hxy : sg ((x : Int) - y) = 0
      · rw [if_pos hxy] at h
        rw [sg_eq0] at hxy
        rw [ih h, show x = y by omega]
      · rw [if_neg hxy] at h
        exact absurd h hxy
theorem cS_le (s t : Sx) : -1 ≤ cS s t ∧ cS s t ≤ 1 := by
  induction s generalizing t with
  | nil => cases t <;> (unfold cS lexC; omega)
  | cons x s ih =>
    cases t with
    | nil => unfold cS lexC; omega
    | cons y t =>
      have := ih t
      have := sg_le ((x : Int) - y)
      unfold cS at *
      rw [lexC_cons]
      split <;> omega
theorem hd4_inj {a b : Nat} (ha : a < 65536) (hb : b < 65536) : hd 4 a (a + 1) = hd 4 b (b + 1) → a = b := by
  unfold hd
  rw [cW_eq (by omega) (by omega) (by omega) (by omega)]
  omega
theorem lg_zero (x y : Int64) : (lg_cmp x y = 0) = (x = y) := by
  unfold lg_cmp
  by_cases h : x > y
  · rw [if_pos h]
    refine propext ⟨fun h2 => absurd h2 (by decide), fun h2 => ?_⟩
    subst h2
    exact absurd h Int64.lt_irrefl
  · rw [if_neg h]
    by_cases h2 : x = y
    · rw [if_pos h2]
      exact propext ⟨fun _ => h2, fun _ => rfl⟩
    · rw [if_neg h2]
      exact propext ⟨fun h3 => absurd h3 (by decide), fun h3 => absurd h3 h2⟩
section VO
variable {f g : Nat → Int64} {p q v u d : Nat} {o o' : Int32} {s : Sx}
/-- the value of a name in an object -/
theorem vo_loop (hs : sok s) (hq : At g u q (strc s)) (tot : Nat) (ht : tot < 65536) (hlen : ∀ n, fR_length n (i3 p) f (i3 v) o = some (i3 tot)) : ∀ (l : List (Sx × JT d)) (n k r : Nat), (∀ x ∈ l, sok x.1 ∧ jok d x.2) → k + l.length = tot → At f v r (l.flatMap (fun x => strc x.1 ++ jc d x.2)) → 4097 + l.length < n →
    (∃ r' x, lu s l = some x ∧ x ∈ l.map (fun y => y.2) ∧ At f v r' (jc d x) ∧ fR_valueOfa_b f (i3 v) o g (i3 u) o' n 1 (i3 k) (i3 r) (i3 p) (i3 q) = some (i3 r')) ∨ (lu s l = none ∧ fR_valueOfa_b f (i3 v) o g (i3 u) o' n 1 (i3 k) (i3 r) (i3 p) (i3 q) = some (-1)) := by
  intro l
  induction l with
  | nil =>
    intro n k r _ hk _ hn
    refine Or.inr ⟨rfl, ?_⟩
    obtain ⟨n, rfl⟩ : ∃ m, n = m + 1 := ⟨n - 1, by omega⟩
    rw [fR_valueOfa_b, hlen, Option.bind_some, if_pos (by rw [i3_le (by omega) (by simp at hk; omega)]; simp at hk; omega)]
  | cons y l ih =>
    intro n k r hok hk hat hn
    rw [List.length_cons] at hk hn
    obtain ⟨n, rfl⟩ : ∃ m, n = m + 1 := ⟨n - 1, by omega⟩
    obtain ⟨hy, hy2⟩ := hok y (List.mem_cons_self ..)
    obtain ⟨h1, h2, h3⟩ := hat
    rw [List.flatMap_cons, List.append_assoc] at h1 h2
    simp only [List.length_append, strc_len] at h2
    obtain ⟨h1a, h1b⟩ := seg_app.mp h1
    obtain ⟨h1b, h1c⟩ := seg_app.mp h1b
    rw [strc_len] at h1b h1c
    have at1 : At f v r (strc y.1) := ⟨h1a, by rw [strc_len]; omega, h3⟩
    have at2 : At f v (r + (y.1.length + 1)) (jc d y.2) := ⟨h1b, by omega, h3⟩
    have at3 : At f v (r + (y.1.length + 1) + (jc d y.2).length) (l.flatMap (fun x => strc x.1 ++ jc d x.2)) := ⟨h1c, by omega, h3⟩
    have ih2 := fun m hm => ih m (k + 1) _ (fun x hx => hok x (List.mem_cons_of_mem _ hx)) (by omega) at3 hm
    have hs4 := hq.le
    rw [fR_valueOfa_b, hlen, Option.bind_some, if_neg (by rw [i3_le (by omega) (by omega)]; omega), at1.safter, Option.bind_some, at1.scell, Option.bind_some, hq.scell, Option.bind_some]
    by_cases hys : y.1 = s
    · refine Or.inl ⟨r + (y.1.length + 1), y.2, ?_, List.mem_cons_self .., at2, ?_⟩
      · unfold lu
        rw [if_pos hys]
      · rw [if_pos (by rw [lg_zero, hys]), at1.oos hq hy hs (by omega), Option.bind_some, hys, cS_refl, if_pos (by rfl)]
    · have e : lu s (y :: l) = lu s l := by
        rw [lu, if_neg hys]
      have e2 : (if lg_cmp (hd 4 y.1.length (y.1.length + 1)) (hd 4 s.length (s.length + 1)) = 0 then (fR_orderOfStringsa n (i3 r) (i3 q) f (i3 v) o g (i3 u) o').bind fun o13 => (if o13 = 0 then some (i3 (r + (y.1.length + 1))) else (fR_after n (i3 (r + (y.1.length + 1))) f (i3 v) o).bind fun o16 => fR_valueOfa_b f (i3 v) o g (i3 u) o' n 1 (i3 k + 1) o16 (i3 p) (i3 q)) else (fR_after n (i3 (r + (y.1.length + 1))) f (i3 v) o).bind fun o13 => fR_valueOfa_b f (i3 v) o g (i3 u) o' n 1 (i3 k + 1) o13 (i3 p) (i3 q)) = fR_valueOfa_b f (i3 v) o g (i3 u) o' n 1 (i3 (k + 1)) (i3 (r + (y.1.length + 1) + (jc d y.2).length)) (i3 p) (i3 q) := by
        have hne : ¬ iz (cS y.1 s) = 0 := by
          have := cS_le y.1 s
          rw [show (0 : Int32) = iz 0 from rfl, iz_eq (by omega) (by omega) (by omega) (by omega)]
          exact fun h => hys (cS_eq h)
        rw [at1.oos hq hy hs (by omega), Option.bind_some, if_neg hne, at2.after hy2, Option.bind_some, i3_one, ite_self]
      rw [e, e2]
      rcases ih2 n (by omega) with ⟨r', x, g1, g2, g3, g4⟩ | g
      · exact Or.inl ⟨r', x, g1, List.mem_cons_of_mem _ g2, g3, g4⟩
      · exact Or.inr g
end VO
/-! lists in rows -/
section LR
variable {f g : Nat → Int64} {p q v u d n : Nat} {o o' : Int32} {s : Sx}
theorem At.lhead {k len : Nat} {b : List Int64} (h : At f v p (lst k len b)) : f p = hd k len (b.length + 1) := (seg_cons.mp h.1).1
theorem At.lbody {k len : Nat} {b : List Int64} (h : At f v p (lst k len b)) : At f v (p + 1) b := ⟨(seg_cons.mp h.1).2, by have := h.2; rw [lst_len] at this; omega, h.2.2⟩
theorem At.llen {k len : Nat} {b : List Int64} (h : At f v p (lst k len b)) (hk : k < 8) (hl : len ≤ b.length) : fR_length n (i3 p) f (i3 v) o = some (i3 len) := by
  have h2 := h.2
  rw [lst_len] at h2
  rw [length_in (by omega) (by omega), h.lhead, hd_len hk (by omega) (by omega)]
theorem ja_len {l : List (JT d)} : l.length ≤ (l.flatMap (jc d)).length := flat_len (fun x _ => jc_pos d x)
theorem jo_len {l : List (Sx × JT d)} : l.length ≤ (l.flatMap (fun p => strc p.1 ++ jc d p.2)).length := flat_len (fun x _ => by rw [List.length_append, strc_len]; omega)
theorem At.alen {l : List (JT d)} (h : At f v p (jc (d + 1) (ja l))) : fR_length n (i3 p) f (i3 v) o = some (i3 l.length) := At.llen (k := 5) h (by omega) ja_len
theorem At.olen {l : List (Sx × JT d)} (h : At f v p (jc (d + 1) (jo l))) : fR_length n (i3 p) f (i3 v) o = some (i3 l.length) := At.llen (k := 6) h (by omega) jo_len
theorem At.abody {l : List (JT d)} (h : At f v p (jc (d + 1) (ja l))) : At f v (p + 1) (l.flatMap (jc d)) := At.lbody (k := 5) h
theorem At.obody {l : List (Sx × JT d)} (h : At f v p (jc (d + 1) (jo l))) : At f v (p + 1) (l.flatMap (fun p => strc p.1 ++ jc d p.2)) := At.lbody (k := 6) h
theorem At.asz {l : List (JT d)} (h : At f v p (jc (d + 1) (ja l))) : p + 1 + l.length ≤ v ∧ v ≤ 4096 := by
  have h2 := h.abody.2
  have := ja_len (l := l)
  omega
theorem At.osz {l : List (Sx × JT d)} (h : At f v p (jc (d + 1) (jo l))) : p + 1 + l.length ≤ v ∧ v ≤ 4096 := by
  have h2 := h.obody.2
  have := jo_len (l := l)
  omega
theorem At.num {z : Int} (h : At f v p (jc (d + 1) (jn z))) (h1 : -9007199254740991 ≤ z) (h2 : z ≤ 9007199254740991) : fR_number n (i3 p) f (i3 v) o = some (cW z) := by
  have h3 := h.2
  rw [jc_n, List.length_singleton] at h3
  rw [number_in (by omega) (by omega), seg_one.mp h.1, nc_num h1 h2]
theorem At.app {a b : List Int64} (h : At f v p (a ++ b)) : At f v p a ∧ At f v (p + a.length) b := by
  obtain ⟨h1, h2, h3⟩ := h
  obtain ⟨h4, h5⟩ := seg_app.mp h1
  rw [List.length_append] at h2
  exact ⟨⟨h4, by omega, h3⟩, ⟨h5, by omega, h3⟩⟩
theorem At.acons {x : JT d} {l : List (JT d)} (h : At f v p ((x :: l).flatMap (jc d))) : At f v p (jc d x) ∧ At f v (p + (jc d x).length) (l.flatMap (jc d)) := by
  rw [List.flatMap_cons] at h
  exact h.app
theorem At.ocons {x : Sx × JT d} {l : List (Sx × JT d)} (h : At f v p ((x :: l).flatMap (fun p => strc p.1 ++ jc d p.2))) : At f v p (strc x.1) ∧ At f v (p + (x.1.length + 1)) (jc d x.2) ∧ At f v (p + (x.1.length + 1) + (jc d x.2).length) (l.flatMap (fun p => strc p.1 ++ jc d p.2)) := by
  rw [List.flatMap_cons, List.append_assoc] at h
  obtain ⟨h1, h2⟩ := h.app
  obtain ⟨h2, h3⟩ := h2.app
  rw [strc_len] at h2 h3
  exact ⟨h1, h2, h3⟩
theorem At.is {j : JT d} (h : At f v p (jc d j)) (hok : jok d j) {k : Nat} (hk : k < 8) : fR_is n (i3 p) (i3 k) f (i3 v) o = some (if kd d j = k then 1 else 0) := by
  have hk8 : kd d j < 8 := by
    cases d with
    | zero => exact (j0 j).elim
    | succ d =>
      rcases jcases j with ⟨k, rfl⟩ | ⟨z, rfl⟩ | ⟨s, rfl⟩ | ⟨l, rfl⟩ | ⟨l, rfl⟩
      · rw [jok_k] at hok; rw [kd_k]; omega
      · rw [kd_n]; omega
      · rw [kd_s]; omega
      · rw [kd_a]; omega
      · rw [kd_o]; omega
  unfold fR_is
  rw [h.kind hok, Option.bind_some]
  by_cases hh : kd d j = k
  · rw [if_pos (by rw [i3_eq (by omega) (by omega)]; exact hh), if_pos hh]
  · rw [if_neg (by rw [i3_eq (by omega) (by omega)]; exact hh), if_neg hh]
theorem kd_lt8 {j : JT d} (hok : jok d j) : kd d j < 8 := by
  cases d with
  | zero => exact (j0 j).elim
  | succ d =>
    rcases jcases j with ⟨k, rfl⟩ | ⟨z, rfl⟩ | ⟨s, rfl⟩ | ⟨l, rfl⟩ | ⟨l, rfl⟩
    · rw [jok_k] at hok; rw [kd_k]; omega
    · rw [kd_n]; omega
    · rw [kd_s]; omega
    · rw [kd_a]; omega
    · rw [kd_o]; omega
theorem At.vo {l : List (Sx × JT d)} (h : At f v p (jc (d + 1) (jo l))) (hok : jok (d + 1) (jo l)) (hs : sok s) (hq : At g u q (strc s)) (hn : 8200 < n) :
    (∃ r' x, lu s l = some x ∧ x ∈ l.map (fun y => y.2) ∧ At f v r' (jc d x) ∧ fR_valueOfa n (i3 p) (i3 q) f (i3 v) o g (i3 u) o' = some (i3 r')) ∨ (lu s l = none ∧ fR_valueOfa n (i3 p) (i3 q) f (i3 v) o g (i3 u) o' = some (-1)) := by
  have h2 := h.osz
  unfold fR_valueOfa
  rw [i3_one]
  exact vo_loop hs hq l.length (by omega) (fun n => h.olen) l n 0 (p + 1) hok.1 (by omega) h.obody (by omega)
theorem hp_loop (k : Nat) (s t : Sx) (hk : k + t.length ≤ s.length) (hp : At f v p (strc s)) (hq : At g u q (strc t)) (hs : sok s) (ht : sok t) : ∀ (t' : Sx) (n i : Nat), t.drop i = t' → i + t'.length = t.length → t'.length < n → fR_hasParta_b f (i3 v) o g (i3 u) o' n 1 (i3 i) (i3 t.length) (i3 p) (i3 k) (i3 q) = some (if pf t' (s.drop (k + i)) then 1 else 0) := by
  have h1 := hp.le
  have h2 := hq.le
  intro t'
  induction t' with
  | nil =>
    intro n i hd hi hn
    obtain ⟨n, rfl⟩ : ∃ m, n = m + 1 := ⟨n - 1, by omega⟩
    rw [List.length_nil] at hi
    rw [fR_hasParta_b, if_pos (by rw [i3_le (by omega) (by omega)]; omega)]
    rfl
  | cons c t' ih =>
    intro n i hd hi hn
    rw [List.length_cons] at hi hn
    obtain ⟨n, rfl⟩ : ∃ m, n = m + 1 := ⟨n - 1, by omega⟩
    have hc : t[i]'(by omega) = c := by
      have := List.getElem_drop (xs := t) (i := i) (j := 0) (h := by rw [List.length_drop]; omega)
      simp only [hd] at this
      simpa using this.symm
    have hs2 : s.drop (k + i) = s[k + i]'(by omega) :: s.drop (k + i + 1) := List.drop_eq_getElem_cons (by omega)
    have hc1 : s[k + i]'(by omega) < 128 := hs _ (List.getElem_mem _)
    have hc2 : c < 128 := by rw [← hc]; exact ht _ (List.getElem_mem _)
    rw [fR_hasParta_b, if_neg (by rw [i3_le (by omega) (by omega)]; omega), i3_add, hp.scode (i := k + i) (by omega), Option.bind_some, hq.scode (i := i) (by omega), Option.bind_some, hs2, hc]
    unfold pf
    by_cases he : s[k + i]'(by omega) = c
    · rw [if_pos (by rw [he]), i3_one, ih n (i + 1) (by rw [← List.drop_drop, hd]; rfl) (by omega) (by omega)]
      simp [he, Nat.add_assoc]
    · rw [if_neg (by rw [i3_eq (by omega) (by omega)]; exact he)]
      simp [Ne.symm he]
theorem At.hp {k : Nat} {s t : Sx} (hk : k ≤ s.length) (hp : At f v p (strc s)) (hq : At g u q (strc t)) (hs : sok s) (ht : sok t) (hn : 4096 < n) : fR_hasParta n (i3 p) (i3 k) (i3 q) f (i3 v) o g (i3 u) o' = some (if pf t (s.drop k) then 1 else 0) := by
  have h1 := hp.le
  have h2 := hq.le
  unfold fR_hasParta
  rw [hq.slen, Option.bind_some, if_neg (i3_nn (by omega)), hp.slen, Option.bind_some, i3_add]
  by_cases h : k + t.length ≤ s.length
  · rw [if_pos (by rw [i3_le (by omega) (by omega)]; exact h)]
    exact hp_loop k s t h hp hq hs ht t n 0 rfl (by omega) (by omega)
  · rw [if_neg (by rw [i3_le (by omega) (by omega)]; exact h), if_neg]
    intro h3
    have := pf_len h3
    rw [List.length_drop] at this
    omega
end LR
end ZRow8
