section CAL
variable {st : xS} {n : Nat} {T : Nat → List Nat} {tape prn : List Nat} {pl rs : Int32}
theorem isR_k {x : Int32} (h : isR x) : ∃ k, k < 8 ∧ x = i3 k := by
  obtain ⟨h1, h2⟩ := h
  have hx := x_iz x
  have l1 : -2147483648 ≤ x.toInt := Int32.le_toInt x
  have l2 : x.toInt < 2147483648 := Int32.toInt_lt x
  have a1 : 0 ≤ x.toInt := by
    rw [hx, show (0 : Int32) = iz 0 from rfl, iz_lt (by omega) (by omega) (by omega) (by omega)] at h1
    omega
  have a2 : x.toInt ≤ 7 := by
    rw [hx, show (7 : Int32) = iz 7 from rfl, iz_lt (by omega) (by omega) (by omega) (by omega)] at h2
    omega
  refine ⟨x.toInt.toNat, by omega, ?_⟩
  rw [i3_iz, show ((x.toInt.toNat : Nat) : Int) = x.toInt by omega]
  exact hx
theorem out_t {k : Nat} (hk : k < 8) : fM_out n st (i3 k) = some 0 := by
  unfold fM_out
  rw [if_neg (i3_nn (by omega)), if_pos (show i3 k ≤ 7 by rw [show (7 : Int32) = i3 7 from rfl, i3_le (by omega) (by omega)]; omega)]
theorem out_f {x : Int32} (h : ¬ isR x) : fM_out n st x = some 1 := by
  unfold fM_out
  by_cases h1 : x < 0
  · rw [if_pos h1]
  · rw [if_neg h1, if_neg (fun h2 => h ⟨h1, Int32.not_lt.mpr h2⟩)]
theorem FinP.bx {wc wn to d : Nat} {res : Nat ⊕ JT d} {X : Option (Nat × Nat × xS)} (h : FinP st 0 0 X T to tape prn pl rs res) : FinP st 0 0 (X.bind fun o14 => (xmo (fun a => a.1) (fun a => a.2.1) (0 + o14.1) (0 + o14.2.1) (some ((0 + o14.1), (0 + o14.2.1), o14.2.2)))) T to tape prn pl rs res := by
  obtain ⟨cc, s, st', h1, h2⟩ := h
  refine ⟨cc, s, st', ?_, h2⟩
  rw [h1, Option.bind_some]
  simp only [Nat.zero_add]
  exact xmo_some (Nat.le_refl _) (Nat.le_refl _)
theorem FinP.beg {st1 : xS} {to d : Nat} {res : Nat ⊕ JT d} {X : Option (Nat × Nat × xS)} (h : FinP st1 0 0 X T to tape prn pl rs res) (hp : pt st1 = pt st) : FinP st 0 0 X T to tape prn pl rs res := by
  obtain ⟨cc, s, st', h1, h2, h3⟩ := h
  exact ⟨cc, s, st', h1, ⟨h2.1, by rw [← hp]; exact h2.2⟩, h3⟩
def BadC (st : xS) (out : Option (Nat × Nat × xS)) (T : Nat → List Nat) (tape prn : List Nat) (pl rs : Int32) : Prop := ∃ st', out = some (0, 0, st') ∧ RefT st' T tape prn pl rs ∧ xsi st' 0 = 1 ∧ pt st' = pt st
theorem isM {m : Nat} {x : Int32} (hm : m < 100) (h : ¬ x < 0 ∧ ¬ i3 m < x) : ∃ k, k ≤ m ∧ x = i3 k := by
  obtain ⟨h1, h2⟩ := h
  have hx := x_iz x
  have l1 : -2147483648 ≤ x.toInt := Int32.le_toInt x
  have l2 : x.toInt < 2147483648 := Int32.toInt_lt x
  have a1 : 0 ≤ x.toInt := by
    rw [hx, show (0 : Int32) = iz 0 from rfl, iz_lt (by omega) (by omega) (by omega) (by omega)] at h1
    omega
  have a2 : x.toInt ≤ m := by
    rw [hx, i3_iz, iz_lt (by omega) (by omega) (by omega) (by omega)] at h2
    omega
  refine ⟨x.toInt.toNat, by omega, ?_⟩
  rw [i3_iz, show ((x.toInt.toNat : Nat) : Int) = x.toInt by omega]
  exact hx
theorem bin0_v {to x y op : Nat} {A B : JT 101} (hT : RefT st T tape prn pl rs) (hA : Gd A) (hB : Gd B) (hx : x < 8) (hy : y < 8) (hta : T x = jt 101 A) (htb : T y = jt 101 B) (hto : to < 8) (hop : op ≤ 4) (hn : 5000000000 < n) : FinP st 0 0 (fM_binary0 104 n st (i3 to) (i3 op) (i3 x) (i3 y)) T to tape prn pl rs (oBin op A B : Nat ⊕ JT 101) := by
  obtain ⟨st1, e1, m1, m2, m3, m4, m5⟩ := beginM (n := n) hT
  unfold fM_binary0
  rw [e1, Option.bind_some, out_t hto, Option.bind_some, if_pos rfl, if_neg (i3_nn (by omega)), if_neg (show ¬ (4 : Int32) < i3 op by rw [show (4 : Int32) = i3 4 from rfl, i3_lt (by omega) (by omega)]; omega), out_t hx, Option.bind_some, if_pos rfl, out_t hy, Option.bind_some, if_pos rfl]
  exact FinP.beg (FinP.bx (wc := 0) (wn := 0) (finB m3 m4 m1 m2 hA hB hx hy hta htb hto hop hn)) m5
theorem bin0_n {x1 x2 x3 x4 : Int32} (hT : RefT st T tape prn pl rs) (h : ¬ (isR x1 ∧ (¬ x2 < 0 ∧ ¬ (4 : Int32) < x2) ∧ isR x3 ∧ isR x4)) : BadC st (fM_binary0 104 n st x1 x2 x3 x4) T tape prn pl rs := by
  obtain ⟨st1, e1, m1, m2, m3, m4, m5⟩ := beginM (n := n) hT
  have done : BadC st (some (0, 0, xsI st1 0 1)) T tape prn pl rs := ⟨_, rfl, m3.f0, xs_e, m5⟩
  unfold fM_binary0
  rw [e1, Option.bind_some]
  by_cases h1 : isR x1
  · obtain ⟨k, hk, rfl⟩ := isR_k h1
    rw [out_t hk, Option.bind_some, if_pos rfl]
    by_cases h2 : x2 < 0
    · rw [if_pos h2]; exact done
    · rw [if_neg h2]
      by_cases h2' : (4 : Int32) < x2
      · rw [if_pos h2']; exact done
      · rw [if_neg h2']
        by_cases h3 : isR x3
        · obtain ⟨k3, hk3, rfl⟩ := isR_k h3
          rw [out_t hk3, Option.bind_some, if_pos rfl, out_f (fun h4 => h ⟨h1, ⟨h2, h2'⟩, h3, h4⟩), Option.bind_some, if_neg (by decide)]
          exact done
        · rw [out_f h3, Option.bind_some, if_neg (by decide)]
          exact done
  · rw [out_f h1, Option.bind_some, if_neg (by decide)]
    exact done
theorem two0_v {to x y f : Nat} {A B : JT 101} (hT : RefT st T tape prn pl rs) (hA : Gd A) (hB : Gd B) (hx : x < 8) (hy : y < 8) (hta : T x = jt 101 A) (htb : T y = jt 101 B) (hto : to < 8) (hf : f ≤ 9) (hn : 5000000000 < n) : FinP st 0 0 (fM_two0 104 n st (i3 to) (i3 f) (i3 x) (i3 y)) T to tape prn pl rs (oTwo f A B : Nat ⊕ JT 101) := by
  obtain ⟨st1, e1, m1, m2, m3, m4, m5⟩ := beginM (n := n) hT
  unfold fM_two0
  rw [e1, Option.bind_some, out_t hto, Option.bind_some, if_pos rfl, if_neg (i3_nn (by omega)), if_neg (show ¬ (9 : Int32) < i3 f by rw [show (9 : Int32) = i3 9 from rfl, i3_lt (by omega) (by omega)]; omega), out_t hx, Option.bind_some, if_pos rfl, out_t hy, Option.bind_some, if_pos rfl]
  exact FinP.beg (FinP.bx (wc := 0) (wn := 0) (fin2 m3 m4 m1 m2 hA hB hx hy hta htb hto hf hn)) m5
theorem two0_n {x1 x2 x3 x4 : Int32} (hT : RefT st T tape prn pl rs) (h : ¬ (isR x1 ∧ (¬ x2 < 0 ∧ ¬ (9 : Int32) < x2) ∧ isR x3 ∧ isR x4)) : BadC st (fM_two0 104 n st x1 x2 x3 x4) T tape prn pl rs := by
  obtain ⟨st1, e1, m1, m2, m3, m4, m5⟩ := beginM (n := n) hT
  have done : BadC st (some (0, 0, xsI st1 0 1)) T tape prn pl rs := ⟨_, rfl, m3.f0, xs_e, m5⟩
  unfold fM_two0
  rw [e1, Option.bind_some]
  by_cases h1 : isR x1
  · obtain ⟨k, hk, rfl⟩ := isR_k h1
    rw [out_t hk, Option.bind_some, if_pos rfl]
    by_cases h2 : x2 < 0
    · rw [if_pos h2]; exact done
    · rw [if_neg h2]
      by_cases h2' : (9 : Int32) < x2
      · rw [if_pos h2']; exact done
      · rw [if_neg h2']
        by_cases h3 : isR x3
        · obtain ⟨k3, hk3, rfl⟩ := isR_k h3
          rw [out_t hk3, Option.bind_some, if_pos rfl, out_f (fun h4 => h ⟨h1, ⟨h2, h2'⟩, h3, h4⟩), Option.bind_some, if_neg (by decide)]
          exact done
        · rw [out_f h3, Option.bind_some, if_neg (by decide)]
          exact done
  · rw [out_f h1, Option.bind_some, if_neg (by decide)]
    exact done
theorem sort0_v {to x y f : Nat} {A B : JT 101} (hT : RefT st T tape prn pl rs) (hA : Gd A) (hB : Gd B) (hx : x < 8) (hy : y < 8) (hta : T x = jt 101 A) (htb : T y = jt 101 B) (hto : to < 8) (hf : f ≤ 4) (hn : 5000000000 < n) : FinP st 0 0 (fM_sort0 104 n st (i3 to) (i3 f) (i3 x) (i3 y)) T to tape prn pl rs (oKeyed f A B : Nat ⊕ JT 102) := by
  obtain ⟨st1, e1, m1, m2, m3, m4, m5⟩ := beginM (n := n) hT
  unfold fM_sort0
  rw [e1, Option.bind_some, out_t hto, Option.bind_some, if_pos rfl, if_neg (i3_nn (by omega)), if_neg (show ¬ (4 : Int32) < i3 f by rw [show (4 : Int32) = i3 4 from rfl, i3_lt (by omega) (by omega)]; omega), out_t hx, Option.bind_some, if_pos rfl, out_t hy, Option.bind_some, if_pos rfl]
  exact FinP.beg (FinP.bx (wc := 0) (wn := 0) (fin3 m3 m4 m1 m2 hA hB hx hy hta htb hto hf hn)) m5
theorem sort0_n {x1 x2 x3 x4 : Int32} (hT : RefT st T tape prn pl rs) (h : ¬ (isR x1 ∧ (¬ x2 < 0 ∧ ¬ (4 : Int32) < x2) ∧ isR x3 ∧ isR x4)) : BadC st (fM_sort0 104 n st x1 x2 x3 x4) T tape prn pl rs := by
  obtain ⟨st1, e1, m1, m2, m3, m4, m5⟩ := beginM (n := n) hT
  have done : BadC st (some (0, 0, xsI st1 0 1)) T tape prn pl rs := ⟨_, rfl, m3.f0, xs_e, m5⟩
  unfold fM_sort0
  rw [e1, Option.bind_some]
  by_cases h1 : isR x1
  · obtain ⟨k, hk, rfl⟩ := isR_k h1
    rw [out_t hk, Option.bind_some, if_pos rfl]
    by_cases h2 : x2 < 0
    · rw [if_pos h2]; exact done
    · rw [if_neg h2]
      by_cases h2' : (4 : Int32) < x2
      · rw [if_pos h2']; exact done
      · rw [if_neg h2']
        by_cases h3 : isR x3
        · obtain ⟨k3, hk3, rfl⟩ := isR_k h3
          rw [out_t hk3, Option.bind_some, if_pos rfl, out_f (fun h4 => h ⟨h1, ⟨h2, h2'⟩, h3, h4⟩), Option.bind_some, if_neg (by decide)]
          exact done
        · rw [out_f h3, Option.bind_some, if_neg (by decide)]
          exact done
  · rw [out_f h1, Option.bind_some, if_neg (by decide)]
    exact done
theorem one0_v {to x f : Nat} {A : JT 101} (hT : RefT st T tape prn pl rs) (hA : Gd A) (hx : x < 8) (hta : T x = jt 101 A) (hto : to < 8) (hf : f ≤ 13) (hn : 5000000000 < n) : FinP st 0 0 (fM_one0 104 n st (i3 to) (i3 f) (i3 x)) T to tape prn pl rs (oOne f A : Nat ⊕ JT 101) := by
  obtain ⟨st1, e1, m1, m2, m3, m4, m5⟩ := beginM (n := n) hT
  unfold fM_one0
  rw [e1, Option.bind_some, out_t hto, Option.bind_some, if_pos rfl, if_neg (i3_nn (by omega)), if_neg (show ¬ (13 : Int32) < i3 f by rw [show (13 : Int32) = i3 13 from rfl, i3_lt (by omega) (by omega)]; omega), out_t hx, Option.bind_some, if_pos rfl]
  exact FinP.beg (FinP.bx (wc := 0) (wn := 0) (fin1O m3 m4 m1 m2 hA hx hta hto hf hn)) m5
theorem one0_n {x1 x2 x3 : Int32} (hT : RefT st T tape prn pl rs) (h : ¬ (isR x1 ∧ (¬ x2 < 0 ∧ ¬ (13 : Int32) < x2) ∧ isR x3)) : BadC st (fM_one0 104 n st x1 x2 x3) T tape prn pl rs := by
  obtain ⟨st1, e1, m1, m2, m3, m4, m5⟩ := beginM (n := n) hT
  have done : BadC st (some (0, 0, xsI st1 0 1)) T tape prn pl rs := ⟨_, rfl, m3.f0, xs_e, m5⟩
  unfold fM_one0
  rw [e1, Option.bind_some]
  by_cases h1 : isR x1
  · obtain ⟨k, hk, rfl⟩ := isR_k h1
    rw [out_t hk, Option.bind_some, if_pos rfl]
    by_cases h2 : x2 < 0
    · rw [if_pos h2]; exact done
    · rw [if_neg h2]
      by_cases h2' : (13 : Int32) < x2
      · rw [if_pos h2']; exact done
      · rw [if_neg h2', out_f (fun h4 => h ⟨h1, ⟨h2, h2'⟩, h4⟩), Option.bind_some, if_neg (by decide)]
        exact done
  · rw [out_f h1, Option.bind_some, if_neg (by decide)]
    exact done
def CmpP (st : xS) (out : Option (Nat × Nat × Nat × Int32 × xS)) (T : Nat → List Nat) (tape prn : List Nat) (pl rs : Int32) (z : Int32) (f : Int32) : Prop := ∃ (cc s : Nat) (st' : xS), out = some (0, cc, s, z, st') ∧ CostE st st' cc s 0 ∧ RefT st' T tape prn pl rs ∧ xsi st' 0 = f
theorem cmp_v {x y : Nat} {A B : JT 101} (hT : RefT st T tape prn pl rs) (hA : Gd A) (hB : Gd B) (hx : x < 8) (hy : y < 8) (hta : T x = jt 101 A) (htb : T y = jt 101 B) (hn : 5000000000 < n) : CmpP st (fM_compare 104 n st (i3 x) (i3 y)) T tape prn pl rs (iz (jcmp 101 A B)) 0 ∧ CmpP st (fM_same0 104 n st (i3 x) (i3 y)) T tape prn pl rs (if jcmp 101 A B = 0 then 1 else 0) 0 := by
  obtain ⟨st0, e0, m01, m02, m03, m04, m05⟩ := beginM (n := n) hT
  obtain ⟨cc, s, c, st1, cc2, s2, c2, st2, vs1, cs1, ks1, e1, e2, hg, m1, m2, m3, m4, m5, m6, m7, m8⟩ := load2 (n := n) m01 hA hB (hta ▸ m03.2.2.1 x hx) (htb ▸ m03.2.2.1 y hy) (by omega)
  have hT2 := m03.fro ⟨⟨_, _, _, _, m1⟩, m4.o⟩
  have h02 : xsi st2 0 = 0 := by rw [m4.1 0 (by decide)]; exact m04
  have hcost : CostE st st2 (cc + cc2) (s + s2) 0 := by
    have := (m2.trans m3).e
    exact ⟨this.1, by rw [← m05]; exact this.2⟩
  have hle := jcmp_le 101 A B
  have hin : ∀ (c1 s1 c3 s3 : Nat) (z : Int32) (w : xS), c1 ≤ c3 → s1 ≤ s3 → xmo (fun a : Nat × Nat × Nat × Int32 × xS => a.2.1) (fun a => a.2.2.1) c1 s1 (some (0, c3, s3, z, w)) = some (0, c3, s3, z, w) := fun _ _ _ _ _ _ h1 h2 => xmo_some h1 h2
  refine ⟨⟨cc + cc2, s + s2, st2, ?_, hcost, hT2, h02⟩, ⟨cc + cc2, s + s2, st2, ?_, hcost, hT2, h02⟩⟩
  · obtain ⟨z, hz, z0, z1, z2, z3, _⟩ := (orderM (n := n) m1 (by omega) 101 104 (by omega) A B c c2 m5.1 m6.1 hA.1 hB.1).tests
    unfold fM_compare
    rw [e0, Option.bind_some, out_t hx, Option.bind_some, if_pos rfl, out_t hy, Option.bind_some, if_pos rfl, e1, Option.bind_some, if_pos rfl]
    dsimp only
    rw [e2, Option.bind_some, if_pos rfl, if_neg hg]
    dsimp only
    rw [hz, Option.bind_some]
    simp only [Nat.zero_add]
    by_cases h0 : 0 ≤ jcmp 101 A B
    · rw [if_pos (z2.mpr h0)]
      by_cases h1 : jcmp 101 A B ≤ 0
      · rw [if_pos (z1.mpr h1), hin _ _ _ _ _ _ (Nat.le_refl _) (Nat.le_refl _), hin _ _ _ _ _ _ (by omega) (by omega), show jcmp 101 A B = 0 by omega]
        rfl
      · rw [if_neg (fun h => h1 (z1.mp h)), hin _ _ _ _ _ _ (Nat.le_refl _) (Nat.le_refl _), hin _ _ _ _ _ _ (by omega) (by omega), show jcmp 101 A B = 1 by omega]
        rfl
    · rw [if_neg (fun h => h0 (z2.mp h)), hin _ _ _ _ _ _ (Nat.le_refl _) (Nat.le_refl _), hin _ _ _ _ _ _ (by omega) (by omega), show jcmp 101 A B = -1 by omega]
      rfl
  · have hs := same1M (n := n) m1 (by omega) 101 104 (by omega) A B c c2 m5.1 m6.1 hA.1 hB.1
    unfold fM_same0
    rw [e0, Option.bind_some, out_t hx, Option.bind_some, if_pos rfl, out_t hy, Option.bind_some, if_pos rfl, e1, Option.bind_some, if_pos rfl]
    dsimp only
    rw [e2, Option.bind_some, if_pos rfl, if_neg hg]
    dsimp only
    rw [hs, Option.bind_some]
    simp only [Nat.zero_add]
    by_cases h0 : jcmp 101 A B = 0
    · rw [if_pos h0, if_neg (show ¬ ¬ ((1 : Int32) = 0 ∨ (1 : Int32) = 1) by decide), hin _ _ _ _ _ _ (Nat.le_refl _) (Nat.le_refl _), hin _ _ _ _ _ _ (by omega) (by omega)]
    · rw [if_neg h0, if_neg (show ¬ ¬ ((0 : Int32) = 0 ∨ (0 : Int32) = 1) by decide), hin _ _ _ _ _ _ (Nat.le_refl _) (Nat.le_refl _), hin _ _ _ _ _ _ (by omega) (by omega)]
theorem cmp_n {x y : Int32} (hT : RefT st T tape prn pl rs) (h : ¬ (isR x ∧ isR y)) : CmpP st (fM_compare 104 n st x y) T tape prn pl rs 0 1 ∧ CmpP st (fM_same0 104 n st x y) T tape prn pl rs 0 1 := by
  obtain ⟨st1, e1, m1, m2, m3, m4, m5⟩ := beginM (n := n) hT
  have done : CmpP st (some (0, 0, 0, 0, xsI st1 0 1)) T tape prn pl rs 0 1 := ⟨0, 0, _, rfl, ⟨Nat.le_refl _, by show 0 + pt st ≤ pt st1 + 0; omega⟩, m3.f0, xs_e⟩
  unfold fM_compare fM_same0
  rw [e1, Option.bind_some, Option.bind_some]
  by_cases h1 : isR x
  · obtain ⟨k, hk, rfl⟩ := isR_k h1
    rw [out_t hk, Option.bind_some, if_pos rfl, out_f (fun h4 => h ⟨h1, h4⟩), Option.bind_some, if_neg (by decide), Option.bind_some, if_pos rfl, Option.bind_some, if_neg (by decide)]
    exact ⟨done, done⟩
  · rw [out_f h1, Option.bind_some, if_neg (by decide), Option.bind_some, if_neg (by decide)]
    exact ⟨done, done⟩
end CAL
