section LAWC
variable {xs : Nat → Int32} {L N n q : Nat} {k : xC} {ov : Nat → Int64} {st : xS} {wc wn tp mp : Nat} {i : Int32} {R : Nat → JT 101} {tape prn : List Nat} {x1 x2 x3 x4 x5 : Int32}
theorem jo_binary (hN : 5000000000 < N) (hG : ∀ x, x < 8 → Gd (R x)) (hC : CI k R tape prn) (hT : RefT st (fun x => jt 101 (R x)) tape prn (kpl k) (krs k)) : ∃ (code : Int32) (t' : TS) (r8 : Nat → Int64) (rz ro z : Int32) (cc s : Nat) (st' : xS), fL_binary 104 N x1 x2 x3 x4 (ktb k 0) (ktl k 0) (kto k 0) (ktb k 1) (ktl k 1) (kto k 1) (ktb k 2) (ktl k 2) (kto k 2) (ksa k 0) (ksa k 1) tp (ksa k 2) mp (ksa k 3) (ktt k) (krc k 8) (krz k 8) (kro k 8) (kpl k) (krs k) (krc k (xpk x3)) (krz k (xpk x3)) (kro k (xpk x3)) (krc k (xpk x4)) (krz k (xpk x4)) (kro k (xpk x4)) = some (code, t'.1, i3 t'.2.1, t'.2.2, r8, rz, ro, z) ∧ fM_binary0 104 N st x1 x2 x3 x4 = some (cc, s, st') ∧ RV t' ∧ OutP st st' (fun x => jt 101 (R x)) tape prn (kpl k) x1 code r8 rz z cc s := by
  obtain ⟨t2, a2, b2⟩ := hC.2.2.1
  by_cases hv : isR x1 ∧ (¬ x2 < 0 ∧ ¬ (4 : Int32) < x2) ∧ isR x3 ∧ isR x4
  · obtain ⟨h1, h2, h3, h4⟩ := hv
    obtain ⟨to, hto, rfl⟩ := isR_k h1
    obtain ⟨m, hm, rfl⟩ := isM2 (m := 4) (by omega) h2
    obtain ⟨a, ha, rfl⟩ := isR_k h3
    obtain ⟨b, hb, rfl⟩ := isR_k h4
    obtain ⟨v, ez, ea⟩ := hC.2.2.2 a ha
    obtain ⟨u, ey, eb⟩ := hC.2.2.2 b hb
    obtain ⟨cc, s, st', e2, hc, hf⟩ := bin0_v (n := N) hT (hG a ha) (hG b hb) ha hb rfl rfl hto hm hN
    rw [Nat.zero_add, Nat.zero_add] at e2
    obtain ⟨c, t', r', z, e1, m1, m2⟩ := l_binary_w (e := 99) (n := N) (fu := 104) (f0 := ktb k 0) (v1 := ktl k 0) (v2 := kto k 0) (f3 := ktb k 1) (v4 := ktl k 1) (v5 := kto k 1) (f9 := ksa k 0) (f10 := ksa k 1) (p11 := tp) (f12 := ksa k 2) (p13 := mp) (f14 := ksa k 3) (v15 := ktt k) (f16 := krc k 8) (v17 := krz k 8) (v18 := kro k 8) (v19 := kpl k) (v20 := krs k) (o := kro k a) (o' := kro k b) (by omega) (by omega) (by omega) (by omega) h1 rfl hm h3 h4 ea (hG a ha).1 (hG a ha).2.1 (hG a ha).2.2 eb (hG b hb).1 (hG b hb).2.1 (hG b hb).2.2 b2
    rw [a2.1, a2.2.1, a2.2.2, xpk_i ha, xpk_i hb, ez, ey]
    exact ⟨lc c, t', r'.1, i3 r'.2.1, r'.2.2, z, cc, s, st', e1, e2, m1, OutP.of (d := 101) hto m2 (oBin_ok (hG a ha).1 (hG b hb).1) low1 hc hf⟩
  · obtain ⟨st', e2, n1, n2, n3⟩ := bin0_n (n := N) hT hv
    obtain ⟨v, ez, ea⟩ := hC.2.2.2 (xpk x3) (xpk_lt x3)
    obtain ⟨u, ey, eb⟩ := hC.2.2.2 (xpk x4) (xpk_lt x4)
    rw [a2.1, a2.2.1, a2.2.2, ez, ey]
    exact ⟨1, t2, krc k 8, krz k 8, kro k 8, krs k, 0, 0, st', l_binary_n hv, e2, b2, CostE.of_pt n3, n2, Or.inr ⟨by decide, n1⟩⟩
theorem jo_binarya (hN : 5000000000 < N) (hG : ∀ x, x < 8 → Gd (R x)) (hC : CI k R tape prn) (hT : RefT st (fun x => jt 101 (R x)) tape prn (kpl k) (krs k)) (hx : xpk x3 = xpk x4) : ∃ (code : Int32) (t' : TS) (r8 : Nat → Int64) (rz ro z : Int32) (cc s : Nat) (st' : xS), fL_binarya 104 N x1 x2 x3 x4 (ktb k 0) (ktl k 0) (kto k 0) (ktb k 1) (ktl k 1) (kto k 1) (ktb k 2) (ktl k 2) (kto k 2) (ksa k 0) (ksa k 1) tp (ksa k 2) mp (ksa k 3) (ktt k) (krc k 8) (krz k 8) (kro k 8) (kpl k) (krs k) (krc k (xpk x3)) (krz k (xpk x3)) (kro k (xpk x3)) = some (code, t'.1, i3 t'.2.1, t'.2.2, r8, rz, ro, z) ∧ fM_binary0 104 N st x1 x2 x3 x4 = some (cc, s, st') ∧ RV t' ∧ OutP st st' (fun x => jt 101 (R x)) tape prn (kpl k) x1 code r8 rz z cc s := by
  obtain ⟨t2, a2, b2⟩ := hC.2.2.1
  by_cases hv : isR x1 ∧ (¬ x2 < 0 ∧ ¬ (4 : Int32) < x2) ∧ isR x3 ∧ isR x4
  · obtain ⟨h1, h2, h3, h4⟩ := hv
    obtain ⟨to, hto, rfl⟩ := isR_k h1
    obtain ⟨m, hm, rfl⟩ := isM2 (m := 4) (by omega) h2
    obtain ⟨a, ha, rfl⟩ := isR_k h3
    obtain ⟨b, hb, rfl⟩ := isR_k h4
    rw [xpk_i ha, xpk_i hb] at hx
    subst hx
    obtain ⟨v, ez, ea⟩ := hC.2.2.2 a ha
    obtain ⟨cc, s, st', e2, hc, hf⟩ := bin0_v (n := N) hT (hG a ha) (hG a ha) ha ha rfl rfl hto hm hN
    rw [Nat.zero_add, Nat.zero_add] at e2
    obtain ⟨c, t', r', z, e1, m1, m2⟩ := l_binarya_w (e := 99) (n := N) (fu := 104) (f0 := ktb k 0) (v1 := ktl k 0) (v2 := kto k 0) (f3 := ktb k 1) (v4 := ktl k 1) (v5 := kto k 1) (f9 := ksa k 0) (f10 := ksa k 1) (p11 := tp) (f12 := ksa k 2) (p13 := mp) (f14 := ksa k 3) (v15 := ktt k) (f16 := krc k 8) (v17 := krz k 8) (v18 := kro k 8) (v19 := kpl k) (v20 := krs k) (o := kro k a) (by omega) (by omega) (by omega) (by omega) h1 rfl hm h3 h4 ea (hG a ha).1 (hG a ha).2.1 (hG a ha).2.2 b2
    rw [a2.1, a2.2.1, a2.2.2, xpk_i ha, ez]
    exact ⟨lc c, t', r'.1, i3 r'.2.1, r'.2.2, z, cc, s, st', e1, e2, m1, OutP.of (d := 101) hto m2 (oBin_ok (hG a ha).1 (hG a ha).1) low1 hc hf⟩
  · obtain ⟨st', e2, n1, n2, n3⟩ := bin0_n (n := N) hT hv
    obtain ⟨v, ez, ea⟩ := hC.2.2.2 (xpk x3) (xpk_lt x3)
    rw [a2.1, a2.2.1, a2.2.2, ez]
    exact ⟨1, t2, krc k 8, krz k 8, kro k 8, krs k, 0, 0, st', l_binarya_n hv, e2, b2, CostE.of_pt n3, n2, Or.inr ⟨by decide, n1⟩⟩
theorem jo_two (hN : 5000000000 < N) (hG : ∀ x, x < 8 → Gd (R x)) (hC : CI k R tape prn) (hT : RefT st (fun x => jt 101 (R x)) tape prn (kpl k) (krs k)) : ∃ (code : Int32) (t' : TS) (r8 : Nat → Int64) (rz ro z : Int32) (cc s : Nat) (st' : xS), fL_two 104 N x1 x2 x3 x4 (ktb k 0) (ktl k 0) (kto k 0) (ktb k 1) (ktl k 1) (kto k 1) (ktb k 2) (ktl k 2) (kto k 2) (ksa k 0) (ksa k 1) tp (ksa k 2) mp (ksa k 3) (ktt k) (krc k 8) (krz k 8) (kro k 8) (kpl k) (krs k) (krc k (xpk x3)) (krz k (xpk x3)) (kro k (xpk x3)) (krc k (xpk x4)) (krz k (xpk x4)) (kro k (xpk x4)) = some (code, t'.1, i3 t'.2.1, t'.2.2, r8, rz, ro, z) ∧ fM_two0 104 N st x1 x2 x3 x4 = some (cc, s, st') ∧ RV t' ∧ OutP st st' (fun x => jt 101 (R x)) tape prn (kpl k) x1 code r8 rz z cc s := by
  obtain ⟨t2, a2, b2⟩ := hC.2.2.1
  by_cases hv : isR x1 ∧ (¬ x2 < 0 ∧ ¬ (9 : Int32) < x2) ∧ isR x3 ∧ isR x4
  · obtain ⟨h1, h2, h3, h4⟩ := hv
    obtain ⟨to, hto, rfl⟩ := isR_k h1
    obtain ⟨m, hm, rfl⟩ := isM2 (m := 9) (by omega) h2
    obtain ⟨a, ha, rfl⟩ := isR_k h3
    obtain ⟨b, hb, rfl⟩ := isR_k h4
    obtain ⟨v, ez, ea⟩ := hC.2.2.2 a ha
    obtain ⟨u, ey, eb⟩ := hC.2.2.2 b hb
    obtain ⟨cc, s, st', e2, hc, hf⟩ := two0_v (n := N) hT (hG a ha) (hG b hb) ha hb rfl rfl hto hm hN
    rw [Nat.zero_add, Nat.zero_add] at e2
    obtain ⟨c, t', r', z, e1, m1, m2⟩ := l_two_w (e := 99) (n := N) (fu := 104) (f0 := ktb k 0) (v1 := ktl k 0) (v2 := kto k 0) (f3 := ktb k 1) (v4 := ktl k 1) (v5 := kto k 1) (f9 := ksa k 0) (f10 := ksa k 1) (p11 := tp) (f12 := ksa k 2) (p13 := mp) (f14 := ksa k 3) (v15 := ktt k) (f16 := krc k 8) (v17 := krz k 8) (v18 := kro k 8) (v19 := kpl k) (v20 := krs k) (o := kro k a) (o' := kro k b) (by omega) (by omega) (by omega) (by omega) h1 rfl hm h3 h4 ea (hG a ha).1 (hG a ha).2.1 (hG a ha).2.2 eb (hG b hb).1 (hG b hb).2.1 (hG b hb).2.2 b2
    rw [a2.1, a2.2.1, a2.2.2, xpk_i ha, xpk_i hb, ez, ey]
    exact ⟨lc c, t', r'.1, i3 r'.2.1, r'.2.2, z, cc, s, st', e1, e2, m1, OutP.of (d := 101) hto m2 (oTwo_ok (hG a ha).1 (hG b hb).1 (Nat.le_trans (jc_le_jt 101 (R a)) (hG a ha).2.2)) low1 hc hf⟩
  · obtain ⟨st', e2, n1, n2, n3⟩ := two0_n (n := N) hT hv
    obtain ⟨v, ez, ea⟩ := hC.2.2.2 (xpk x3) (xpk_lt x3)
    obtain ⟨u, ey, eb⟩ := hC.2.2.2 (xpk x4) (xpk_lt x4)
    rw [a2.1, a2.2.1, a2.2.2, ez, ey]
    exact ⟨1, t2, krc k 8, krz k 8, kro k 8, krs k, 0, 0, st', l_two_n hv, e2, b2, CostE.of_pt n3, n2, Or.inr ⟨by decide, n1⟩⟩
theorem jo_twoa (hN : 5000000000 < N) (hG : ∀ x, x < 8 → Gd (R x)) (hC : CI k R tape prn) (hT : RefT st (fun x => jt 101 (R x)) tape prn (kpl k) (krs k)) (hx : xpk x3 = xpk x4) : ∃ (code : Int32) (t' : TS) (r8 : Nat → Int64) (rz ro z : Int32) (cc s : Nat) (st' : xS), fL_twoa 104 N x1 x2 x3 x4 (ktb k 0) (ktl k 0) (kto k 0) (ktb k 1) (ktl k 1) (kto k 1) (ktb k 2) (ktl k 2) (kto k 2) (ksa k 0) (ksa k 1) tp (ksa k 2) mp (ksa k 3) (ktt k) (krc k 8) (krz k 8) (kro k 8) (kpl k) (krs k) (krc k (xpk x3)) (krz k (xpk x3)) (kro k (xpk x3)) = some (code, t'.1, i3 t'.2.1, t'.2.2, r8, rz, ro, z) ∧ fM_two0 104 N st x1 x2 x3 x4 = some (cc, s, st') ∧ RV t' ∧ OutP st st' (fun x => jt 101 (R x)) tape prn (kpl k) x1 code r8 rz z cc s := by
  obtain ⟨t2, a2, b2⟩ := hC.2.2.1
  by_cases hv : isR x1 ∧ (¬ x2 < 0 ∧ ¬ (9 : Int32) < x2) ∧ isR x3 ∧ isR x4
  · obtain ⟨h1, h2, h3, h4⟩ := hv
    obtain ⟨to, hto, rfl⟩ := isR_k h1
    obtain ⟨m, hm, rfl⟩ := isM2 (m := 9) (by omega) h2
    obtain ⟨a, ha, rfl⟩ := isR_k h3
    obtain ⟨b, hb, rfl⟩ := isR_k h4
    rw [xpk_i ha, xpk_i hb] at hx
    subst hx
    obtain ⟨v, ez, ea⟩ := hC.2.2.2 a ha
    obtain ⟨cc, s, st', e2, hc, hf⟩ := two0_v (n := N) hT (hG a ha) (hG a ha) ha ha rfl rfl hto hm hN
    rw [Nat.zero_add, Nat.zero_add] at e2
    obtain ⟨c, t', r', z, e1, m1, m2⟩ := l_twoa_w (e := 99) (n := N) (fu := 104) (f0 := ktb k 0) (v1 := ktl k 0) (v2 := kto k 0) (f3 := ktb k 1) (v4 := ktl k 1) (v5 := kto k 1) (f9 := ksa k 0) (f10 := ksa k 1) (p11 := tp) (f12 := ksa k 2) (p13 := mp) (f14 := ksa k 3) (v15 := ktt k) (f16 := krc k 8) (v17 := krz k 8) (v18 := kro k 8) (v19 := kpl k) (v20 := krs k) (o := kro k a) (by omega) (by omega) (by omega) (by omega) h1 rfl hm h3 h4 ea (hG a ha).1 (hG a ha).2.1 (hG a ha).2.2 b2
    rw [a2.1, a2.2.1, a2.2.2, xpk_i ha, ez]
    exact ⟨lc c, t', r'.1, i3 r'.2.1, r'.2.2, z, cc, s, st', e1, e2, m1, OutP.of (d := 101) hto m2 (oTwo_ok (hG a ha).1 (hG a ha).1 (Nat.le_trans (jc_le_jt 101 (R a)) (hG a ha).2.2)) low1 hc hf⟩
  · obtain ⟨st', e2, n1, n2, n3⟩ := two0_n (n := N) hT hv
    obtain ⟨v, ez, ea⟩ := hC.2.2.2 (xpk x3) (xpk_lt x3)
    rw [a2.1, a2.2.1, a2.2.2, ez]
    exact ⟨1, t2, krc k 8, krz k 8, kro k 8, krs k, 0, 0, st', l_twoa_n hv, e2, b2, CostE.of_pt n3, n2, Or.inr ⟨by decide, n1⟩⟩
theorem jo_sort (hN : 5000000000 < N) (hG : ∀ x, x < 8 → Gd (R x)) (hC : CI k R tape prn) (hT : RefT st (fun x => jt 101 (R x)) tape prn (kpl k) (krs k)) : ∃ (code : Int32) (t' : TS) (s1 s2 s3 : Nat → Int32) (b1 : Nat) (s4 : Nat → Int32) (b2 : Nat) (s5 : Int32) (r8 : Nat → Int64) (rz ro z : Int32) (cc s : Nat) (st' : xS), fL_sort 104 N x1 x2 x3 x4 (ktb k 0) (ktl k 0) (kto k 0) (ktb k 1) (ktl k 1) (kto k 1) (ktb k 2) (ktl k 2) (kto k 2) (ksa k 0) (ksa k 1) tp (ksa k 2) mp (ksa k 3) (ktt k) (krc k 8) (krz k 8) (kro k 8) (kpl k) (krs k) (krc k (xpk x3)) (krz k (xpk x3)) (kro k (xpk x3)) (krc k (xpk x4)) (krz k (xpk x4)) (kro k (xpk x4)) = some (code, t'.1, i3 t'.2.1, t'.2.2, s1, s2, s3, b1, s4, b2, s5, r8, rz, ro, z) ∧ fM_sort0 104 N st x1 x2 x3 x4 = some (cc, s, st') ∧ RV t' ∧ OutP st st' (fun x => jt 101 (R x)) tape prn (kpl k) x1 code r8 rz z cc s := by
  obtain ⟨t2, a2, b2⟩ := hC.2.2.1
  by_cases hv : isR x1 ∧ (¬ x2 < 0 ∧ ¬ (4 : Int32) < x2) ∧ isR x3 ∧ isR x4
  · obtain ⟨h1, h2, h3, h4⟩ := hv
    obtain ⟨to, hto, rfl⟩ := isR_k h1
    obtain ⟨m, hm, rfl⟩ := isM2 (m := 4) (by omega) h2
    obtain ⟨a, ha, rfl⟩ := isR_k h3
    obtain ⟨b, hb, rfl⟩ := isR_k h4
    obtain ⟨v, ez, ea⟩ := hC.2.2.2 a ha
    obtain ⟨u, ey, eb⟩ := hC.2.2.2 b hb
    obtain ⟨cc, s, st', e2, hc, hf⟩ := sort0_v (n := N) hT (hG a ha) (hG b hb) ha hb rfl rfl hto hm hN
    rw [Nat.zero_add, Nat.zero_add] at e2
    obtain ⟨c, t', s1, s2, s3, b1, s4, b2, s5, r', z, e1, m1, m2⟩ := l_sort_w (e := 100) (n := N) (fu := 104) (f0 := ktb k 0) (v1 := ktl k 0) (v2 := kto k 0) (f3 := ktb k 1) (v4 := ktl k 1) (v5 := kto k 1) (f9 := ksa k 0) (f10 := ksa k 1) (p11 := tp) (f12 := ksa k 2) (p13 := mp) (f14 := ksa k 3) (v15 := ktt k) (f16 := krc k 8) (v17 := krz k 8) (v18 := kro k 8) (v19 := kpl k) (v20 := krs k) (o := kro k a) (o' := kro k b) (by omega) (by omega) (by omega) (by omega) h1 rfl hm h3 h4 ea (hG a ha).1 (hG a ha).2.1 (hG a ha).2.2 (fun l hl => ja_l48 (d := 99) (hl ▸ (hG a ha).1) (hl ▸ (hG a ha).2.2)) eb (hG b hb).1 (hG b hb).2.1 (hG b hb).2.2 b2
    rw [a2.1, a2.2.1, a2.2.2, xpk_i ha, xpk_i hb, ez, ey]
    exact ⟨lc c, t', s1, s2, s3, b1, s4, b2, s5, r'.1, i3 r'.2.1, r'.2.2, z, cc, s, st', e1, e2, m1, OutP.of (d := 102) hto m2 (oKeyed_ok (hG a ha).1) low2 hc hf⟩
  · obtain ⟨st', e2, n1, n2, n3⟩ := sort0_n (n := N) hT hv
    obtain ⟨v, ez, ea⟩ := hC.2.2.2 (xpk x3) (xpk_lt x3)
    obtain ⟨u, ey, eb⟩ := hC.2.2.2 (xpk x4) (xpk_lt x4)
    rw [a2.1, a2.2.1, a2.2.2, ez, ey]
    exact ⟨1, t2, ksa k 0, ksa k 1, ksa k 2, tp, ksa k 3, mp, ktt k, krc k 8, krz k 8, kro k 8, krs k, 0, 0, st', l_sort_n hv, e2, b2, CostE.of_pt n3, n2, Or.inr ⟨by decide, n1⟩⟩
theorem jo_sorta (hN : 5000000000 < N) (hG : ∀ x, x < 8 → Gd (R x)) (hC : CI k R tape prn) (hT : RefT st (fun x => jt 101 (R x)) tape prn (kpl k) (krs k)) (hx : xpk x3 = xpk x4) : ∃ (code : Int32) (t' : TS) (s1 s2 s3 : Nat → Int32) (b1 : Nat) (s4 : Nat → Int32) (b2 : Nat) (s5 : Int32) (r8 : Nat → Int64) (rz ro z : Int32) (cc s : Nat) (st' : xS), fL_sorta 104 N x1 x2 x3 x4 (ktb k 0) (ktl k 0) (kto k 0) (ktb k 1) (ktl k 1) (kto k 1) (ktb k 2) (ktl k 2) (kto k 2) (ksa k 0) (ksa k 1) tp (ksa k 2) mp (ksa k 3) (ktt k) (krc k 8) (krz k 8) (kro k 8) (kpl k) (krs k) (krc k (xpk x3)) (krz k (xpk x3)) (kro k (xpk x3)) = some (code, t'.1, i3 t'.2.1, t'.2.2, s1, s2, s3, b1, s4, b2, s5, r8, rz, ro, z) ∧ fM_sort0 104 N st x1 x2 x3 x4 = some (cc, s, st') ∧ RV t' ∧ OutP st st' (fun x => jt 101 (R x)) tape prn (kpl k) x1 code r8 rz z cc s := by
  obtain ⟨t2, a2, b2⟩ := hC.2.2.1
  by_cases hv : isR x1 ∧ (¬ x2 < 0 ∧ ¬ (4 : Int32) < x2) ∧ isR x3 ∧ isR x4
  · obtain ⟨h1, h2, h3, h4⟩ := hv
    obtain ⟨to, hto, rfl⟩ := isR_k h1
    obtain ⟨m, hm, rfl⟩ := isM2 (m := 4) (by omega) h2
    obtain ⟨a, ha, rfl⟩ := isR_k h3
    obtain ⟨b, hb, rfl⟩ := isR_k h4
    rw [xpk_i ha, xpk_i hb] at hx
    subst hx
    obtain ⟨v, ez, ea⟩ := hC.2.2.2 a ha
    obtain ⟨cc, s, st', e2, hc, hf⟩ := sort0_v (n := N) hT (hG a ha) (hG a ha) ha ha rfl rfl hto hm hN
    rw [Nat.zero_add, Nat.zero_add] at e2
    obtain ⟨c, t', s1, s2, s3, b1, s4, b2, s5, r', z, e1, m1, m2⟩ := l_sorta_w (e := 100) (n := N) (fu := 104) (f0 := ktb k 0) (v1 := ktl k 0) (v2 := kto k 0) (f3 := ktb k 1) (v4 := ktl k 1) (v5 := kto k 1) (f9 := ksa k 0) (f10 := ksa k 1) (p11 := tp) (f12 := ksa k 2) (p13 := mp) (f14 := ksa k 3) (v15 := ktt k) (f16 := krc k 8) (v17 := krz k 8) (v18 := kro k 8) (v19 := kpl k) (v20 := krs k) (o := kro k a) (by omega) (by omega) (by omega) (by omega) h1 rfl hm h3 h4 ea (hG a ha).1 (hG a ha).2.1 (hG a ha).2.2 (fun l hl => ja_l48 (d := 99) (hl ▸ (hG a ha).1) (hl ▸ (hG a ha).2.2)) b2
    rw [a2.1, a2.2.1, a2.2.2, xpk_i ha, ez]
    exact ⟨lc c, t', s1, s2, s3, b1, s4, b2, s5, r'.1, i3 r'.2.1, r'.2.2, z, cc, s, st', e1, e2, m1, OutP.of (d := 102) hto m2 (oKeyed_ok (hG a ha).1) low2 hc hf⟩
  · obtain ⟨st', e2, n1, n2, n3⟩ := sort0_n (n := N) hT hv
    obtain ⟨v, ez, ea⟩ := hC.2.2.2 (xpk x3) (xpk_lt x3)
    rw [a2.1, a2.2.1, a2.2.2, ez]
    exact ⟨1, t2, ksa k 0, ksa k 1, ksa k 2, tp, ksa k 3, mp, ktt k, krc k 8, krz k 8, kro k 8, krs k, 0, 0, st', l_sorta_n hv, e2, b2, CostE.of_pt n3, n2, Or.inr ⟨by decide, n1⟩⟩
theorem jo_one (hN : 5000000000 < N) (hG : ∀ x, x < 8 → Gd (R x)) (hC : CI k R tape prn) (hT : RefT st (fun x => jt 101 (R x)) tape prn (kpl k) (krs k)) : ∃ (code : Int32) (t' : TS) (s1 s2 : Nat → Int32) (b1 : Nat) (s3 : Nat → Int32) (b2 : Nat) (s4 : Int32) (r8 : Nat → Int64) (rz ro z : Int32) (cc s : Nat) (st' : xS), fL_one 104 N x1 x2 x3 (ktb k 0) (ktl k 0) (kto k 0) (ktb k 1) (ktl k 1) (kto k 1) (ktb k 2) (ktl k 2) (kto k 2) (ksa k 0) (ksa k 1) tp (ksa k 2) mp (ksa k 3) (ktt k) (krc k 8) (krz k 8) (kro k 8) (kpl k) (krs k) (krc k (xpk x3)) (krz k (xpk x3)) (kro k (xpk x3)) = some (code, t'.1, i3 t'.2.1, t'.2.2, s1, s2, b1, s3, b2, s4, r8, rz, ro, z) ∧ fM_one0 104 N st x1 x2 x3 = some (cc, s, st') ∧ RV t' ∧ OutP st st' (fun x => jt 101 (R x)) tape prn (kpl k) x1 code r8 rz z cc s := by
  obtain ⟨t2, a2, b2⟩ := hC.2.2.1
  by_cases hv : isR x1 ∧ (¬ x2 < 0 ∧ ¬ (13 : Int32) < x2) ∧ isR x3
  · obtain ⟨h1, h2, h3⟩ := hv
    obtain ⟨to, hto, rfl⟩ := isR_k h1
    obtain ⟨m, hm, rfl⟩ := isM2 (m := 13) (by omega) h2
    obtain ⟨a, ha, rfl⟩ := isR_k h3
    obtain ⟨v, ez, ea⟩ := hC.2.2.2 a ha
    obtain ⟨cc, s, st', e2, hc, hf⟩ := one0_v (n := N) hT (hG a ha) ha rfl hto hm hN
    rw [Nat.zero_add, Nat.zero_add] at e2
    obtain ⟨c, t', s1, s2, b1, s3, b2, s4, r', z, e1, m1, m2⟩ := l_one_w (e := 99) (n := N) (fu := 104) (f0 := ktb k 0) (v1 := ktl k 0) (v2 := kto k 0) (f3 := ktb k 1) (v4 := ktl k 1) (v5 := kto k 1) (f9 := ksa k 0) (f10 := ksa k 1) (p11 := tp) (f12 := ksa k 2) (p13 := mp) (f14 := ksa k 3) (v15 := ktt k) (f16 := krc k 8) (v17 := krz k 8) (v18 := kro k 8) (v19 := kpl k) (v20 := krs k) (o := kro k a) (by omega) (by omega) (by omega) (by omega) h1 rfl hm h3 ea (hG a ha).1 (hG a ha).2.1 (hG a ha).2.2 (fun l hl => ja_l48 (d := 99) (hl ▸ (hG a ha).1) (hl ▸ (hG a ha).2.2)) (fun l hl => jo_l48 (d := 99) (hl ▸ (hG a ha).2.2)) b2
    rw [a2.1, a2.2.1, a2.2.2, xpk_i ha, ez]
    exact ⟨lc c, t', s1, s2, b1, s3, b2, s4, r'.1, i3 r'.2.1, r'.2.2, z, cc, s, st', e1, e2, m1, OutP.of (d := 101) hto m2 (oOne_ok (by omega) (hG a ha).1 (Nat.le_trans (jc_le_jt 101 (R a)) (hG a ha).2.2)) low1 hc hf⟩
  · obtain ⟨st', e2, n1, n2, n3⟩ := one0_n (n := N) hT hv
    obtain ⟨v, ez, ea⟩ := hC.2.2.2 (xpk x3) (xpk_lt x3)
    rw [a2.1, a2.2.1, a2.2.2, ez]
    exact ⟨1, t2, ksa k 0, ksa k 2, tp, ksa k 3, mp, ktt k, krc k 8, krz k 8, kro k 8, krs k, 0, 0, st', l_one_n hv, e2, b2, CostE.of_pt n3, n2, Or.inr ⟨by decide, n1⟩⟩
end LAWC
