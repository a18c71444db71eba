section LAWB
variable {xs : Nat → Int32} {L N n q : Nat} {k : xC} {ov : Nat → Int64} {st : xS} {wc wn tp mp : Nat} {i : Int32} {R : Nat → JT 101} {tape prn : List Nat} {x1 x2 x3 x4 x5 : Int32}
theorem law5 (hP : Pos L q i) (hN : 5000000000 < N) (hI : LI k st q wc wn) (hq : q + 1 ≤ 512) (hop : xs i.toNatClampNeg &&& 15 = 5) : Nx xs L N n q (fLaw xs L N (n + 1) i k ov st wc wn tp mp) := by
  obtain ⟨hi, he, g0, g1, g2, g3, g4, g5⟩ := hP
  have hr0 := hI.room (by omega)
  obtain ⟨R, tape, prn, hG, hC, hT, c1, c2⟩ := hI
  rw [fLaw, if_neg (by omega), if_neg he, if_neg g0, if_neg (show ¬ xs i.toNatClampNeg &&& 15 = 0 by rw [hop]; decide), if_neg (show ¬ xs i.toNatClampNeg &&& 15 = 1 by rw [hop]; decide), if_neg (show ¬ xs i.toNatClampNeg &&& 15 = 2 by rw [hop]; decide), if_neg (show ¬ xs i.toNatClampNeg &&& 15 = 3 by rw [hop]; decide), if_neg (show ¬ xs i.toNatClampNeg &&& 15 = 4 by rw [hop]; decide), if_pos hop, if_neg g1, if_neg g2]
  generalize xs (i + 1).toNatClampNeg = x1
  generalize xs (i + 2).toNatClampNeg = x2
  by_cases hv : isR x1 ∧ isR x2
  · obtain ⟨a, ha, rfl⟩ := isR_k hv.1
    obtain ⟨b, hb, rfl⟩ := isR_k hv.2
    obtain ⟨v, ez, ea⟩ := hC.2.2.2 a ha
    rw [xpk_i ha, xpk_i hb]
    by_cases hx : a = b
    · subst hx
      obtain ⟨cc, s, st', e2, n0, n1, n2⟩ := (cmp_v (n := N) hT (hG a ha) (hG a ha) ha ha rfl rfl hN).1
      have hL' : LI k st' (q + 1) (wc + 0 + 1 + cc + 0) (wn + 0 + 6 + s + 0) := LI.mk c1 c2 hG hC n1 ⟨n0.1, by have := n0.2; omega⟩ (a := 1) (b := 6) (by omega) (by omega) (by omega) (by omega)
      have hr := hL'.room hq
      rw [if_pos rfl, ez, l_comparea_w (e := 101) (n := N) (fu := 104) (by omega) (by omega) (by omega) hv.1 hv.2 ea (hG a ha).1 (hG a ha).2.1, Option.bind_some, if_neg (by omega), if_neg g1, if_neg g2, e2, Option.bind_some]
      dsimp only
      rw [if_neg (show ¬ ¬ (0 : Nat) = 0 by decide), if_neg (by omega), thr_e, Option.bind_some, if_neg (by omega), n2, if_pos rfl, if_pos rfl]
      rw [if_pos lgu, hi]
      exact ⟨_, _, _, _, _, _, _, rfl, hL'⟩
    · obtain ⟨u, ey, eb⟩ := hC.2.2.2 b hb
      obtain ⟨cc, s, st', e2, n0, n1, n2⟩ := (cmp_v (n := N) hT (hG a ha) (hG b hb) ha hb rfl rfl hN).1
      have hL' : LI k st' (q + 1) (wc + 0 + 1 + cc + 0) (wn + 0 + 6 + s + 0) := LI.mk c1 c2 hG hC n1 ⟨n0.1, by have := n0.2; omega⟩ (a := 1) (b := 6) (by omega) (by omega) (by omega) (by omega)
      have hr := hL'.room hq
      rw [if_neg hx, ez, ey, l_compare_w (e := 101) (n := N) (fu := 104) (by omega) (by omega) (by omega) hv.1 hv.2 ea (hG a ha).1 eb (hG b hb).1 (hG a ha).2.1, Option.bind_some, if_neg (by omega), if_neg g1, if_neg g2, e2, Option.bind_some]
      dsimp only
      rw [if_neg (show ¬ ¬ (0 : Nat) = 0 by decide), if_neg (by omega), thr_e, Option.bind_some, if_neg (by omega), n2, if_pos rfl, if_pos rfl]
      rw [if_pos lgu, hi]
      exact ⟨_, _, _, _, _, _, _, rfl, hL'⟩
  · obtain ⟨cc, s, st', e2, n0, n1, n2⟩ := (cmp_n (n := N) hT hv).1
    have hL' : LI k st' (q + 1) (wc + 0 + 1 + cc + 0) (wn + 0 + 6 + s + 0) := LI.mk c1 c2 hG hC n1 ⟨n0.1, by have := n0.2; omega⟩ (a := 1) (b := 6) (by omega) (by omega) (by omega) (by omega)
    have hr := hL'.room hq
    by_cases hx : xpk x1 = xpk x2
    · have e1 := (l_compare_n (n := N) (fu := 104) (f0 := ktb k 0) (v1 := ktl k 0) (v2 := kto k 0) (f3 := ktb k 1) (v4 := ktl k 1) (v5 := kto k 1) (f6 := ktb k 2) (v7 := ktl k 2) (v8 := kto k 2) (f9 := ksa k 0) (f10 := ksa k 1) (p11 := tp) (f12 := ksa k 2) (p13 := mp) (f14 := ksa k 3) (v15 := ktt k) (f16 := krc k 8) (v17 := krz k 8) (v18 := kro k 8) (v19 := kpl k) (v20 := krs k) (ov := ov) (f21 := krc k (xpk x1)) (v22 := krz k (xpk x1)) (v23 := kro k (xpk x1)) (f24 := krc k (xpk x2)) (v25 := krz k (xpk x2)) (v26 := kro k (xpk x2)) hv).2.1
      rw [if_pos hx, e1, Option.bind_some, if_neg (by omega), if_neg g1, if_neg g2, e2, Option.bind_some]
      dsimp only
      rw [if_neg (show ¬ ¬ (0 : Nat) = 0 by decide), if_neg (by omega), thr_e, Option.bind_some, if_neg (by omega), n2, if_pos rfl, if_neg (by decide), hi]
      exact ⟨_, _, _, _, _, _, _, rfl, hL'⟩
    · have e1 := (l_compare_n (n := N) (fu := 104) (f0 := ktb k 0) (v1 := ktl k 0) (v2 := kto k 0) (f3 := ktb k 1) (v4 := ktl k 1) (v5 := kto k 1) (f6 := ktb k 2) (v7 := ktl k 2) (v8 := kto k 2) (f9 := ksa k 0) (f10 := ksa k 1) (p11 := tp) (f12 := ksa k 2) (p13 := mp) (f14 := ksa k 3) (v15 := ktt k) (f16 := krc k 8) (v17 := krz k 8) (v18 := kro k 8) (v19 := kpl k) (v20 := krs k) (ov := ov) (f21 := krc k (xpk x1)) (v22 := krz k (xpk x1)) (v23 := kro k (xpk x1)) (f24 := krc k (xpk x2)) (v25 := krz k (xpk x2)) (v26 := kro k (xpk x2)) hv).1
      rw [if_neg hx, e1, Option.bind_some, if_neg (by omega), if_neg g1, if_neg g2, e2, Option.bind_some]
      dsimp only
      rw [if_neg (show ¬ ¬ (0 : Nat) = 0 by decide), if_neg (by omega), thr_e, Option.bind_some, if_neg (by omega), n2, if_pos rfl, if_neg (by decide), hi]
      exact ⟨_, _, _, _, _, _, _, rfl, hL'⟩
theorem law6 (hP : Pos L q i) (hN : 5000000000 < N) (hI : LI k st q wc wn) (hq : q + 1 ≤ 512) (hop : xs i.toNatClampNeg &&& 15 = 6) : Nx xs L N n q (fLaw xs L N (n + 1) i k ov st wc wn tp mp) := by
  obtain ⟨hi, he, g0, g1, g2, g3, g4, g5⟩ := hP
  have hr0 := hI.room (by omega)
  obtain ⟨R, tape, prn, hG, hC, hT, c1, c2⟩ := hI
  rw [fLaw, if_neg (by omega), if_neg he, if_neg g0, if_neg (show ¬ xs i.toNatClampNeg &&& 15 = 0 by rw [hop]; decide), if_neg (show ¬ xs i.toNatClampNeg &&& 15 = 1 by rw [hop]; decide), if_neg (show ¬ xs i.toNatClampNeg &&& 15 = 2 by rw [hop]; decide), if_neg (show ¬ xs i.toNatClampNeg &&& 15 = 3 by rw [hop]; decide), if_neg (show ¬ xs i.toNatClampNeg &&& 15 = 4 by rw [hop]; decide), if_neg (show ¬ xs i.toNatClampNeg &&& 15 = 5 by rw [hop]; decide), if_pos hop, if_neg g1, if_neg g2]
  generalize xs (i + 1).toNatClampNeg = x1
  generalize xs (i + 2).toNatClampNeg = x2
  by_cases hv : isR x1 ∧ isR x2
  · obtain ⟨a, ha, rfl⟩ := isR_k hv.1
    obtain ⟨b, hb, rfl⟩ := isR_k hv.2
    obtain ⟨v, ez, ea⟩ := hC.2.2.2 a ha
    rw [xpk_i ha, xpk_i hb]
    by_cases hx : a = b
    · subst hx
      obtain ⟨cc, s, st', e2, n0, n1, n2⟩ := (cmp_v (n := N) hT (hG a ha) (hG a ha) ha ha rfl rfl hN).2
      have hL' : LI k st' (q + 1) (wc + 0 + 1 + cc + 0) (wn + 0 + 6 + s + 0) := LI.mk c1 c2 hG hC n1 ⟨n0.1, by have := n0.2; omega⟩ (a := 1) (b := 6) (by omega) (by omega) (by omega) (by omega)
      have hr := hL'.room hq
      rw [if_pos rfl, ez, l_samea_w (e := 101) (n := N) (fu := 104) (by omega) (by omega) (by omega) hv.1 hv.2 ea (hG a ha).1 (hG a ha).2.1, Option.bind_some, if_neg (by omega), if_neg g1, if_neg g2, e2, Option.bind_some]
      dsimp only
      rw [if_neg (show ¬ ¬ (0 : Nat) = 0 by decide), if_neg (by omega), thr_e, Option.bind_some, if_neg (by omega), n2, if_pos rfl, if_pos rfl]
      by_cases hj : jcmp 101 (R a) (R a) = 0
      · simp only [if_pos hj]
        rw [if_neg (show ¬ (1 : Int32) = 0 by decide), if_pos lgu, hi]
        exact ⟨_, _, _, _, _, _, _, rfl, hL'⟩
      · simp only [if_neg hj]
        rw [if_pos trivial, if_pos lgu, hi]
        exact ⟨_, _, _, _, _, _, _, rfl, hL'⟩
    · obtain ⟨u, ey, eb⟩ := hC.2.2.2 b hb
      obtain ⟨cc, s, st', e2, n0, n1, n2⟩ := (cmp_v (n := N) hT (hG a ha) (hG b hb) ha hb rfl rfl hN).2
      have hL' : LI k st' (q + 1) (wc + 0 + 1 + cc + 0) (wn + 0 + 6 + s + 0) := LI.mk c1 c2 hG hC n1 ⟨n0.1, by have := n0.2; omega⟩ (a := 1) (b := 6) (by omega) (by omega) (by omega) (by omega)
      have hr := hL'.room hq
      rw [if_neg hx, ez, ey, l_same_w (e := 101) (n := N) (fu := 104) (by omega) (by omega) (by omega) hv.1 hv.2 ea (hG a ha).1 eb (hG b hb).1 (hG a ha).2.1, Option.bind_some, if_neg (by omega), if_neg g1, if_neg g2, e2, Option.bind_some]
      dsimp only
      rw [if_neg (show ¬ ¬ (0 : Nat) = 0 by decide), if_neg (by omega), thr_e, Option.bind_some, if_neg (by omega), n2, if_pos rfl, if_pos rfl]
      by_cases hj : jcmp 101 (R a) (R b) = 0
      · simp only [if_pos hj]
        rw [if_neg (show ¬ (1 : Int32) = 0 by decide), if_pos lgu, hi]
        exact ⟨_, _, _, _, _, _, _, rfl, hL'⟩
      · simp only [if_neg hj]
        rw [if_pos trivial, if_pos lgu, hi]
        exact ⟨_, _, _, _, _, _, _, rfl, hL'⟩
  · obtain ⟨cc, s, st', e2, n0, n1, n2⟩ := (cmp_n (n := N) hT hv).2
    have hL' : LI k st' (q + 1) (wc + 0 + 1 + cc + 0) (wn + 0 + 6 + s + 0) := LI.mk c1 c2 hG hC n1 ⟨n0.1, by have := n0.2; omega⟩ (a := 1) (b := 6) (by omega) (by omega) (by omega) (by omega)
    have hr := hL'.room hq
    by_cases hx : xpk x1 = xpk x2
    · have e1 := (l_compare_n (n := N) (fu := 104) (f0 := ktb k 0) (v1 := ktl k 0) (v2 := kto k 0) (f3 := ktb k 1) (v4 := ktl k 1) (v5 := kto k 1) (f6 := ktb k 2) (v7 := ktl k 2) (v8 := kto k 2) (f9 := ksa k 0) (f10 := ksa k 1) (p11 := tp) (f12 := ksa k 2) (p13 := mp) (f14 := ksa k 3) (v15 := ktt k) (f16 := krc k 8) (v17 := krz k 8) (v18 := kro k 8) (v19 := kpl k) (v20 := krs k) (ov := ov) (f21 := krc k (xpk x1)) (v22 := krz k (xpk x1)) (v23 := kro k (xpk x1)) (f24 := krc k (xpk x2)) (v25 := krz k (xpk x2)) (v26 := kro k (xpk x2)) hv).2.2.2
      rw [if_pos hx, e1, Option.bind_some, if_neg (by omega), if_neg g1, if_neg g2, e2, Option.bind_some]
      dsimp only
      rw [if_neg (show ¬ ¬ (0 : Nat) = 0 by decide), if_neg (by omega), thr_e, Option.bind_some, if_neg (by omega), n2, if_pos rfl, if_neg (by decide), hi]
      exact ⟨_, _, _, _, _, _, _, rfl, hL'⟩
    · have e1 := (l_compare_n (n := N) (fu := 104) (f0 := ktb k 0) (v1 := ktl k 0) (v2 := kto k 0) (f3 := ktb k 1) (v4 := ktl k 1) (v5 := kto k 1) (f6 := ktb k 2) (v7 := ktl k 2) (v8 := kto k 2) (f9 := ksa k 0) (f10 := ksa k 1) (p11 := tp) (f12 := ksa k 2) (p13 := mp) (f14 := ksa k 3) (v15 := ktt k) (f16 := krc k 8) (v17 := krz k 8) (v18 := kro k 8) (v19 := kpl k) (v20 := krs k) (ov := ov) (f21 := krc k (xpk x1)) (v22 := krz k (xpk x1)) (v23 := kro k (xpk x1)) (f24 := krc k (xpk x2)) (v25 := krz k (xpk x2)) (v26 := kro k (xpk x2)) hv).2.2.1
      rw [if_neg hx, e1, Option.bind_some, if_neg (by omega), if_neg g1, if_neg g2, e2, Option.bind_some]
      dsimp only
      rw [if_neg (show ¬ ¬ (0 : Nat) = 0 by decide), if_neg (by omega), thr_e, Option.bind_some, if_neg (by omega), n2, if_pos rfl, if_neg (by decide), hi]
      exact ⟨_, _, _, _, _, _, _, rfl, hL'⟩
theorem law2 (hP : Pos L q i) (hN : 5000000000 < N) (hI : LI k st q wc wn) (hq : q + 1 ≤ 512) (hop : xs i.toNatClampNeg &&& 15 = 2) : Nx xs L N n q (fLaw xs L N (n + 1) i k ov st wc wn tp mp) := by
  obtain ⟨hi, he, g0, g1, g2, g3, g4, g5⟩ := hP
  have hr0 := hI.room (by omega)
  obtain ⟨R, tape, prn, hG, hC, hT, c1, c2⟩ := hI
  rw [fLaw, if_neg (by omega), if_neg he, if_neg g0, if_neg (show ¬ xs i.toNatClampNeg &&& 15 = 0 by rw [hop]; decide), if_neg (show ¬ xs i.toNatClampNeg &&& 15 = 1 by rw [hop]; decide), if_pos hop, if_neg g1]
  generalize xs (i + 1).toNatClampNeg = x1
  obtain ⟨t0, a0, b0⟩ := hC.1
  obtain ⟨t2, a2, b2⟩ := hC.2.2.1
  have hnil : TP (t0.1, 0, 0) [] := ⟨⟨fun c hc => absurd hc (by simp), seg_nil, rfl, by simp⟩, rfl⟩
  by_cases hv : isR x1
  · obtain ⟨to, hto, rfl⟩ := isR_k hv
    obtain ⟨t', r', hv1, hv2, hcl⟩ := l_read_w (k := 100) (fu := 104) (n := N) (f3 := ktb k 1) (v4 := ktl k 1) (v5 := kto k 1) (f9 := ksa k 0) (f10 := ksa k 1) (p11 := tp) (f12 := ksa k 2) (p13 := mp) (f14 := ksa k 3) (v15 := ktt k) (f16 := krc k 8) (v17 := krz k 8) (v18 := kro k 8) (v19 := kpl k) (v20 := krs k) (ov := ov) (by omega) (by omega) (by omega) hv b0 b2
    have hj : ∀ j, pT 100 40 tape = .inr j → jok 101 j ∧ jd 101 j ≤ 40 := by
      intro j hp
      rw [hp] at hcl
      exact ⟨hcl.1, hcl.2.1⟩
    obtain ⟨cc, s, z, st', e2, n0, n1⟩ := read_v (n := N) hT hto hN hj
    rw [a0.1, a0.2.1, a0.2.2, a2.1, a2.2.1, a2.2.2]
    cases hp : pT 100 40 tape with
    | inl x =>
      rw [hp] at hcl n1
      obtain ⟨n1, n2⟩ := n1
      have hcl : fL_read 104 N (i3 to) t0.1 (i3 t0.2.1) t0.2.2 (ktb k 1) (ktl k 1) (kto k 1) t2.1 (i3 t2.2.1) t2.2.2 (ksa k 0) (ksa k 1) tp (ksa k 2) mp (ksa k 3) (ktt k) (krc k 8) (krz k 8) (kro k 8) (kpl k) (krs k) ov = some (2, 0, 0, t'.1, i3 t'.2.1, t'.2.2, r'.1, i3 r'.2.1, r'.2.2, i3 (tape.length - x.length), ov) := hcl
      have hL' : LI (kP (kT (kT (kR k r'.1 (i3 r'.2.1) r'.2.2) 0 t0.1 0 0) 2 t'.1 (i3 t'.2.1) t'.2.2) (i3 (tape.length - x.length)) (krs k)) st' (q + 1) (wc + 0 + 3 + cc + 0) (wn + 0 + 16 + s + 0) := LI.mk c1 c2 hG (((hC.r8.t0 hnil).t2 hv1).p) n1 n0 (a := 3) (b := 16) (by omega) (by omega) (by omega) (by omega)
      have hr := hL'.room hq
      rw [hcl, Option.bind_some, if_neg (by omega)]
      dsimp only
      rw [if_neg (by decide), if_neg g1, e2, Option.bind_some]
      dsimp only
      rw [if_neg (by omega), thr_e, Option.bind_some, if_neg (by omega), n2, if_pos rfl, if_neg (by decide), hi]
      exact ⟨_, _, _, _, _, _, _, rfl, hL'⟩
    | inr j =>
      rw [hp] at hcl n1
      obtain ⟨_, _, hcl⟩ := hcl
      rcases hcl with ⟨hf, hcl, h1, h2, hA⟩ | ⟨hf, hcl⟩
      · rcases n1 with ⟨_, hz, n1, n2⟩ | ⟨hf', _⟩
        · have hL' : LI (kW (kP (kT (kT (kR k r'.1 (i3 r'.2.1) r'.2.2) 0 t0.1 0 0) 2 t'.1 (i3 t'.2.1) t'.2.2) (-1) (krs k)) to) st' (q + 1) (wc + 0 + 3 + cc + 0) (wn + 0 + 16 + s + 0) := liW c1 c2 hG (((hC.r8.t0 hnil).t2 hv1).p) hto ⟨(hj j hp).1, hf⟩ (show va_up (krz k) 8 (i3 r'.2.1) 8 = i3 r'.2.1 from up_eq) (by rw [show krc (kP (kT (kT (kR k r'.1 (i3 r'.2.1) r'.2.2) 0 t0.1 0 0) 2 t'.1 (i3 t'.2.1) t'.2.2) (-1) (krs k)) 8 = r'.1 from (up_eq : va_up (krc k) 8 r'.1 8 = r'.1)]; exact hA) n1 n0 (a := 3) (b := 16) (by omega) (by omega) (by omega) (by omega)
          have hr := hL'.room hq
          rw [hcl, Option.bind_some, if_neg (by omega)]
          dsimp only
          rw [if_pos rfl, if_neg (i3_idx hto (by omega)), if_neg g1, e2, Option.bind_some]
          dsimp only
          rw [if_neg (by omega), thr_e, Option.bind_some, if_neg (by omega), n2, if_pos rfl, if_pos rfl, hz, if_pos lgu, hi, xpk_i hto]
          exact ⟨_, _, _, _, _, _, _, rfl, hL'⟩
        · exact absurd hf hf'
      · rcases n1 with ⟨hf', _⟩ | ⟨_, n1, n2⟩
        · exact absurd hf' hf
        · have hL' : LI (kP (kT (kT (kR k r'.1 (i3 r'.2.1) r'.2.2) 0 t0.1 0 0) 2 t'.1 (i3 t'.2.1) t'.2.2) (-1) (krs k)) st' (q + 1) (wc + 0 + 3 + cc + 0) (wn + 0 + 16 + s + 0) := LI.mk c1 c2 hG (((hC.r8.t0 hnil).t2 hv1).p) n1 n0 (a := 3) (b := 16) (by omega) (by omega) (by omega) (by omega)
          have hr := hL'.room hq
          rw [hcl, Option.bind_some, if_neg (by omega)]
          dsimp only
          rw [if_neg (by decide), if_neg g1, e2, Option.bind_some]
          dsimp only
          rw [if_neg (by omega), thr_e, Option.bind_some, if_neg (by omega), n2, if_pos rfl, if_neg (by decide), hi]
          exact ⟨_, _, _, _, _, _, _, rfl, hL'⟩
  · obtain ⟨z, st', e2, n1, n2, n3⟩ := read_n (n := N) hT hv
    have hL' : LI (kP (kT (kT (kR k (krc k 8) (krz k 8) (kro k 8)) 0 t0.1 (i3 t0.2.1) t0.2.2) 2 t2.1 (i3 t2.2.1) t2.2.2) (kpl k) (krs k)) st' (q + 1) (wc + 0 + 3 + 0 + 0) (wn + 0 + 16 + 0 + 0) := LI.mk c1 c2 hG (((hC.r8.t0 b0).t2 b2).p) n1 (CostE.of_pt n3) (a := 3) (b := 16) (by omega) (by omega) (by omega) (by omega)
    have hr := hL'.room hq
    rw [a0.1, a0.2.1, a0.2.2, a2.1, a2.2.1, a2.2.2, l_read_n hv, Option.bind_some, if_neg (by omega)]
    dsimp only
    rw [if_neg (by decide), if_neg g1, e2, Option.bind_some]
    dsimp only
    rw [if_neg (by omega), thr_e, Option.bind_some, if_neg (by omega), n2, if_pos rfl, if_neg (by decide), hi]
    exact ⟨_, _, _, _, _, _, _, rfl, hL'⟩
theorem lawS (hP : Pos L q i) (hI : LI k st q wc wn) (hq : q + 1 ≤ 512) (hop : ∀ m : Int32, (m = 0 ∨ m = 1 ∨ m = 2 ∨ m = 3 ∨ m = 4 ∨ m = 5 ∨ m = 6 ∨ m = 7 ∨ m = 8 ∨ m = 9 ∨ m = 10 ∨ m = 11) → ¬ xs i.toNatClampNeg &&& 15 = m) : Nx xs L N n q (fLaw xs L N (n + 1) i k ov st wc wn tp mp) := by
  obtain ⟨hi, he, g0, g1, g2, g3, g4, g5⟩ := hP
  have hr0 := hI.room (by omega)
  rw [fLaw, if_neg (by omega), if_neg he, if_neg g0, if_neg (hop 0 (by decide)), if_neg (hop 1 (by decide)), if_neg (hop 2 (by decide)), if_neg (hop 3 (by decide)), if_neg (hop 4 (by decide)), if_neg (hop 5 (by decide)), if_neg (hop 6 (by decide)), if_neg (hop 7 (by decide)), if_neg (hop 8 (by decide)), if_neg (hop 9 (by decide)), if_neg (hop 10 (by decide)), if_neg (hop 11 (by decide)), hi]
  obtain ⟨R, tape, prn, hG, hC, hT, c1, c2⟩ := hI
  exact ⟨_, _, _, _, _, _, _, rfl, R, tape, prn, hG, hC, hT, by omega, by omega⟩
end LAWB
