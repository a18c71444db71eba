section LAWD
variable {xs : Nat → Int32} {L N n q : Nat} {k : xC} {ov : Nat → Int64} {st : xS} {wc wn tp mp : Nat} {i : Int32} {R : Nat → JT 101} {tape prn : List Nat} {x1 x2 x3 x4 x5 : Int32}
theorem law4 (hP : Pos L q i) (hN : 5000000000 < N) (hI : LI k st q wc wn) (hq : q + 1 ≤ 512) (hop : xs i.toNatClampNeg &&& 15 = 4) : Nx xs L N n q (fLaw xs L N (n + 1) i k ov st wc wn tp mp) := by
  obtain ⟨hi, he, g0, g1, g2, g3, g4, g5⟩ := hP
  have hr0 := hI.room (by omega)
  obtain ⟨R, tape, prn, hG, hC, hT, c1, c2⟩ := hI
  rw [fLaw, if_neg (by omega), if_neg he, if_neg g0, if_neg (show ¬ xs i.toNatClampNeg &&& 15 = 0 by rw [hop]; decide), if_neg (show ¬ xs i.toNatClampNeg &&& 15 = 1 by rw [hop]; decide), if_neg (show ¬ xs i.toNatClampNeg &&& 15 = 2 by rw [hop]; decide), if_neg (show ¬ xs i.toNatClampNeg &&& 15 = 3 by rw [hop]; decide), if_pos hop, if_neg g1, if_neg g2, if_neg g3, if_neg g4]
  generalize xs (i + 1).toNatClampNeg = x1
  generalize xs (i + 2).toNatClampNeg = x2
  generalize xs (i + 3).toNatClampNeg = x3
  generalize xs (i + 4).toNatClampNeg = x4
  by_cases hx : xpk x3 = xpk x4
  · obtain ⟨code, t', r8, rz, ro, z, cc, s, st', e1, e2, m1, hc, m3, m4⟩ := jo_binarya (tp := tp) (mp := mp) (x1 := x1) (x2 := x2) (x3 := x3) (x4 := x4) hN hG hC hT hx
    rw [if_pos hx, e1, Option.bind_some]
    dsimp only
    rcases m4 with ⟨rfl, to, v, j, rfl, hto, hj, rfl, hA, hT'⟩ | ⟨hc0, hT'⟩
    · have hL' : LI (kW (kP (kT (kR k r8 (i3 v) ro) 2 t'.1 (i3 t'.2.1) t'.2.2) (kpl k) z) to) st' (q + 1) (wc + 0 + 3 + cc + 0) (wn + 0 + 18 + s + 0) := liW c1 c2 hG ((hC.r8.t2 m1).p) hto hj (show va_up (krz k) 8 (i3 v) 8 = i3 v from up_eq) (by rw [show krc (kP (kT (kR k r8 (i3 v) ro) 2 t'.1 (i3 t'.2.1) t'.2.2) (kpl k) z) 8 = r8 from (up_eq : va_up (krc k) 8 r8 8 = r8)]; exact hA) hT' hc (a := 3) (b := 18) (by omega) (by omega) (by omega) (by omega)
      have hr := hL'.room hq
      rw [if_neg (by omega), if_pos rfl, if_neg (i3_idx hto (by omega)), if_neg g1, if_neg g2, if_neg g3, if_neg g4, e2, Option.bind_some]
      dsimp only
      rw [if_neg (by omega), thr_e, Option.bind_some, if_neg (by omega), m3, if_pos rfl, hi, xpk_i hto]
      exact ⟨_, _, _, _, _, _, _, rfl, hL'⟩
    · have hL' : LI (kP (kT (kR k r8 rz ro) 2 t'.1 (i3 t'.2.1) t'.2.2) (kpl k) z) st' (q + 1) (wc + 0 + 3 + cc + 0) (wn + 0 + 18 + s + 0) := LI.mk c1 c2 hG ((hC.r8.t2 m1).p) hT' hc (a := 3) (b := 18) (by omega) (by omega) (by omega) (by omega)
      have hr := hL'.room hq
      rw [if_neg (by omega), if_neg hc0, if_neg g1, if_neg g2, if_neg g3, if_neg g4, e2, Option.bind_some]
      dsimp only
      rw [if_neg (by omega), thr_e, Option.bind_some, if_neg (by omega), m3, if_pos rfl, hi]
      exact ⟨_, _, _, _, _, _, _, rfl, hL'⟩
  · obtain ⟨code, t', r8, rz, ro, z, cc, s, st', e1, e2, m1, hc, m3, m4⟩ := jo_binary (tp := tp) (mp := mp) (x1 := x1) (x2 := x2) (x3 := x3) (x4 := x4) hN hG hC hT
    rw [if_neg hx, e1, Option.bind_some]
    dsimp only
    rcases m4 with ⟨rfl, to, v, j, rfl, hto, hj, rfl, hA, hT'⟩ | ⟨hc0, hT'⟩
    · have hL' : LI (kW (kP (kT (kR k r8 (i3 v) ro) 2 t'.1 (i3 t'.2.1) t'.2.2) (kpl k) z) to) st' (q + 1) (wc + 0 + 3 + cc + 0) (wn + 0 + 18 + s + 0) := liW c1 c2 hG ((hC.r8.t2 m1).p) hto hj (show va_up (krz k) 8 (i3 v) 8 = i3 v from up_eq) (by rw [show krc (kP (kT (kR k r8 (i3 v) ro) 2 t'.1 (i3 t'.2.1) t'.2.2) (kpl k) z) 8 = r8 from (up_eq : va_up (krc k) 8 r8 8 = r8)]; exact hA) hT' hc (a := 3) (b := 18) (by omega) (by omega) (by omega) (by omega)
      have hr := hL'.room hq
      rw [if_neg (by omega), if_pos rfl, if_neg (i3_idx hto (by omega)), if_neg g1, if_neg g2, if_neg g3, if_neg g4, e2, Option.bind_some]
      dsimp only
      rw [if_neg (by omega), thr_e, Option.bind_some, if_neg (by omega), m3, if_pos rfl, hi, xpk_i hto]
      exact ⟨_, _, _, _, _, _, _, rfl, hL'⟩
    · have hL' : LI (kP (kT (kR k r8 rz ro) 2 t'.1 (i3 t'.2.1) t'.2.2) (kpl k) z) st' (q + 1) (wc + 0 + 3 + cc + 0) (wn + 0 + 18 + s + 0) := LI.mk c1 c2 hG ((hC.r8.t2 m1).p) hT' hc (a := 3) (b := 18) (by omega) (by omega) (by omega) (by omega)
      have hr := hL'.room hq
      rw [if_neg (by omega), if_neg hc0, if_neg g1, if_neg g2, if_neg g3, if_neg g4, e2, Option.bind_some]
      dsimp only
      rw [if_neg (by omega), thr_e, Option.bind_some, if_neg (by omega), m3, if_pos rfl, hi]
      exact ⟨_, _, _, _, _, _, _, rfl, hL'⟩
theorem law7 (hP : Pos L q i) (hN : 5000000000 < N) (hI : LI k st q wc wn) (hq : q + 1 ≤ 512) (hop : xs i.toNatClampNeg &&& 15 = 7) : Nx xs L N n q (fLaw xs L N (n + 1) i k ov st wc wn tp mp) := by
  obtain ⟨hi, he, g0, g1, g2, g3, g4, g5⟩ := hP
  have hr0 := hI.room (by omega)
  obtain ⟨R, tape, prn, hG, hC, hT, c1, c2⟩ := hI
  rw [fLaw, if_neg (by omega), if_neg he, if_neg g0, if_neg (show ¬ xs i.toNatClampNeg &&& 15 = 0 by rw [hop]; decide), if_neg (show ¬ xs i.toNatClampNeg &&& 15 = 1 by rw [hop]; decide), if_neg (show ¬ xs i.toNatClampNeg &&& 15 = 2 by rw [hop]; decide), if_neg (show ¬ xs i.toNatClampNeg &&& 15 = 3 by rw [hop]; decide), if_neg (show ¬ xs i.toNatClampNeg &&& 15 = 4 by rw [hop]; decide), if_neg (show ¬ xs i.toNatClampNeg &&& 15 = 5 by rw [hop]; decide), if_neg (show ¬ xs i.toNatClampNeg &&& 15 = 6 by rw [hop]; decide), if_pos hop, if_neg g1, if_neg g2, if_neg g3]
  generalize xs (i + 1).toNatClampNeg = x1
  generalize xs (i + 2).toNatClampNeg = x2
  generalize xs (i + 3).toNatClampNeg = x3
  obtain ⟨code, t', s1, s2, b1, s3, b2, s4, r8, rz, ro, z, cc, s, st', e1, e2, m1, hc, m3, m4⟩ := jo_one (tp := tp) (mp := mp) (x1 := x1) (x2 := x2) (x3 := x3) hN hG hC hT
  rw [e1, Option.bind_some]
  dsimp only
  rcases m4 with ⟨rfl, to, v, j, rfl, hto, hj, rfl, hA, hT'⟩ | ⟨hc0, hT'⟩
  · have hL' : LI (kW (kP (kT (kR k r8 (i3 v) ro) 2 t'.1 (i3 t'.2.1) t'.2.2) (kpl k) z) to) st' (q + 1) (wc + 0 + 4 + cc + 0) (wn + 0 + 22 + s + 0) := liW c1 c2 hG ((hC.r8.t2 m1).p) hto hj (show va_up (krz k) 8 (i3 v) 8 = i3 v from up_eq) (by rw [show krc (kP (kT (kR k r8 (i3 v) ro) 2 t'.1 (i3 t'.2.1) t'.2.2) (kpl k) z) 8 = r8 from (up_eq : va_up (krc k) 8 r8 8 = r8)]; exact hA) hT' hc (a := 4) (b := 22) (by omega) (by omega) (by omega) (by omega)
    have hr := hL'.room hq
    rw [if_neg (by omega), if_pos rfl, if_neg (i3_idx hto (by omega)), if_neg g1, if_neg g2, if_neg g3, e2, Option.bind_some]
    dsimp only
    rw [if_neg (by omega), thr_e, Option.bind_some, if_neg (by omega), m3, if_pos rfl, hi, xpk_i hto]
    exact ⟨_, _, _, _, _, _, _, rfl, hL'⟩
  · have hL' : LI (kP (kT (kR k r8 rz ro) 2 t'.1 (i3 t'.2.1) t'.2.2) (kpl k) z) st' (q + 1) (wc + 0 + 4 + cc + 0) (wn + 0 + 22 + s + 0) := LI.mk c1 c2 hG ((hC.r8.t2 m1).p) hT' hc (a := 4) (b := 22) (by omega) (by omega) (by omega) (by omega)
    have hr := hL'.room hq
    rw [if_neg (by omega), if_neg hc0, if_neg g1, if_neg g2, if_neg g3, e2, Option.bind_some]
    dsimp only
    rw [if_neg (by omega), thr_e, Option.bind_some, if_neg (by omega), m3, if_pos rfl, hi]
    exact ⟨_, _, _, _, _, _, _, rfl, hL'⟩
theorem law8 (hP : Pos L q i) (hN : 5000000000 < N) (hI : LI k st q wc wn) (hq : q + 1 ≤ 512) (hop : xs i.toNatClampNeg &&& 15 = 8) : Nx xs L N n q (fLaw xs L N (n + 1) i k ov st wc wn tp mp) := by
  obtain ⟨hi, he, g0, g1, g2, g3, g4, g5⟩ := hP
  have hr0 := hI.room (by omega)
  obtain ⟨R, tape, prn, hG, hC, hT, c1, c2⟩ := hI
  rw [fLaw, if_neg (by omega), if_neg he, if_neg g0, if_neg (show ¬ xs i.toNatClampNeg &&& 15 = 0 by rw [hop]; decide), if_neg (show ¬ xs i.toNatClampNeg &&& 15 = 1 by rw [hop]; decide), if_neg (show ¬ xs i.toNatClampNeg &&& 15 = 2 by rw [hop]; decide), if_neg (show ¬ xs i.toNatClampNeg &&& 15 = 3 by rw [hop]; decide), if_neg (show ¬ xs i.toNatClampNeg &&& 15 = 4 by rw [hop]; decide), if_neg (show ¬ xs i.toNatClampNeg &&& 15 = 5 by rw [hop]; decide), if_neg (show ¬ xs i.toNatClampNeg &&& 15 = 6 by rw [hop]; decide), if_neg (show ¬ xs i.toNatClampNeg &&& 15 = 7 by rw [hop]; decide), if_pos hop, if_neg g1, if_neg g2, if_neg g3, if_neg g4]
  generalize xs (i + 1).toNatClampNeg = x1
  generalize xs (i + 2).toNatClampNeg = x2
  generalize xs (i + 3).toNatClampNeg = x3
  generalize xs (i + 4).toNatClampNeg = x4
  by_cases hx : xpk x3 = xpk x4
  · obtain ⟨code, t', r8, rz, ro, z, cc, s, st', e1, e2, m1, hc, m3, m4⟩ := jo_twoa (tp := tp) (mp := mp) (x1 := x1) (x2 := x2) (x3 := x3) (x4 := x4) hN hG hC hT hx
    rw [if_pos hx, e1, Option.bind_some]
    dsimp only
    rcases m4 with ⟨rfl, to, v, j, rfl, hto, hj, rfl, hA, hT'⟩ | ⟨hc0, hT'⟩
    · have hL' : LI (kW (kP (kT (kR k r8 (i3 v) ro) 2 t'.1 (i3 t'.2.1) t'.2.2) (kpl k) z) to) st' (q + 1) (wc + 0 + 3 + cc + 0) (wn + 0 + 18 + s + 0) := liW c1 c2 hG ((hC.r8.t2 m1).p) hto hj (show va_up (krz k) 8 (i3 v) 8 = i3 v from up_eq) (by rw [show krc (kP (kT (kR k r8 (i3 v) ro) 2 t'.1 (i3 t'.2.1) t'.2.2) (kpl k) z) 8 = r8 from (up_eq : va_up (krc k) 8 r8 8 = r8)]; exact hA) hT' hc (a := 3) (b := 18) (by omega) (by omega) (by omega) (by omega)
      have hr := hL'.room hq
      rw [if_neg (by omega), if_pos rfl, if_neg (i3_idx hto (by omega)), if_neg g1, if_neg g2, if_neg g3, if_neg g4, e2, Option.bind_some]
      dsimp only
      rw [if_neg (by omega), thr_e, Option.bind_some, if_neg (by omega), m3, if_pos rfl, hi, xpk_i hto]
      exact ⟨_, _, _, _, _, _, _, rfl, hL'⟩
    · have hL' : LI (kP (kT (kR k r8 rz ro) 2 t'.1 (i3 t'.2.1) t'.2.2) (kpl k) z) st' (q + 1) (wc + 0 + 3 + cc + 0) (wn + 0 + 18 + s + 0) := LI.mk c1 c2 hG ((hC.r8.t2 m1).p) hT' hc (a := 3) (b := 18) (by omega) (by omega) (by omega) (by omega)
      have hr := hL'.room hq
      rw [if_neg (by omega), if_neg hc0, if_neg g1, if_neg g2, if_neg g3, if_neg g4, e2, Option.bind_some]
      dsimp only
      rw [if_neg (by omega), thr_e, Option.bind_some, if_neg (by omega), m3, if_pos rfl, hi]
      exact ⟨_, _, _, _, _, _, _, rfl, hL'⟩
  · obtain ⟨code, t', r8, rz, ro, z, cc, s, st', e1, e2, m1, hc, m3, m4⟩ := jo_two (tp := tp) (mp := mp) (x1 := x1) (x2 := x2) (x3 := x3) (x4 := x4) hN hG hC hT
    rw [if_neg hx, e1, Option.bind_some]
    dsimp only
    rcases m4 with ⟨rfl, to, v, j, rfl, hto, hj, rfl, hA, hT'⟩ | ⟨hc0, hT'⟩
    · have hL' : LI (kW (kP (kT (kR k r8 (i3 v) ro) 2 t'.1 (i3 t'.2.1) t'.2.2) (kpl k) z) to) st' (q + 1) (wc + 0 + 3 + cc + 0) (wn + 0 + 18 + s + 0) := liW c1 c2 hG ((hC.r8.t2 m1).p) hto hj (show va_up (krz k) 8 (i3 v) 8 = i3 v from up_eq) (by rw [show krc (kP (kT (kR k r8 (i3 v) ro) 2 t'.1 (i3 t'.2.1) t'.2.2) (kpl k) z) 8 = r8 from (up_eq : va_up (krc k) 8 r8 8 = r8)]; exact hA) hT' hc (a := 3) (b := 18) (by omega) (by omega) (by omega) (by omega)
      have hr := hL'.room hq
      rw [if_neg (by omega), if_pos rfl, if_neg (i3_idx hto (by omega)), if_neg g1, if_neg g2, if_neg g3, if_neg g4, e2, Option.bind_some]
      dsimp only
      rw [if_neg (by omega), thr_e, Option.bind_some, if_neg (by omega), m3, if_pos rfl, hi, xpk_i hto]
      exact ⟨_, _, _, _, _, _, _, rfl, hL'⟩
    · have hL' : LI (kP (kT (kR k r8 rz ro) 2 t'.1 (i3 t'.2.1) t'.2.2) (kpl k) z) st' (q + 1) (wc + 0 + 3 + cc + 0) (wn + 0 + 18 + s + 0) := LI.mk c1 c2 hG ((hC.r8.t2 m1).p) hT' hc (a := 3) (b := 18) (by omega) (by omega) (by omega) (by omega)
      have hr := hL'.room hq
      rw [if_neg (by omega), if_neg hc0, if_neg g1, if_neg g2, if_neg g3, if_neg g4, e2, Option.bind_some]
      dsimp only
      rw [if_neg (by omega), thr_e, Option.bind_some, if_neg (by omega), m3, if_pos rfl, hi]
      exact ⟨_, _, _, _, _, _, _, rfl, hL'⟩
theorem law9 (hP : Pos L q i) (hN : 5000000000 < N) (hI : LI k st q wc wn) (hq : q + 1 ≤ 512) (hop : xs i.toNatClampNeg &&& 15 = 9) : Nx xs L N n q (fLaw xs L N (n + 1) i k ov st wc wn tp mp) := by
  obtain ⟨hi, he, g0, g1, g2, g3, g4, g5⟩ := hP
  have hr0 := hI.room (by omega)
  obtain ⟨R, tape, prn, hG, hC, hT, c1, c2⟩ := hI
  rw [fLaw, if_neg (by omega), if_neg he, if_neg g0, if_neg (show ¬ xs i.toNatClampNeg &&& 15 = 0 by rw [hop]; decide), if_neg (show ¬ xs i.toNatClampNeg &&& 15 = 1 by rw [hop]; decide), if_neg (show ¬ xs i.toNatClampNeg &&& 15 = 2 by rw [hop]; decide), if_neg (show ¬ xs i.toNatClampNeg &&& 15 = 3 by rw [hop]; decide), if_neg (show ¬ xs i.toNatClampNeg &&& 15 = 4 by rw [hop]; decide), if_neg (show ¬ xs i.toNatClampNeg &&& 15 = 5 by rw [hop]; decide), if_neg (show ¬ xs i.toNatClampNeg &&& 15 = 6 by rw [hop]; decide), if_neg (show ¬ xs i.toNatClampNeg &&& 15 = 7 by rw [hop]; decide), if_neg (show ¬ xs i.toNatClampNeg &&& 15 = 8 by rw [hop]; decide), if_pos hop, if_neg g1, if_neg g2, if_neg g3, if_neg g4]
  generalize xs (i + 1).toNatClampNeg = x1
  generalize xs (i + 2).toNatClampNeg = x2
  generalize xs (i + 3).toNatClampNeg = x3
  generalize xs (i + 4).toNatClampNeg = x4
  by_cases hx : xpk x3 = xpk x4
  · obtain ⟨code, t', s1, s2, s3, b1, s4, b2, s5, r8, rz, ro, z, cc, s, st', e1, e2, m1, hc, m3, m4⟩ := jo_sorta (tp := tp) (mp := mp) (x1 := x1) (x2 := x2) (x3 := x3) (x4 := x4) hN hG hC hT hx
    rw [if_pos hx, e1, Option.bind_some]
    dsimp only
    rcases m4 with ⟨rfl, to, v, j, rfl, hto, hj, rfl, hA, hT'⟩ | ⟨hc0, hT'⟩
    · have hL' : LI (kW (kP (kT (kR k r8 (i3 v) ro) 2 t'.1 (i3 t'.2.1) t'.2.2) (kpl k) z) to) st' (q + 1) (wc + 0 + 3 + cc + 0) (wn + 0 + 18 + s + 0) := liW c1 c2 hG ((hC.r8.t2 m1).p) hto hj (show va_up (krz k) 8 (i3 v) 8 = i3 v from up_eq) (by rw [show krc (kP (kT (kR k r8 (i3 v) ro) 2 t'.1 (i3 t'.2.1) t'.2.2) (kpl k) z) 8 = r8 from (up_eq : va_up (krc k) 8 r8 8 = r8)]; exact hA) hT' hc (a := 3) (b := 18) (by omega) (by omega) (by omega) (by omega)
      have hr := hL'.room hq
      rw [if_neg (by omega), if_pos rfl, if_neg (i3_idx hto (by omega)), if_neg g1, if_neg g2, if_neg g3, if_neg g4, e2, Option.bind_some]
      dsimp only
      rw [if_neg (by omega), thr_e, Option.bind_some, if_neg (by omega), m3, if_pos rfl, hi, xpk_i hto]
      exact ⟨_, _, _, _, _, _, _, rfl, hL'⟩
    · have hL' : LI (kP (kT (kR k r8 rz ro) 2 t'.1 (i3 t'.2.1) t'.2.2) (kpl k) z) st' (q + 1) (wc + 0 + 3 + cc + 0) (wn + 0 + 18 + s + 0) := LI.mk c1 c2 hG ((hC.r8.t2 m1).p) hT' hc (a := 3) (b := 18) (by omega) (by omega) (by omega) (by omega)
      have hr := hL'.room hq
      rw [if_neg (by omega), if_neg hc0, if_neg g1, if_neg g2, if_neg g3, if_neg g4, e2, Option.bind_some]
      dsimp only
      rw [if_neg (by omega), thr_e, Option.bind_some, if_neg (by omega), m3, if_pos rfl, hi]
      exact ⟨_, _, _, _, _, _, _, rfl, hL'⟩
  · obtain ⟨code, t', s1, s2, s3, b1, s4, b2, s5, r8, rz, ro, z, cc, s, st', e1, e2, m1, hc, m3, m4⟩ := jo_sort (tp := tp) (mp := mp) (x1 := x1) (x2 := x2) (x3 := x3) (x4 := x4) hN hG hC hT
    rw [if_neg hx, e1, Option.bind_some]
    dsimp only
    rcases m4 with ⟨rfl, to, v, j, rfl, hto, hj, rfl, hA, hT'⟩ | ⟨hc0, hT'⟩
    · have hL' : LI (kW (kP (kT (kR k r8 (i3 v) ro) 2 t'.1 (i3 t'.2.1) t'.2.2) (kpl k) z) to) st' (q + 1) (wc + 0 + 3 + cc + 0) (wn + 0 + 18 + s + 0) := liW c1 c2 hG ((hC.r8.t2 m1).p) hto hj (show va_up (krz k) 8 (i3 v) 8 = i3 v from up_eq) (by rw [show krc (kP (kT (kR k r8 (i3 v) ro) 2 t'.1 (i3 t'.2.1) t'.2.2) (kpl k) z) 8 = r8 from (up_eq : va_up (krc k) 8 r8 8 = r8)]; exact hA) hT' hc (a := 3) (b := 18) (by omega) (by omega) (by omega) (by omega)
      have hr := hL'.room hq
      rw [if_neg (by omega), if_pos rfl, if_neg (i3_idx hto (by omega)), if_neg g1, if_neg g2, if_neg g3, if_neg g4, e2, Option.bind_some]
      dsimp only
      rw [if_neg (by omega), thr_e, Option.bind_some, if_neg (by omega), m3, if_pos rfl, hi, xpk_i hto]
      exact ⟨_, _, _, _, _, _, _, rfl, hL'⟩
    · have hL' : LI (kP (kT (kR k r8 rz ro) 2 t'.1 (i3 t'.2.1) t'.2.2) (kpl k) z) st' (q + 1) (wc + 0 + 3 + cc + 0) (wn + 0 + 18 + s + 0) := LI.mk c1 c2 hG ((hC.r8.t2 m1).p) hT' hc (a := 3) (b := 18) (by omega) (by omega) (by omega) (by omega)
      have hr := hL'.room hq
      rw [if_neg (by omega), if_neg hc0, if_neg g1, if_neg g2, if_neg g3, if_neg g4, e2, Option.bind_some]
      dsimp only
      rw [if_neg (by omega), thr_e, Option.bind_some, if_neg (by omega), m3, if_pos rfl, hi]
      exact ⟨_, _, _, _, _, _, _, rfl, hL'⟩
theorem law_step (hP : Pos L q i) (hN : 5000000000 < N) (hI : LI k st q wc wn) (hq : q + 1 ≤ 512) : Nx xs L N n q (fLaw xs L N (n + 1) i k ov st wc wn tp mp) := by
  by_cases h0 : xs i.toNatClampNeg &&& 15 = 0
  · exact law0 hP hN hI hq h0
  by_cases h1 : xs i.toNatClampNeg &&& 15 = 1
  · exact law1 hP hN hI hq h1
  by_cases h2 : xs i.toNatClampNeg &&& 15 = 2
  · exact law2 hP hN hI hq h2
  by_cases h3 : xs i.toNatClampNeg &&& 15 = 3
  · exact law3 hP hN hI hq h3
  by_cases h4 : xs i.toNatClampNeg &&& 15 = 4
  · exact law4 hP hN hI hq h4
  by_cases h5 : xs i.toNatClampNeg &&& 15 = 5
  · exact law5 hP hN hI hq h5
  by_cases h6 : xs i.toNatClampNeg &&& 15 = 6
  · exact law6 hP hN hI hq h6
  by_cases h7 : xs i.toNatClampNeg &&& 15 = 7
  · exact law7 hP hN hI hq h7
  by_cases h8 : xs i.toNatClampNeg &&& 15 = 8
  · exact law8 hP hN hI hq h8
  by_cases h9 : xs i.toNatClampNeg &&& 15 = 9
  · exact law9 hP hN hI hq h9
  by_cases h10 : xs i.toNatClampNeg &&& 15 = 10
  · exact law10 hP hN hI hq h10
  by_cases h11 : xs i.toNatClampNeg &&& 15 = 11
  · exact law11 hP hN hI hq h11
  refine lawS hP hI hq (fun m hm => ?_)
  rcases hm with rfl | rfl | rfl | rfl | rfl | rfl | rfl | rfl | rfl | rfl | rfl | rfl <;> assumption
theorem pos_of (hL : L ≤ 3072) (h : 6 * q + 6 ≤ L) : Pos L q (i3 (6 * q)) := by
  have ha : ∀ m : Nat, m ≤ 5 → ¬ (i3 (6 * q + m) < 0 ∨ L ≤ (i3 (6 * q + m)).toNatClampNeg) := fun m hm => i3_idx (by omega) (by omega)
  refine ⟨i3_add _ 6, ?_, ha 0 (by omega), ?_, ?_, ?_, ?_, ?_⟩
  · have e : Int32.ofNat L - 6 = i3 (L - 6) := by
      have h1 : Int32.ofNat L = i3 (L - 6) + i3 6 := by
        rw [i3_add, Nat.sub_add_cancel (by omega)]
        rfl
      rw [h1]
      exact Int32.add_sub_cancel _ _
    rw [e, i3_lt (by omega) (by omega)]
    omega
  · rw [show i3 (6 * q) + 1 = i3 (6 * q + 1) from i3_add _ 1]; exact ha 1 (by omega)
  · rw [show i3 (6 * q) + 2 = i3 (6 * q + 2) from i3_add _ 2]; exact ha 2 (by omega)
  · rw [show i3 (6 * q) + 3 = i3 (6 * q + 3) from i3_add _ 3]; exact ha 3 (by omega)
  · rw [show i3 (6 * q) + 4 = i3 (6 * q + 4) from i3_add _ 4]; exact ha 4 (by omega)
  · rw [show i3 (6 * q) + 5 = i3 (6 * q + 5) from i3_add _ 5]; exact ha 5 (by omega)
theorem pos_end (hL : L ≤ 3072) (h : L < 6 * q + 6) (hq : q ≤ 512) : Int32.ofNat L - 6 < i3 (6 * q) := by
  have e : Int32.ofNat L - 6 = iz ((L : Int) - 6) := by
    show Int32.ofNat L - Int32.ofInt 6 = Int32.ofInt ((L : Int) - 6)
    rw [Int32.ofInt_sub]
    rfl
  rw [e, i3_iz, iz_lt (by omega) (by omega) (by omega) (by omega)]
  omega
theorem law_loop (hN : 5000000000 < N) (hL : L ≤ 3072) : ∀ (m q : Nat) (k : xC) (ov : Nat → Int64) (st : xS) (wc wn tp mp : Nat), 6 * (q + m) ≤ L → L < 6 * (q + m) + 6 → LI k st q wc wn → fLaw xs L N (m + 1) (i3 (6 * q)) k ov st wc wn tp mp = some 1 := by
  intro m
  induction m with
  | zero =>
    intro q k ov st wc wn tp mp h1 h2 hI
    have hr := hI.room (by omega)
    rw [fLaw, if_neg (by omega), if_pos (pos_end hL (by omega) (by omega))]
  | succ m ih =>
    intro q k ov st wc wn tp mp h1 h2 hI
    obtain ⟨k', ov', st', wc', wn', tp', mp', e, hI'⟩ := law_step (xs := xs) (n := m + 1) (ov := ov) (tp := tp) (mp := mp) (pos_of hL (by omega)) hN hI (by omega)
    rw [e]
    exact ih (q + 1) k' ov' st' wc' wn' tp' mp' (by omega) (by omega) hI'
theorem LI_0 : LI xk0 xst0 0 54 107242 := by
  have hn : jt 101 (jk 0 : JT 101) = [110, 117, 108, 108] := rfl
  have hseg : ∀ f : Nat → Int32, f 0 = 110 → f 1 = 117 → f 2 = 108 → f 3 = 108 → seg f 0 ((jt 101 (jk 0 : JT 101)).map sb) := by
    intro f h0 h1 h2 h3
    exact seg_cons.mpr ⟨h0, seg_cons.mpr ⟨h1, seg_cons.mpr ⟨h2, seg_cons.mpr ⟨h3, seg_nil⟩⟩⟩⟩
  have hT0 : TP ((fun _ => 0 : Nat → Int32), 0, 0) [] := ⟨⟨fun c hc => absurd hc (by simp), seg_nil, rfl, by simp⟩, rfl⟩
  refine ⟨fun _ => jk 0, [], [], fun x _ => ⟨show (0 : Nat) < 3 by decide, show (0 : Nat) ≤ 60 by decide, by rw [hn]; decide⟩, ⟨⟨_, ⟨rfl, rfl, rfl⟩, hT0⟩, ⟨_, ⟨rfl, rfl, rfl⟩, hT0⟩, ⟨_, ⟨rfl, rfl, rfl⟩, hT0.rv⟩, fun x _ => ⟨1, rfl, seg_cons.mpr ⟨rfl, seg_nil⟩, by show 0 + 1 ≤ 1; omega, by omega⟩⟩, ⟨⟨[], [], [], [], ?_⟩, ?_, ?_, ⟨rfl, rfl, Nat.zero_le _, fun c hc => absurd hc (by simp), seg_nil⟩, ⟨rfl, rfl, Nat.zero_le _, seg_nil⟩, rfl, rfl⟩, by omega, by omega⟩
  · refine ⟨⟨⟨rfl, rfl, rfl, rfl⟩, fun i v h => by simp at h, fun i v h => by simp at h, fun i v h => by simp at h, fun i v h => by simp at h⟩, fun i => ?_, ⟨?_, ?_, ?_, ?_⟩, ⟨?_, ?_, ?_⟩, ⟨?_, rfl, ?_, ?_⟩, ⟨?_, rfl, ?_, ?_⟩, fun i => ⟨Nat.le_refl 0, Nat.le_refl 0, Nat.le_refl 0, Nat.le_refl 0, Nat.le_refl 0⟩, ?_⟩
    · exact (if_neg (Nat.not_lt_zero i)).symm
    all_goals decide
  · refine ⟨?_, ?_, ?_, rfl, ?_⟩ <;> decide
  · intro x hx
    obtain rfl | rfl | rfl | rfl | rfl | rfl | rfl | rfl : x = 0 ∨ x = 1 ∨ x = 2 ∨ x = 3 ∨ x = 4 ∨ x = 5 ∨ x = 6 ∨ x = 7 := by omega
    all_goals exact ⟨by decide, rfl, rfl, rfl, rfl, show (jt 101 (jk 0 : JT 101)).length ≤ 4096 by rw [hn]; decide, hseg _ rfl rfl rfl rfl⟩
theorem x_pure : xPure := by
  intro xs L tp mp hL
  refine ⟨5000000001, L / 6 + 1, ?_⟩
  exact law_loop (by omega) hL (L / 6) 0 xk0 _ xst0 54 107242 tp mp (by omega) (by omega) LI_0
end LAWD
