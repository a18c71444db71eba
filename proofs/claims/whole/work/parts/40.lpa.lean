section LAWA
variable {xs : Nat → Int32} {L N n q : Nat} {k : xC} {ov : Nat → Int64} {st : xS} {wc wn tp mp : Nat} {i : Int32} {R : Nat → JT 101} {tape prn : List Nat} {x1 x2 x3 x4 x5 : Int32}
def Pos (L q : Nat) (i : Int32) : Prop := i + 6 = i3 (6 * q + 6) ∧ ¬ (Int32.ofNat L - 6 < i) ∧ ¬ (i < 0 ∨ L ≤ i.toNatClampNeg) ∧ ¬ (i + 1 < 0 ∨ L ≤ (i + 1).toNatClampNeg) ∧ ¬ (i + 2 < 0 ∨ L ≤ (i + 2).toNatClampNeg) ∧ ¬ (i + 3 < 0 ∨ L ≤ (i + 3).toNatClampNeg) ∧ ¬ (i + 4 < 0 ∨ L ≤ (i + 4).toNatClampNeg) ∧ ¬ (i + 5 < 0 ∨ L ≤ (i + 5).toNatClampNeg)
def Nx (xs : Nat → Int32) (L N n q : Nat) (X : Option Int32) : Prop := ∃ (k' : xC) (ov' : Nat → Int64) (st' : xS) (wc' wn' tp' mp' : Nat), X = fLaw xs L N n (i3 (6 * q + 6)) k' ov' st' wc' wn' tp' mp' ∧ LI k' st' (q + 1) wc' wn'
theorem thr_e {st : xS} : fM_thrown N st = some (xsi st 0) := rfl
theorem lgu {z : Int64} : lg_cmp (vp_updL ov 0 z 0) z = 0 := by
  rw [lg_zero]
  exact if_pos rfl
theorem isM2 {m : Nat} {x : Int32} (hm : m < 10000) (h : ¬ x < 0 ∧ ¬ i3 m < x) : ∃ k, k ≤ m ∧ x = i3 k := by
  obtain ⟨h1, h2⟩ := h
  have hx := x_iz x
  have l1 : -2147483648 ≤ x.toInt := Int32.le_toInt x
  have l2 : x.toInt < 2147483648 := Int32.toInt_lt x
  have a1 : 0 ≤ x.toInt := by
    rw [hx, show (0 : Int32) = iz 0 from rfl, iz_lt (by omega) (by omega) (by omega) (by omega)] at h1
    omega
  have a2 : x.toInt ≤ m := by
    rw [hx, i3_iz, iz_lt (by omega) (by omega) (by omega) (by omega)] at h2
    omega
  refine ⟨x.toInt.toNat, by omega, ?_⟩
  rw [i3_iz, show ((x.toInt.toNat : Nat) : Int) = x.toInt by omega]
  exact hx
theorem isL2 {m : Nat} {x : Int32} (hm : m < 10000) (h : ¬ x < 0 ∧ x < i3 m) : ∃ k, k < m ∧ x = i3 k := by
  obtain ⟨h1, h2⟩ := h
  have hx := x_iz x
  have l1 : -2147483648 ≤ x.toInt := Int32.le_toInt x
  have l2 : x.toInt < 2147483648 := Int32.toInt_lt x
  have a1 : 0 ≤ x.toInt := by
    rw [hx, show (0 : Int32) = iz 0 from rfl, iz_lt (by omega) (by omega) (by omega) (by omega)] at h1
    omega
  have a2 : x.toInt < m := by
    rw [hx, i3_iz, iz_lt (by omega) (by omega) (by omega) (by omega)] at h2
    exact h2
  refine ⟨x.toInt.toNat, by omega, ?_⟩
  rw [i3_iz, show ((x.toInt.toNat : Nat) : Int) = x.toInt by omega]
  exact hx
theorem liW {k' : xC} {st' : xS} {a b cc s wc' wn' to v : Nat} {j : JT 101} (h2 : 6 * wc ≤ wn + 2 * q) (h3 : wn ≤ 107242 + 40 * q + pt st) (hG : ∀ x, x < 8 → Gd (R x)) (hC : CI k' R tape prn) (hto : to < 8) (hj : Gd j) (hz : krz k' 8 = i3 v) (hA : At (krc k' 8) v 0 (jc 101 j)) (hT : RefT st' (fun y => if y = to then jt 101 j else (fun x => jt 101 (R x)) y) tape prn (kpl k') (krs k')) (hc : CostE st st' cc s 3) (ha : 6 * a ≤ b + 2) (hb : b ≤ 22) (e1 : wc' = wc + a + cc) (e2 : wn' = wn + b + s) : LI (kW k' to) st' (q + 1) wc' wn' := by
  have hTe : (fun y => if y = to then jt 101 j else (fun x => jt 101 (R x)) y) = (fun x => jt 101 ((fun y => if y = to then j else R y) x)) := by
    funext y
    show (if y = to then jt 101 j else jt 101 (R y)) = jt 101 (if y = to then j else R y)
    by_cases e : y = to
    · rw [if_pos e, if_pos e]
    · rw [if_neg e, if_neg e]
  rw [hTe] at hT
  refine LI.mk h2 h3 (R' := fun y => if y = to then j else R y) (fun x hx => ?_) (hC.w hto hz hA) hT hc ha hb e1 e2
  by_cases e : x = to
  · rw [if_pos e]; exact hj
  · rw [if_neg e]; exact hG x hx
theorem law0 (hP : Pos L q i) (hN : 5000000000 < N) (hI : LI k st q wc wn) (hq : q + 1 ≤ 512) (hop : xs i.toNatClampNeg &&& 15 = 0) : Nx xs L N n q (fLaw xs L N (n + 1) i k ov st wc wn tp mp) := by
  obtain ⟨hi, he, g0, g1, g2, g3, g4, g5⟩ := hP
  have hr0 := hI.room (by omega)
  obtain ⟨R, tape, prn, hG, hC, hT, c1, c2⟩ := hI
  rw [fLaw, if_neg (by omega), if_neg he, if_neg g0, if_pos hop, if_neg g1, if_neg g2, if_neg g3, if_neg g4, if_neg g5]
  generalize xs (i + 1).toNatClampNeg = x1
  generalize xs (i + 2).toNatClampNeg = x2
  generalize xs (i + 3).toNatClampNeg = x3
  generalize xs (i + 4).toNatClampNeg = x4
  generalize xs (i + 5).toNatClampNeg = x5
  obtain ⟨t0, a0, b0⟩ := hC.1
  obtain ⟨t', e1, m1⟩ : ∃ t' : TS, fL_feed N x1 x2 x3 x4 x5 (ktb k 0) (ktl k 0) (kto k 0) (ktb k 1) (ktl k 1) (kto k 1) (ktb k 2) (ktl k 2) (kto k 2) (ksa k 0) (ksa k 1) tp (ksa k 2) mp (ksa k 3) (ktt k) (krc k 8) (krz k 8) (kro k 8) (kpl k) (krs k) ov = some (if tape.length + 20 ≤ 4096 then (0, t'.1, i3 t'.2.1, t'.2.2, vp_updL ov 0 (i3 (tape.length + 20)).toInt64) else (1, t0.1, i3 t0.2.1, t0.2.2, ov)) ∧ (tape.length + 20 ≤ 4096 → TP t' (tape ++ (by4 x1 ++ by4 x2 ++ by4 x3 ++ by4 x4 ++ by4 x5))) := by
    rw [a0.1, a0.2.1, a0.2.2]
    exact l_feed_w (by omega) b0 x1 x2 x3 x4 x5
  by_cases hl : tape.length + 20 ≤ 4096
  · rw [if_pos hl] at e1
    obtain ⟨st', e2, n1, n2, n3⟩ := feed_v (n := N) (by omega) hT x1 x2 x3 x4 x5 hl
    have hL' : LI (kT k 0 t'.1 (i3 t'.2.1) t'.2.2) st' (q + 1) (wc + 0 + 1 + 0 + 0) (wn + 0 + 6 + 0 + 0) := LI.mk c1 c2 hG (hC.t0 (m1 hl)) n1 (CostE.of_pt n3) (a := 1) (b := 6) (by omega) (by omega) (by omega) (by omega)
    have hr := hL'.room hq
    rw [e1, Option.bind_some, if_neg (by omega), if_neg g1, if_neg g2, if_neg g3, if_neg g4, if_neg g5, e2, Option.bind_some, if_neg (by omega), thr_e, Option.bind_some, if_neg (by omega), n2]
    dsimp only
    rw [if_pos rfl, if_pos rfl, if_pos lgu, hi]
    exact ⟨_, _, _, _, _, _, _, rfl, hL'⟩
  · rw [if_neg hl] at e1
    obtain ⟨st', e2, n1, n2, n3⟩ := feed_n (n := N) hT x1 x2 x3 x4 x5 hl
    have hL' : LI (kT k 0 t0.1 (i3 t0.2.1) t0.2.2) st' (q + 1) (wc + 0 + 1 + 0 + 0) (wn + 0 + 6 + 0 + 0) := LI.mk c1 c2 hG (hC.t0 b0) n1 (CostE.of_pt n3) (a := 1) (b := 6) (by omega) (by omega) (by omega) (by omega)
    have hr := hL'.room hq
    rw [e1, Option.bind_some, if_neg (by omega), if_neg g1, if_neg g2, if_neg g3, if_neg g4, if_neg g5, e2, Option.bind_some, if_neg (by omega), thr_e, Option.bind_some, if_neg (by omega), n2]
    dsimp only
    rw [if_pos rfl, if_neg (by decide), hi]
    exact ⟨_, _, _, _, _, _, _, rfl, hL'⟩
theorem law1 (hP : Pos L q i) (hN : 5000000000 < N) (hI : LI k st q wc wn) (hq : q + 1 ≤ 512) (hop : xs i.toNatClampNeg &&& 15 = 1) : Nx xs L N n q (fLaw xs L N (n + 1) i k ov st wc wn tp mp) := by
  obtain ⟨hi, he, g0, g1, g2, g3, g4, g5⟩ := hP
  have hr0 := hI.room (by omega)
  obtain ⟨R, tape, prn, hG, hC, hT, c1, c2⟩ := hI
  rw [fLaw, if_neg (by omega), if_neg he, if_neg g0, if_neg (show ¬ xs i.toNatClampNeg &&& 15 = 0 by rw [hop]; decide), if_pos hop, if_neg g1]
  generalize xs (i + 1).toNatClampNeg = x1
  obtain ⟨t0, a0, b0⟩ := hC.1
  have h40 := hT.2.2.2.1.2.2.1
  have hE : (∀ m, x1 = i3 m → m ≤ tape.length → fL_end N x1 (ktb k 0) (ktl k 0) (kto k 0) (ktb k 1) (ktl k 1) (kto k 1) (ktb k 2) (ktl k 2) (kto k 2) (ksa k 0) (ksa k 1) tp (ksa k 2) mp (ksa k 3) (ktt k) (krc k 8) (krz k 8) (kro k 8) (kpl k) (krs k) ov = some (0, i3 m, vp_updL ov 0 (i3 m).toInt64) ∧ TP (t0.1, m, t0.2.2) (tape.take m)) ∧ (¬ (¬ x1 < 0 ∧ ¬ i3 tape.length < x1) → fL_end N x1 (ktb k 0) (ktl k 0) (kto k 0) (ktb k 1) (ktl k 1) (kto k 1) (ktb k 2) (ktl k 2) (kto k 2) (ksa k 0) (ksa k 1) tp (ksa k 2) mp (ksa k 3) (ktt k) (krc k 8) (krz k 8) (kro k 8) (kpl k) (krs k) ov = some (1, i3 t0.2.1, ov)) := by
    rw [a0.1, a0.2.1, a0.2.2]
    exact l_end_w b0 x1
  by_cases hv : ¬ x1 < 0 ∧ ¬ i3 tape.length < x1
  · obtain ⟨m, hm, hx⟩ := isM2 (by omega) hv
    obtain ⟨e1, m1⟩ := hE.1 m hx hm
    subst hx
    obtain ⟨st', e2, n1, n2, n3⟩ := end_v (n := N) hT hm
    have hL' : LI (kT k 0 (ktb k 0) (i3 m) (kto k 0)) st' (q + 1) (wc + 0 + 1 + 0 + 0) (wn + 0 + 6 + 0 + 0) := by
      rw [a0.1, a0.2.2]
      exact LI.mk c1 c2 hG (hC.t0 m1) n1 (CostE.of_pt n3) (a := 1) (b := 6) (by omega) (by omega) (by omega) (by omega)
    have hr := hL'.room hq
    rw [e1, Option.bind_some, if_neg (by omega), if_neg g1, e2, Option.bind_some, if_neg (by omega), thr_e, Option.bind_some, if_neg (by omega), n2]
    dsimp only
    rw [if_pos rfl, if_pos rfl, if_pos lgu, hi]
    exact ⟨_, _, _, _, _, _, _, rfl, hL'⟩
  · have e1 := hE.2 hv
    obtain ⟨st', e2, n1, n2, n3⟩ := end_n (n := N) hT hv
    have hL' : LI (kT k 0 (ktb k 0) (i3 t0.2.1) (kto k 0)) st' (q + 1) (wc + 0 + 1 + 0 + 0) (wn + 0 + 6 + 0 + 0) := by
      rw [a0.1, a0.2.2]
      exact LI.mk c1 c2 hG (hC.t0 b0) n1 (CostE.of_pt n3) (a := 1) (b := 6) (by omega) (by omega) (by omega) (by omega)
    have hr := hL'.room hq
    rw [e1, Option.bind_some, if_neg (by omega), if_neg g1, e2, Option.bind_some, if_neg (by omega), thr_e, Option.bind_some, if_neg (by omega), n2]
    dsimp only
    rw [if_pos rfl, if_neg (by decide), hi]
    exact ⟨_, _, _, _, _, _, _, rfl, hL'⟩
theorem law3 (hP : Pos L q i) (hN : 5000000000 < N) (hI : LI k st q wc wn) (hq : q + 1 ≤ 512) (hop : xs i.toNatClampNeg &&& 15 = 3) : Nx xs L N n q (fLaw xs L N (n + 1) i k ov st wc wn tp mp) := by
  obtain ⟨hi, he, g0, g1, g2, g3, g4, g5⟩ := hP
  have hr0 := hI.room (by omega)
  obtain ⟨R, tape, prn, hG, hC, hT, c1, c2⟩ := hI
  rw [fLaw, if_neg (by omega), if_neg he, if_neg g0, if_neg (show ¬ xs i.toNatClampNeg &&& 15 = 0 by rw [hop]; decide), if_neg (show ¬ xs i.toNatClampNeg &&& 15 = 1 by rw [hop]; decide), if_neg (show ¬ xs i.toNatClampNeg &&& 15 = 2 by rw [hop]; decide), if_pos hop, if_neg g1]
  generalize xs (i + 1).toNatClampNeg = x1
  obtain ⟨t1, a1, b1⟩ := hC.2.1
  by_cases hv : isR x1
  · obtain ⟨x, hx, rfl⟩ := isR_k hv
    obtain ⟨v, ez, ea⟩ := hC.2.2.2 x hx
    obtain ⟨t', e1, m1⟩ : ∃ t' : TS, fL_print 104 N (i3 x) (ktb k 0) (ktl k 0) (kto k 0) (ktb k 1) (ktl k 1) (kto k 1) (ktb k 2) (ktl k 2) (kto k 2) (ksa k 0) (ksa k 1) tp (ksa k 2) mp (ksa k 3) (ktt k) (krc k 8) (krz k 8) (kro k 8) (kpl k) (krs k) (krc k (xpk (i3 x))) (krz k (xpk (i3 x))) (kro k (xpk (i3 x))) ov = some (0, t'.1, i3 t'.2.1, t'.2.2, vp_updL ov 0 (i3 (jt 101 (R x)).length).toInt64) ∧ TP t' (jt 101 (R x)) := by
      rw [a1.1, a1.2.1, a1.2.2, xpk_i hx, ez]
      exact l_print_w (e := 100) (by omega) (by omega) hv ea (hG x hx).1 (hG x hx).2
    have hlt := jt_lt _ (R x) (hG x hx).1
    obtain ⟨st', e2, n1, n2, n3⟩ : FeP st (fM_print0 N st (i3 x)) (fun x => jt 101 (R x)) tape (jt 101 (R x)) (kpl k) (krs k) (i3 (jt 101 (R x)).length) 0 := print_v (n := N) (by omega) hT hx hlt
    have hL' : LI (kT k 1 t'.1 (i3 t'.2.1) t'.2.2) st' (q + 1) (wc + 0 + 1 + 0 + 0) (wn + 0 + 6 + 0 + 0) := LI.mk c1 c2 hG (hC.t1 m1) n1 (CostE.of_pt n3) (a := 1) (b := 6) (by omega) (by omega) (by omega) (by omega)
    have hr := hL'.room hq
    rw [e1, Option.bind_some, if_neg (by omega), if_neg g1, e2, Option.bind_some, if_neg (by omega), thr_e, Option.bind_some, if_neg (by omega), n2]
    dsimp only
    rw [if_pos rfl, if_pos rfl, if_pos lgu, hi]
    exact ⟨_, _, _, _, _, _, _, rfl, hL'⟩
  · obtain ⟨st', e2, n1, n2, n3⟩ := print_n (n := N) hT hv
    have hL' : LI (kT k 1 (ktb k 1) (ktl k 1) (kto k 1)) st' (q + 1) (wc + 0 + 1 + 0 + 0) (wn + 0 + 6 + 0 + 0) := by
      rw [a1.1, a1.2.1, a1.2.2]
      exact LI.mk c1 c2 hG (hC.t1 b1) n1 (CostE.of_pt n3) (a := 1) (b := 6) (by omega) (by omega) (by omega) (by omega)
    have hr := hL'.room hq
    rw [l_print_n hv, Option.bind_some, if_neg (by omega), if_neg g1, e2, Option.bind_some, if_neg (by omega), thr_e, Option.bind_some, if_neg (by omega), n2]
    dsimp only
    rw [if_pos rfl, if_neg (by decide), hi]
    exact ⟨_, _, _, _, _, _, _, rfl, hL'⟩
theorem law10 (hP : Pos L q i) (hN : 5000000000 < N) (hI : LI k st q wc wn) (hq : q + 1 ≤ 512) (hop : xs i.toNatClampNeg &&& 15 = 10) : Nx xs L N n q (fLaw xs L N (n + 1) i k ov st wc wn tp mp) := by
  obtain ⟨hi, he, g0, g1, g2, g3, g4, g5⟩ := hP
  have hr0 := hI.room (by omega)
  obtain ⟨R, tape, prn, hG, hC, hT, c1, c2⟩ := hI
  rw [fLaw, if_neg (by omega), if_neg he, if_neg g0, if_neg (show ¬ xs i.toNatClampNeg &&& 15 = 0 by rw [hop]; decide), if_neg (show ¬ xs i.toNatClampNeg &&& 15 = 1 by rw [hop]; decide), if_neg (show ¬ xs i.toNatClampNeg &&& 15 = 2 by rw [hop]; decide), if_neg (show ¬ xs i.toNatClampNeg &&& 15 = 3 by rw [hop]; decide), if_neg (show ¬ xs i.toNatClampNeg &&& 15 = 4 by rw [hop]; decide), if_neg (show ¬ xs i.toNatClampNeg &&& 15 = 5 by rw [hop]; decide), if_neg (show ¬ xs i.toNatClampNeg &&& 15 = 6 by rw [hop]; decide), if_neg (show ¬ xs i.toNatClampNeg &&& 15 = 7 by rw [hop]; decide), if_neg (show ¬ xs i.toNatClampNeg &&& 15 = 8 by rw [hop]; decide), if_neg (show ¬ xs i.toNatClampNeg &&& 15 = 9 by rw [hop]; decide), if_pos hop, if_neg g1]
  generalize xs (i + 1).toNatClampNeg = x1
  obtain ⟨t1, a1, b1⟩ := hC.2.1
  have h28 := hT.2.2.2.2.1.2.2.1
  have hE : (∀ m, x1 = i3 m → m < prn.length → fL_word N x1 (ktb k 0) (ktl k 0) (kto k 0) (ktb k 1) (ktl k 1) (kto k 1) (ktb k 2) (ktl k 2) (kto k 2) (ksa k 0) (ksa k 1) tp (ksa k 2) mp (ksa k 3) (ktt k) (krc k 8) (krz k 8) (kro k 8) (kpl k) (krs k) ov = some (0, vp_updL ov 0 (cW (wA prn m 8 : Nat)))) ∧ (¬ (¬ x1 < 0 ∧ x1 < i3 prn.length) → fL_word N x1 (ktb k 0) (ktl k 0) (kto k 0) (ktb k 1) (ktl k 1) (kto k 1) (ktb k 2) (ktl k 2) (kto k 2) (ksa k 0) (ksa k 1) tp (ksa k 2) mp (ksa k 3) (ktt k) (krc k 8) (krz k 8) (kro k 8) (kpl k) (krs k) ov = some (1, ov)) := by
    rw [a1.1, a1.2.1, a1.2.2]
    exact l_word_w (by omega) b1 x1
  by_cases hv : ¬ x1 < 0 ∧ x1 < i3 prn.length
  · obtain ⟨m, hm, hx⟩ := isL2 (by omega) hv
    have e1 := hE.1 m hx hm
    subst hx
    obtain ⟨st', e2, n1, n2, n3⟩ := word_v (n := N) (by omega) hT b1.1.1 hm
    have hL' : LI k st' (q + 1) (wc + 0 + 1 + 0 + 0) (wn + 0 + 6 + 0 + 0) := LI.mk c1 c2 hG hC n1 (CostE.of_pt n3) (a := 1) (b := 6) (by omega) (by omega) (by omega) (by omega)
    have hr := hL'.room hq
    rw [e1, Option.bind_some, if_neg (by omega), if_neg g1, e2, Option.bind_some, if_neg (by omega), thr_e, Option.bind_some, if_neg (by omega), n2]
    dsimp only
    rw [if_pos rfl, if_pos rfl, if_pos lgu, hi]
    exact ⟨_, _, _, _, _, _, _, rfl, hL'⟩
  · have e1 := hE.2 hv
    obtain ⟨st', e2, n1, n2, n3⟩ := word_n (n := N) hT hv
    have hL' : LI k st' (q + 1) (wc + 0 + 1 + 0 + 0) (wn + 0 + 6 + 0 + 0) := LI.mk c1 c2 hG hC n1 (CostE.of_pt n3) (a := 1) (b := 6) (by omega) (by omega) (by omega) (by omega)
    have hr := hL'.room hq
    rw [e1, Option.bind_some, if_neg (by omega), if_neg g1, e2, Option.bind_some, if_neg (by omega), thr_e, Option.bind_some, if_neg (by omega), n2]
    dsimp only
    rw [if_pos rfl, if_neg (by decide), hi]
    exact ⟨_, _, _, _, _, _, _, rfl, hL'⟩
theorem law11 (hP : Pos L q i) (hN : 5000000000 < N) (hI : LI k st q wc wn) (hq : q + 1 ≤ 512) (hop : xs i.toNatClampNeg &&& 15 = 11) : Nx xs L N n q (fLaw xs L N (n + 1) i k ov st wc wn tp mp) := by
  obtain ⟨hi, he, g0, g1, g2, g3, g4, g5⟩ := hP
  have hr0 := hI.room (by omega)
  obtain ⟨R, tape, prn, hG, hC, hT, c1, c2⟩ := hI
  rw [fLaw, if_neg (by omega), if_neg he, if_neg g0, if_neg (show ¬ xs i.toNatClampNeg &&& 15 = 0 by rw [hop]; decide), if_neg (show ¬ xs i.toNatClampNeg &&& 15 = 1 by rw [hop]; decide), if_neg (show ¬ xs i.toNatClampNeg &&& 15 = 2 by rw [hop]; decide), if_neg (show ¬ xs i.toNatClampNeg &&& 15 = 3 by rw [hop]; decide), if_neg (show ¬ xs i.toNatClampNeg &&& 15 = 4 by rw [hop]; decide), if_neg (show ¬ xs i.toNatClampNeg &&& 15 = 5 by rw [hop]; decide), if_neg (show ¬ xs i.toNatClampNeg &&& 15 = 6 by rw [hop]; decide), if_neg (show ¬ xs i.toNatClampNeg &&& 15 = 7 by rw [hop]; decide), if_neg (show ¬ xs i.toNatClampNeg &&& 15 = 8 by rw [hop]; decide), if_neg (show ¬ xs i.toNatClampNeg &&& 15 = 9 by rw [hop]; decide), if_neg (show ¬ xs i.toNatClampNeg &&& 15 = 10 by rw [hop]; decide), if_pos hop, if_neg g1]
  generalize xs (i + 1).toNatClampNeg = x1
  obtain ⟨t0, a0, b0⟩ := hC.1
  obtain ⟨t1, a1, b1⟩ := hC.2.1
  have hE : (∀ m, x1 = i3 m → m ≤ 3 → fL_count N x1 (ktb k 0) (ktl k 0) (kto k 0) (ktb k 1) (ktl k 1) (kto k 1) (ktb k 2) (ktl k 2) (kto k 2) (ksa k 0) (ksa k 1) tp (ksa k 2) mp (ksa k 3) (ktt k) (krc k 8) (krz k 8) (kro k 8) (kpl k) (krs k) ov = some (0, vp_updL ov 0 (if m = 0 then i3 t0.2.1 else if m = 1 then i3 t1.2.1 else if m = 2 then kpl k else krs k).toInt64)) ∧ (¬ (¬ x1 < 0 ∧ ¬ (3 : Int32) < x1) → fL_count N x1 (ktb k 0) (ktl k 0) (kto k 0) (ktb k 1) (ktl k 1) (kto k 1) (ktb k 2) (ktl k 2) (kto k 2) (ksa k 0) (ksa k 1) tp (ksa k 2) mp (ksa k 3) (ktt k) (krc k 8) (krz k 8) (kro k 8) (kpl k) (krs k) ov = some (1, ov)) := by
    rw [a0.1, a0.2.1, a0.2.2, a1.1, a1.2.1, a1.2.2]
    exact l_count_w x1
  by_cases hv : ¬ x1 < 0 ∧ ¬ (3 : Int32) < x1
  · obtain ⟨m, hm, hx⟩ := isM2 (m := 3) (by omega) hv
    have e1 := hE.1 m hx hm
    subst hx
    obtain ⟨st', e2, n1, n2, n3⟩ := count_v (n := N) hT hm
    rw [← b0.1.2.2.1, ← b1.1.2.2.1] at e1
    have hL' : LI k st' (q + 1) (wc + 0 + 1 + 0 + 0) (wn + 0 + 6 + 0 + 0) := LI.mk c1 c2 hG hC n1 (CostE.of_pt n3) (a := 1) (b := 6) (by omega) (by omega) (by omega) (by omega)
    have hr := hL'.room hq
    rw [e1, Option.bind_some, if_neg (by omega), if_neg g1, e2, Option.bind_some, if_neg (by omega), thr_e, Option.bind_some, if_neg (by omega), n2]
    dsimp only
    rw [if_pos rfl, if_pos rfl, if_pos lgu, hi]
    exact ⟨_, _, _, _, _, _, _, rfl, hL'⟩
  · have e1 := hE.2 hv
    obtain ⟨st', e2, n1, n2, n3⟩ := count_n (n := N) hT hv
    have hL' : LI k st' (q + 1) (wc + 0 + 1 + 0 + 0) (wn + 0 + 6 + 0 + 0) := LI.mk c1 c2 hG hC n1 (CostE.of_pt n3) (a := 1) (b := 6) (by omega) (by omega) (by omega) (by omega)
    have hr := hL'.room hq
    rw [e1, Option.bind_some, if_neg (by omega), if_neg g1, e2, Option.bind_some, if_neg (by omega), thr_e, Option.bind_some, if_neg (by omega), n2]
    dsimp only
    rw [if_pos rfl, if_neg (by decide), hi]
    exact ⟨_, _, _, _, _, _, _, rfl, hL'⟩
end LAWA
