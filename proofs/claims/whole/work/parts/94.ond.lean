section OND
variable {cs : List Nat} {e d : Nat}
theorem PV.fr0 {st st' : xS} {mx : Nat} {ps : List Nat} (h : PV st mx ps) (hf : Fr0 st st') : PV st' mx ps := by
  obtain ⟨h1, h2, h3, h4, h5, h6, h7⟩ := h
  have hb := hf.2 21 (by decide) (by decide) (by decide) (by decide) (by decide) (by decide)
  exact ⟨by rw [hf.1 22 (by decide) (by decide) (by decide) (by decide)]; exact h1, by rw [hf.1 23 (by decide) (by decide) (by decide) (by decide)]; exact h2, h3, by rw [hb.2]; exact h4, by rw [hb.1]; exact h5, by rw [hb.1]; exact h6, by rw [hb.1]; exact h7⟩
theorem Fr2.o {st st' : xS} {mx : Nat} {ps : List Nat} (h : Fr2 st st') (hp : PV st' mx ps) : FrO st st' := by
  obtain ⟨h1, h2, h3⟩ := h
  refine ⟨fun k hk => h1 k (by omega), fun k hk => h2 k (by omega), fun x => ?_⟩
  obtain ⟨x1, x2, x3, x4, x5⟩ := x
  exact ⟨hp.2.2.2.2.2.1, hp.2.2.2.2.2.2, by rw [(h2 13 (by decide)).1]; exact x3, by rw [(h2 13 (by decide)).1, (h2 14 (by decide)).1]; exact x4, by rw [(h2 13 (by decide)).1]; exact x5⟩
theorem PV.most {st : xS} {mx mx' : Nat} {ps : List Nat} (h : PV st mx ps) (hm : mx' ≤ 1000000000) : PV (xsI st 23 (i3 mx')) mx' ps := by
  obtain ⟨h1, h2, h3, h4, h5, h6, h7⟩ := h
  refine ⟨?_, (up_eq : va_up st.1 23 (i3 mx') 23 = i3 mx'), hm, h4, h5, h6, h7⟩
  show va_up st.1 23 (i3 mx') 22 = _
  rw [up_ne (by decide)]
  exact h1
theorem tolL {vs : List VR} {ks ws : List NP} {fu mx cR : Nat} {w : List Nat} {y3 : Int32} (hbv : vs.length + 1 ≤ bV) (hbc : cs.length + w.length ≤ bC) : ∀ (q n i : Nat) (st : xS) (wc wn : Nat), i + q = w.length → MS st vs (cs ++ w.take i) ks ws → PV st mx w → 300000 + q < n → OpO st wc wn cR 1 (fM_told_b fu n 1 (i3 i) (i3 cs.length) y3 0 st wc wn) vs (cs ++ w.take i) ks ws (.inr (js w) : Nat ⊕ JT (d + 1)) := by
  have hbc' : bC = 100000 := rfl
  have hbv' : bV = 32000 := rfl
  intro q
  induction q with
  | zero =>
    intro n i st wc wn hi hM hP hn
    obtain ⟨n, rfl⟩ : ∃ j, n = j + 1 := ⟨n - 1, by omega⟩
    rw [fM_told_b, hP.1, if_pos (by rw [i3_le (by omega) (by omega)]; omega)]
    rw [List.take_of_length_le (by omega)] at hM ⊢
    have hM2 : MS (xsI (xsI st 22 0) 23 y3) vs (cs ++ w) ks ws := (hM.si (k := 22) (by decide) (by decide) (by decide) (by decide)).si (k := 23) (by decide) (by decide) (by decide) (by decide)
    refine OpO.wrap (OpO.step0 (cc := 0) (s := 0) (st1 := xsI (xsI st 22 0) 23 y3) ?_ ⟨Nat.le_refl _, Nat.le_of_eq (Nat.zero_add _)⟩ ((FrO.at (k := 22) _ (by decide)).trans (FrO.at (k := 23) _ (by decide))))
    exact OpO.l1 (cR := cR) (by omega) (string_o hM2 hbv (by omega))
  | succ q ih =>
    intro n i st wc wn hi hM hP hn
    obtain ⟨n, rfl⟩ : ∃ j, n = j + 1 := ⟨n - 1, by omega⟩
    have hPi := hP.2.2.2.1 i w[i] (List.getElem?_eq_getElem (by omega))
    have hPl := hP.2.2.2.2.1
    obtain ⟨cc, s, st', e1, m1, m2, m3, _⟩ := letter_w (n := n) hM hPi.2 (by rw [List.length_append, List.length_take]; omega) (by omega)
    rw [fM_told_b, hP.1, if_neg (by rw [i3_le (by omega) (by omega)]; omega), if_neg (i3_idx (by omega) (by omega)), i3_N (by omega), hPi.1, e1, Option.bind_some, i3_one]
    refine OpO.wrap (OpO.stepc (b := [w[i]]) (OpO.wrap ?_) m2 m3.o)
    rw [List.append_assoc, ← List.take_succ_eq_append_getElem (show i < w.length by omega)] at m1 ⊢
    exact ih n (i + 1) st' (wc + cc) (wn + s) (by omega) m1 (hP.fr0 m3) (by omega)
theorem toldM {st : xS} {vs : List VR} {ks ws : List NP} {fu n a cR : Nat} {x : JT (e + 1)} (hM : MS st vs cs ks ws) (hP : PV st 1000000000 []) (ha : Arg vs cs ks (e + 1) x a) (hB : Bd vs cs ks ws) (hfu : e + 1 ≤ fu) (hn : 3000000000 < n) : OpO st 0 0 cR 1 (fM_told fu n st a) vs cs ks ws (.inr (js (jt (e + 1) x)) : Nat ⊕ JT (d + 1)) := by
  obtain ⟨B1, B2, B3, B4⟩ := hB
  have hbv : bV = 32000 := rfl
  have hbc : bC = 100000 := rfl
  have hbp : bP = 200000 := rfl
  have h22 : xsi st 22 = 0 := hP.1
  have hP1 : PV (xsI st 23 (i3 60000)) 60000 [] := hP.most (by omega)
  have hM1 : MS (xsI st 23 (i3 60000)) vs cs ks ws := hM.si (by decide) (by decide) (by decide) (by decide)
  have hpr := print_w (mx := 60000) (vs := vs) (cs := cs) (ks := ks) (ws := ws) (by omega) (n := n) (by omega) (e + 1) fu hfu _ [] x a ha.1 ha.2.1 hM1 hP1 (by simp)
  have hjt := ha.2.2.2.1
  unfold fM_told
  rw [h22, show (0 : Int32) + 60000 = i3 60000 from rfl]
  rcases hpr with ⟨_, cc, s, st1, e1, p1, p2, p3⟩ | ⟨hbig, _⟩
  · rw [List.nil_append] at p1
    rw [e1, Option.bind_some, if_pos rfl, hM.1.1.2.1]
    dsimp only
    have := tolL (d := d) (cs := cs) (ks := ks) (ws := ws) (vs := vs) (fu := fu) (cR := cR) (y3 := xsi st 23) (w := jt (e + 1) x) (mx := 60000) (by omega) (by omega) (jt (e + 1) x).length n 0 st1 cc s (by omega) (by rw [List.take_zero, List.append_nil]; exact hM1.fr2 p3) p1 (by omega)
    rw [List.take_zero, List.append_nil] at this
    refine OpO.step0 (cc := cc) (s := s) (st1 := st1) ?_ ⟨p2.1, p2.2⟩ ((FrO.at (k := 23) _ (by decide)).trans (p3.o p1))
    simp only [Nat.zero_add]
    exact OpO.wrap this
  · simp at hbig
    omega
def tnR (sgn : Int) (r : List Nat) : Option Int := if r = [] then none else if r.head? = some 48 ∧ 1 < r.length then none else if (dv 0 r).2 = [] ∧ (dv 0 r).1 ≤ 9007199254740991 then some (sgn * ((dv 0 r).1 : Int)) else none
theorem tnR_eq (start r : List Nat) (sgn : Int) : (match pNd start r sgn with | .inl _ => none | .inr (z, r2) => if r2 = [] then some z else none) = tnR sgn r := by
  unfold pNd tnR
  cases r with
  | nil => rfl
  | cons c r =>
    rw [if_neg (by simp)]
    show (match (match (if isD c then (if c = 48 then some (0, r) else some (dv (c - 48) r)) else none : Option (Nat × List Nat)) with | none => Sum.inl (c :: r) | some (v, r2) => if 9007199254740991 < v then .inl start else .inr (sgn * (v : Int), r2)) with | .inl _ => none | .inr (z, r2) => if r2 = [] then some z else none) = _
    have hdv : dv 0 (c :: r) = if isD c then dv (10 * 0 + (c - 48)) r else (0, c :: r) := rfl
    rw [hdv]
    by_cases hd : isD c = true
    · rw [if_pos hd, if_pos hd, Nat.mul_zero, Nat.zero_add]
      by_cases h48 : c = 48
      · rw [if_pos h48, h48]
        dsimp only
        rw [if_neg (by omega)]
        dsimp only
        by_cases hr : r = []
        · subst hr
          rw [if_pos rfl, if_neg (fun h => by simp at h), if_pos ⟨rfl, by decide⟩]
          rfl
        · have : 0 < r.length := List.length_pos_iff.mpr hr
          rw [if_neg hr, if_pos ⟨rfl, by rw [List.length_cons]; omega⟩]
      · rw [if_neg h48, if_neg (fun h => by simp at h; exact h48 h.1)]
        cases hp : dv (c - 48) r with
        | mk v r2 =>
          dsimp only
          by_cases hb : 9007199254740991 < v
          · rw [if_pos hb, if_neg (fun h => by omega)]
          · rw [if_neg hb]
            dsimp only
            by_cases hr : r2 = []
            · rw [if_pos hr, if_pos ⟨hr, by omega⟩]
            · rw [if_neg hr, if_neg (fun h => hr h.1)]
    · rw [if_neg hd, if_neg hd, if_neg (fun h => by
        simp at h
        apply hd
        rw [h.1]
        decide), if_neg (fun h => by simp at h)]
theorem pTN_eq (s : Sx) : pTN s = if s.head? = some 45 then tnR (-1) s.tail else tnR 1 s := by
  unfold pTN pN
  by_cases h : s.head? = some 45
  · rw [if_pos h, if_pos h]
    exact tnR_eq s s.tail (-1)
  · rw [if_neg h, if_neg h]
    exact tnR_eq s s 1
theorem tnL {st : xS} {vs : List VR} {ks ws : List NP} {a wc wn : Nat} {s : Sx} {y3 : Int32} {sgn : Int} (hM : MS st vs cs ks ws) (ha : isStr vs cs a s) (hs : s.length ≤ 4095) (hsg : (sgn = 1 ∧ y3 = 0) ∨ (sgn = -1 ∧ y3 = 1)) (hbv : vs.length + 1 ≤ bV) : ∀ (q n i v : Nat), i + q = s.length → 300000 + q < n → OpO st wc wn 1 0 (fM_toNumber_b n 1 (cW ((min v 100000000000000000 : Nat) : Int)) y3 (i3 i) a st wc wn) vs cs ks ws (if (dv v (s.drop i)).2 = [] ∧ (dv v (s.drop i)).1 ≤ 9007199254740991 then .inr (jn (sgn * ((dv v (s.drop i)).1 : Int))) else .inl 4 : Nat ⊕ JT (d + 1)) := by
  have hbv' : bV = 32000 := rfl
  obtain ⟨g1, g2, g3⟩ := ha.gsz hM
  intro q
  induction q with
  | zero =>
    intro n i v hi hn
    obtain ⟨n, rfl⟩ : ∃ j, n = j + 1 := ⟨n - 1, by omega⟩
    rw [fM_toNumber_b, if_neg g1, g2, if_pos (by rw [i3_le (by omega) (by omega)]; omega), List.drop_eq_nil_of_le (by omega)]
    have hdv : dv v [] = (v, []) := rfl
    rw [hdv]
    have hc : (lg_cmp (cW ((min v 100000000000000000 : Nat) : Int)) 9007199254740991 ≤ 0) = (v ≤ 9007199254740991) := by
      rw [show (9007199254740991 : Int64) = cW 9007199254740991 from rfl, lg_cW (by omega) (by omega) (by omega) (by omega), izs_le0]
      exact propext (by omega)
    refine OpO.wrap ?_
    by_cases hv : v ≤ 9007199254740991
    · rw [if_pos (by rw [hc]; exact hv), if_pos (show ((v, []) : Nat × List Nat).2 = [] ∧ ((v, []) : Nat × List Nat).1 ≤ 9007199254740991 from ⟨rfl, hv⟩), show min v 100000000000000000 = v by omega]
      have nr : ∀ z : Int, -9007199254740991 ≤ z ∧ z ≤ 9007199254740991 → (numR z : Nat ⊕ JT (d + 1)) = .inr (jn z) := fun z hz => if_pos hz
      rcases hsg with ⟨rfl, rfl⟩ | ⟨rfl, rfl⟩
      · rw [if_pos (show (0 : Int32) = 0 from rfl)]
        have := OpO.r1 (wc := wc) (wn := wn) (q := 1) (cL := 0) (number_o (d := d) (n := n) (z := (v : Nat)) hM (by omega) (by omega) hbv (by omega))
        rw [nr _ (by omega)] at this
        rw [Int.one_mul]
        exact this
      · rw [if_neg (show ¬ (1 : Int32) = 0 by decide), cW_neg]
        have := OpO.r1 (wc := wc) (wn := wn) (q := 1) (cL := 0) (number_o (d := d) (n := n) (z := -((v : Nat) : Int)) hM (by omega) (by omega) hbv (by omega))
        rw [nr _ (by omega)] at this
        rw [show (-1 : Int) * ((v : Nat) : Int) = -((v : Nat) : Int) by omega]
        exact this
    · rw [if_neg (by rw [hc]; exact hv), if_neg (fun h => hv h.2)]
      exact refuse_o (k := 4) hM
  | succ q ih =>
    intro n i v hi hn
    obtain ⟨n, rfl⟩ : ∃ j, n = j + 1 := ⟨n - 1, by omega⟩
    obtain ⟨c1, c2, c3⟩ := ha.chr hM (i := i) (by omega)
    have hdig : fM_digit n (i3 s[i]) = some (if isD s[i] = true then 1 else 0) := by
      unfold fM_digit isD
      by_cases h1 : s[i] < 48
      · rw [if_pos (show i3 s[i] < 48 by rw [show (48 : Int32) = i3 48 from rfl, i3_lt (by omega) (by omega)]; exact h1), decide_eq_false (by omega), Bool.false_and, if_neg (by decide)]
      · rw [if_neg (show ¬ i3 s[i] < 48 by rw [show (48 : Int32) = i3 48 from rfl, i3_lt (by omega) (by omega)]; exact h1)]
        by_cases h2 : 57 < s[i]
        · rw [if_pos (show (57 : Int32) < i3 s[i] by rw [show (57 : Int32) = i3 57 from rfl, i3_lt (by omega) (by omega)]; exact h2), decide_eq_true (by omega), Bool.true_and, decide_eq_false (by omega), if_neg (by decide)]
        · rw [if_neg (show ¬ (57 : Int32) < i3 s[i] by rw [show (57 : Int32) = i3 57 from rfl, i3_lt (by omega) (by omega)]; exact h2), decide_eq_true (by omega), Bool.true_and, decide_eq_true (by omega), if_pos rfl]
    rw [fM_toNumber_b, if_neg g1, g2, if_neg (by rw [i3_le (by omega) (by omega)]; omega), if_neg c1, c2, hdig, Option.bind_some, List.drop_eq_getElem_cons (show i < s.length by omega)]
    have hdv : dv v (s[i] :: s.drop (i + 1)) = if isD s[i] then dv (10 * v + (s[i] - 48)) (s.drop (i + 1)) else (v, s[i] :: s.drop (i + 1)) := rfl
    rw [hdv]
    refine OpO.wrap ?_
    by_cases hd : isD s[i] = true
    · have h48 : 48 ≤ s[i] ∧ s[i] < 58 := by
        unfold isD at hd
        rw [Bool.and_eq_true] at hd
        exact ⟨of_decide_eq_true hd.1, of_decide_eq_true hd.2⟩
      have hcap : (if (100000000000000000 : Int64) < 10 * cW ((min v 100000000000000000 : Nat) : Int) + (i3 s[i]).toInt64 - 48 then (100000000000000000 : Int64) else 10 * cW ((min v 100000000000000000 : Nat) : Int) + (i3 s[i]).toInt64 - 48) = cW ((min (10 * v + (s[i] - 48)) 100000000000000000 : Nat) : Int) := by
        have hx : 10 * cW ((min v 100000000000000000 : Nat) : Int) + (i3 s[i]).toInt64 - 48 = cW ((10 * min v 100000000000000000 + (s[i] - 48) : Nat) : Int) := by
          rw [i3_64 (by omega), show (10 : Int64) = cW 10 from rfl, show (48 : Int64) = cW 48 from rfl, cW_mul, cW_add, cW_sub]
          congr 1
          omega
        rw [hx, show (100000000000000000 : Int64) = cW ((100000000000000000 : Nat) : Int) from rfl]
        have hlt : (cW ((100000000000000000 : Nat) : Int) < cW ((10 * min v 100000000000000000 + (s[i] - 48) : Nat) : Int)) = (100000000000000000 < 10 * min v 100000000000000000 + (s[i] - 48)) := by
          rw [cW_lt (by omega) (by omega) (by omega) (by omega)]
          exact propext (by omega)
        by_cases hb : 100000000000000000 < 10 * min v 100000000000000000 + (s[i] - 48)
        · rw [if_pos (by rw [hlt]; exact hb)]
          congr 2
          omega
        · rw [if_neg (by rw [hlt]; exact hb)]
          congr 2
          omega
      rw [if_pos hd, if_pos hd, if_neg (by decide), hcap, i3_one]
      exact ih n (i + 1) (10 * v + (s[i] - 48)) (by omega) (by omega)
    · rw [if_neg hd, if_neg hd, if_pos rfl, if_neg (fun h => by exact List.cons_ne_nil _ _ h.1)]
      exact refuse_o (k := 4) hM
end OND
