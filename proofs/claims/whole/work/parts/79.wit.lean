section WIT
variable {vs : List VR} {cs : List Nat} {ks W0 : List NP} {e : Nat}
theorem witI {d : Nat} {l m : List (JT e)} {a b i N : Nat} {st : xS} {ws : List NP} {wc wn cR cL : Nat} {y3 : Int32} {R : Nat ⊕ JT (e + 1)} (hM : MS st vs cs ks ws) (ha : Rep vs cs ks (e + 1) (ja l) a) (hb : Rep vs cs ks (e + 1) (ja m) b) (hol : ∀ x ∈ l, jok e x) (hom : ∀ x ∈ m, jok e x) (hd : e ≤ d) (hN : 4000000 ≤ N) (hi : i < l.length)
    (hS : has m l[i] = true → ∀ (n' : Nat) (y6 y5 : Int32), N ≤ n' → OpO st wc wn cR cL (fM_without_b d n' 1 (i3 (i + 1)) y3 a b y6 y5 st wc wn) vs cs ks W0 R)
    (hW : has m l[i] = false → ∀ (n' : Nat) (y6 y5 : Int32), N ≤ n' → OpO st wc wn cR cL ((fM_kid n' st a (i3 i)).bind fun o2 => ((fM_wait n' st 0 o2).bind fun o5 => (if (xct st) < a then none else xmo (fun a => a.2.1) (fun a => a.2.2.1) (wc + o5.1) (wn + o5.2.1) (fM_without_b d n' 1 (i3 i + 1) y3 a b y6 y5 o5.2.2 (wc + o5.1) (wn + o5.2.1))))) vs cs ks W0 R) :
    ∀ (r n j : Nat), j + r = m.length → has (m.take j) l[i] = false → N + r + 2 ≤ n → OpO st wc wn cR cL (fM_without_b d n 2 (i3 i) y3 a b (i3 j) 0 st wc wn) vs cs ks W0 R := by
  obtain ⟨bs, bl⟩ := hb.sza hM
  obtain ⟨b1, _, _, _⟩ := hb.g hM
  intro r
  induction r with
  | zero =>
    intro n j hj hh hn
    obtain ⟨n, rfl⟩ : ∃ k, n = k + 1 := ⟨n - 1, by omega⟩
    rw [fM_without_b, if_neg (by decide), if_neg b1, bs, if_pos (by rw [i3_le (by omega) (by omega)]; omega), if_pos rfl]
    rw [List.take_of_length_le (by omega)] at hh
    exact OpO.wrap (hW hh n _ _ (by omega))
  | succ r ih =>
    intro n j hj hh hn
    obtain ⟨n, rfl⟩ : ∃ k, n = k + 1 := ⟨n - 1, by omega⟩
    obtain ⟨k1, e1, r1⟩ := ha.kid (n := n) hM (List.getElem?_eq_getElem hi)
    obtain ⟨k2, e2, r2⟩ := hb.kid (n := n) hM (List.getElem?_eq_getElem (show j < m.length by omega))
    have hsm := same1M (n := n) hM (by omega) e d hd _ _ _ _ r1 r2 (hol _ (List.getElem_mem _)) (hom _ (List.getElem_mem _))
    rw [fM_without_b, if_neg (by decide), if_neg b1, bs, if_neg (by rw [i3_le (by omega) (by omega)]; omega), if_pos rfl, e1, Option.bind_some, e2, Option.bind_some, hsm, Option.bind_some, i3_one]
    have hsy := (jcmp_good e).1 l[i] m[j]
    by_cases ez : jcmp e l[i] m[j] = 0
    · have hT : has m l[i] = true := List.any_eq_true.mpr ⟨m[j], List.getElem_mem _, decide_eq_true (by omega)⟩
      obtain ⟨n, rfl⟩ : ∃ k, n = k + 1 := ⟨n - 1, by omega⟩
      rw [if_pos ez, fM_without_b, if_neg (by decide), if_neg b1, bs, if_neg (show ¬ (1 : Int32) = 0 by decide), if_neg (show ¬ (1 : Int32) = 0 by decide), ite_self, i3_one]
      exact OpO.wrap (OpO.wrap (hS hT n _ _ (by omega)))
    · rw [if_neg ez]
      refine OpO.wrap (ih n (j + 1) (by omega) ?_ (by omega))
      rw [List.take_succ_eq_append_getElem (show j < m.length by omega)]
      unfold has at hh ⊢
      rw [List.any_append, hh, Bool.false_or, List.any_cons, List.any_nil, Bool.or_false]
      exact decide_eq_false (by omega)
theorem witO {d : Nat} {l m : List (JT e)} {a b : Nat} (ha : Rep vs cs ks (e + 1) (ja l) a) (hb : Rep vs cs ks (e + 1) (ja m) b) (hol : ∀ x ∈ l, jok e x) (hom : ∀ x ∈ m, jok e x) (hd : e ≤ d) (hbv : vs.length + 1 ≤ bV) (hbk : ks.length + (W0.length + l.length) ≤ bK) : ∀ (q n i : Nat) (st : xS) (W : List NP) (X : List (JT e)) (wc wn : Nat) (y6 y5 : Int32), i + q = l.length → W.length + q ≤ l.length → MS st vs cs ks (W0 ++ W) → RL vs cs ks e W X → 4100000 + q * 100000 < n → OpO st wc wn 1 1 (fM_without_b d n 1 (i3 i) (i3 W0.length) a b y6 y5 st wc wn) vs cs ks W0 (.inr (ja (X ++ (l.drop i).filter (fun x => !has m x)))) := by
  have hbc : bC = 100000 := rfl
  have hbk' : bK = 32000 := rfl
  intro q
  induction q with
  | zero =>
    intro n i st W X wc wn y6 y5 hi hW hM hR hn
    obtain ⟨n, rfl⟩ : ∃ j, n = j + 1 := ⟨n - 1, by omega⟩
    obtain ⟨a1, _, a3, _⟩ := ha.g hM
    obtain ⟨as, al⟩ := ha.sza hM
    rw [fM_without_b, if_pos rfl, if_neg a1, as, if_pos (by rw [i3_le (by omega) (by omega)]; omega), List.drop_eq_nil_of_le (by omega), List.filter_nil, List.append_nil]
    exact OpO.wrap (OpO.l1 (cR := 1) (by omega) (whole_ao hM hR hbv (by omega) (by omega)))
  | succ q ih =>
    intro n i st W X wc wn y6 y5 hi hW hM hR hn
    obtain ⟨n, rfl⟩ : ∃ j, n = j + 1 := ⟨n - 1, by omega⟩
    obtain ⟨a1, a2, a3, _⟩ := ha.g hM
    obtain ⟨as, al⟩ := ha.sza hM
    obtain ⟨bs, bl⟩ := hb.sza hM
    rw [fM_without_b, if_pos rfl, if_neg a1, as, if_neg (by rw [i3_le (by omega) (by omega)]; omega), List.drop_eq_getElem_cons (show i < l.length by omega), List.filter_cons]
    refine OpO.wrap (witI (N := 4100000 + q * 100000 + 1) hM ha hb hol hom hd (by omega) (by omega) (fun hT n' y6 y5 hn' => ?_) (fun hF n' y6 y5 hn' => ?_) m.length n 0 (by omega) rfl (by omega))
    · rw [hT, if_neg (by decide)]
      exact ih n' (i + 1) st W X wc wn y6 y5 (by omega) (by omega) hM hR hn'
    · obtain ⟨k, e1, r1⟩ := ha.kid (n := n') hM (List.getElem?_eq_getElem (show i < l.length by omega))
      obtain ⟨cc, s, st', e2, m1, m2, m3, _⟩ := wait_w (n := n') hM (a := k) (b := 0) r1.lev (by omega) (by rw [List.length_append]; omega) (by omega)
      rw [hF, if_pos (by decide), e1, Option.bind_some, e2, Option.bind_some, if_neg a2, i3_one]
      refine OpO.step0 (OpO.wrap ?_) m2 m3.o
      rw [List.append_assoc] at m1
      have := ih n' (i + 1) st' (W ++ [(k, 0)]) (X ++ [l[i]]) (wc + cc) (wn + s) y6 y5 (by omega) (by rw [List.length_append]; simp; omega) m1 (hR.snoc r1 (by omega)) hn'
      rw [List.append_assoc] at this
      exact this
theorem withoutM {st : xS} {ws : List NP} {d n : Nat} {l m : List (JT e)} {a b : Nat} (hM : MS st vs cs ks ws) (ha : Arg vs cs ks (e + 1) (ja l) a) (hb : Arg vs cs ks (e + 1) (ja m) b) (hd : e ≤ d) (hB : Bd vs cs ks ws) (hn : 3000000000 < n) : OpO st 0 0 1 1 (fM_without d n st a b) vs cs ks ws (.inr (ja (l.filter (fun x => !has m x)))) := by
  obtain ⟨B1, B2, B3, B4⟩ := hB
  have hbv : bV = 32000 := rfl
  have hbk : bK = 32000 := rfl
  have := ha.la
  unfold fM_without
  rw [hM.1.1.2.2.2]
  exact witO ha.1 hb.1 ha.2.1 hb.2.1 hd (by omega) (by omega) l.length n 0 st [] [] 0 0 0 0 (by omega) (by simp) (by rw [List.append_nil]; exact hM) trivial (by omega)
end WIT
