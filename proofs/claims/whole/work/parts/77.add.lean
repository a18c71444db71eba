section ADD
variable {vs : List VR} {cs : List Nat} {ks W0 : List NP} {d : Nat}
theorem Rep.lev {vs : List VR} {cs : List Nat} {ks : List NP} {d : Nat} {j : JT d} {c : Nat} (h : Rep vs cs ks d j c) : c ≤ vs.length := h.le.2
theorem addA2 {l m : List (JT d)} {a b : Nat} (ha : Rep vs cs ks (d + 1) (ja l) a) (hb : Rep vs cs ks (d + 1) (ja m) b) (hbv : vs.length + 1 ≤ bV) (hbk : ks.length + (W0.length + l.length + m.length) ≤ bK) : ∀ (q n i : Nat) (st : xS) (W : List NP) (X : List (JT d)) (wc wn : Nat), i + q = m.length → W.length + q ≤ l.length + m.length → MS st vs cs ks (W0 ++ W) → RL vs cs ks d W X → 3000000 + q < n → OpO st wc wn 1 2 (fM_added_b n 2 (i3 i) (i3 W0.length) a b st wc wn) vs cs ks W0 (.inr (ja (X ++ m.drop i))) := by
  have hbc : bC = 100000 := rfl
  have hbk' : bK = 32000 := rfl
  intro q
  induction q with
  | zero =>
    intro n i st W X wc wn hi hW hM hR hn
    obtain ⟨n, rfl⟩ : ∃ j, n = j + 1 := ⟨n - 1, by omega⟩
    obtain ⟨b1, _, _, _⟩ := hb.g hM
    obtain ⟨a1, _, a3, _⟩ := ha.g hM
    obtain ⟨bs, bl⟩ := hb.sza hM
    rw [fM_added_b, if_neg (by decide), if_neg b1, bs, if_pos (by rw [i3_le (by omega) (by omega)]; omega), if_neg a1, a3, kd_a, List.drop_eq_nil_of_le (by omega), List.append_nil]
    exact OpO.wrap (OpO.l1 (cR := 1) (by omega) (whole_ao hM hR hbv (by omega) (by omega)))
  | succ q ih =>
    intro n i st W X wc wn hi hW hM hR hn
    obtain ⟨n, rfl⟩ : ∃ j, n = j + 1 := ⟨n - 1, by omega⟩
    obtain ⟨b1, _, _, _⟩ := hb.g hM
    obtain ⟨a1, _, a3, _⟩ := ha.g hM
    obtain ⟨bs, bl⟩ := hb.sza hM
    obtain ⟨k, e1, r1⟩ := hb.kid (n := n) hM (List.getElem?_eq_getElem (show i < m.length by omega))
    obtain ⟨cc, s, st', e2, m1, m2, m3, _⟩ := wait_w (n := n) hM (a := k) (b := 0) r1.lev (by omega) (by rw [List.length_append]; omega) (by omega)
    rw [fM_added_b, if_neg (by decide), if_neg b1, bs, if_neg (by rw [i3_le (by omega) (by omega)]; omega), if_neg a1, a3, kd_a, if_pos (by decide), if_neg (by decide), e1, Option.bind_some, e2, Option.bind_some, List.drop_eq_getElem_cons (show i < m.length by omega), i3_one]
    refine OpO.wrap (OpO.step0 (OpO.wrap ?_) m2 m3.o)
    rw [List.append_assoc] at m1
    have := ih n (i + 1) st' (W ++ [(k, 0)]) (X ++ [m[i]]) (wc + cc) (wn + s) (by omega) (by rw [List.length_append]; simp; omega) m1 (hR.snoc r1 (by omega)) (by omega)
    rw [List.append_assoc] at this
    exact this
theorem addA1 {l m : List (JT d)} {a b : Nat} (ha : Rep vs cs ks (d + 1) (ja l) a) (hb : Rep vs cs ks (d + 1) (ja m) b) (hbv : vs.length + 1 ≤ bV) (hbk : ks.length + (W0.length + l.length + m.length) ≤ bK) : ∀ (q n i : Nat) (st : xS) (W : List NP) (X : List (JT d)) (wc wn : Nat), i + q = l.length → W.length + q = l.length → MS st vs cs ks (W0 ++ W) → RL vs cs ks d W X → 3100000 + q < n → OpO st wc wn 1 2 (fM_added_b n 1 (i3 i) (i3 W0.length) a b st wc wn) vs cs ks W0 (.inr (ja (X ++ (l.drop i ++ m)))) := by
  have hbc : bC = 100000 := rfl
  have hbk' : bK = 32000 := rfl
  intro q
  induction q with
  | zero =>
    intro n i st W X wc wn hi hW hM hR hn
    obtain ⟨n, rfl⟩ : ∃ j, n = j + 1 := ⟨n - 1, by omega⟩
    obtain ⟨a1, _, a3, _⟩ := ha.g hM
    obtain ⟨as, al⟩ := ha.sza hM
    rw [fM_added_b, if_pos rfl, if_neg a1, as, if_pos (by rw [i3_le (by omega) (by omega)]; omega), List.drop_eq_nil_of_le (by omega), List.nil_append]
    exact OpO.wrap (addA2 ha hb hbv hbk m.length n 0 st W X wc wn (by omega) (by omega) hM hR (by omega))
  | succ q ih =>
    intro n i st W X wc wn hi hW hM hR hn
    obtain ⟨n, rfl⟩ : ∃ j, n = j + 1 := ⟨n - 1, by omega⟩
    obtain ⟨a1, _, a3, _⟩ := ha.g hM
    obtain ⟨b1, b2, _, _⟩ := hb.g hM
    obtain ⟨as, al⟩ := ha.sza hM
    obtain ⟨k, e1, r1⟩ := ha.kid (n := n) hM (List.getElem?_eq_getElem (show i < l.length by omega))
    obtain ⟨cc, s, st', e2, m1, m2, m3, _⟩ := wait_w (n := n) hM (a := k) (b := 0) r1.lev (by omega) (by rw [List.length_append]; omega) (by omega)
    rw [fM_added_b, if_pos rfl, if_neg a1, as, if_neg (by rw [i3_le (by omega) (by omega)]; omega), a3, kd_a, if_neg (by decide), if_neg (by decide), e1, Option.bind_some, e2, Option.bind_some, if_neg b2, List.drop_eq_getElem_cons (show i < l.length by omega), i3_one]
    refine OpO.wrap (OpO.step0 (OpO.wrap ?_) m2 m3.o)
    rw [List.append_assoc] at m1
    have := ih n (i + 1) st' (W ++ [(k, 0)]) (X ++ [l[i]]) (wc + cc) (wn + s) (by omega) (by rw [List.length_append]; simp; omega) m1 (hR.snoc r1 (by omega)) (by omega)
    rw [List.append_assoc] at this
    exact this
theorem addO2 {l m : List (Sx × JT d)} {a b : Nat} (ha : Rep vs cs ks (d + 1) (jo l) a) (hb : Rep vs cs ks (d + 1) (jo m) b) (hbv : vs.length + 1 ≤ bV) (hbk : ks.length + (W0.length + l.length + m.length) ≤ bK) : ∀ (q n i : Nat) (st : xS) (W : List NP) (X : List (Sx × JT d)) (wc wn : Nat), i + q = m.length → W.length + q ≤ l.length + m.length → MS st vs cs ks (W0 ++ W) → RM vs cs ks d W X → 3000000 + q < n → OpO st wc wn 1 2 (fM_added_b n 2 (i3 i) (i3 W0.length) a b st wc wn) vs cs ks W0 (.inr (jo (X ++ bn l (m.drop i)))) := by
  have hbc : bC = 100000 := rfl
  have hbk' : bK = 32000 := rfl
  intro q
  induction q with
  | zero =>
    intro n i st W X wc wn hi hW hM hR hn
    obtain ⟨n, rfl⟩ : ∃ j, n = j + 1 := ⟨n - 1, by omega⟩
    obtain ⟨b1, _, _, _⟩ := hb.g hM
    obtain ⟨a1, _, a3, _⟩ := ha.g hM
    obtain ⟨bs, bl⟩ := hb.szo hM
    rw [fM_added_b, if_neg (by decide), if_neg b1, bs, if_pos (by rw [i3_le (by omega) (by omega)]; omega), if_neg a1, a3, kd_o, List.drop_eq_nil_of_le (by omega)]
    have hnil : X ++ bn l ([] : List (Sx × JT d)) = X := List.append_nil X
    rw [hnil]
    exact OpO.wrap (OpO.l1 (cR := 1) (by omega) (whole_oo hM hR hbv (by omega) (by omega)))
  | succ q ih =>
    intro n i st W X wc wn hi hW hM hR hn
    obtain ⟨n, rfl⟩ : ∃ j, n = j + 1 := ⟨n - 1, by omega⟩
    obtain ⟨b1, _, _, _⟩ := hb.g hM
    obtain ⟨a1, _, a3, _⟩ := ha.g hM
    obtain ⟨bs, bl⟩ := hb.szo hM
    obtain ⟨as, al⟩ := ha.szo hM
    obtain ⟨k, nm, e1, e2, r1, s1, sl⟩ := hb.okid (n := n) hM (List.getElem?_eq_getElem (show i < m.length by omega))
    obtain ⟨p1, p2⟩ := placeM (n := n) hM ha s1 sl (by omega)
    rw [fM_added_b, if_neg (by decide), if_neg b1, bs, if_neg (by rw [i3_le (by omega) (by omega)]; omega), if_neg a1, a3, kd_o, if_neg (by decide), e2, Option.bind_some, List.drop_eq_getElem_cons (show i < m.length by omega), i3_one]
    have hbn : bn l (m[i] :: m.drop (i + 1)) = if (lu m[i].1 l).isNone = true then m[i] :: bn l (m.drop (i + 1)) else bn l (m.drop (i + 1)) := by
      unfold bn
      rw [List.filter_cons]
    rw [hbn]
    cases e : lu m[i].1 l with
    | none =>
      obtain ⟨cc, s, st', e3, m1, m2, m3, _⟩ := wait_w (n := n) hM (a := k) (b := nm) r1.lev s1.le.2.1 (by rw [List.length_append]; omega) (by omega)
      rw [p1 e, Option.bind_some, if_neg (by decide), if_pos (by decide), Option.bind_some, e1, Option.bind_some, e3, Option.bind_some, if_pos (show (none : Option (JT d)).isNone = true from rfl)]
      refine OpO.wrap (OpO.step0 (OpO.wrap ?_) m2 m3.o)
      rw [List.append_assoc] at m1
      have := ih n (i + 1) st' (W ++ [(k, nm)]) (X ++ [m[i]]) (wc + cc) (wn + s) (by omega) (by rw [List.length_append]; simp; omega) m1 (hR.snoc r1 s1 sl) (by omega)
      rw [List.append_assoc] at this
      exact this
    | some y =>
      obtain ⟨j, k', hj, _, f1, _, _⟩ := p2 y e
      rw [f1, Option.bind_some, if_pos (show (0 : Int32) ≤ i3 j by rw [show (0 : Int32) = i3 0 from rfl, i3_le (by omega) (by omega)]; omega), if_neg (show ¬ (some y).isNone = true from fun h => by cases h)]
      exact OpO.wrap (ih n (i + 1) st W X wc wn (by omega) (by omega) hM hR (by omega))
theorem addO1 {l m : List (Sx × JT d)} {a b : Nat} (ha : Rep vs cs ks (d + 1) (jo l) a) (hb : Rep vs cs ks (d + 1) (jo m) b) (hbv : vs.length + 1 ≤ bV) (hbk : ks.length + (W0.length + l.length + m.length) ≤ bK) : ∀ (q n i : Nat) (st : xS) (W : List NP) (X : List (Sx × JT d)) (wc wn : Nat), i + q = l.length → W.length + q = l.length → MS st vs cs ks (W0 ++ W) → RM vs cs ks d W X → 3100000 + q < n → OpO st wc wn 1 2 (fM_added_b n 1 (i3 i) (i3 W0.length) a b st wc wn) vs cs ks W0 (.inr (jo (X ++ ((l.drop i).map (bv (fun _ y => y) m) ++ bn l m)))) := by
  have hbc : bC = 100000 := rfl
  have hbk' : bK = 32000 := rfl
  intro q
  induction q with
  | zero =>
    intro n i st W X wc wn hi hW hM hR hn
    obtain ⟨n, rfl⟩ : ∃ j, n = j + 1 := ⟨n - 1, by omega⟩
    obtain ⟨a1, _, a3, _⟩ := ha.g hM
    obtain ⟨as, al⟩ := ha.szo hM
    rw [fM_added_b, if_pos rfl, if_neg a1, as, if_pos (by rw [i3_le (by omega) (by omega)]; omega), List.drop_eq_nil_of_le (by omega), List.map_nil, List.nil_append]
    exact OpO.wrap (addO2 ha hb hbv hbk m.length n 0 st W X wc wn (by omega) (by omega) hM hR (by omega))
  | succ q ih =>
    intro n i st W X wc wn hi hW hM hR hn
    obtain ⟨n, rfl⟩ : ∃ j, n = j + 1 := ⟨n - 1, by omega⟩
    obtain ⟨a1, _, a3, _⟩ := ha.g hM
    obtain ⟨b1, b2, _, _⟩ := hb.g hM
    obtain ⟨as, al⟩ := ha.szo hM
    obtain ⟨bs, bl⟩ := hb.szo hM
    obtain ⟨k, nm, e1, e2, r1, s1, sl⟩ := ha.okid (n := n) hM (List.getElem?_eq_getElem (show i < l.length by omega))
    obtain ⟨p1, p2⟩ := placeM (n := n) hM hb s1 sl (by omega)
    rw [fM_added_b, if_pos rfl, if_neg a1, as, if_neg (by rw [i3_le (by omega) (by omega)]; omega), a3, kd_o, if_pos (by decide), e2, Option.bind_some, List.drop_eq_getElem_cons (show i < l.length by omega), i3_one, List.map_cons]
    have body : ∀ (x : JT d) (kx : Nat), Rep vs cs ks d x kx → bv (fun _ y => y) m l[i] = (l[i].1, x) → OpO st wc wn 1 2 ((fM_wait n st nm kx).bind fun o14 => (if (xct st) < b then none else xmo (fun a => a.2.1) (fun a => a.2.2.1) (wc + o14.1) (wn + o14.2.1) (fM_added_b n 1 (i3 (i + 1)) (i3 W0.length) a b o14.2.2 (wc + o14.1) (wn + o14.2.1)))) vs cs ks W0 (.inr (jo (X ++ (bv (fun _ y => y) m l[i] :: (l.drop (i + 1)).map (bv (fun _ y => y) m) ++ bn l m)))) := by
      intro x kx hx hbv'
      obtain ⟨cc, s, st', e3, m1, m2, m3, _⟩ := wait_w (n := n) hM (a := kx) (b := nm) hx.lev s1.le.2.1 (by rw [List.length_append]; omega) (by omega)
      rw [e3, Option.bind_some, if_neg b2, hbv']
      refine OpO.step0 (OpO.wrap ?_) m2 m3.o
      rw [List.append_assoc] at m1
      have := ih n (i + 1) st' (W ++ [(kx, nm)]) (X ++ [(l[i].1, x)]) (wc + cc) (wn + s) (by omega) (by rw [List.length_append]; simp; omega) m1 (hR.snoc hx s1 sl) (by omega)
      rw [List.append_assoc] at this
      exact this
    cases e : lu l[i].1 m with
    | none =>
      rw [p1 e, Option.bind_some, if_pos (by decide), Option.bind_some, if_neg (by decide), e1, Option.bind_some]
      exact OpO.wrap (body l[i].2 k r1 (by unfold bv; rw [e]))
    | some y =>
      obtain ⟨j, k', hj, _, f1, f2, f3⟩ := p2 y e
      rw [f1, Option.bind_some, if_pos (by decide), Option.bind_some, if_pos (show (0 : Int32) ≤ i3 j by rw [show (0 : Int32) = i3 0 from rfl, i3_le (by omega) (by omega)]; omega), f2, Option.bind_some]
      exact OpO.wrap (body y k' f3 (by unfold bv; rw [e]))
end ADD
