section IND
variable {cs : List Nat} {e d : Nat} {ks W0 : List NP}
theorem emitL {st : xS} {vs : List VR} {W : List NP} {X : List (JT (d + 1))} {fu n a b g k wc wn : Nat} {y4 y3 y8 y7 : Int32} {R : Nat ⊕ JT (d + 2)} (hM : MS st vs cs ks (W0 ++ W)) (hR : RL vs cs ks (d + 1) W X) (ha : a ≤ vs.length) (hb : b ≤ vs.length) (hg : g ≤ vs.length) (hk : k ≤ 100000) (hbv : vs.length + 1 ≤ bV) (hbw : W0.length + W.length + 1 ≤ bK) (hn : 200000 < n)
    (hK : ∀ (st2 : xS) (wc' wn' : Nat), MS st2 (vs ++ [(3, 0, 0, 0, 1, ((k : Nat) : Int))]) cs ks (W0 ++ (W ++ [(vs.length + 1, 0)])) → RL (vs ++ [(3, 0, 0, 0, 1, ((k : Nat) : Int))]) cs ks (d + 1) (W ++ [(vs.length + 1, 0)]) (X ++ [jn (k : Nat)]) → OpO st2 wc' wn' 1 2 (fM_indices_b fu n 1 (i3 (k + 1)) (i3 W0.length) y4 y3 a b y8 y7 st2 wc' wn') (vs ++ [(3, 0, 0, 0, 1, ((k : Nat) : Int))]) cs ks W0 R) :
    OpO st wc wn 1 2 ((fM_number n st (i3 k).toInt64).bind fun o8 => ((if o8.1 = 0 then if (xct st) < g then none else xmo (fun a => a.2.1) (fun a => a.2.2.1) (wc + o8.2.1) (wn + o8.2.2.1) ((fM_wait n o8.2.2.2.2 0 o8.2.2.2.1).bind fun o21 => (if (xct o8.2.2.2.2) < a then none else if (xct o8.2.2.2.2) < b then none else xmo (fun a => a.2.1) (fun a => a.2.2.1) ((wc + o8.2.1) + o21.1) ((wn + o8.2.2.1) + o21.2.1) (fM_indices_b fu n 1 (i3 k + 1) (i3 W0.length) y4 y3 a b y8 y7 o21.2.2 ((wc + o8.2.1) + o21.1) ((wn + o8.2.2.1) + o21.2.1)))) else (if o8.1 = 1 then if (xct st) < g then none else xmo (fun a => a.2.1) (fun a => a.2.2.1) (wc + o8.2.1) (wn + o8.2.2.1) (some (1, (wc + o8.2.1), (wn + o8.2.2.1), 0, o8.2.2.2.2)) else none)))) vs cs ks W0 R := by
  have hbc : bC = 100000 := rfl
  have hbk : bK = 32000 := rfl
  have hbv' : bV = 32000 := rfl
  obtain ⟨c1, s1, st1, e1, m1, m2, m3, _⟩ := (numM_w (n := n) hM (z := (k : Nat)) (by omega) (by omega) (by omega) (by omega)).1 (by omega)
  obtain ⟨c2, s2, st2, e2, n1, n2, n3, _⟩ := wait_w (n := n) m1 (a := vs.length + 1) (b := 0) (by rw [List.length_append]; simp) (by omega) (by rw [List.length_append]; omega) (by omega)
  have hx0 := hM.2.2.1.1
  have hx1 := m1.2.2.1.1
  rw [List.length_append, List.length_singleton] at hx1
  rw [i3_64 (by omega), e1, Option.bind_some, if_pos rfl, if_neg (show ¬ xct st < g by omega)]
  dsimp only
  rw [e2, Option.bind_some, if_neg (show ¬ xct st1 < a by omega), if_neg (show ¬ xct st1 < b by omega), i3_one]
  dsimp only
  refine OpO.stepv (a := [(3, 0, 0, 0, 1, ((k : Nat) : Int))]) (cc := c1) (s := s1) (OpO.wrap (OpO.step0 (OpO.wrap ?_) n2 n3.o)) m2 m3.o
  rw [List.append_assoc] at n1
  exact hK st2 _ _ n1 (hR.mv.snoc rep_n (by omega))
theorem ixT {fu a b : Nat} {s t : Sx} (hsl : s.length ≤ 4095) (htl : t.length ≤ 4095) (hbw : W0.length + s.length ≤ bK) (hbk : ks.length + s.length ≤ bK) : ∀ (q n k : Nat) (st : xS) (vs : List VR) (W : List NP) (X : List (JT (d + 1))) (wc wn : Nat) (y8 y7 : Int32), isStr vs cs a s → isStr vs cs b t → k + q = s.length → W.length ≤ k → MS st vs cs ks (W0 ++ W) → RL vs cs ks (d + 1) W X → vs.length + q + 1 ≤ bV → 3000000 + q < n → OpO st wc wn 1 2 (fM_indices_b fu n 1 (i3 k) (i3 W0.length) 0 1 a b y8 y7 st wc wn) vs cs ks W0 (.inr (ja (X ++ ((List.range' k q).filter (fun k => pf t (s.drop k))).map (fun k => (jn (k : Nat) : JT (d + 1)))))) := by
  have hbc : bC = 100000 := rfl
  have hbk' : bK = 32000 := rfl
  have hbv' : bV = 32000 := rfl
  intro q
  induction q with
  | zero =>
    intro n k st vs W X wc wn y8 y7 ha hb hk hW hM hR hbv hn
    obtain ⟨n, rfl⟩ : ∃ j, n = j + 1 := ⟨n - 1, by omega⟩
    obtain ⟨g1, g2, _⟩ := ha.gsz hM
    rw [fM_indices_b, if_pos rfl, if_neg g1, g2, if_pos (by rw [i3_le (by omega) (by omega)]; omega), List.range'_zero, List.filter_nil, List.map_nil, List.append_nil]
    exact OpO.wrap (OpO.l1 (cR := 1) (by omega) (whole_ao hM hR (by omega) (by omega) (by omega)))
  | succ q ih =>
    intro n k st vs W X wc wn y8 y7 ha hb hk hW hM hR hbv hn
    obtain ⟨n, rfl⟩ : ∃ j, n = j + 1 := ⟨n - 1, by omega⟩
    obtain ⟨g1, g2, _⟩ := ha.gsz hM
    rw [fM_indices_b, if_pos rfl, if_neg g1, g2, if_neg (by rw [i3_le (by omega) (by omega)]; omega), if_neg (show ¬ (1 : Int32) = 0 by decide), begM hM ha hb (by omega) (by omega) (by omega) (by omega), Option.bind_some, if_pos (show (0 : Int32) = 0 from rfl), List.range'_succ, List.filter_cons]
    refine OpO.wrap ?_
    cases hp : pf t (s.drop k) with
    | false =>
      rw [if_pos (show (if false = true then (1 : Int32) else 0) = 0 from rfl), if_neg (show ¬ false = true by decide), i3_one]
      exact ih n (k + 1) st vs W X wc wn _ _ ha hb (by omega) (by omega) hM hR (by omega) (by omega)
    | true =>
      rw [if_neg (show ¬ (if true = true then (1 : Int32) else 0) = 0 by decide), if_pos (show true = true from rfl), if_pos (show true = true from rfl), List.map_cons]
      refine emitL (W := W) hM hR ha.le.2.1 hb.le.2.1 hb.le.2.1 (by omega) (by omega) (by omega) (by omega) (fun st2 wc' wn' n1 n2 => ?_)
      have := ih n (k + 1) st2 _ _ _ wc' wn' 0 1 ha.mo hb.mo (by omega) (by rw [List.length_append]; simp; omega) n1 n2 (by rw [List.length_append]; simp; omega) (by omega)
      rw [List.append_assoc] at this
      exact this
theorem ixOL {fu a b : Nat} {l : List (JT e)} {x : JT (e + 1)} (hol : ∀ y ∈ l, jok e y) (hox : jok (e + 1) x) (hfu : e + 1 ≤ fu) (hl : l.length ≤ 4096) (hbw : W0.length + l.length ≤ bK) (hbk : ks.length + l.length ≤ bK) : ∀ (q n k : Nat) (st : xS) (vs : List VR) (W : List NP) (X : List (JT (d + 1))) (wc wn : Nat) (y8 y7 : Int32), Rep vs cs ks (e + 1) (ja l) a → Rep vs cs ks (e + 1) x b → k + q = l.length → W.length ≤ k → MS st vs cs ks (W0 ++ W) → RL vs cs ks (d + 1) W X → vs.length + q + 1 ≤ bV → 5000000 + q < n → OpO st wc wn 1 2 (fM_indices_b fu n 1 (i3 k) (i3 W0.length) 0 0 a b y8 y7 st wc wn) vs cs ks W0 (.inr (ja (X ++ ((List.range' k q).filter (fun k => pfc [x] ((l.drop k).map (lf e)))).map (fun k => (jn (k : Nat) : JT (d + 1)))))) := by
  have hbc : bC = 100000 := rfl
  have hbk' : bK = 32000 := rfl
  have hbv' : bV = 32000 := rfl
  intro q
  induction q with
  | zero =>
    intro n k st vs W X wc wn y8 y7 ha hb hk hW hM hR hbv hn
    obtain ⟨n, rfl⟩ : ∃ j, n = j + 1 := ⟨n - 1, by omega⟩
    obtain ⟨g1, _, _, _⟩ := ha.g hM
    rw [fM_indices_b, if_pos rfl, if_neg g1, (ha.sza hM).1, if_pos (by rw [i3_le (by omega) (by omega)]; omega), List.range'_zero, List.filter_nil, List.map_nil, List.append_nil]
    exact OpO.wrap (OpO.l1 (cR := 1) (by omega) (whole_ao hM hR (by omega) (by omega) (by omega)))
  | succ q ih =>
    intro n k st vs W X wc wn y8 y7 ha hb hk hW hM hR hbv hn
    obtain ⟨n, rfl⟩ : ∃ j, n = j + 1 := ⟨n - 1, by omega⟩
    obtain ⟨g1, _, _, _⟩ := ha.g hM
    obtain ⟨c, e1, r1⟩ := ha.kid (n := n) hM (List.getElem?_eq_getElem (show k < l.length by omega))
    have hsm := same1M (n := n) hM (by omega) (e + 1) fu hfu (lf e l[k]) x c b r1.lf hb ((jok_lf e l[k]).mpr (hol _ (List.getElem_mem _))) hox
    have hpf : pfc [x] ((l.drop k).map (lf e)) = decide (jcmp (e + 1) (lf e l[k]) x = 0) := by
      rw [List.drop_eq_getElem_cons (show k < l.length by omega), List.map_cons]
      show (decide _ && true) = _
      rw [Bool.and_true]
    rw [fM_indices_b, if_pos rfl, if_neg g1, (ha.sza hM).1, if_neg (by rw [i3_le (by omega) (by omega)]; omega), if_pos rfl, if_pos rfl, e1, Option.bind_some, hsm, Option.bind_some, List.range'_succ, List.filter_cons, hpf]
    refine OpO.wrap ?_
    by_cases hz : jcmp (e + 1) (lf e l[k]) x = 0
    · rw [if_neg (show ¬ (if jcmp (e + 1) (lf e l[k]) x = 0 then (1 : Int32) else 0) = 0 by rw [if_pos hz]; decide), decide_eq_true hz, if_pos rfl, if_pos rfl, List.map_cons]
      refine emitL (W := W) hM hR ha.lev hb.lev hb.lev (by omega) (by omega) (by omega) (by omega) (fun st2 wc' wn' n1 n2 => ?_)
      have := ih n (k + 1) st2 _ _ _ wc' wn' 0 1 ha.mv hb.mv (by omega) (by rw [List.length_append]; simp; omega) n1 n2 (by rw [List.length_append]; simp; omega) (by omega)
      rw [List.append_assoc] at this
      exact this
    · rw [if_pos (show (if jcmp (e + 1) (lf e l[k]) x = 0 then (1 : Int32) else 0) = 0 from if_neg hz), decide_eq_false hz, if_pos rfl, if_neg (show ¬ false = true by decide), i3_one]
      exact ih n (k + 1) st vs W X wc wn _ _ ha hb (by omega) (by omega) hM hR (by omega) (by omega)
theorem pfc_short : ∀ {m l : List (JT e)}, l.length < m.length → pfc m l = false
  | [], _, h => by simp at h
  | _ :: _, [], _ => rfl
  | y :: m, x :: l, h => by
    show (decide _ && pfc m l) = false
    rw [pfc_short (by simpa using h), Bool.and_false]
theorem pfc_nil (l : List (JT e)) : pfc [] l = true := by cases l <;> rfl
theorem ixR2 {st : xS} {vs : List VR} {ws : List NP} {fu a b k N wc wn : Nat} {l m : List (JT e)} {y5 : Int32} {R : Nat ⊕ JT (d + 2)} (hM : MS st vs cs ks ws) (ha : Rep vs cs ks (e + 1) (ja l) a) (hb : Rep vs cs ks (e + 1) (ja m) b) (hol : ∀ y ∈ l, jok e y) (hom : ∀ y ∈ m, jok e y) (hfu : e ≤ fu) (hkm : k + m.length ≤ l.length) (hl : l.length ≤ 4096) (hN : 4000000 ≤ N)
    (hS : pfc m (l.drop k) = false → ∀ (n' : Nat) (y8 y7 : Int32), N ≤ n' → OpO st wc wn 1 2 (fM_indices_b fu n' 1 (i3 k + 1) y5 1 0 a b y8 y7 st wc wn) vs cs ks W0 R)
    (hT : pfc m (l.drop k) = true → ∀ (n' : Nat) (y8 y7 : Int32), N ≤ n' → OpO st wc wn 1 2 ((fM_number n' st (i3 k).toInt64).bind fun o8 => ((if o8.1 = 0 then if (xct st) < a then none else xmo (fun a => a.2.1) (fun a => a.2.2.1) (wc + o8.2.1) (wn + o8.2.2.1) ((fM_wait n' o8.2.2.2.2 0 o8.2.2.2.1).bind fun o21 => (if (xct o8.2.2.2.2) < a then none else if (xct o8.2.2.2.2) < b then none else xmo (fun a => a.2.1) (fun a => a.2.2.1) ((wc + o8.2.1) + o21.1) ((wn + o8.2.2.1) + o21.2.1) (fM_indices_b fu n' 1 (i3 k + 1) y5 1 0 a b y8 y7 o21.2.2 ((wc + o8.2.1) + o21.1) ((wn + o8.2.2.1) + o21.2.1)))) else (if o8.1 = 1 then if (xct st) < a then none else xmo (fun a => a.2.1) (fun a => a.2.2.1) (wc + o8.2.1) (wn + o8.2.2.1) (some (1, (wc + o8.2.1), (wn + o8.2.2.1), 0, o8.2.2.2.2)) else none)))) vs cs ks W0 R) :
    ∀ (r n j : Nat), j + r = m.length → pfc m (l.drop k) = pfc (m.drop j) (l.drop (k + j)) → N + r + 2 ≤ n → OpO st wc wn 1 2 (fM_indices_b fu n 2 (i3 k) y5 1 0 a b (i3 j) 1 st wc wn) vs cs ks W0 R := by
  obtain ⟨g1, _, _, _⟩ := ha.g hM
  obtain ⟨f1, _, _, _⟩ := hb.g hM
  have bs := (hb.sza hM).1
  intro r
  induction r with
  | zero =>
    intro n j hj hp hn
    obtain ⟨n, rfl⟩ : ∃ i, n = i + 1 := ⟨n - 1, by omega⟩
    rw [List.drop_eq_nil_of_le (show m.length ≤ j by omega), pfc_nil] at hp
    rw [fM_indices_b, if_neg (by decide), if_neg f1, bs, if_pos (by rw [i3_le (by omega) (by omega)]; omega), if_neg (show ¬ (1 : Int32) = 0 by decide)]
    exact OpO.wrap (hT hp n _ _ (by omega))
  | succ r ih =>
    intro n j hj hp hn
    obtain ⟨n, rfl⟩ : ∃ i, n = i + 1 := ⟨n - 1, by omega⟩
    obtain ⟨c1, e1, r1⟩ := ha.kid (n := n) hM (List.getElem?_eq_getElem (show k + j < l.length by omega))
    obtain ⟨c2, e2, r2⟩ := hb.kid (n := n) hM (List.getElem?_eq_getElem (show j < m.length by omega))
    have hsm := same1M (n := n) hM (by omega) e fu hfu _ _ _ _ r1 r2 (hol _ (List.getElem_mem _)) (hom _ (List.getElem_mem _))
    rw [List.drop_eq_getElem_cons (show j < m.length by omega), List.drop_eq_getElem_cons (show k + j < l.length by omega), show pfc (m[j] :: m.drop (j + 1)) (l[k + j] :: l.drop (k + j + 1)) = (decide (jcmp e l[k + j] m[j] = 0) && pfc (m.drop (j + 1)) (l.drop (k + j + 1))) from rfl] at hp
    rw [fM_indices_b, if_neg (by decide), if_neg f1, bs, if_neg (by rw [i3_le (by omega) (by omega)]; omega), if_neg (show ¬ (1 : Int32) = 0 by decide), i3_add, e1, Option.bind_some, e2, Option.bind_some, hsm, Option.bind_some, i3_one]
    by_cases hz : jcmp e l[k + j] m[j] = 0
    · rw [if_pos hz]
      rw [decide_eq_true hz, Bool.true_and] at hp
      exact OpO.wrap (ih n (j + 1) (by omega) hp (by omega))
    · rw [if_neg hz]
      rw [decide_eq_false hz, Bool.false_and] at hp
      obtain ⟨n, rfl⟩ : ∃ i, n = i + 1 := ⟨n - 1, by omega⟩
      rw [fM_indices_b, if_neg (by decide), if_neg f1, bs, if_pos (show (0 : Int32) = 0 from rfl), if_pos (show (0 : Int32) = 0 from rfl), ite_self]
      exact OpO.wrap (OpO.wrap (hS hp n _ _ (by omega)))
theorem ixRL {fu a b : Nat} {l m : List (JT e)} (hol : ∀ y ∈ l, jok e y) (hom : ∀ y ∈ m, jok e y) (hfu : e ≤ fu) (hl : l.length ≤ 4096) (hm : m.length ≤ 4096) (hbw : W0.length + l.length ≤ bK) (hbk : ks.length + l.length ≤ bK) : ∀ (q n k : Nat) (st : xS) (vs : List VR) (W : List NP) (X : List (JT (d + 1))) (wc wn : Nat) (y8 y7 : Int32), Rep vs cs ks (e + 1) (ja l) a → Rep vs cs ks (e + 1) (ja m) b → k + q = l.length → W.length ≤ k → MS st vs cs ks (W0 ++ W) → RL vs cs ks (d + 1) W X → vs.length + q + 1 ≤ bV → 4100000 + q * 5000 < n → OpO st wc wn 1 2 (fM_indices_b fu n 1 (i3 k) (i3 W0.length) 1 0 a b y8 y7 st wc wn) vs cs ks W0 (.inr (ja (X ++ ((List.range' k q).filter (fun k => pfc m (l.drop k))).map (fun k => (jn (k : Nat) : JT (d + 1)))))) := by
  have hbc : bC = 100000 := rfl
  have hbk' : bK = 32000 := rfl
  have hbv' : bV = 32000 := rfl
  intro q
  induction q with
  | zero =>
    intro n k st vs W X wc wn y8 y7 ha hb hk hW hM hR hbv hn
    obtain ⟨n, rfl⟩ : ∃ j, n = j + 1 := ⟨n - 1, by omega⟩
    obtain ⟨g1, _, _, _⟩ := ha.g hM
    rw [fM_indices_b, if_pos rfl, if_neg g1, (ha.sza hM).1, if_pos (by rw [i3_le (by omega) (by omega)]; omega), List.range'_zero, List.filter_nil, List.map_nil, List.append_nil]
    exact OpO.wrap (OpO.l1 (cR := 1) (by omega) (whole_ao hM hR (by omega) (by omega) (by omega)))
  | succ q ih =>
    intro n k st vs W X wc wn y8 y7 ha hb hk hW hM hR hbv hn
    have hmul : (q + 1) * 5000 = q * 5000 + 5000 := Nat.succ_mul _ _
    obtain ⟨n, rfl⟩ : ∃ j, n = j + 1 := ⟨n - 1, by omega⟩
    obtain ⟨g1, _, _, _⟩ := ha.g hM
    obtain ⟨f1, _, _, _⟩ := hb.g hM
    rw [fM_indices_b, if_pos rfl, if_neg g1, (ha.sza hM).1, if_neg (by rw [i3_le (by omega) (by omega)]; omega), if_pos (show (0 : Int32) = 0 from rfl), if_neg (show ¬ (1 : Int32) = 0 by decide), if_neg (show ¬ (1 : Int32) = 0 by decide), if_pos (show (0 : Int32) = 0 from rfl), if_neg f1, (hb.sza hM).1, i3_add, List.range'_succ, List.filter_cons]
    refine OpO.wrap ?_
    have hno : pfc m (l.drop k) = false → ∀ (n' : Nat) (y8 y7 : Int32), 4100000 + q * 5000 + 1 ≤ n' → OpO st wc wn 1 2 (fM_indices_b fu n' 1 (i3 k + 1) (i3 W0.length) 1 0 a b y8 y7 st wc wn) vs cs ks W0 (.inr (ja (X ++ (if pfc m (l.drop k) = true then k :: (List.range' (k + 1) q).filter (fun k => pfc m (l.drop k)) else (List.range' (k + 1) q).filter (fun k => pfc m (l.drop k))).map (fun k => (jn (k : Nat) : JT (d + 1)))))) := by
      intro hp n' y8 y7 hn'
      rw [if_neg (by rw [hp]; decide), i3_one]
      exact ih n' (k + 1) st vs W X wc wn y8 y7 ha hb (by omega) (by omega) hM hR (by omega) hn'
    by_cases hkt : l.length < k + m.length
    · rw [if_pos (by rw [i3_lt (by omega) (by omega)]; exact hkt)]
      exact hno (pfc_short (by rw [List.length_drop]; omega)) n _ _ (by omega)
    · rw [if_neg (by rw [i3_lt (by omega) (by omega)]; exact hkt)]
      refine ixR2 (N := 4100000 + q * 5000 + 1) hM ha hb hol hom hfu (by omega) hl (by omega) hno (fun hp n' y8 y7 hn' => ?_) m.length n 0 (by omega) (by rw [List.drop_zero, Nat.add_zero]) (by omega)
      rw [if_pos hp, List.map_cons]
      refine emitL (W := W) hM hR ha.lev hb.lev ha.lev (by omega) (by omega) (by omega) (by omega) (fun st2 wc' wn' n1 n2 => ?_)
      have := ih n' (k + 1) st2 _ _ _ wc' wn' y8 y7 ha.mv hb.mv (by omega) (by rw [List.length_append]; simp; omega) n1 n2 (by rw [List.length_append]; simp; omega) hn'
      rw [List.append_assoc] at this
      exact this
end IND
