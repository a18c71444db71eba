section ONA
variable {cs : List Nat} {W0 : List NP} {e d : Nat}
theorem array_s {st : xS} {n c : Nat} (g : ¬ (c = 0 ∨ xct st < c)) (h : xpi st 0 (c - 1) = 5) : fM_array n st c = some (0, 0, 0, c, st) := by
  unfold fM_array
  rw [if_neg g, if_pos h]
theorem array_f {st : xS} {n c : Nat} (g : ¬ (c = 0 ∨ xct st < c)) (h : ¬ xpi st 0 (c - 1) = 5) : fM_array n st c = some (1, 1, 6, 0, xsI st 8 1) := by
  unfold fM_array fM_refuse
  rw [if_neg g, if_neg h, Option.bind_some, if_pos rfl]
  exact xmo_some (Nat.le_refl _) (Nat.le_refl _)
theorem text_s {st : xS} {n c : Nat} (g : ¬ (c = 0 ∨ xct st < c)) (h : xpi st 0 (c - 1) = 4) : fM_text n st c = some (0, 0, 0, c, st) := by
  unfold fM_text
  rw [if_neg g, if_pos h]
theorem text_f {st : xS} {n c : Nat} (g : ¬ (c = 0 ∨ xct st < c)) (h : ¬ xpi st 0 (c - 1) = 4) : fM_text n st c = some (1, 1, 6, 0, xsI st 8 1) := by
  unfold fM_text fM_refuse
  rw [if_neg g, if_neg h, Option.bind_some, if_pos rfl]
  exact xmo_some (Nat.le_refl _) (Nat.le_refl _)
theorem ref_o {st : xS} {vs : List VR} {ks ws : List NP} {wc wn q cL : Nat} {k : Nat} (hM : MS st vs cs ks ws) : OpO st wc wn q cL (some (q, wc + 1, wn + 6, 0, xsI st 8 (i3 k))) vs cs ks ws (.inl k : Nat ⊕ JT d) := by
  refine ⟨1, 6, xsI st 8 (i3 k), rfl, ⟨by omega, ?_⟩, ⟨⟨vs, cs, ks, ws, hM.si (by decide) (by decide) (by decide) (by decide)⟩, FrO.at _ (by decide)⟩, (up_eq : va_up st.1 8 (i3 k) 8 = i3 k)⟩
  show 6 + pt st ≤ pt st + 6 * 2
  omega
theorem OpO.xs {st : xS} {vs : List VR} {ks ws : List NP} {wc wn q cL : Nat} {k : Nat} (hM : MS st vs cs ks ws) : OpO st wc wn q cL (xmo (fun a => a.2.1) (fun a => a.2.2.1) (wc + 1) (wn + 6) (some (q, wc + 1, wn + 6, 0, xsI st 8 (i3 k)))) vs cs ks ws (.inl k : Nat ⊕ JT d) := by
  have : xmo (fun a : Nat × Nat × Nat × Nat × xS => a.2.1) (fun a => a.2.2.1) (wc + 1) (wn + 6) (some (q, wc + 1, wn + 6, 0, xsI st 8 (i3 k))) = some (q, wc + 1, wn + 6, 0, xsI st 8 (i3 k)) := xmo_some (Nat.le_refl _) (Nat.le_refl _)
  rw [this]
  exact ref_o hM
theorem OpO.t2r {st : xS} {vs : List VR} {ks ws : List NP} {wc wn q1 q2 : Nat} {X : Option (Nat × Nat × Nat × Nat × xS)} {res : Nat ⊕ JT d} (hq : 1 ≤ q1) (h : OpO st 0 0 2 1 X vs cs ks ws res) : OpO st wc wn q2 q1 (X.bind fun o => (if o.1 = 0 then xmo (fun a => a.2.1) (fun a => a.2.2.1) (wc + o.2.1) (wn + o.2.2.1) (some (0, (wc + o.2.1), (wn + o.2.2.1), o.2.2.2.1, o.2.2.2.2)) else (if o.1 = 1 then xmo (fun a => a.2.1) (fun a => a.2.2.1) (wc + o.2.1) (wn + o.2.2.1) (some (q1, (wc + o.2.1), (wn + o.2.2.1), 0, o.2.2.2.2)) else (if o.1 = 2 then xmo (fun a => a.2.1) (fun a => a.2.2.1) (wc + o.2.1) (wn + o.2.2.1) (some (q2, (wc + o.2.1), (wn + o.2.2.1), 0, o.2.2.2.2)) else none)))) vs cs ks ws res := by
  refine h.map (fun cc s c st' => ?_) (Or.inr (fun cc s st' => ?_)) (Or.inr ⟨hq, fun cc s st' => ?_⟩)
  · rw [if_pos rfl]
    exact xmo_some (Nat.le_refl _) (Nat.le_refl _)
  · rw [if_neg (show ¬ (2 : Nat) = 0 by decide), if_neg (show ¬ (2 : Nat) = 1 by decide), if_pos rfl]
    exact xmo_some (Nat.le_refl _) (Nat.le_refl _)
  · rw [if_neg (show ¬ (1 : Nat) = 0 by decide), if_pos rfl]
    exact xmo_some (Nat.le_refl _) (Nat.le_refl _)
theorem lenM {st : xS} {vs : List VR} {ks ws : List NP} {n a : Nat} {x : JT (e + 1)} (hM : MS st vs cs ks ws) (ha : Arg vs cs ks (e + 1) x a) (hB : Bd vs cs ks ws) (hn : 5000000 < n) : OpO st 0 0 1 0 (fM_length n st a) vs cs ks ws (oLen x) := by
  obtain ⟨a1, _, a3, _⟩ := ha.g hM
  have hbv : bV = 32000 := rfl
  have hB1 := hB.1
  have nr : ∀ z : Int, -9007199254740991 ≤ z ∧ z ≤ 9007199254740991 → (numR z : Nat ⊕ JT (e + 1)) = .inr (jn z) := fun z hz => if_pos hz
  unfold fM_length
  rw [if_neg a1, a3]
  rcases jcases x with ⟨k, rfl⟩ | ⟨z, rfl⟩ | ⟨s, rfl⟩ | ⟨l, rfl⟩ | ⟨l, rfl⟩
  · have h3 : k < 3 := ha.2.1
    rw [kd_k]
    obtain rfl | rfl | rfl : k = 0 ∨ k = 1 ∨ k = 2 := by omega
    · rw [if_neg (by decide), if_neg (by decide), if_pos (by decide)]
      have := OpO.r1 (wc := 0) (wn := 0) (q := 1) (cL := 0) (number_o (d := e) (n := n) (z := 0) hM (by omega) (by omega) (by omega) (by omega))
      rw [nr 0 (by omega)] at this
      exact this
    · rw [if_pos (by decide)]
      exact refuse_o (k := 1) hM
    · rw [if_neg (by decide), if_pos (by decide)]
      exact refuse_o (k := 1) hM
  · have hz : -9007199254740991 ≤ z ∧ z ≤ 9007199254740991 := ha.2.1
    rw [kd_n, if_neg (by decide), if_neg (by decide), if_neg (by decide), if_pos (by decide), ha.1.num hM, abs_cW (by omega) (by omega)]
    have := OpO.r1 (wc := 0) (wn := 0) (q := 1) (cL := 0) (number_o (d := e) (n := n) (z := (z.natAbs : Nat)) hM (by omega) (by omega) (by omega) (by omega))
    rw [nr _ (by omega)] at this
    exact this
  · have hl := ha.ls
    rw [kd_s, if_neg (by decide), if_neg (by decide), if_neg (by decide), if_neg (by decide), (ha.1.szs hM).1, i3_64 (by omega)]
    have := OpO.r1 (wc := 0) (wn := 0) (q := 1) (cL := 0) (number_o (d := e) (n := n) (z := (s.length : Nat)) hM (by omega) (by omega) (by omega) (by omega))
    rw [nr _ (by omega)] at this
    exact this
  · have hl := ha.la
    rw [kd_a, if_neg (by decide), if_neg (by decide), if_neg (by decide), if_neg (by decide), (ha.1.sza hM).1, i3_64 (by omega)]
    have := OpO.r1 (wc := 0) (wn := 0) (q := 1) (cL := 0) (number_o (d := e) (n := n) (z := (l.length : Nat)) hM (by omega) (by omega) (by omega) (by omega))
    rw [nr _ (by omega)] at this
    exact this
  · have hl := ha.lo
    rw [kd_o, if_neg (by decide), if_neg (by decide), if_neg (by decide), if_neg (by decide), (ha.1.szo hM).1, i3_64 (by omega)]
    have := OpO.r1 (wc := 0) (wn := 0) (q := 1) (cL := 0) (number_o (d := e) (n := n) (z := (l.length : Nat)) hM (by omega) (by omega) (by omega) (by omega))
    rw [nr _ (by omega)] at this
    exact this
theorem rep_st {vs : List VR} {ks : List NP} {c : Nat} {s : Sx} (h : isStr vs cs c s) (hl : s.length ≤ 59999) : Rep vs cs ks (d + 1) (js s) c := by
  obtain ⟨h1, v, hv, a1, a2, a3, a4, a5⟩ := h
  exact ⟨h1, v, hv, a3, by rw [jc_s, strc_ln]; exact a4, by rw [jd_s]; omega, by rw [jc_s, strc_ln]; omega, a1, a2, a5⟩
theorem rep_sts {vs : List VR} {ks : List NP} {c d' : Nat} {L : List Sx} (h : Rep vs cs ks (d + 2) (ja (L.map (fun s => (js s : JT (d + 1))))) c) : Rep vs cs ks (d' + 2) (ja (L.map (fun s => (js s : JT (d' + 1))))) c := by
  obtain ⟨h1, v, hv, a1, a2, a3, a4, b1, b2, b3⟩ := h
  have hj : jd (d' + 2) (ja (L.map (fun s => (js s : JT (d' + 1))))) = jd (d + 2) (ja (L.map (fun s => (js s : JT (d + 1))))) := by
    rw [jd_a, jd_a, List.map_map, List.map_map]
    rfl
  have hc : (jc (d' + 2) (ja (L.map (fun s => (js s : JT (d' + 1)))))).length = (jc (d + 2) (ja (L.map (fun s => (js s : JT (d + 1)))))).length := by
    rw [jc_a, jc_a, lst_len, lst_len, List.flatMap_map, List.flatMap_map]
    rfl
  refine ⟨h1, v, hv, by rw [hj]; exact a1, by rw [hc]; exact a2, by rw [hj]; exact a3, by rw [hc]; exact a4, b1, by rw [b2, List.length_map, List.length_map], fun i x hx => ?_⟩
  rw [List.getElem?_map] at hx
  obtain ⟨s, hs, rfl⟩ := Option.map_eq_some_iff.mp hx
  obtain ⟨p, p1, p2⟩ := b3 i (js s) (by rw [List.getElem?_map, hs]; rfl)
  refine ⟨p, p1, ?_⟩
  have h2 := isStr_rep p2
  have h3 := p2.dw.2.2.2
  rw [jc_s, strc_ln] at h3
  exact rep_st h2 (by omega)
theorem byT_mp {α β : Type} (g : α → β) (T : List Nat) (l : List α) : byT T (l.map g) = (byT T l).map g := by
  unfold byT
  induction T with
  | nil => rfl
  | cons t T ih =>
    rw [List.filterMap_cons, List.filterMap_cons, List.getElem?_map]
    cases l[t]? with
    | none => exact ih
    | some x =>
      show g x :: _ = (x :: _).map g
      rw [List.map_cons, ih]
theorem nm_le {d' : Nat} : ∀ (l : List (Sx × JT d)), (l.flatMap (fun p => jc (d' + 1) (js p.1 : JT (d' + 1)))).length ≤ (l.flatMap (fun p => strc p.1 ++ jc d p.2)).length
  | [] => Nat.le_refl _
  | p :: l => by
    rw [List.flatMap_cons, List.flatMap_cons, List.length_append, List.length_append, List.length_append, jc_s]
    have := nm_le (d' := d') l
    omega
theorem keysL {vs : List VR} {ks : List NP} {fu a : Nat} {srt' : Bool} {l : List (Sx × JT (e + 1))} (ha : Rep vs cs ks (e + 2) (jo l) a) (hl4 : (jc (e + 2) (jo l)).length ≤ 4096) (hfu : 1 ≤ fu) (hbv : vs.length + 4 ≤ bV) (hbk : ks.length + (W0.length + 2 * l.length) ≤ bK) : ∀ (q n i : Nat) (st : xS) (W : List NP) (X : List (JT (e + 1))) (wc wn : Nat), i + q = l.length → W.length = i → MS st vs cs ks (W0 ++ W) → Hs st → RL vs cs ks (e + 1) W X → X = (l.take i).map (fun p => (js p.1 : JT (e + 1))) → 600000000 + q < n → OpO st wc wn 2 1 (fM_keys_b fu n 1 (i3 i) (i3 W0.length) a (if srt' then 1 else 0) st wc wn) vs cs ks W0 (if srt' then .inr (ja ((byT (tn (l.map (fun x => (js x.1 : JT 1)))) l).map (fun p => (js p.1 : JT (e + 1))))) else .inr (ja (l.map (fun p => (js p.1 : JT (e + 1)))))) := by
  have hbc : bC = 100000 := rfl
  have hbk' : bK = 32000 := rfl
  have hbv' : bV = 32000 := rfl
  have hl1 : l.length ≤ 4096 := Nat.le_trans (Nat.le_of_succ_le (len_o l)) hl4
  intro q
  induction q with
  | zero =>
    intro n i st W X wc wn hi hW hM hH hR hX hn
    obtain ⟨n, rfl⟩ : ∃ j, n = j + 1 := ⟨n - 1, by omega⟩
    obtain ⟨a1, _, _, _⟩ := ha.g hM
    rw [List.take_of_length_le (by omega)] at hX
    subst hX
    rw [fM_keys_b, if_neg a1, (ha.szo hM).1, if_pos (by rw [i3_le (by omega) (by omega)]; omega)]
    refine OpO.wrap ?_
    rcases whole_ax (n := n) hM hR (by omega) (by omega) (by omega) with ⟨cc, s, st1, v, g1, g2, g3, g4, g5⟩ | ⟨hbig, _⟩
    · rw [g1, Option.bind_some, if_pos rfl]
      dsimp only
      cases srt' with
      | false =>
        refine OpO.step (a := [v]) (b := []) (c := W) (cc := cc) (s := s) (OpO.wrap ?_) g3 g4.o
        rw [List.append_nil]
        exact OpO.old g2 g5
      | true =>
        refine OpO.step (a := [v]) (b := []) (c := W) (cc := cc) (s := s) (OpO.wrap ?_) g3 g4.o
        rw [List.append_nil]
        have g5' : Rep (vs ++ [v]) cs (ks ++ W) (0 + 2) (ja ((l.map (fun p => p.1)).map (fun s => (js s : JT (0 + 1))))) (vs.length + 1) := rep_sts (d := e) (by rw [List.map_map]; exact g5)
        rw [List.map_map] at g5'
        have := sort0M (n := n) (fu := fu) g2 (g4.o.2.2 hH) g5 g5' (fun x hx => by
          obtain ⟨p, hp, rfl⟩ := List.mem_map.mp hx
          intro c hc
          obtain ⟨i', hi'⟩ := List.getElem?_of_mem hp
          obtain ⟨k, nm, _, _, _, s1, _⟩ := ha.okid (n := n) hM hi'
          obtain ⟨h1, v', hv', _, _, _, _, hg⟩ := s1
          obtain ⟨j', hj'⟩ := List.getElem?_of_mem hc
          exact (hM.1.2.2.1 _ _ (hg j' c hj')).2) (by rw [List.length_map, List.length_map]) (by rw [List.length_map]; exact hl1) hfu (by rw [List.length_append]; simp; omega) (by rw [List.length_append, List.length_map]; omega) (by omega)
        rw [byT_mp] at this
        show OpO _ _ _ _ _ (if (1 : Int32) = 0 then _ else _) _ _ _ _ (.inr _)
        rw [if_neg (show ¬ ((1 : Int32) = 0) by decide)]
        exact OpO.l1 (cR := 1) (by omega) this
    · exfalso
      have h1 : jd (e + 2) (ja (l.map (fun p => (js p.1 : JT (e + 1))))) ≤ 0 + 1 := jd_a_le.mpr (fun x hx => by
        obtain ⟨p, _, rfl⟩ := List.mem_map.mp hx
        rw [jd_s]
        omega)
      have h2 : (jc (e + 2) (ja (l.map (fun p => (js p.1 : JT (e + 1)))))).length ≤ (jc (e + 2) (jo l)).length := by
        rw [jc_a, jc_o, lst_len, lst_len, List.flatMap_map]
        refine Nat.succ_le_succ ?_
        exact nm_le l
      exact hbig.elim (fun h => absurd (Nat.le_trans h h1) (by decide)) (fun h => absurd (Nat.le_trans h (Nat.le_trans h2 hl4)) (by decide))
  | succ q ih =>
    intro n i st W X wc wn hi hW hM hH hR hX hn
    obtain ⟨n, rfl⟩ : ∃ j, n = j + 1 := ⟨n - 1, by omega⟩
    obtain ⟨a1, _, _, _⟩ := ha.g hM
    obtain ⟨k, nm, e1, e2, r1, s1, sl⟩ := ha.okid (n := n) hM (List.getElem?_eq_getElem (show i < l.length by omega))
    obtain ⟨cc, s, st', e3, m1, m2, m3, _⟩ := wait_w (n := n) hM (a := nm) (b := 0) s1.le.2.1 (by omega) (by rw [List.length_append]; omega) (by omega)
    rw [fM_keys_b, if_neg a1, (ha.szo hM).1, if_neg (by rw [i3_le (by omega) (by omega)]; omega), e2, Option.bind_some, e3, Option.bind_some, i3_one]
    refine OpO.wrap (OpO.step0 (OpO.wrap ?_) m2 m3.o)
    rw [List.append_assoc] at m1
    exact ih n (i + 1) st' (W ++ [(nm, 0)]) (X ++ [js l[i].1]) (wc + cc) (wn + s) (by omega) (by rw [List.length_append, hW]; rfl) m1 (m3.o.2.2 hH) (hR.snoc (rep_st s1 sl) (by omega)) (by rw [List.take_succ_eq_append_getElem (show i < l.length by omega), List.map_append, hX]; rfl) (by omega)
theorem keysB {vs0 : List VR} {ks : List NP} {fu a : Nat} {y2 : Int32} {l : List (JT e)} (hl : l.length ≤ 4096) (hbk : ks.length + (W0.length + l.length) ≤ bK) : ∀ (q n i : Nat) (st : xS) (vs : List VR) (W : List NP) (X : List (JT (d + 1))) (wc wn : Nat), Rep vs cs ks (e + 1) (ja l) a → i + q = l.length → W.length = i → MS st vs cs ks (W0 ++ W) → RL vs cs ks (d + 1) W X → vs.length + q + 1 ≤ bV → 3000000 + q < n → OpO st wc wn 2 1 (fM_keysOf_b fu n 1 (i3 i) (i3 W0.length) a y2 st wc wn) vs cs ks W0 (.inr (ja (X ++ (List.range' i q).map (fun k => (jn (k : Nat) : JT (d + 1)))))) := by
  have hbc : bC = 100000 := rfl
  have hbk' : bK = 32000 := rfl
  have hbv' : bV = 32000 := rfl
  intro q
  induction q with
  | zero =>
    intro n i st vs W X wc wn ha hi hW hM hR hbv hn
    obtain ⟨n, rfl⟩ : ∃ j, n = j + 1 := ⟨n - 1, by omega⟩
    obtain ⟨a1, a2, a3, _⟩ := ha.g hM
    rw [fM_keysOf_b, array_s a1 a3, Option.bind_some, if_pos rfl, if_neg a2]
    dsimp only
    rw [if_neg a1, (ha.sza hM).1, if_pos (by rw [i3_le (by omega) (by omega)]; omega), List.range'_zero, List.map_nil, List.append_nil]
    exact OpO.wrap (OpO.wrap (OpO.l1 (cR := 1) (by omega) (whole_ao hM hR (by omega) (by omega) (by omega))))
  | succ q ih =>
    intro n i st vs W X wc wn ha hi hW hM hR hbv hn
    obtain ⟨n, rfl⟩ : ∃ j, n = j + 1 := ⟨n - 1, by omega⟩
    obtain ⟨a1, a2, a3, _⟩ := ha.g hM
    obtain ⟨c1, s1, st1, e1, m1, m2, m3, _⟩ := (numM_w (n := n) hM (z := (i : Nat)) (by omega) (by omega) (by omega) (by omega)).1 (by omega)
    obtain ⟨c2, s2, st2, e2, n1, n2, n3, _⟩ := wait_w (n := n) m1 (a := vs.length + 1) (b := 0) (by rw [List.length_append]; simp) (by omega) (by rw [List.length_append]; omega) (by omega)
    obtain ⟨_, b2, _, _⟩ := (ha.mv (vs' := [(3, 0, 0, 0, 1, ((i : Nat) : Int))])).g m1
    rw [fM_keysOf_b, array_s a1 a3, Option.bind_some, if_pos rfl, if_neg a2]
    dsimp only
    rw [if_neg a1, (ha.sza hM).1, if_neg (by rw [i3_le (by omega) (by omega)]; omega), i3_64 (by omega), e1, Option.bind_some, if_pos rfl, if_neg a2]
    dsimp only
    rw [e2, Option.bind_some, if_neg b2, i3_one]
    dsimp only
    refine OpO.wrap (OpO.wrap (OpO.stepv (a := [(3, 0, 0, 0, 1, ((i : Nat) : Int))]) (cc := c1) (s := s1) (OpO.wrap (OpO.step0 (OpO.wrap ?_) n2 n3.o)) m2 m3.o))
    rw [List.append_assoc] at n1
    have := ih n (i + 1) st2 (vs ++ [(3, 0, 0, 0, 1, ((i : Nat) : Int))]) (W ++ [(vs.length + 1, 0)]) (X ++ [jn (i : Nat)]) (wc + c1 + c2) (wn + s1 + s2) ha.mv (by omega) (by rw [List.length_append, hW]; rfl) n1 (hR.mv.snoc rep_n (by omega)) (by rw [List.length_append]; simp; omega) (by omega)
    rw [List.append_assoc] at this
    rw [List.range'_succ, List.map_cons]
    exact this
theorem keysM {st : xS} {vs : List VR} {ks ws : List NP} {fu n a : Nat} {srt' : Bool} {x : JT (e + 2)} (hM : MS st vs cs ks ws) (hH : Hs st) (ha : Arg vs cs ks (e + 2) x a) (hB : Bd vs cs ks ws) (hfu : 1 ≤ fu) (hn : 3000000000 < n) : OpO st 0 0 2 1 (fM_keysOf fu n st a (if srt' then 1 else 0)) vs cs ks ws (if srt' then oSortK x else oKeys x) := by
  obtain ⟨B1, B2, B3, B4⟩ := hB
  have hbv : bV = 32000 := rfl
  have hbk : bK = 32000 := rfl
  obtain ⟨a1, a2, a3, _⟩ := ha.g hM
  have ka := ha.k7
  obtain ⟨_, _, x5, x6⟩ := kdc ha.2.1 _ rfl
  unfold fM_keysOf
  rw [if_neg a1]
  by_cases h6 : kd (e + 2) x = 6
  · obtain ⟨l, rfl⟩ := x6 h6
    have hl := ha.lo
    rw [a3, kd_o, if_pos (by decide)]
    unfold fM_keys
    rw [hM.1.1.2.2.2]
    have := keysL (W0 := ws) (srt' := srt') (fu := fu) ha.1 ha.2.2.2.2 hfu (by omega) (by omega) l.length n 0 st [] [] 0 0 (by omega) rfl (by rw [List.append_nil]; exact hM) hH trivial rfl (by omega)
    cases srt' with
    | false => exact OpO.l1 (cR := 2) (cR' := 2) (by omega) this
    | true => exact OpO.l1 (cR := 2) (cR' := 2) (by omega) this
  · rw [if_neg (by rw [a3]; exact fun h => h6 ((ke (c := 6) ka (by omega)).mp h)), hM.1.1.2.2.2]
    have hsame : oSortK x = oKeys x := by
      rcases jcases x with ⟨k, rfl⟩ | ⟨z, rfl⟩ | ⟨s, rfl⟩ | ⟨l, rfl⟩ | ⟨l, rfl⟩ <;> first | rfl | exact absurd rfl h6
    rw [hsame, ite_self]
    by_cases h5 : kd (e + 2) x = 5
    · obtain ⟨l, rfl⟩ := x5 h5
      have hl := ha.la
      have := keysB (W0 := ws) (vs0 := vs) (fu := fu) (y2 := if srt' = true then 1 else 0) (d := e) (cs := cs) (a := a) hl (by omega) l.length n 0 st vs [] [] 0 0 ha.1 (by omega) rfl (by rw [List.append_nil]; exact hM) trivial (by omega) (by omega)
      rw [← List.range_eq_range'] at this
      exact this
    · have hk : oKeys x = .inl 1 := by
        rcases jcases x with ⟨k, rfl⟩ | ⟨z, rfl⟩ | ⟨s, rfl⟩ | ⟨l, rfl⟩ | ⟨l, rfl⟩ <;> first | rfl | exact absurd rfl h6 | exact absurd rfl h5
      rw [hk]
      obtain ⟨n, rfl⟩ : ∃ j, n = j + 1 := ⟨n - 1, by omega⟩
      rw [fM_keysOf_b, array_f a1 (by rw [a3]; exact fun h => h5 ((ke (c := 5) ka (by omega)).mp h)), Option.bind_some, if_neg (show ¬ (1 : Nat) = 0 by decide), if_pos rfl, if_neg a2]
      exact OpO.wrap (OpO.xs (k := 1) hM)
end ONA
