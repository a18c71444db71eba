section SPLT
variable {st : xS} {vs : List VR} {cs : List Nat} {ks ws : List NP} {e n : Nat}
theorem piece_w (hM : MS st vs cs ks ws) {a p q : Nat} {s : Sx} (ha : isStr vs cs a s) (hpq : p ≤ q) (hqs : q ≤ s.length) (hsl : s.length ≤ 59999) (hb : vs.length + 1 ≤ bV) (hn : bV < n) : ∃ (cc k : Nat) (st' : xS) (v : VR), fM_piece n st a (i3 p) (i3 q) = some (cc, k, vs.length + 1, st') ∧ MS st' (vs ++ [v]) cs ks ws ∧ Cost st st' cc k ∧ Fr0 st st' ∧ Rep (vs ++ [v]) cs ks (e + 1) (js ((s.drop p).take (q - p))) (vs.length + 1) := by
  have ha' := ha
  obtain ⟨h1, v, hv, h4, hsz, _, _, hg⟩ := ha
  obtain ⟨cc, k, st1, e1, m1, m2, m3, m4⟩ := fresh_w hM 4 hb hn
  have e1' : fM_fresh n st 4 = some (cc, k, vs.length + 1, st1) := e1
  have hct := m1.2.2.1.1
  rw [List.length_append, List.length_singleton] at hct
  have hnew := m1.1.2.1 vs.length _ (by rw [List.getElem?_append_right (Nat.le_refl _), Nat.sub_self]; rfl)
  obtain ⟨g1, _, g3⟩ := hM.vc h1 hv
  obtain ⟨f1, f2, _⟩ := m1.vc h1 (pre_get hv)
  have hlast := set_last m1 (st' := xsP (xsP (xsP st1 2 (vs.length + 1 - 1) (i3 (v.2.1 + p))) 3 (vs.length + 1 - 1) (i3 (q - p))) 5 (vs.length + 1 - 1) (i3 (1 + (q - p)))) (v := (4, v.2.1 + p, q - p, 0, 1 + (q - p), 0)) (by
    rw [Nat.add_sub_cancel]
    obtain ⟨a0, a1, a2, a3, a4, a5⟩ := hnew
    exact ⟨a0, upd_eq, upd_eq, a3, upd_eq, a5⟩) (fun i x hi hx => by
    rw [Nat.add_sub_cancel]
    obtain ⟨a0, a1, a2, a3, a4, a5⟩ := hx
    have hne : i ≠ vs.length := by omega
    exact ⟨a0, (upd_ne hne).trans a1, (upd_ne hne).trans a2, a3, (upd_ne hne).trans a4, a5⟩) rfl rfl rfl rfl rfl
  obtain ⟨l1, l2, l3, l4⟩ := hlast
  have hlen : ((s.drop p).take (q - p)).length = q - p := by rw [List.length_take, List.length_drop]; omega
  refine ⟨cc, k, _, _, ?_, l1, ⟨m2.1, by have := m2.2; omega⟩, m3.trans l2, ?_⟩
  · unfold fM_piece
    rw [e1', Option.bind_some, if_neg (fun h => g1 (Or.inr h))]
    dsimp only
    have e5 : (1 : Int32) + i3 (q - p) = i3 (1 + (q - p)) := i3_add 1 _
    rw [if_neg f1, if_neg (by omega), upd_eq, f2.2.1, i3_add, i3_sub' hpq, e5, Nat.zero_add, Nat.zero_add]
    exact xmo_some (Nat.le_refl _) (Nat.le_refl _)
  · have := rep_s (vs := vs) (cs := cs) (ks := ks) (d := e) (s := (s.drop p).take (q - p)) (p := v.2.1 + p) (fun i x hx => by
      rw [List.getElem?_take] at hx
      split at hx
      · rw [List.getElem?_drop] at hx
        rw [Nat.add_assoc]
        exact hg _ _ hx
      · cases hx) (by omega)
    rw [hlen] at this
    exact this
theorem part_w (hM : MS st vs cs ks ws) {a p q : Nat} {s : Sx} (ha : isStr vs cs a s) (hpq : p ≤ q) (hqs : q ≤ s.length) (hsl : s.length ≤ 59999) (hb : vs.length + 1 ≤ bV) (hn : bV < n) : ∃ (cc k : Nat) (st' : xS) (v : VR), fM_part n st a (i3 p) (i3 q) = some (cc, k, vs.length + 1, st') ∧ MS st' (vs ++ [v]) cs ks ws ∧ Cost st st' cc k ∧ FrO st st' ∧ Rep (vs ++ [v]) cs ks (e + 1) (js ((s.drop p).take (q - p))) (vs.length + 1) := by
  have hM' : MS (xsI st 9 (xsi st 9 + (i3 q - i3 p))) vs cs ks ws := hM.si (by decide) (by decide) (by decide) (by decide)
  obtain ⟨cc, k, st', v, e1, m1, m2, m3, m4⟩ := piece_w (e := e) (n := n) hM' ha hpq hqs hsl hb hn
  refine ⟨cc, k, st', v, ?_, m1, ⟨m2.1, m2.2⟩, (FrO.at (k := 9) _ (by decide)).trans m3.o, m4⟩
  unfold fM_part
  rw [e1, Option.bind_some, Nat.zero_add, Nat.zero_add]
  exact xmo_some (Nat.le_refl _) (Nat.le_refl _)
theorem spl_skip (s t : Sx) : ∀ (r k b : Nat), k + r = b → b ≤ s.length → spl s t (s.length - k) k b = spl s t (s.length - b) b b := by
  intro r
  induction r with
  | zero => intro k b h hb; obtain rfl : k = b := by omega
            rfl
  | succ r ih =>
    intro k b h hb
    obtain ⟨m, hm⟩ : ∃ m, s.length - k = m + 1 := ⟨s.length - k - 1, by omega⟩
    rw [hm, spl, if_neg (fun hh => by omega)]
    have := ih (k + 1) b (by omega) hb
    rw [show s.length - (k + 1) = m by omega] at this
    exact this
theorem pf_nil (x : Sx) : pf [] x = true := by cases x <;> rfl
theorem pf_cons (x y : Nat) (t s : Sx) : pf (x :: t) (y :: s) = (decide (x = y) && pf t s) := rfl
theorem pf_short : ∀ {t x : Sx}, x.length < t.length → pf t x = false := fun {t x} h => by
  cases e : pf t x with
  | false => rfl
  | true => exact absurd (pf_len e) (by omega)
theorem splI {s t : Sx} {a b k N : Nat} {W0 : List NP} {wc wn cR cL : Nat} {y3 y4 : Int32} {R : Nat ⊕ JT (e + 2)} (hM : MS st vs cs ks ws) (ha : isStr vs cs a s) (hb : isStr vs cs b t) (hsl : s.length ≤ 59999) (ht1 : 1 ≤ t.length) (hks : k + t.length ≤ s.length) (hN : 4000000 ≤ N)
    (hS : pf t (s.drop k) = false → ∀ (n' : Nat) (y7 y6 : Int32), N ≤ n' → OpO st wc wn cR cL (fM_split_b n' 1 (i3 k + 1) y4 y3 a b y7 y6 st wc wn) vs cs ks W0 R)
    (hT : pf t (s.drop k) = true → ∀ (n' : Nat) (y7 y6 : Int32), N ≤ n' → OpO st wc wn cR cL ((fM_part n' st a y4 (i3 k)).bind fun o2 => (if (xct st) < a then none else xmo (fun a => a.2.1) (fun a => a.2.2.1) (wc + o2.1) (wn + o2.2.1) ((fM_wait n' o2.2.2.2 0 o2.2.2.1).bind fun o14 => (if (xct o2.2.2.2) < a then none else if (xct o2.2.2.2) < b then none else xmo (fun a => a.2.1) (fun a => a.2.2.1) ((wc + o2.1) + o14.1) ((wn + o2.2.1) + o14.2.1) (if b = 0 ∨ (xct o14.2.2) < b then none else fM_split_b n' 1 (i3 k + ((xpi o14.2.2 3) (b - 1))) (i3 k + ((xpi o14.2.2 3) (b - 1))) y3 a b y7 y6 o14.2.2 ((wc + o2.1) + o14.1) ((wn + o2.2.1) + o14.2.1)))))) vs cs ks W0 R) :
    ∀ (r n j : Nat), j + r = t.length → pf t (s.drop k) = pf (t.drop j) (s.drop (k + j)) → N + r + 2 ≤ n → OpO st wc wn cR cL (fM_split_b n 2 (i3 k) y4 y3 a b (i3 j) 1 st wc wn) vs cs ks W0 R := by
  obtain ⟨a1, v, av, a4, asz, _, _, ag⟩ := ha
  obtain ⟨b1, u, bu, b4, bsz, _, _, bg⟩ := hb
  obtain ⟨g1, g2, _⟩ := hM.vc a1 av
  obtain ⟨f1, f2, _⟩ := hM.vc b1 bu
  have hcc := hM.cl.2.1
  have hbc : bC = 100000 := rfl
  intro r
  induction r with
  | zero =>
    intro n j hj hp hn
    obtain ⟨n, rfl⟩ : ∃ i, n = i + 1 := ⟨n - 1, by omega⟩
    rw [List.drop_eq_nil_of_le (show t.length ≤ j by omega), pf_nil] at hp
    rw [fM_split_b, if_neg (by decide), if_neg f1, f2.2.2.1, bsz, if_pos (by rw [i3_le (by omega) (by omega)]; omega), if_neg (by rw [show (0 : Int32) = i3 0 from rfl, i3_eq (by omega) (by omega)]; omega), if_neg (by decide)]
    exact OpO.wrap (hT hp n _ _ (by omega))
  | succ r ih =>
    intro n j hj hp hn
    obtain ⟨n, rfl⟩ : ∃ i, n = i + 1 := ⟨n - 1, by omega⟩
    have hxa := ag (k + j) s[k + j] (List.getElem?_eq_getElem (by omega))
    have hxb := bg j t[j] (List.getElem?_eq_getElem (by omega))
    have la := (List.getElem?_eq_some_iff.mp hxa).1
    have lb := (List.getElem?_eq_some_iff.mp hxb).1
    obtain ⟨y1, y2⟩ := hM.1.2.2.1 _ _ hxa
    obtain ⟨z1, z2⟩ := hM.1.2.2.1 _ _ hxb
    have hln := hM.2.2.2.1.1
    rw [List.drop_eq_getElem_cons (show j < t.length by omega), List.drop_eq_getElem_cons (show k + j < s.length by omega), pf_cons] at hp
    rw [fM_split_b, if_neg (by decide), if_neg f1, f2.2.2.1, bsz, if_neg (by rw [i3_le (by omega) (by omega)]; omega), if_neg (show ¬ (1 : Int32) = 0 by decide), if_neg g1, g2.2.1, f2.2.1, i3_add, i3_add, i3_add, Nat.add_assoc, if_neg (i3_idx (by omega) (by omega)), if_neg (i3_idx (by omega) (by omega)), i3_N (by omega), i3_N (by omega), y1, z1, i3_one]
    by_cases ez : s[k + j] = t[j]
    · rw [if_pos (by rw [ez])]
      rw [decide_eq_true ez.symm, Bool.true_and] at hp
      exact OpO.wrap (ih n (j + 1) (by omega) hp (by omega))
    · rw [if_neg (by rw [i3_eq (by omega) (by omega)]; exact ez)]
      rw [decide_eq_false (fun h => ez h.symm), Bool.false_and] at hp
      obtain ⟨n, rfl⟩ : ∃ i, n = i + 1 := ⟨n - 1, by omega⟩
      rw [fM_split_b, if_neg (by decide), if_neg f1, f2.2.2.1, bsz, if_neg (show ¬ i3 t.length = 0 by rw [show (0 : Int32) = i3 0 from rfl, i3_eq (by omega) (by omega)]; omega), if_pos rfl, if_pos rfl, ite_self]
      exact OpO.wrap (OpO.wrap (hS hp n _ _ (by omega)))
theorem RL.mo {vs vs' : List VR} {cs : List Nat} {ks ks' : List NP} {d : Nat} {W : List NP} {l : List (JT d)} (h : RL vs cs ks d W l) : RL (vs ++ vs') cs (ks ++ ks') d W l := by
  have := h.mono (vs' := vs') (cs' := []) (ks' := ks')
  rw [List.append_nil] at this
  exact this
theorem RL.mv {vs vs' : List VR} {cs : List Nat} {ks : List NP} {d : Nat} {W : List NP} {l : List (JT d)} (h : RL vs cs ks d W l) : RL (vs ++ vs') cs ks d W l := by
  have := h.mono (vs' := vs') (cs' := []) (ks' := [])
  rw [List.append_nil, List.append_nil] at this
  exact this
theorem Rep.mv {vs vs' : List VR} {cs : List Nat} {ks : List NP} {d : Nat} {j : JT d} {c : Nat} (h : Rep vs cs ks d j c) : Rep (vs ++ vs') cs ks d j c := by
  have := h.mono (vs' := vs') (cs' := []) (ks' := [])
  rw [List.append_nil, List.append_nil] at this
  exact this
theorem OpO.stepv {st st1 : xS} {vs : List VR} {cs : List Nat} {ks ws : List NP} {d : Nat} {wc wn cc s cR cL : Nat} {out : Option (Nat × Nat × Nat × Nat × xS)} {res : Nat ⊕ JT d} {a : List VR} (h : OpO st1 (wc + cc) (wn + s) cR cL out (vs ++ a) cs ks ws res) (hc : Cost st st1 cc s) (hf : FrO st st1) : OpO st wc wn cR cL out vs cs ks ws res := by
  refine OpO.step (a := a) (b := []) (c := []) ?_ hc hf
  rw [List.append_nil, List.append_nil]
  exact h
theorem splE {a b : Nat} {s : Sx} {W0 : List NP} (hsl : s.length ≤ 59999) : ∀ (q n k : Nat) (st : xS) (vs : List VR) (W : List NP) (X : List (JT (e + 1))) (wc wn : Nat) (y4 y7 y6 : Int32), k + q = s.length → isStr vs cs a s → isStr vs cs b [] → MS st vs cs ks (W0 ++ W) → RL vs cs ks (e + 1) W X → vs.length + q + 1 ≤ bV → W0.length + W.length + q ≤ bK → ks.length + W.length + q ≤ bK → 3000000 + 2 * q < n → OpO st wc wn 1 1 (fM_split_b n 1 (i3 k) y4 (i3 W0.length) a b y7 y6 st wc wn) vs cs ks W0 (.inr (ja (X ++ (s.drop k).map (fun c => (js [c] : JT (e + 1)))))) := by
  have hbc : bC = 100000 := rfl
  have hbk' : bK = 32000 := rfl
  have hbv' : bV = 32000 := rfl
  intro q
  induction q with
  | zero =>
    intro n k st vs W X wc wn y4 y7 y6 hk ha hb hM hR hbv hbw hbk hn
    obtain ⟨n, rfl⟩ : ∃ i, n = i + 1 := ⟨n - 1, by omega⟩
    obtain ⟨a1, v, av, a4, asz, _, _, ag⟩ := ha
    obtain ⟨b1, u, bu, b4, bsz, _, _, bg⟩ := hb
    obtain ⟨g1, g2, _⟩ := hM.vc a1 av
    obtain ⟨f1, f2, _⟩ := hM.vc b1 bu
    rw [fM_split_b, if_pos rfl, if_neg g1, g2.2.2.1, asz, if_pos (by rw [i3_le (by omega) (by omega)]; omega), if_neg f1, f2.2.2.1, bsz, if_pos (by decide), List.drop_eq_nil_of_le (by omega), List.map_nil, List.append_nil]
    exact OpO.wrap (OpO.l1 (cR := 1) (by omega) (whole_ao hM hR (by omega) (by omega) (by omega)))
  | succ q ih =>
    intro n k st vs W X wc wn y4 y7 y6 hk ha hb hM hR hbv hbw hbk hn
    obtain ⟨n, rfl⟩ : ∃ i, n = i + 2 := ⟨n - 2, by omega⟩
    obtain ⟨c1, s1, st1, v1, e1, m1, m2, m3, m4⟩ := part_w (e := e) (n := n) hM ha (p := k) (q := k + 1) (by omega) (by omega) hsl (by omega) (by omega)
    obtain ⟨c2, s2, st2, e2, n1, n2, n3, _⟩ := wait_w (n := n) m1 (a := vs.length + 1) (b := 0) (by rw [List.length_append]; simp) (by omega) (by rw [List.length_append]; omega) (by omega)
    have ha' := ha
    have hb' := hb
    obtain ⟨a1, v, av, a4, asz, _, _, ag⟩ := ha
    obtain ⟨b1, u, bu, b4, bsz, _, _, bg⟩ := hb
    obtain ⟨g1, g2, _⟩ := hM.vc a1 av
    obtain ⟨f1, f2, _⟩ := hM.vc b1 bu
    have g3 := (m1.vc a1 (pre_get av)).1
    have f3 := (m1.vc b1 (pre_get bu)).1
    rw [fM_split_b, if_pos rfl, if_neg g1, g2.2.2.1, asz, if_neg (by rw [i3_le (by omega) (by omega)]; omega), if_neg f1, f2.2.2.1, bsz, if_pos (by decide), fM_split_b, if_neg (by decide), if_neg f1, f2.2.2.1, bsz, if_pos (by decide), if_pos (by decide), i3_one, e1, Option.bind_some, if_neg (fun h => g1 (Or.inr h))]
    dsimp only
    rw [e2, Option.bind_some, if_neg (fun h => g3 (Or.inr h)), if_neg (fun h => f3 (Or.inr h))]
    dsimp only
    refine OpO.wrap (OpO.wrap (OpO.stepv (a := [v1]) (OpO.wrap (OpO.step0 (OpO.wrap ?_) n2 n3.o)) m2 m3))
    rw [List.append_assoc] at n1
    have hpc : (s.drop k).take (k + 1 - k) = [s[k]] := by
      rw [List.drop_eq_getElem_cons (show k < s.length by omega), Nat.add_sub_cancel_left]
      rfl
    rw [hpc] at m4
    have := ih n (k + 1) st2 (vs ++ [v1]) (W ++ [(vs.length + 1, 0)]) (X ++ [js [s[k]]]) (wc + c1 + c2) (wn + s1 + s2) y4 0 0 (by omega) ha'.mo hb'.mo n1 (hR.mv.snoc m4 (by omega)) (by rw [List.length_append]; simp; omega) (by rw [List.length_append]; simp; omega) (by rw [List.length_append]; simp; omega) (by omega)
    rw [List.append_assoc] at this
    rw [List.drop_eq_getElem_cons (show k < s.length by omega), List.map_cons]
    exact this
theorem splO {a b : Nat} {s t : Sx} {W0 : List NP} (hsl : s.length ≤ 4095) (htl : t.length ≤ 4095) (ht1 : 1 ≤ t.length) (hs1 : 1 ≤ s.length) : ∀ (q n k bg : Nat) (st : xS) (vs : List VR) (W : List NP) (X : List (JT (e + 1))) (wc wn : Nat) (y7 y6 : Int32), k + q = s.length → bg ≤ k → isStr vs cs a s → isStr vs cs b t → MS st vs cs ks (W0 ++ W) → RL vs cs ks (e + 1) W X → vs.length + q + 2 ≤ bV → W0.length + W.length + q + 1 ≤ bK → ks.length + W.length + q + 1 ≤ bK → 4000000 + 5000 * q < n → OpO st wc wn 1 1 (fM_split_b n 1 (i3 k) (i3 bg) (i3 W0.length) a b y7 y6 st wc wn) vs cs ks W0 (.inr (ja (X ++ (spl s t q k bg).map (fun x => (js x : JT (e + 1)))))) := by
  have hbc : bC = 100000 := rfl
  have hbk' : bK = 32000 := rfl
  have hbv' : bV = 32000 := rfl
  intro q
  induction q using Nat.strongRecOn with
  | ind q ih =>
    intro n k bg st vs W X wc wn y7 y6 hk hbg ha hb hM hR hbv hbw hbk hn
    obtain ⟨n, rfl⟩ : ∃ i, n = i + 1 := ⟨n - 1, by omega⟩
    have ha' := ha
    have hb' := hb
    obtain ⟨a1, v, av, a4, asz, _, _, ag⟩ := ha
    obtain ⟨b1, u, bu, b4, bsz, _, _, bgg⟩ := hb
    obtain ⟨g1, g2, _⟩ := hM.vc a1 av
    obtain ⟨f1, f2, _⟩ := hM.vc b1 bu
    cases q with
    | zero =>
      obtain ⟨c1, s1, st1, v1, e1, m1, m2, m3, m4⟩ := part_w (e := e) (n := n) hM ha' (p := bg) (q := s.length) (by omega) (by omega) (by omega) (by omega) (by omega)
      obtain ⟨c2, s2, st2, e2, n1, n2, n3, _⟩ := wait_w (n := n) m1 (a := vs.length + 1) (b := 0) (by rw [List.length_append]; simp) (by omega) (by rw [List.length_append]; omega) (by omega)
      rw [fM_split_b, if_pos rfl, if_neg g1, g2.2.2.1, asz, if_pos (by rw [i3_le (by omega) (by omega)]; omega), if_neg f1, f2.2.2.1, bsz, if_neg (by rw [show (0 : Int32) = i3 0 from rfl, i3_le (by omega) (by omega)]; omega), if_neg (by rw [show (0 : Int32) = i3 0 from rfl, i3_le (by omega) (by omega)]; omega), e1, Option.bind_some]
      dsimp only
      rw [e2, Option.bind_some]
      dsimp only
      have hpc : (s.drop bg).take (s.length - bg) = s.drop bg := List.take_of_length_le (by rw [List.length_drop]; omega)
      rw [hpc] at m4
      rw [List.append_assoc] at n1
      refine OpO.wrap (OpO.stepv (a := [v1]) (OpO.wrap (OpO.step0 (OpO.wrap (OpO.l1 (cR := 1) (by omega) ?_)) n2 n3.o)) m2 m3)
      exact whole_ao n1 (hR.mv.snoc m4 (by omega)) (by rw [List.length_append]; simp; omega) (by rw [List.length_append]; simp; omega) (by omega)
    | succ q =>
      rw [fM_split_b, if_pos rfl, if_neg g1, g2.2.2.1, asz, if_neg (by rw [i3_le (by omega) (by omega)]; omega), if_neg f1, f2.2.2.1, bsz, if_neg (by rw [show (0 : Int32) = i3 0 from rfl, i3_le (by omega) (by omega)]; omega), i3_add]
      unfold spl
      have hno : pf t (s.drop k) = false → ∀ (n' : Nat) (y7 y6 : Int32), 4000001 + 5000 * q ≤ n' → OpO st wc wn 1 1 (fM_split_b n' 1 (i3 k + 1) (i3 bg) (i3 W0.length) a b y7 y6 st wc wn) vs cs ks W0 (.inr (ja (X ++ (if bg ≤ k ∧ pf t (s.drop k) = true then ((s.drop bg).take (k - bg)) :: spl s t q (k + 1) (k + t.length) else spl s t q (k + 1) bg).map (fun x => (js x : JT (e + 1)))))) := by
        intro hp n' y7 y6 hn'
        rw [if_neg (fun hh => by rw [hp] at hh; exact absurd hh.2 (by decide)), i3_one]
        exact ih q (by omega) n' (k + 1) bg st vs W X wc wn y7 y6 (by omega) (by omega) ha' hb' hM hR (by omega) (by omega) (by omega) (by omega)
      by_cases hkt : s.length < k + t.length
      · have hp : pf t (s.drop k) = false := pf_short (by rw [List.length_drop]; omega)
        rw [if_pos (by rw [i3_lt (by omega) (by omega)]; exact hkt)]
        obtain ⟨n, rfl⟩ : ∃ i, n = i + 1 := ⟨n - 1, by omega⟩
        rw [fM_split_b, if_neg (by decide), if_neg f1, f2.2.2.1, bsz, if_neg (show ¬ i3 t.length = 0 by rw [show (0 : Int32) = i3 0 from rfl, i3_eq (by omega) (by omega)]; omega), if_pos rfl, if_pos rfl, ite_self]
        exact OpO.wrap (OpO.wrap (hno hp n _ _ (by omega)))
      · rw [if_neg (by rw [i3_lt (by omega) (by omega)]; exact hkt)]
        refine OpO.wrap (splI (N := 4000001 + 5000 * q) hM ha' hb' (by omega) ht1 (by omega) (by omega) hno (fun hp n' y7 y6 hn' => ?_) t.length n 0 (by omega) (by rw [List.drop_zero, Nat.add_zero]) (by omega))
        obtain ⟨c1, s1, st1, v1, e1, m1, m2, m3, m4⟩ := part_w (e := e) (n := n') hM ha' (p := bg) (q := k) (by omega) (by omega) (by omega) (by omega) (by omega)
        obtain ⟨c2, s2, st2, e2, n1, n2, n3, _⟩ := wait_w (n := n') m1 (a := vs.length + 1) (b := 0) (by rw [List.length_append]; simp) (by omega) (by rw [List.length_append]; omega) (by omega)
        have g3 := (m1.vc a1 (pre_get av)).1
        have f3 := (m1.vc b1 (pre_get bu)).1
        obtain ⟨h3, h4, _⟩ := n1.vc b1 (pre_get (m := [v1]) bu)
        rw [e1, Option.bind_some, if_neg (fun h => g1 (Or.inr h))]
        dsimp only
        rw [e2, Option.bind_some, if_neg (fun h => g3 (Or.inr h)), if_neg (fun h => f3 (Or.inr h))]
        dsimp only
        rw [if_neg h3, h4.2.2.1, bsz, i3_add]
        refine OpO.stepv (a := [v1]) (OpO.wrap (OpO.step0 (OpO.wrap ?_) n2 n3.o)) m2 m3
        rw [List.append_assoc] at n1
        have := ih (s.length - (k + t.length)) (by omega) n' (k + t.length) (k + t.length) st2 (vs ++ [v1]) (W ++ [(vs.length + 1, 0)]) (X ++ [js ((s.drop bg).take (k - bg))]) (wc + c1 + c2) (wn + s1 + s2) y7 y6 (by omega) (by omega) ha'.mo hb'.mo n1 (hR.mv.snoc m4 (by omega)) (by rw [List.length_append]; simp; omega) (by rw [List.length_append]; simp; omega) (by rw [List.length_append]; simp; omega) (by omega)
        have hsk := spl_skip s t (t.length - 1) (k + 1) (k + t.length) (by omega) (by omega)
        rw [show s.length - (k + 1) = q by omega] at hsk
        rw [List.append_assoc, ← hsk] at this
        rw [if_pos ⟨hbg, hp⟩, List.map_cons]
        exact this
theorem splitM {s t : Sx} {a b : Nat} (hM : MS st vs cs ks ws) (ha : Arg vs cs ks (e + 2) (js s) a) (hb : Arg vs cs ks (e + 2) (js t) b) (hB : Bd vs cs ks ws) (hn : 3000000000 < n) : OpO st 0 0 1 1 (fM_split n st a b) vs cs ks ws (.inr (ja ((pcs s t).map (fun x => (js x : JT (e + 1)))))) := by
  obtain ⟨B1, B2, B3, B4⟩ := hB
  have hbv : bV = 32000 := rfl
  have hbk : bK = 32000 := rfl
  have hbc : bC = 100000 := rfl
  have hsl := ha.ls
  have htl := hb.ls
  unfold fM_split pcs
  rw [hM.1.1.2.2.2]
  by_cases ht : t = []
  · subst ht
    rw [if_pos rfl]
    have := splE (e := e) (W0 := ws) (cs := cs) (ks := ks) (a := a) (b := b) (s := s) (by omega) s.length n 0 st vs [] [] 0 0 0 0 0 (by omega) (isStr_rep ha.1) (isStr_rep hb.1) (by rw [List.append_nil]; exact hM) trivial (by omega) (by simp; omega) (by simp; omega) (by omega)
    rw [List.map_map]
    exact this
  · rw [if_neg ht]
    by_cases hs : s = []
    · subst hs
      rw [if_pos rfl, List.map_nil]
      obtain ⟨n, rfl⟩ : ∃ i, n = i + 1 := ⟨n - 1, by omega⟩
      obtain ⟨g1, _, _, _⟩ := ha.g hM
      obtain ⟨f1, _, _, _⟩ := hb.g hM
      have ht0 : 0 < t.length := List.length_pos_iff.mpr ht
      rw [fM_split_b, if_pos rfl, if_neg g1, (ha.1.szs hM).1, if_pos (by decide), if_neg f1, (hb.1.szs hM).1, if_neg (by rw [show (0 : Int32) = i3 0 from rfl, i3_le (by omega) (by omega)]; omega), if_pos (by decide)]
      exact OpO.wrap (OpO.l1 (cR := 1) (by omega) (whole_ao (W := []) (l := []) (by rw [List.append_nil]; exact hM) trivial (by omega) (by simp; omega) (by omega)))
    · rw [if_neg hs]
      have ht0 : 0 < t.length := List.length_pos_iff.mpr ht
      have hs0 : 0 < s.length := List.length_pos_iff.mpr hs
      exact splO (e := e) (W0 := ws) (cs := cs) (ks := ks) (a := a) (b := b) (s := s) (t := t) hsl htl ht0 hs0 s.length n 0 0 st vs [] [] 0 0 0 0 (by omega) (by omega) (isStr_rep ha.1) (isStr_rep hb.1) (by rw [List.append_nil]; exact hM) trivial (by omega) (by simp; omega) (by simp; omega) (by omega)
end SPLT
