section ONB
variable {cs : List Nat} {W0 : List NP} {e d : Nat}
theorem isStr.chr {st : xS} {vs : List VR} {ks ws : List NP} {a i : Nat} {s : Sx} (hM : MS st vs cs ks ws) (h : isStr vs cs a s) (hi : i < s.length) : ¬ ((xpi st 2 (a - 1) + i3 i) < 0 ∨ xln st 3 ≤ (xpi st 2 (a - 1) + i3 i).toNatClampNeg) ∧ xba st 3 (xpi st 2 (a - 1) + i3 i).toNatClampNeg = i3 s[i] ∧ s[i] < 128 := by
  obtain ⟨a1, v, av, a4, asz, _, _, ag⟩ := h
  obtain ⟨g1, g2, _⟩ := hM.vc a1 av
  have hcc := hM.cl.2.1
  have hbc : bC = 100000 := rfl
  have hx := ag i s[i] (List.getElem?_eq_getElem hi)
  have la := (List.getElem?_eq_some_iff.mp hx).1
  obtain ⟨y1, y2⟩ := hM.1.2.2.1 _ _ hx
  have hln := hM.2.2.2.1.1
  rw [g2.2.1, i3_add, i3_N (by omega)]
  exact ⟨i3_id2 (by omega) (by omega), y1, y2⟩
theorem isStr.gsz {st : xS} {vs : List VR} {ks ws : List NP} {a : Nat} {s : Sx} (hM : MS st vs cs ks ws) (h : isStr vs cs a s) : ¬ (a = 0 ∨ xct st < a) ∧ xpi st 3 (a - 1) = i3 s.length ∧ xpi st 0 (a - 1) = 4 := by
  obtain ⟨a1, v, av, a4, asz, _, _, ag⟩ := h
  obtain ⟨g1, g2, _⟩ := hM.vc a1 av
  exact ⟨g1, by rw [g2.2.2.1, asz], by rw [g2.1, a4]; rfl⟩
theorem isStr.mc {vs : List VR} {cs' : List Nat} {a : Nat} {s : Sx} (h : isStr vs cs a s) : isStr vs (cs ++ cs') a s := by
  have := h.mono (vs' := []) (cs' := cs')
  rw [List.append_nil] at this
  exact this
theorem OpO.stepc {st st1 : xS} {vs : List VR} {cs : List Nat} {ks ws : List NP} {d : Nat} {wc wn cc s cR cL : Nat} {out : Option (Nat × Nat × Nat × Nat × xS)} {res : Nat ⊕ JT d} {b : List Nat} (h : OpO st1 (wc + cc) (wn + s) cR cL out vs (cs ++ b) ks ws res) (hc : Cost st st1 cc s) (hf : FrO st st1) : OpO st wc wn cR cL out vs cs ks ws res := by
  refine OpO.step (a := []) (b := b) (c := []) ?_ hc hf
  rw [List.append_nil, List.append_nil]
  exact h
def dn (k : Nat) : Int32 := iz ((k : Int) - 1)
theorem dn_s (k : Nat) : dn (k + 1) = i3 k := by
  unfold dn
  rw [i3_iz]
  congr 1
  omega
theorem dn_m (k : Nat) : i3 k + (-1) = dn k := by
  unfold dn
  rw [i3_iz, show (-1 : Int32) = iz (-1) from rfl]
  exact (Int32.ofInt_add _ _).symm
theorem dn_0 : dn 0 < 0 := by decide
theorem dn_i {k : Nat} : i3 k - 1 = dn k := by
  unfold dn
  rw [i3_iz, show (1 : Int32) = iz 1 from rfl]
  exact (Int32.ofInt_sub _ _).symm
theorem revS {vs : List VR} {ks ws : List NP} {a : Nat} {s : Sx} (hs : isStr vs cs a s) (hsl : s.length ≤ 4095) (hbv : vs.length + 1 ≤ bV) (hbc : cs.length + s.length ≤ bC) : ∀ (k n : Nat) (st : xS) (X : List Nat) (wc wn : Nat), k ≤ s.length → X.length + k = s.length → MS st vs (cs ++ X) ks ws → 300000 + k < n → OpO st wc wn 1 2 (fM_reversed_b n 1 (dn k) (i3 cs.length) a st wc wn) vs (cs ++ X) ks ws (.inr (js (X ++ (s.take k).reverse)) : Nat ⊕ JT (d + 1)) := by
  have hbc' : bC = 100000 := rfl
  have hbv' : bV = 32000 := rfl
  intro k
  induction k with
  | zero =>
    intro n st X wc wn hk hX hM hn
    obtain ⟨n, rfl⟩ : ∃ j, n = j + 1 := ⟨n - 1, by omega⟩
    rw [fM_reversed_b, if_pos rfl, if_pos dn_0, List.take_zero, List.reverse_nil, List.append_nil]
    exact OpO.wrap (OpO.l1 (cR := 1) (by omega) (string_o hM hbv (by omega)))
  | succ k ih =>
    intro n st X wc wn hk hX hM hn
    obtain ⟨n, rfl⟩ : ∃ j, n = j + 1 := ⟨n - 1, by omega⟩
    have hs' : isStr vs (cs ++ X) a s := hs.mc
    obtain ⟨g1, _, _⟩ := hs'.gsz hM
    obtain ⟨c1, c2, c3⟩ := hs'.chr hM (i := k) (by omega)
    obtain ⟨cc, w, st', e1, m1, m2, m3, _⟩ := letter_w (n := n) hM c3 (by rw [List.length_append]; omega) (by omega)
    rw [fM_reversed_b, if_pos rfl, dn_s, if_neg (i3_nn (by omega)), if_neg g1, if_neg c1, c2, e1, Option.bind_some, dn_m]
    refine OpO.wrap (OpO.stepc (b := [s[k]]) (OpO.wrap ?_) m2 m3.o)
    rw [List.append_assoc] at m1 ⊢
    have := ih n st' (X ++ [s[k]]) (wc + cc) (wn + w) (by omega) (by rw [List.length_append]; simp; omega) m1 (by omega)
    rw [List.take_succ_eq_append_getElem (show k < s.length by omega), List.reverse_append]
    rw [List.append_assoc] at this
    exact this
theorem revA {vs : List VR} {ks : List NP} {a : Nat} {l : List (JT e)} (ha : Rep vs cs ks (e + 1) (ja l) a) (hl : l.length ≤ 4096) (hbv : vs.length + 1 ≤ bV) (hbk : ks.length + (W0.length + l.length) ≤ bK) : ∀ (k n : Nat) (st : xS) (W : List NP) (X : List (JT e)) (wc wn : Nat), k ≤ l.length → W.length + k = l.length → MS st vs cs ks (W0 ++ W) → RL vs cs ks e W X → 3000000 + k < n → OpO st wc wn 1 2 (fM_reversed_b n 2 (dn k) (i3 W0.length) a st wc wn) vs cs ks W0 (.inr (ja (X ++ (l.take k).reverse))) := by
  have hbc' : bC = 100000 := rfl
  have hbk' : bK = 32000 := rfl
  intro k
  induction k with
  | zero =>
    intro n st W X wc wn hk hW hM hR hn
    obtain ⟨n, rfl⟩ : ∃ j, n = j + 1 := ⟨n - 1, by omega⟩
    rw [fM_reversed_b, if_neg (by decide), if_pos dn_0, List.take_zero, List.reverse_nil, List.append_nil]
    exact OpO.wrap (OpO.l1 (cR := 1) (by omega) (whole_ao hM hR hbv (by omega) (by omega)))
  | succ k ih =>
    intro n st W X wc wn hk hW hM hR hn
    obtain ⟨n, rfl⟩ : ∃ j, n = j + 1 := ⟨n - 1, by omega⟩
    obtain ⟨_, a2, _, _⟩ := ha.g hM
    obtain ⟨c, e1, r1⟩ := ha.kid (n := n) hM (List.getElem?_eq_getElem (show k < l.length by omega))
    obtain ⟨cc, s, st', e2, m1, m2, m3, _⟩ := wait_w (n := n) hM (a := c) (b := 0) r1.lev (by omega) (by rw [List.length_append]; omega) (by omega)
    rw [fM_reversed_b, if_neg (by decide), dn_s, if_neg (i3_nn (by omega)), e1, Option.bind_some, e2, Option.bind_some, if_neg a2, dn_m]
    refine OpO.wrap (OpO.step0 (OpO.wrap ?_) m2 m3.o)
    rw [List.append_assoc] at m1
    have := ih n st' (W ++ [(c, 0)]) (X ++ [l[k]]) (wc + cc) (wn + s) (by omega) (by rw [List.length_append]; simp; omega) m1 (hR.snoc r1 (by omega)) (by omega)
    rw [List.take_succ_eq_append_getElem (show k < l.length by omega), List.reverse_append]
    rw [List.append_assoc] at this
    exact this
theorem revM {st : xS} {vs : List VR} {ks ws : List NP} {n a : Nat} {x : JT (e + 1)} (hM : MS st vs cs ks ws) (ha : Arg vs cs ks (e + 1) x a) (hB : Bd vs cs ks ws) (hn : 3000000000 < n) : OpO st 0 0 1 2 (fM_reversed n st a) vs cs ks ws (oRev x) := by
  obtain ⟨B1, B2, B3, B4⟩ := hB
  have hbv : bV = 32000 := rfl
  have hbk : bK = 32000 := rfl
  have hbc : bC = 100000 := rfl
  obtain ⟨a1, a2, a3, _⟩ := ha.g hM
  unfold fM_reversed
  rw [if_neg a1]
  rcases jcases x with ⟨k, rfl⟩ | ⟨z, rfl⟩ | ⟨s, rfl⟩ | ⟨l, rfl⟩ | ⟨l, rfl⟩
  · have h3 : k < 3 := ha.2.1
    rw [kd_k] at a3
    show OpO _ _ _ _ _ _ _ _ _ _ (if k = 0 then .inr (ja []) else .inl 1)
    by_cases h0 : k = 0
    · subst h0
      rw [a3, if_pos (by decide), if_pos rfl, hM.1.1.2.2.2]
      exact OpO.l1 (cR := 1) (by omega) (whole_ao (W := []) (l := []) (by rw [List.append_nil]; exact hM) trivial (by omega) (by simp; omega) (by omega))
    · rw [a3, if_neg (show ¬ i3 k = 0 from fun h => h0 ((ke (c := 0) (by omega) (by omega)).mp h)), if_neg (show ¬ i3 k = 4 from fun h => by have := (ke (k := k) (c := 4) (by omega) (by omega)).mp h; omega), if_neg h0, array_f a1 (by rw [a3]; exact fun h => by have := (ke (k := k) (c := 5) (by omega) (by omega)).mp h; omega), Option.bind_some, if_neg (show ¬ (1 : Nat) = 0 by decide), if_pos rfl]
      exact OpO.xs (k := 1) hM
  · rw [kd_n] at a3
    rw [a3, if_neg (by decide), if_neg (by decide), array_f a1 (by rw [a3]; decide), Option.bind_some, if_neg (show ¬ (1 : Nat) = 0 by decide), if_pos rfl]
    exact OpO.xs (k := 1) hM
  · rw [kd_s] at a3
    have hl := ha.ls
    rw [a3, if_neg (by decide), if_pos (by decide), (ha.1.szs hM).1, dn_i, hM.1.1.2.1]
    have := revS (d := e) (ws := ws) (ks := ks) (isStr_rep ha.1) (by omega) (by omega) (by omega) s.length n st [] 0 0 (Nat.le_refl _) (by simp) (by rw [List.append_nil]; exact hM) (by omega)
    rw [List.take_length, List.append_nil] at this
    exact this
  · rw [kd_a] at a3
    have hl := ha.la
    rw [array_s a1 (by rw [a3]; rfl), a3, if_neg (by decide), if_neg (by decide), Option.bind_some, if_pos rfl]
    dsimp only
    rw [if_neg a1, (ha.1.sza hM).1, dn_i, hM.1.1.2.2.2]
    have := revA (W0 := ws) ha.1 (by omega) (by omega) (by omega) l.length n st [] [] 0 0 (Nat.le_refl _) (by simp) (by rw [List.append_nil]; exact hM) trivial (by omega)
    rw [List.take_length] at this
    exact OpO.wrap this
  · rw [kd_o] at a3
    rw [a3, if_neg (by decide), if_neg (by decide), array_f a1 (by rw [a3]; decide), Option.bind_some, if_neg (show ¬ (1 : Nat) = 0 by decide), if_pos rfl]
    exact OpO.xs (k := 1) hM
theorem expL {ks : List NP} {a : Nat} {s : Sx} (hl : s.length ≤ 4095) (hbk : ks.length + (W0.length + s.length) ≤ bK) : ∀ (q n i : Nat) (st : xS) (vs : List VR) (W : List NP) (X : List (JT (d + 1))) (wc wn : Nat), isStr vs cs a s → i + q = s.length → W.length = i → MS st vs cs ks (W0 ++ W) → RL vs cs ks (d + 1) W X → vs.length + q + 1 ≤ bV → 3000000 + q < n → OpO st wc wn 2 1 (fM_explode_b n 1 (i3 i) (i3 W0.length) a st wc wn) vs cs ks W0 (.inr (ja (X ++ (s.drop i).map (fun c => (jn (c : Nat) : JT (d + 1)))))) := by
  have hbc : bC = 100000 := rfl
  have hbk' : bK = 32000 := rfl
  have hbv' : bV = 32000 := rfl
  intro q
  induction q with
  | zero =>
    intro n i st vs W X wc wn ha hi hW hM hR hbv hn
    obtain ⟨n, rfl⟩ : ∃ j, n = j + 1 := ⟨n - 1, by omega⟩
    obtain ⟨a1, a2, a3⟩ := ha.gsz hM
    rw [fM_explode_b, text_s a1 a3, Option.bind_some, if_pos rfl, if_neg (fun h => a1 (Or.inr h))]
    dsimp only
    rw [if_neg a1, a2, if_pos (by rw [i3_le (by omega) (by omega)]; omega), List.drop_eq_nil_of_le (by omega), List.map_nil, List.append_nil]
    exact OpO.wrap (OpO.wrap (OpO.l1 (cR := 1) (by omega) (whole_ao hM hR (by omega) (by omega) (by omega))))
  | succ q ih =>
    intro n i st vs W X wc wn ha hi hW hM hR hbv hn
    obtain ⟨n, rfl⟩ : ∃ j, n = j + 1 := ⟨n - 1, by omega⟩
    obtain ⟨a1, a2, a3⟩ := ha.gsz hM
    obtain ⟨h1, h2, h3⟩ := ha.chr hM (i := i) (by omega)
    obtain ⟨c1, s1, st1, e1, m1, m2, m3, _⟩ := (numM_w (n := n) hM (z := (s[i] : Nat)) (by omega) (by omega) (by omega) (by omega)).1 (by omega)
    obtain ⟨c2, s2, st2, e2, n1, n2, n3, _⟩ := wait_w (n := n) m1 (a := vs.length + 1) (b := 0) (by rw [List.length_append]; simp) (by omega) (by rw [List.length_append]; omega) (by omega)
    obtain ⟨b1, _, _⟩ := (ha.mo (vs' := [(3, 0, 0, 0, 1, ((s[i] : Nat) : Int))])).gsz m1
    rw [fM_explode_b, text_s a1 a3, Option.bind_some, if_pos rfl, if_neg (fun h => a1 (Or.inr h))]
    dsimp only
    rw [if_neg a1, a2, if_neg (by rw [i3_le (by omega) (by omega)]; omega), if_neg a1, if_neg h1, h2, i3_64 (by omega), e1, Option.bind_some, if_pos rfl]
    dsimp only
    rw [e2, Option.bind_some, if_neg (fun h => b1 (Or.inr h)), i3_one]
    dsimp only
    refine OpO.wrap (OpO.wrap (OpO.stepv (a := [(3, 0, 0, 0, 1, ((s[i] : Nat) : Int))]) (cc := c1) (s := s1) (OpO.wrap (OpO.step0 (OpO.wrap ?_) n2 n3.o)) m2 m3.o))
    rw [List.append_assoc] at n1
    have := ih n (i + 1) st2 (vs ++ [(3, 0, 0, 0, 1, ((s[i] : Nat) : Int))]) (W ++ [(vs.length + 1, 0)]) (X ++ [jn (s[i] : Nat)]) (wc + c1 + c2) (wn + s1 + s2) ha.mo (by omega) (by rw [List.length_append, hW]; rfl) n1 (hR.mv.snoc rep_n (by omega)) (by rw [List.length_append]; simp; omega) (by omega)
    rw [List.append_assoc] at this
    rw [List.drop_eq_getElem_cons (show i < s.length by omega), List.map_cons]
    exact this
theorem expM {st : xS} {vs : List VR} {ks ws : List NP} {n a : Nat} {x : JT (e + 2)} (hM : MS st vs cs ks ws) (ha : Arg vs cs ks (e + 2) x a) (hB : Bd vs cs ks ws) (hn : 3000000000 < n) : OpO st 0 0 2 1 (fM_explode n st a) vs cs ks ws (oExp x) := by
  obtain ⟨B1, B2, B3, B4⟩ := hB
  have hbv : bV = 32000 := rfl
  have hbk : bK = 32000 := rfl
  obtain ⟨a1, a2, a3, _⟩ := ha.g hM
  have ka := ha.k7
  obtain ⟨_, x4, _, _⟩ := kdc ha.2.1 _ rfl
  unfold fM_explode
  rw [hM.1.1.2.2.2]
  by_cases h4 : kd (e + 2) x = 4
  · obtain ⟨s, rfl⟩ := x4 h4
    have hl := ha.ls
    exact expL (W0 := ws) (d := e) (ks := ks) hl (by omega) s.length n 0 st vs [] [] 0 0 (isStr_rep ha.1) (by omega) rfl (by rw [List.append_nil]; exact hM) trivial (by omega) (by omega)
  · have hk : oExp x = .inl 1 := by
      rcases jcases x with ⟨k, rfl⟩ | ⟨z, rfl⟩ | ⟨s, rfl⟩ | ⟨l, rfl⟩ | ⟨l, rfl⟩ <;> first | rfl | exact absurd rfl h4
    rw [hk]
    obtain ⟨n, rfl⟩ : ∃ j, n = j + 1 := ⟨n - 1, by omega⟩
    rw [fM_explode_b, text_f a1 (by rw [a3]; exact fun h => h4 ((ke (c := 4) ka (by omega)).mp h)), Option.bind_some, if_neg (show ¬ (1 : Nat) = 0 by decide), if_pos rfl, if_neg a2]
    exact OpO.wrap (OpO.xs (k := 1) hM)
theorem casL {vs : List VR} {ks ws : List NP} {a : Nat} {s : Sx} {cap : Bool} (hs : isStr vs cs a s) (hsl : s.length ≤ 4095) (hbv : vs.length + 1 ≤ bV) (hbc : cs.length + s.length ≤ bC) : ∀ (q n i : Nat) (st : xS) (X : List Nat) (wc wn : Nat), i + q = s.length → X.length = i → MS st vs (cs ++ X) ks ws → 300000 + q < n → OpO st wc wn 2 1 (fM_cased_b n 1 (i3 i) (i3 cs.length) a (if cap then 1 else 0) st wc wn) vs (cs ++ X) ks ws (.inr (js (X ++ (s.drop i).map (if cap then upC else lowC))) : Nat ⊕ JT (d + 1)) := by
  have hbc' : bC = 100000 := rfl
  have hbv' : bV = 32000 := rfl
  intro q
  induction q with
  | zero =>
    intro n i st X wc wn hi hX hM hn
    obtain ⟨n, rfl⟩ : ∃ j, n = j + 1 := ⟨n - 1, by omega⟩
    have hs' : isStr vs (cs ++ X) a s := hs.mc
    obtain ⟨g1, g2, g3⟩ := hs'.gsz hM
    rw [fM_cased_b, text_s g1 g3, Option.bind_some, if_pos rfl, if_neg (fun h => g1 (Or.inr h))]
    dsimp only
    rw [if_neg g1, g2, if_pos (by rw [i3_le (by omega) (by omega)]; omega), List.drop_eq_nil_of_le (by omega), List.map_nil, List.append_nil]
    exact OpO.wrap (OpO.wrap (OpO.l1 (cR := 1) (by omega) (string_o hM hbv (by omega))))
  | succ q ih =>
    intro n i st X wc wn hi hX hM hn
    obtain ⟨n, rfl⟩ : ∃ j, n = j + 1 := ⟨n - 1, by omega⟩
    have hs' : isStr vs (cs ++ X) a s := hs.mc
    obtain ⟨g1, g2, g3⟩ := hs'.gsz hM
    obtain ⟨c1, c2, c3⟩ := hs'.chr hM (i := i) (by omega)
    have body : ∀ c' : Nat, c' < 128 → c' = (if cap then upC else lowC) s[i] → OpO st wc wn 2 1 ((fM_letter n st (i3 c')).bind fun o16 => (xmo (fun a => a.2.1) (fun a => a.2.2.1) ((wc + 0) + o16.1) ((wn + 0) + o16.2.1) (fM_cased_b n 1 (i3 (i + 1)) (i3 cs.length) a (if cap then 1 else 0) o16.2.2 ((wc + 0) + o16.1) ((wn + 0) + o16.2.1)))) vs (cs ++ X) ks ws (.inr (js (X ++ ((if cap then upC else lowC) s[i] :: (s.drop (i + 1)).map (if cap then upC else lowC)))) : Nat ⊕ JT (d + 1)) := by
      intro c' hc' he
      obtain ⟨cc, w, st', e1, m1, m2, m3, _⟩ := letter_w (n := n) hM hc' (by rw [List.length_append]; omega) (by omega)
      rw [e1, Option.bind_some]
      refine OpO.stepc (b := [c']) (OpO.wrap ?_) m2 m3.o
      rw [List.append_assoc] at m1 ⊢
      have := ih n (i + 1) st' (X ++ [c']) (wc + cc) (wn + w) (by omega) (by rw [List.length_append, hX]; rfl) m1 (by omega)
      rw [List.append_assoc] at this
      rw [← he]
      exact this
    have l65 : (i3 s[i] < 65) = (s[i] < 65) := i3_lt (b := 65) (by omega) (by omega)
    have l90 : ((90 : Int32) < i3 s[i]) = (90 < s[i]) := i3_lt (a := 90) (by omega) (by omega)
    have l97 : (i3 s[i] < 97) = (s[i] < 97) := i3_lt (b := 97) (by omega) (by omega)
    have l122 : ((122 : Int32) < i3 s[i]) = (122 < s[i]) := i3_lt (a := 122) (by omega) (by omega)
    rw [fM_cased_b, text_s g1 g3, Option.bind_some, if_pos rfl, if_neg (fun h => g1 (Or.inr h))]
    dsimp only
    rw [if_neg g1, g2, if_neg (by rw [i3_le (by omega) (by omega)]; omega), if_neg g1, if_neg c1, c2, i3_one, List.drop_eq_getElem_cons (show i < s.length by omega), List.map_cons]
    refine OpO.wrap (OpO.wrap ?_)
    cases cap with
    | false =>
      rw [if_pos (show (if false = true then (1 : Int32) else 0) = 0 from rfl), if_pos (show (if false = true then (1 : Int32) else 0) = 0 from rfl)]
      by_cases h1 : s[i] < 65
      · rw [if_pos (by rw [l65]; exact h1)]
        exact body s[i] c3 (show _ = lowC s[i] by unfold lowC; rw [if_neg (by omega)])
      · rw [if_neg (by rw [l65]; exact h1)]
        by_cases h2 : 90 < s[i]
        · rw [if_pos (by rw [l90]; exact h2)]
          exact body s[i] c3 (show _ = lowC s[i] by unfold lowC; rw [if_neg (by omega)])
        · rw [if_neg (by rw [l90]; exact h2), show (32 : Int32) = i3 32 from rfl, i3_add]
          exact body (s[i] + 32) (by omega) (show _ = lowC s[i] by unfold lowC; rw [if_pos (by omega)])
    | true =>
      rw [if_neg (show ¬ (if true = true then (1 : Int32) else 0) = 0 by decide)]
      by_cases h1 : s[i] < 97
      · rw [if_pos (by rw [l97]; exact h1)]
        exact body s[i] c3 (show _ = upC s[i] by unfold upC; rw [if_neg (by omega)])
      · rw [if_neg (by rw [l97]; exact h1)]
        by_cases h2 : 122 < s[i]
        · rw [if_pos (by rw [l122]; exact h2)]
          exact body s[i] c3 (show _ = upC s[i] by unfold upC; rw [if_neg (by omega)])
        · have hm : i3 s[i] + (-32) = i3 (s[i] - 32) := by
            rw [i3_iz, i3_iz, show (-32 : Int32) = iz (-32) from rfl]
            show Int32.ofInt _ + Int32.ofInt _ = Int32.ofInt _
            rw [← Int32.ofInt_add]
            congr 1
            omega
          rw [if_neg (by rw [l122]; exact h2), hm]
          exact body (s[i] - 32) (by omega) (show _ = upC s[i] by unfold upC; rw [if_pos (by omega)])
theorem casM {st : xS} {vs : List VR} {ks ws : List NP} {n a : Nat} {cap : Bool} {x : JT (e + 1)} (hM : MS st vs cs ks ws) (ha : Arg vs cs ks (e + 1) x a) (hB : Bd vs cs ks ws) (hn : 3000000000 < n) : OpO st 0 0 2 1 (fM_cased n st a (if cap then 1 else 0)) vs cs ks ws (oCase (if cap then upC else lowC) x) := by
  obtain ⟨B1, B2, B3, B4⟩ := hB
  have hbv : bV = 32000 := rfl
  have hbc : bC = 100000 := rfl
  obtain ⟨a1, a2, a3, _⟩ := ha.g hM
  have ka := ha.k7
  obtain ⟨_, x4, _, _⟩ := kdc ha.2.1 _ rfl
  unfold fM_cased
  rw [hM.1.1.2.1]
  by_cases h4 : kd (e + 1) x = 4
  · obtain ⟨s, rfl⟩ := x4 h4
    have hl := ha.ls
    have := casL (d := e) (ks := ks) (ws := ws) (cap := cap) (isStr_rep ha.1) hl (by omega) (by omega) s.length n 0 st [] 0 0 (by omega) rfl (by rw [List.append_nil]; exact hM) (by omega)
    rw [List.append_nil] at this
    exact this
  · have hk : oCase (if cap then upC else lowC) x = .inl 1 := by
      rcases jcases x with ⟨k, rfl⟩ | ⟨z, rfl⟩ | ⟨s, rfl⟩ | ⟨l, rfl⟩ | ⟨l, rfl⟩ <;> first | rfl | exact absurd rfl h4
    rw [hk]
    obtain ⟨n, rfl⟩ : ∃ j, n = j + 1 := ⟨n - 1, by omega⟩
    rw [fM_cased_b, text_f a1 (by rw [a3]; exact fun h => h4 ((ke (c := 4) ka (by omega)).mp h)), Option.bind_some, if_neg (show ¬ (1 : Nat) = 0 by decide), if_pos rfl, if_neg a2]
    exact OpO.wrap (OpO.xs (k := 1) hM)
end ONB
