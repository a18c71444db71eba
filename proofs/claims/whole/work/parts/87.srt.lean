section SRT
variable {cs : List Nat} {W0 : List NP} {e d : Nat}
theorem Rep.lf {vs : List VR} {cs : List Nat} {ks : List NP} : ∀ (d : Nat) (j : JT d) (c : Nat), Rep vs cs ks d j c → Rep vs cs ks (d + 1) (lf d j) c
  | 0, j, _, _ => (j0 j).elim
  | d + 1, j, c, h => by
    obtain ⟨h1, v, hv, h2, h3, h4, h5, h6⟩ := h
    refine ⟨h1, v, hv, by rw [jd_lf]; exact h2, by rw [jc_lf]; exact h3, by rw [jd_lf]; exact h4, by rw [jc_lf]; exact h5, ?_⟩
    rcases jcases j with ⟨k, rfl⟩ | ⟨z, rfl⟩ | ⟨s, rfl⟩ | ⟨l, rfl⟩ | ⟨l, rfl⟩
    · exact h6
    · exact h6
    · exact h6
    · obtain ⟨a1, a2, a3⟩ := h6
      refine ⟨a1, by rw [List.length_map]; exact a2, fun i x hx => ?_⟩
      rw [List.getElem?_map] at hx
      obtain ⟨y, hy, rfl⟩ := Option.map_eq_some_iff.mp hx
      obtain ⟨p, p1, p2⟩ := a3 i y hy
      exact ⟨p, p1, Rep.lf d y p.1 p2⟩
    · obtain ⟨a1, a2, a3⟩ := h6
      refine ⟨a1, by rw [List.length_map]; exact a2, fun i x hx => ?_⟩
      rw [List.getElem?_map] at hx
      obtain ⟨y, hy, rfl⟩ := Option.map_eq_some_iff.mp hx
      obtain ⟨p, p1, p2, p3⟩ := a3 i y hy
      exact ⟨p, p1, Rep.lf d y.2 p.1 p2, p3⟩
theorem OpO.lf {st : xS} {vs : List VR} {ks ws : List NP} {wc wn cR cL : Nat} {out : Option (Nat × Nat × Nat × Nat × xS)} {j : JT d} (h : OpO st wc wn cR cL out vs cs ks ws (.inr j)) : OpO st wc wn cR cL out vs cs ks ws (.inr (lf d j)) := by
  rcases h with ⟨c1, s1, x, st', v', k', n', g1, g2, g3, g4, g5⟩ | ⟨q, hx, c1, s1, st', g⟩
  · exact Or.inl ⟨c1, s1, x, st', v', k', n', g1, g2, g3, g4, g5.lf⟩
  · exact Or.inr ⟨q, by rw [jd_lf, jc_lf]; exact hx, c1, s1, st', g⟩
theorem whole_ax {st : xS} {vs : List VR} {ks W : List NP} {n : Nat} {l : List (JT d)} (hM : MS st vs cs ks (W0 ++ W)) (hR : RL vs cs ks d W l) (hbv : vs.length + 1 ≤ bV) (hbk : ks.length + W.length ≤ bK) (hn : 20 * bC < n) : (∃ (cc s : Nat) (st1 : xS) (v : VR), fM_whole n st 5 (i3 W0.length) = some (0, cc, s, vs.length + 1, st1) ∧ MS st1 (vs ++ [v]) cs (ks ++ W) W0 ∧ Cost st st1 cc s ∧ Fr0 st st1 ∧ Rep (vs ++ [v]) cs (ks ++ W) (d + 1) (ja l) (vs.length + 1)) ∨ ((60 < jd (d + 1) (ja l) ∨ 60000 < (jc (d + 1) (ja l)).length) ∧ ∃ (cc s : Nat) (st2 : xS), fM_whole n st 5 (i3 W0.length) = some (1, cc, s, 0, st2) ∧ CostE st st2 cc s 1 ∧ OpB st st2) := by
  obtain ⟨a1, a2, a3, a4, a5⟩ := hR.sums
  obtain ⟨cc, s, st1, st2, e, m1, m2, m3, m4, _, m6, m7, _⟩ := whole_w (k := 5) hM (by omega) a4 hbv hbk hn
  have hD : jd (d + 1) (ja l) = (W.map (fun p => vDp vs p.1)).foldl max 0 + 1 := by rw [a2, jd_a]
  have hW : (jc (d + 1) (ja l)).length = 1 + (W.map (kWt vs 5)).sum := by
    rw [a3, jc_a, lst_len, sm_flat]
    exact Nat.add_comm _ _
  by_cases h : (W.map (fun p => vDp vs p.1)).foldl max 0 < 60 ∧ 1 + (W.map (kWt vs 5)).sum ≤ 60000
  · rw [if_pos h] at e
    exact Or.inl ⟨cc, s, st1, _, e, m1, m3, m4, rep_a hR (by omega) (by omega)⟩
  · rw [if_neg h] at e
    obtain ⟨v, m2⟩ := m2
    exact Or.inr ⟨by omega, cc + 1, s + 6, st2, e, ⟨by have := m6.1; omega, by have := m6.2; omega⟩, ⟨⟨_, _, _, _, m2⟩, m7.o⟩⟩
theorem big_a {L : List (JT d)} {p : JT d} (hp : p ∈ L) (h : 60 < jd d p ∨ 60000 < (jc d p).length) : 60 < jd (d + 1) (ja L) ∨ 60000 < (jc (d + 1) (ja L)).length := by
  rcases h with h | h
  · left
    apply Classical.byContradiction
    intro hn
    have := (jd_a_le (n := 59)).mp (show jd (d + 1) (ja L) ≤ 59 + 1 by omega) p hp
    omega
  · right
    rw [jc_a, lst_len]
    obtain ⟨a, b, rfl⟩ := List.append_of_mem hp
    simp
    omega
theorem byT_c {α : Type} {l : List α} {t : Nat} {T : List Nat} {x : α} (h : l[t]? = some x) : byT (t :: T) l = x :: byT T l := by
  unfold byT
  rw [List.filterMap_cons, h]
theorem Fr0.b13 {st st' : xS} (h : Fr0 st st') : xba st' 13 = xba st 13 ∧ xln st' 13 = xln st 13 := ⟨(h.2 13 (by decide) (by decide) (by decide) (by decide) (by decide) (by decide)).2, (h.2 13 (by decide) (by decide) (by decide) (by decide) (by decide) (by decide)).1⟩
theorem srt0 {vs : List VR} {ks : List NP} {fu tot a b : Nat} {l : List (JT e)} {T : List Nat} (ha : Rep vs cs ks (e + 1) (ja l) a) (hbc : b ≤ vs.length) (htl : tot = l.length) (htt : tot = T.length) (hT : ∀ x ∈ T, x < tot) (h2 : tot ≤ 4096) (hbv : vs.length + 1 ≤ bV) (hbk : ks.length + (W0.length + tot) ≤ bK) : ∀ (q n i : Nat) (st : xS) (W : List NP) (X : List (JT e)) (wc wn : Nat) (y9 y8 y7 : Int32), i + q = tot → W.length = i → MS st vs cs ks (W0 ++ W) → RL vs cs ks e W X → seg (xba st 13) 0 (T.map i3) → tot ≤ xln st 13 → 3000000 + q < n → OpO st wc wn 1 1 (fM_sort1_b fu n 2 (i3 i) (i3 W0.length) (i3 tot) a b 0 y9 y8 y7 st wc wn) vs cs ks W0 (.inr (ja (X ++ byT (T.drop i) l))) := by
  have hbc' : bC = 100000 := rfl
  have hbk' : bK = 32000 := rfl
  intro q
  induction q with
  | zero =>
    intro n i st W X wc wn y9 y8 y7 hi hW hM hR sT hx hn
    obtain ⟨n, rfl⟩ : ∃ j, n = j + 1 := ⟨n - 1, by omega⟩
    have hnil : X ++ byT ([] : List Nat) l = X := List.append_nil X
    rw [fM_sort1_b, if_neg (by decide), if_pos rfl, if_pos (by rw [i3_le (by omega) (by omega)]; omega), List.drop_eq_nil_of_le (by omega), hnil]
    exact OpO.wrap (OpO.l1 (cR := 1) (by omega) (whole_ao hM hR hbv (by omega) (by omega)))
  | succ q ih =>
    intro n i st W X wc wn y9 y8 y7 hi hW hM hR sT hx hn
    obtain ⟨n, rfl⟩ : ∃ j, n = j + 1 := ⟨n - 1, by omega⟩
    have hti : T[i] < tot := hT _ (List.getElem_mem _)
    have hlt : l[T[i]]? = some l[T[i]] := List.getElem?_eq_getElem (by omega)
    have hix : xba st 13 i = i3 T[i] := by
      have := sT i (i3 T[i]) (by rw [List.getElem?_map, List.getElem?_eq_getElem (by omega)]; rfl)
      rw [Nat.zero_add] at this
      exact this
    obtain ⟨k, e1, r1⟩ := ha.kid (n := n) hM hlt
    obtain ⟨_, a2, _, _⟩ := ha.g hM
    have hb2 : ¬ xct st < b := by have := hM.2.2.1.1; omega
    obtain ⟨cc, s, st', e2, m1, m2, m3, _⟩ := wait_w (n := n) hM (a := k) (b := 0) r1.lev (by omega) (by rw [List.length_append]; omega) (by omega)
    rw [fM_sort1_b, if_neg (by decide), if_pos rfl, if_neg (by rw [i3_le (by omega) (by omega)]; omega), if_neg (i3_idx (by omega) (by omega)), if_pos rfl, i3_N (by omega), hix, e1, Option.bind_some, e2, Option.bind_some, if_neg a2, if_neg hb2, i3_one, List.drop_eq_getElem_cons (show i < T.length by omega), byT_c hlt]
    refine OpO.wrap (OpO.step0 (OpO.wrap ?_) m2 m3.o)
    rw [List.append_assoc] at m1
    have := ih n (i + 1) st' (W ++ [(k, 0)]) (X ++ [l[T[i]]]) (wc + cc) (wn + s) 0 0 (i3 T[i]) (by omega) (by rw [List.length_append, hW]; rfl) m1 (hR.snoc r1 (by omega)) (by rw [m3.b13.1]; exact sT) (by rw [m3.b13.2]; exact hx) (by omega)
    rw [List.append_assoc] at this
    exact this
theorem sort0M {vs : List VR} {ks ws : List NP} {st : xS} {fu n a b : Nat} {l : List (JT e)} {K : List (JT d)} (hM : MS st vs cs ks ws) (hH : Hs st) (ha : Rep vs cs ks (e + 1) (ja l) a) (hb : Rep vs cs ks (d + 1) (ja K) b) (hok : ∀ x ∈ K, jok d x) (hlen : l.length = K.length) (h2 : K.length ≤ 4096) (hd : d ≤ fu) (hbv : vs.length + 1 ≤ bV) (hbk : ks.length + (ws.length + K.length) ≤ bK) (hn : 500000000 < n) : OpO st 0 0 1 1 (fM_sort1 fu n st a b 0) vs cs ks ws (.inr (ja (byT (tn K) l))) := by
  obtain ⟨a1, a2, _, _⟩ := ha.g hM
  obtain ⟨_, b2, _, b4⟩ := hb.g hM
  obtain ⟨cc, s, st', e1, m1, m2, m3, m4, m5, m6⟩ := rankedM hM hH hd hb hok h2 hn
  unfold fM_sort1
  rw [if_neg a1, if_pos (by decide), e1, Option.bind_some, if_neg b2, (ha.sza hM).1, hlen]
  refine OpO.step0 (OpO.wrap ?_) m2 m3
  dsimp only
  rw [m6, hM.1.1.2.2.2]
  exact srt0 (W0 := ws) ha b4 hlen.symm (tn_len K).symm (fun x hx => tn_lt hx) h2 hbv hbk K.length n 0 st' [] [] _ _ 0 0 0 (by omega) rfl (by rw [List.append_nil]; exact m1) trivial m4 m5 (by omega)
end SRT
