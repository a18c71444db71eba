section BST
variable {vs : List VR} {cs : List Nat} {ks ws : List NP} {e d : Nat} {K : List (JT d)} {st : xS}
def Rl (K : List (JT d)) (f x b : Nat) : Prop := if f = 3 then Ls K b x else Ls K x b
theorem Rl.irr {f x y : Nat} (h1 : Rl K f x y) (h2 : Rl K f y x) : False := by
  unfold Rl at *
  by_cases h : f = 3
  · rw [if_pos h] at h1 h2
    exact h1.irr h2
  · rw [if_neg h] at h1 h2
    exact h1.irr h2
theorem Rl.trans {f x y z : Nat} (hx : x < K.length) (hy : y < K.length) (hz : z < K.length) (h1 : Rl K f x y) (h2 : Rl K f y z) : Rl K f x z := by
  unfold Rl at *
  by_cases h : f = 3
  · rw [if_pos h] at h1 h2 ⊢
    exact h2.trans hz hy hx h1
  · rw [if_neg h] at h1 h2 ⊢
    exact h1.trans hx hy hz h2
theorem bstL {fu tot a b f g : Nat} {l : List (JT e)} {wc wn : Nat} (hM : MS st vs cs ks ws) (ha : Rep vs cs ks (e + 1) (ja l) a) (hb : Rep vs cs ks (d + 1) (ja K) b) (hok : ∀ x ∈ K, jok d x) (hd : d ≤ fu) (htk : tot = K.length) (htl : tot = l.length) (h2 : tot ≤ 4096) (hf : f = 3 ∨ f = 4) (hg : g < l.length) (hgl : ∀ x, x < tot → x ≠ g → Rl K f x g) : ∀ (q n i bst : Nat) (y7 : Int32), i + q = tot → bst < i → (∀ x, x < i → x ≠ bst → Rl K f x bst) → 5000001 + q < n → OpO st wc wn 1 1 (fM_sort1_b fu n 1 (i3 i) (i3 bst) (i3 tot) a b (i3 f) 0 0 y7 st wc wn) vs cs ks ws (.inr l[g]) := by
  intro q
  induction q with
  | zero =>
    intro n i bst y7 hi hbi hb2 hn
    obtain ⟨n, rfl⟩ : ∃ j, n = j + 1 := ⟨n - 1, by omega⟩
    have hbg : bst = g := Classical.byContradiction (fun hne => (hgl bst (by omega) hne).irr (hb2 g (by omega) (fun h => hne h.symm)))
    subst hbg
    obtain ⟨k, e1, r1⟩ := ha.kid (n := n) hM (List.getElem?_eq_getElem hg)
    rw [fM_sort1_b, if_pos rfl, if_pos (by rw [i3_le (by omega) (by omega)]; omega), if_pos (by rw [show (0 : Int32) = i3 0 from rfl, i3_le (by omega) (by omega)]; omega), e1, Option.bind_some]
    exact OpO.wrap (OpO.old hM r1)
  | succ q ih =>
    intro n i bst y7 hi hbi hb2 hn
    obtain ⟨n, rfl⟩ : ∃ j, n = j + 1 := ⟨n - 1, by omega⟩
    obtain ⟨k1, e1, r1⟩ := hb.kid (n := n) hM (List.getElem?_eq_getElem (show i < K.length by omega))
    obtain ⟨k2, e2, r2⟩ := hb.kid (n := n) hM (List.getElem?_eq_getElem (show bst < K.length by omega))
    obtain ⟨z, hz, _, _, z3, z4, _⟩ := (orderM (n := n) hM (by omega) d fu hd _ _ _ _ r1 r2 (hok _ (List.getElem_mem _)) (hok _ (List.getElem_mem _))).tests
    rw [← kc_lt (by omega) (by omega)] at z3 z4
    have han := kc_anti (K := K) i bst
    rw [fM_sort1_b, if_pos rfl, if_neg (by rw [i3_le (by omega) (by omega)]; omega), if_pos (by rw [show (0 : Int32) = i3 0 from rfl, i3_le (by omega) (by omega)]; omega), e1, Option.bind_some, e2, Option.bind_some, hz, Option.bind_some, if_neg (i3_nn (by omega)), i3_one]
    have keep : Rl K f i bst → OpO st wc wn 1 1 (fM_sort1_b fu n 1 (i3 (i + 1)) (i3 bst) (i3 tot) a b (i3 f) 0 0 z st wc wn) vs cs ks ws (.inr l[g]) := fun hr => ih n (i + 1) bst z (by omega) (by omega) (fun x hx hne => by
      by_cases hxi : x = i
      · rw [hxi]; exact hr
      · exact hb2 x (by omega) hne) (by omega)
    have take : Rl K f bst i → OpO st wc wn 1 1 (fM_sort1_b fu n 1 (i3 (i + 1)) (i3 i) (i3 tot) a b (i3 f) 0 0 z st wc wn) vs cs ks ws (.inr l[g]) := fun hr => ih n (i + 1) i z (by omega) (by omega) (fun x hx hne => by
      by_cases hxb : x = bst
      · rw [hxb]; exact hr
      · exact (hb2 x (by omega) hxb).trans (by omega) (by omega) (by omega) hr) (by omega)
    rcases hf with rfl | rfl
    · rw [if_pos (by decide)]
      by_cases hc : 0 ≤ kc K i bst
      · rw [if_pos (z3.mpr hc)]
        exact OpO.wrap (keep (by unfold Rl Ls; rw [if_pos rfl]; omega))
      · rw [if_neg (fun h => hc (z3.mp h))]
        exact OpO.wrap (take (by unfold Rl Ls; rw [if_pos rfl]; omega))
    · rw [if_neg (by decide)]
      by_cases hc : kc K i bst < 0
      · rw [if_pos (z4.mpr hc)]
        exact OpO.wrap (keep (by unfold Rl Ls; rw [if_neg (by decide)]; omega))
      · rw [if_neg (fun h => hc (z4.mp h))]
        exact OpO.wrap (take (by unfold Rl Ls; rw [if_neg (by decide)]; omega))
theorem bestM {fu n a b f : Nat} {l : List (JT e)} (hM : MS st vs cs ks ws) (ha : Rep vs cs ks (e + 1) (ja l) a) (hb : Rep vs cs ks (d + 1) (ja K) b) (hok : ∀ x ∈ K, jok d x) (hd : d ≤ fu) (hlen : l.length = K.length) (h2 : K.length ≤ 4096) (hf : f = 3 ∨ f = 4) (hbv : vs.length + 1 ≤ bV) (hn : 500000000 < n) : OpO st 0 0 1 1 (fM_sort1 fu n st a b (i3 f)) vs cs ks ws (.inr (match (if f = 3 then (tn K).head? else (tn K).getLast?).bind (fun t => l[t]?) with | none => jk 0 | some y => lf e y)) := by
  obtain ⟨a1, _, _, _⟩ := ha.g hM
  have hbv' : bV = 32000 := rfl
  unfold fM_sort1
  rw [if_neg a1, if_neg (show ¬ i3 f ≤ 2 by rw [show (2 : Int32) = i3 2 from rfl, i3_le (by omega) (by omega)]; omega), (ha.sza hM).1, hlen]
  by_cases h0 : K.length = 0
  · have hK : K = [] := List.length_eq_zero_iff.mp h0
    have hl0 : l = [] := List.length_eq_zero_iff.mp (by omega)
    have hres : (match (if f = 3 then (tn K).head? else (tn K).getLast?).bind (fun t => l[t]?) with | none => (jk 0 : JT (e + 1)) | some y => lf e y) = jk 0 := by
      subst hl0
      have : (if f = 3 then (tn K).head? else (tn K).getLast?).bind (fun t => ([] : List (JT e))[t]?) = none := by
        cases (if f = 3 then (tn K).head? else (tn K).getLast?) <;> rfl
      rw [this]
    rw [hres]
    obtain ⟨n, rfl⟩ : ∃ j, n = j + 1 := ⟨n - 1, by omega⟩
    rw [fM_sort1_b, if_pos rfl, if_pos (by rw [h0]; decide), if_neg (by decide)]
    exact OpO.wrap (fresh_o (k := 0) hM hbv (by omega))
  · obtain ⟨g, hg, hgr⟩ : ∃ g, (if f = 3 then (tn K).head? else (tn K).getLast?) = some g ∧ (g < K.length ∧ ∀ x, x < K.length → x ≠ g → Rl K f x g) := by
      have hne : tn K ≠ [] := fun h => by have := tn_len K; rw [h] at this; simp at this; omega
      rcases hf with rfl | rfl
      · rw [if_pos rfl]
        obtain ⟨t, T, hT⟩ := List.exists_cons_of_ne_nil hne
        have hh : (tn K).head? = some t := by rw [hT]; rfl
        obtain ⟨p1, p2⟩ := tn_head h2 hh
        exact ⟨t, hh, p1, fun x hx hx2 => by unfold Rl; rw [if_pos rfl]; exact p2 x hx hx2⟩
      · rw [if_neg (by decide)]
        have hh : (tn K).getLast? = some ((tn K).getLast hne) := List.getLast?_eq_some_getLast hne
        obtain ⟨p1, p2⟩ := tn_last h2 hh
        exact ⟨_, hh, p1, fun x hx hx2 => by unfold Rl; rw [if_neg (by decide)]; exact p2 x hx hx2⟩
    have hgl : g < l.length := by omega
    rw [hg, Option.bind_some, List.getElem?_eq_getElem hgl]
    obtain ⟨n, rfl⟩ : ∃ j, n = j + 1 := ⟨n - 1, by omega⟩
    rw [fM_sort1_b, if_pos rfl, if_neg (by rw [show (0 : Int32) = i3 0 from rfl, i3_le (by omega) (by omega)]; omega), if_neg (by decide), if_pos (by decide)]
    exact OpO.wrap (OpO.lf (bstL (wc := 0) (wn := 0) hM ha hb hok hd rfl hlen.symm h2 hf hgl hgr.2 (K.length - 1) n 1 0 (-1) (by omega) (by omega) (fun x hx hne => by omega) (by omega)))
theorem keyedM {fu n a b f : Nat} {x y : JT (e + 1)} (hf : f ≤ 4) (hM : MS st vs cs ks ws) (hH : Hs st) (ha : Arg vs cs ks (e + 1) x a) (hb : Arg vs cs ks (e + 1) y b) (hB : Bd vs cs ks ws) (hd : e ≤ fu) (hn : 500000000 < n) {l K : List (JT e)} (hx : x = ja l) (hy : y = ja K) (hlen : l.length = K.length) : OpO st 0 0 1 1 (fM_sort1 fu n st a b (i3 f)) vs cs ks ws (oKeyed f x y) := by
  subst hx hy
  obtain ⟨B1, B2, B3, B4⟩ := hB
  have hbv : bV = 32000 := rfl
  have hbk : bK = 32000 := rfl
  have hl := ha.la
  have hk := hb.la
  have hres : oKeyed f (ja l) (ja K) = (if f = 0 then .inr (ja ((byT (tn K) l).map (lf e))) else if f = 1 then .inr (ja ((grs K none (tn K)).map (fun g => (ja (byT g l) : JT (e + 1))))) else if f = 2 then .inr (ja ((byT (fsts K none (tn K)) l).map (lf e))) else if f = 3 then .inr (match ((tn K).head?).bind (fun t => l[t]?) with | none => jk 0 | some y => lf (e + 1) (lf e y)) else .inr (match ((tn K).getLast?).bind (fun t => l[t]?) with | none => jk 0 | some y => lf (e + 1) (lf e y))) := if_pos hlen
  rw [hres]
  have lfm : ∀ o : Option (JT e), lf (e + 1) (match o with | none => jk 0 | some y => lf e y) = (match o with | none => jk 0 | some y => lf (e + 1) (lf e y)) := fun o => by cases o <;> rfl
  have pre : ∀ f', f' = 1 ∨ f' = 2 → ∃ (cc s : Nat) (st' : xS), fM_sort1 fu n st a b (i3 f') = xmo (fun a => a.2.1) (fun a => a.2.2.1) (0 + cc) (0 + s) (fM_sort1_b fu n 2 (i3 0) (i3 ws.length) (i3 K.length) a b (i3 f') 0 0 0 st' (0 + cc) (0 + s)) ∧ MS st' vs cs ks ws ∧ Cost st st' cc s ∧ FrO st st' ∧ TabM st' K.length (tn K) := by
    intro f' hf'
    obtain ⟨a1, a2, _, _⟩ := ha.g hM
    obtain ⟨_, b2, _, b4⟩ := hb.g hM
    obtain ⟨cc, s, st', e1, m1, m2, m3, m4, m5, m6⟩ := rankedM hM hH hd hb.1 hb.2.1 hk hn
    refine ⟨cc, s, st', ?_, m1, m2, m3, (tn_len K).symm, fun x hx => tn_lt hx, m4, m5⟩
    unfold fM_sort1
    rw [if_neg a1, if_pos (show i3 f' ≤ 2 by rw [show (2 : Int32) = i3 2 from rfl, i3_le (by omega) (by omega)]; omega), e1, Option.bind_some, if_neg b2, (ha.1.sza hM).1, hlen, m6, hM.1.1.2.2.2]
    rfl
  obtain rfl | rfl | rfl | rfl | rfl : f = 0 ∨ f = 1 ∨ f = 2 ∨ f = 3 ∨ f = 4 := by omega
  · rw [if_pos rfl, ← lf_a]
    exact OpO.lf (sort0M hM hH ha.1 hb.1 hb.2.1 hlen hk hd (by omega) (by omega) hn)
  · rw [if_neg (by decide), if_pos rfl]
    obtain ⟨cc, s, st', e1, m1, m2, m3, m4⟩ := pre 1 (Or.inl rfl)
    rw [e1]
    refine OpO.step0 (OpO.wrap ?_) m2 m3
    exact srt1 (W0 := ws) (X := []) hb.2.1 hd rfl hlen.symm hk (by omega) K.length n 0 st' vs ks [] _ _ 0 0 0 ha.1 hb.1 (by omega) (Nat.le_refl _) (by rw [List.append_nil]; exact m1) trivial m4 (by omega) (by simp; omega) (by omega)
  · rw [if_neg (by decide), if_neg (by decide), if_pos rfl, ← lf_a]
    obtain ⟨cc, s, st', e1, m1, m2, m3, m4⟩ := pre 2 (Or.inr rfl)
    rw [e1]
    refine OpO.lf (OpO.step0 (OpO.wrap ?_) m2 m3)
    exact srt2 (W0 := ws) (X := []) ha.1 hb.1 hb.2.1 hd rfl hlen.symm hk (by omega) (by omega) K.length n 0 st' [] _ _ 0 0 0 (by omega) (Nat.le_refl _) (by rw [List.append_nil]; exact m1) trivial m4 (by omega)
  · rw [if_neg (by decide), if_neg (by decide), if_neg (by decide), if_pos rfl, ← lfm]
    have := bestM hM ha.1 hb.1 hb.2.1 hd hlen hk (Or.inl rfl) (by omega) hn
    rw [if_pos rfl] at this
    exact OpO.lf this
  · rw [if_neg (by decide), if_neg (by decide), if_neg (by decide), if_neg (by decide), ← lfm]
    have := bestM hM ha.1 hb.1 hb.2.1 hd hlen hk (Or.inr rfl) (by omega) hn
    rw [if_neg (by decide)] at this
    exact OpO.lf this
end BST
