section STO
variable {cs : List Nat} {e d : Nat} {st : xS} {vs : List VR} {ks ws : List NP}
def FrS (x : Nat) (st st' : xS) : Prop := (∀ k, (24 ≤ k ∨ k = 0) → xsi st' k = xsi st k) ∧ (∀ k, 24 ≤ k → xln st' k = xln st k) ∧ (∀ k, 24 ≤ k → k ≠ 25 → k ≠ 32 + x → xba st' k = xba st k) ∧ (∀ y, y ≠ x → xba st' 25 y = xba st 25 y) ∧ (Hs st → Hs st')
theorem FrO.s {x : Nat} {st st' : xS} (h : FrO st st') : FrS x st st' := ⟨h.1, fun k hk => (h.2.1 k hk).1, fun k hk _ _ => (h.2.1 k hk).2, fun y _ => by rw [(h.2.1 25 (by decide)).2], h.2.2⟩
theorem FrS.trans {x : Nat} {a b c : xS} (h : FrS x a b) (h' : FrS x b c) : FrS x a c := ⟨fun k hk => (h'.1 k hk).trans (h.1 k hk), fun k hk => (h'.2.1 k hk).trans (h.2.1 k hk), fun k h1 h2 h3 => (h'.2.2.1 k h1 h2 h3).trans (h.2.2.1 k h1 h2 h3), fun y hy => (h'.2.2.2.1 y hy).trans (h.2.2.2.1 y hy), fun q => h'.2.2.2.2 (h.2.2.2.2 q)⟩
theorem MS.sb {st : xS} {vs : List VR} {cs : List Nat} {ks ws : List NP} (hM : MS st vs cs ks ws) {k i : Nat} {v : Int32} (hk : 24 ≤ k) : MS (xsB st k i v) vs cs ks ws := by
  obtain ⟨⟨v1, w1, w2, w3, w4⟩, r1, r2, r3, r4, r5, r6, r7⟩ := hM
  refine ⟨⟨v1, w1, fun i c hc => ?_, w3, w4⟩, r1, r2, r3, r4, r5, r6, r7⟩
  rw [xsB_oth (by omega)]
  exact w2 i c hc
theorem FrS.sb {x k i : Nat} {v : Int32} (hk : k = 32 + x ∨ (k = 25 ∧ i = x)) : FrS x st (xsB st k i v) := by
  refine ⟨fun _ _ => rfl, fun _ _ => rfl, fun j _ h1 h2 => xsB_oth (by omega), fun y hy => ?_, fun q => q⟩
  rcases hk with rfl | ⟨rfl, rfl⟩
  · by_cases h : 25 = 32 + x
    · omega
    · rw [xsB_oth h]
  · rw [xsB_same, upd_ne hy]
theorem stoL {fu x mx wc wn : Nat} {w : List Nat} (hx : x < 8) (hw : w.length ≤ 4096) : ∀ (q n i : Nat) (st : xS), i + q = w.length → MS st vs cs ks ws → PV st mx w → xln st 24 = 8 → xln st 25 = 8 → xln st (32 + x) = 4096 → seg (xba st (32 + x)) 0 ((w.take i).map sb) → q < n → ∃ st', fM_store_b fu n 1 (i3 i) (i3 x) st wc wn = some (0, wc, wn, i3 w.length, st') ∧ MS st' vs cs ks ws ∧ FrS x st st' ∧ seg (xba st' (32 + x)) 0 (w.map sb) ∧ xba st' 25 x = i3 w.length ∧ pt st' = pt st := by
  intro q
  induction q with
  | zero =>
    intro n i st hi hM hP h24 h25 h32 hs hn
    obtain ⟨n, rfl⟩ : ∃ j, n = j + 1 := ⟨n - 1, by omega⟩
    rw [List.take_of_length_le (by omega)] at hs
    refine ⟨xsB st 25 x (i3 w.length), ?_, hM.sb (by decide), FrS.sb (Or.inr ⟨rfl, rfl⟩), ?_, ?_, rfl⟩
    · rw [fM_store_b, hP.1, if_pos (by rw [i3_le (by omega) (by omega)]; omega), h25, if_neg (i3_idx (by omega) (by omega)), i3_N (by omega)]
      exact xmo_some (Nat.le_refl _) (Nat.le_refl _)
    · rw [xsB_oth (by omega)]
      exact hs
    · rw [xsB_same, upd_eq]
  | succ q ih =>
    intro n i st hi hM hP h24 h25 h32 hs hn
    obtain ⟨n, rfl⟩ : ∃ j, n = j + 1 := ⟨n - 1, by omega⟩
    have hPi := hP.2.2.2.1 i w[i] (List.getElem?_eq_getElem (by omega))
    have hPl := hP.2.2.2.2.1
    have hnar : vp_nar .byte (xba st 21 i) = i3 w[i] := by
      rw [hPi.1, vp_nb]
      exact nar_c _ hPi.2
    obtain ⟨st', e1, m1, m2, m3, m4, m5⟩ := ih n (i + 1) (xsB st (32 + x) i (i3 w[i])) (by omega) (hM.sb (by omega)) (by
      obtain ⟨p1, p2, p3, p4, p5, p6, p7⟩ := hP
      exact ⟨p1, p2, p3, fun j c hc => by rw [xsB_oth (by omega)]; exact p4 j c hc, p5, p6, p7⟩) h24 h25 h32 (by
      rw [xsB_same, List.take_succ_eq_append_getElem (show i < w.length by omega), List.map_append]
      have hlen : ((w.take i).map sb).length = i := by rw [List.length_map, List.length_take]; omega
      refine seg_app.mpr ⟨seg_of hs (fun k hk => by rw [hlen] at hk; rw [upd_ne (by omega)]), ?_⟩
      rw [hlen, Nat.zero_add]
      exact seg_cons.mpr ⟨by rw [upd_eq, sb_lt hPi.2], seg_nil⟩) (by omega)
    refine ⟨st', ?_, m1, (FrS.sb (Or.inl rfl)).trans m2, m3, m4, m5⟩
    rw [fM_store_b, hP.1, if_neg (by rw [i3_le (by omega) (by omega)]; omega), h24, if_neg (i3_idx (by omega) (by omega)), i3_N (by omega), if_neg (by omega), if_neg (i3_idx (by omega) (by omega)), i3_N (by omega), h32, if_neg (i3_id2 (by omega) (by omega)), hnar, i3_one, e1]
    exact xmo_some (Nat.le_refl _) (Nat.le_refl _)
theorem storeM {fu n x c : Nat} {j : JT d} (hM : MS st vs cs ks ws) (hH : Hs st) (hR : Rep vs cs ks d j c) (hj : jok d j) (hx : x < 8) (h24 : xln st 24 = 8) (h25 : xln st 25 = 8) (h32 : xln st (32 + x) = 4096) (hfu : d ≤ fu) (hn : 2000000 < n) : ((jt d j).length ≤ 4096 ∧ ∃ (cc s : Nat) (st' : xS), fM_store fu n st (i3 x) c = some (0, cc, s, i3 (jt d j).length, st') ∧ MS st' vs cs ks ws ∧ Cost st st' cc s ∧ FrS x st st' ∧ RegM st' x (jt d j)) ∨ (4096 < (jt d j).length ∧ ∃ (cc s : Nat) (st' : xS), fM_store fu n st (i3 x) c = some (1, cc, s, 0, st') ∧ CostE st st' cc s 1 ∧ OpB st st') := by
  have hbp : bP = 200000 := rfl
  have hP0 : PV (xsI (xsI st 22 0) 23 4096) 4096 [] := by
    refine ⟨?_, (up_eq : va_up (va_up st.1 22 0) 23 4096 23 = 4096), by omega, fun i c h => by simp at h, Nat.zero_le _, hH.1, hH.2.1⟩
    show va_up (va_up st.1 22 0) 23 4096 22 = _
    rw [up_ne (by decide), up_eq]
    rfl
  have hM0 : MS (xsI (xsI st 22 0) 23 4096) vs cs ks ws := (hM.si (k := 22) (by decide) (by decide) (by decide) (by decide)).si (k := 23) (by decide) (by decide) (by decide) (by decide)
  have f0 : FrO st (xsI (xsI st 22 0) 23 4096) := (FrO.at (k := 22) _ (by decide)).trans (FrO.at (k := 23) _ (by decide))
  have hpr := print_w (mx := 4096) (vs := vs) (cs := cs) (ks := ks) (ws := ws) (by omega) (n := n) (by omega) d fu hfu _ [] j c hR hj hM0 hP0 (by simp)
  unfold fM_store
  rcases hpr with ⟨hl, cc, s, st1, e1, p1, p2, p3⟩ | ⟨hbig, cc, s, st1, ps', e1, p1, p2, p3⟩
  · rw [List.length_nil, Nat.zero_add] at hl
    rw [List.nil_append] at p1
    have f1 := f0.trans (p3.o p1)
    have hln : ∀ k, 24 ≤ k → xln st1 k = xln st k := fun k hk => (f1.2.1 k hk).1
    obtain ⟨st', g1, g2, g3, g4, g5, g6⟩ := stoL (fu := fu) (wc := cc) (wn := s) hx hl (jt d j).length n 0 st1 (by omega) (hM0.fr2 p3) p1 (by rw [hln 24 (by omega)]; exact h24) (by rw [hln 25 (by omega)]; exact h25) (by rw [hln _ (by omega)]; exact h32) seg_nil (by omega)
    have g1' : fM_store_b fu n 1 0 (i3 x) st1 cc s = some (0, cc, s, i3 (jt d j).length, st') := g1
    refine Or.inl ⟨hl, cc, s, st', ?_, g2, ⟨p2.1, ?_⟩, f1.s.trans g3, hx, ?_, ?_, ?_, g5, hl, g4⟩
    · rw [e1, Option.bind_some, if_pos rfl]
      simp only [Nat.zero_add]
      rw [g1']
      exact xmo_some (Nat.le_refl _) (Nat.le_refl _)
    · have := p2.2
      rw [g6]
      exact this
    · rw [g3.2.1 24 (by omega), hln 24 (by omega)]; exact h24
    · rw [g3.2.1 25 (by omega), hln 25 (by omega)]; exact h25
    · rw [g3.2.1 _ (by omega), hln _ (by omega)]; exact h32
  · rw [List.length_nil, Nat.zero_add] at hbig
    refine Or.inr ⟨hbig, cc, s, st1, ?_, ⟨p2.1, p2.2⟩, ⟨⟨vs, cs, ks, ws, hM0.fr2 p3⟩, f0.trans (p3.o p1)⟩⟩
    rw [e1, Option.bind_some, if_neg (show ¬ (1 : Nat) = 0 by decide), if_pos rfl]
    simp only [Nat.zero_add]
    exact xmo_some (Nat.le_refl _) (Nat.le_refl _)
theorem RegM.frs {x y : Nat} {st st' : xS} {w : List Nat} (h : RegM st y w) (hf : FrS x st st') (hy : y ≠ x) : RegM st' y w := by
  obtain ⟨h1, h2, h3, h4, h5, h6, h7⟩ := h
  exact ⟨h1, by rw [hf.2.1 24 (by omega)]; exact h2, by rw [hf.2.1 25 (by omega)]; exact h3, by rw [hf.2.1 _ (by omega)]; exact h4, by rw [hf.2.2.2.1 y hy]; exact h5, h6, by rw [hf.2.2.1 _ (by omega) (by omega) (by omega)]; exact h7⟩
theorem RegM.fro {y : Nat} {st st' : xS} {w : List Nat} (h : RegM st y w) (hf : FrO st st') : RegM st' y w := by
  obtain ⟨h1, h2, h3, h4, h5, h6, h7⟩ := h
  exact ⟨h1, by rw [(hf.2.1 24 (by omega)).1]; exact h2, by rw [(hf.2.1 25 (by omega)).1]; exact h3, by rw [(hf.2.1 _ (by omega)).1]; exact h4, by rw [(hf.2.1 25 (by omega)).2]; exact h5, h6, by rw [(hf.2.1 _ (by omega)).2]; exact h7⟩
end STO
