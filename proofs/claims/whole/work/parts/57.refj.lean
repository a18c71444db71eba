section RK
variable {base : Nat} {src : List Nat} {d : Nat}
theorem ValO.nil {st st1 : xS} {vs : List VR} {cs : List Nat} {ks ws : List NP} {wc wn bad w : Nat} {out : Option (Nat × Nat × Nat × Nat × xS)} {r r1 : List Nat} {res : List Nat ⊕ (JT d × List Nat)} (h : ValO base src st1 wc wn vs cs ks ws bad out r1 w res) (hp : pt st = pt st1) (hf : Fr1 st st1) (hs : SK st st1) (hr : r1.length ≤ r.length) : ValO base src st wc wn vs cs ks ws bad out r w res := by
  refine ValO.step (a := []) (b := []) (c := []) (cc := 0) (k := 0) (r1 := r1) (w' := w) ?_ ⟨by omega, by omega⟩ hf hs (by simpa using hr) (by simpa using hr) (by simp; omega)
  rw [List.append_nil, List.append_nil, List.append_nil]
  exact h
theorem elementsM {op : Int32 × Int32} {q : Nat} {rec : xS → Option (Nat × Nat × Nat × Nat × xS)} {recA : List Nat → List Nat ⊕ (JT d × List Nat)} (hrec : RecM base src op q rec recA) (hps : PS recA (fun j => (jc d j).length) (fun j => jok d j ∧ jd d j ≤ q)) (hsz : src.length ≤ 50000) {st : xS} {vs : List VR} {cs : List Nat} {ks ws : List NP} {r : List Nat} {n : Nat} (hM : MS st vs cs ks ws) (h : PR base src st r) (h18 : OP st op) (hG : q ≤ 59 ∨ ∃ l' r1, pA recA r = .inr (l', r1) ∧ ∀ x ∈ l', jd d x ≤ 59) (hb1 : vs.length + r.length < bV) (hb1' : vs.length + 1 ≤ bV) (hb2 : cs.length + r.length ≤ bC) (hb3 : ks.length + r.length ≤ bK) (hb4 : ws.length + r.length ≤ bK) (hn : 4000000 < n) : ValO base src st 0 0 vs cs ks ws 2 (fM_elements rec n st) r 0 (mp ja (pA recA r)) := by
  have hbc : bC = 100000 := rfl
  have hl := h.2.1.length_le
  have hbl := blk_len r
  obtain ⟨e1, hP⟩ := h.blanks (n := n) (by omega)
  have h12 := hM.1.1.2.2.2
  have hMx : MS (xsI st 16 (rp base src (blk r))) vs cs ks ws := hM.si (by decide) (by decide) (by decide) (by decide)
  unfold fM_elements pA
  rw [e1, Option.bind_some, hP.peek, Option.bind_some, h12]
  by_cases h93 : (blk r).head? = some 93
  · obtain ⟨r2, hr2⟩ := head_c h93
    rw [hr2] at hP hMx hbl ⊢
    rw [if_pos (show hv (93 :: r2) = 93 from rfl), List.head?_cons, if_pos rfl, List.tail_cons]
    have hw := wholeA (n := n) (wc := 0) (wn := 0) (W0 := ws) (W := []) (l := ([] : List (JT d))) (by rw [List.append_nil]; exact hMx) hP trivial (fun x hx => absurd hx (by simp)) (by simp [sm]) hb1' (by simp; omega) (by omega)
    exact hw.nil rfl (Fr1.at _) (SK.at (by decide)) hbl
  · rw [if_neg (show ¬ hv (blk r) = 93 from fun hh => h93 ((hP.hve (k := 93) (by omega)).mp hh)), if_neg h93]
    have hG' : q ≤ 59 ∨ ∃ l' r1, pE recA (r.length + 1) (blk r) = .inr (l', r1) ∧ ∀ x ∈ l', jd d x ≤ 59 := by
      rcases hG with hG | hG
      · exact Or.inl hG
      · unfold pA at hG
        rw [if_neg h93] at hG
        exact Or.inr hG
    have he := elemL hrec hps hsz (W0 := ws) (r.length + 1) (blk r) n _ vs cs ks [] [] 0 0 (by rw [List.append_nil]; exact hMx) hP (h18.fr (Fr1.at _)) trivial (fun x hx => absurd hx (by simp)) (by simp [sm]; omega) hG' (by omega) (by omega) (by simp; omega) (by simp; omega) (by omega) (by omega)
    exact he.nil rfl (Fr1.at _) (SK.at (by decide)) hbl
theorem sameL {st : xS} {vs : List VR} {cs : List Nat} {ks ws : List NP} (hM : MS st vs cs ks ws) {a b : Nat} {s t : Sx} (ha : isStr vs cs a s) (hb : isStr vs cs b t) (hl : s.length = t.length) : ∀ (q n i : Nat), i + q = s.length → q < n → fM_sameText_b st n 1 (i3 i) a b = some (if s.drop i = t.drop i then 1 else 0) := by
  obtain ⟨a1, v, av, a4, asz, _, _, ag⟩ := ha
  obtain ⟨b1, u, bu, b4, bsz, _, _, bg⟩ := hb
  obtain ⟨g1, g2, _⟩ := hM.vc a1 av
  obtain ⟨f1, f2, _⟩ := hM.vc b1 bu
  have hcl := hM.cl.2.1
  have hbc : bC = 100000 := rfl
  have r3 := hM.2.2.2.1
  have hsl : ∀ i, i < s.length → v.2.1 + i < cs.length ∧ xba st 3 (v.2.1 + i) = i3 s[i]! ∧ s[i]! < 128 := fun i hi => by
    have hx := ag i s[i] (List.getElem?_eq_getElem hi)
    obtain ⟨x1, x2⟩ := hM.1.2.2.1 _ _ hx
    rw [getElem!_pos s i hi]
    exact ⟨(List.getElem?_eq_some_iff.mp hx).1, x1, x2⟩
  have htl : ∀ i, i < t.length → u.2.1 + i < cs.length ∧ xba st 3 (u.2.1 + i) = i3 t[i]! ∧ t[i]! < 128 := fun i hi => by
    have hx := bg i t[i] (List.getElem?_eq_getElem hi)
    obtain ⟨x1, x2⟩ := hM.1.2.2.1 _ _ hx
    rw [getElem!_pos t i hi]
    exact ⟨(List.getElem?_eq_some_iff.mp hx).1, x1, x2⟩
  have hs0 : s.length ≤ cs.length := by
    cases hs : s.length with
    | zero => omega
    | succ k => have := (hsl k (by omega)).1; omega
  intro q
  induction q with
  | zero =>
    intro n i hi hn
    obtain ⟨n, rfl⟩ : ∃ j, n = j + 1 := ⟨n - 1, by omega⟩
    rw [fM_sameText_b, if_neg g1, g2.2.2.1, asz, if_pos (by rw [i3_le (by omega) (by omega)]; omega), List.drop_eq_nil_of_le (by omega), List.drop_eq_nil_of_le (by omega), if_pos rfl]
  | succ q ih =>
    intro n i hi hn
    obtain ⟨n, rfl⟩ : ∃ j, n = j + 1 := ⟨n - 1, by omega⟩
    obtain ⟨x1, x2, x3⟩ := hsl i (by omega)
    obtain ⟨y1, y2, y3⟩ := htl i (by omega)
    rw [fM_sameText_b, if_neg g1, g2.2.2.1, asz, if_neg (by rw [i3_le (by omega) (by omega)]; omega), g2.2.1, i3_add, if_neg (i3_idx (by omega) (by omega)), if_neg f1, f2.2.1, i3_add, if_neg (i3_idx (by omega) (by omega)), i3_N (by omega), i3_N (by omega), x2, y2, List.drop_eq_getElem_cons (show i < s.length by omega), List.drop_eq_getElem_cons (show i < t.length by omega), i3_one, ih n (i + 1) (by omega) (by omega)]
    rw [getElem!_pos s i (by omega), getElem!_pos t i (by omega)] at *
    have hc : (i3 s[i] = i3 t[i]) = (s[i] = t[i]) := i3_eq (by omega) (by omega)
    by_cases hh : s[i] = t[i]
    · rw [if_pos (by rw [hh])]
      by_cases hd : s.drop (i + 1) = t.drop (i + 1)
      · rw [if_pos hd, if_pos (by rw [hh, hd])]
      · rw [if_neg hd, if_neg (fun h => hd (List.cons.inj h).2)]
    · rw [if_neg (by rw [hc]; exact hh), if_neg (fun h => hh (List.cons.inj h).1)]
theorem sameTextM {st : xS} {vs : List VR} {cs : List Nat} {ks ws : List NP} {n : Nat} (hM : MS st vs cs ks ws) {a b : Nat} {s t : Sx} (ha : isStr vs cs a s) (hb : isStr vs cs b t) (hl : s.length ≤ 1000000) (hl' : t.length ≤ 1000000) (hn : 1000001 < n) : fM_sameText n st a b = some (if s = t then 1 else 0) := by
  have ha' := ha
  have hb' := hb
  obtain ⟨a1, v, av, a4, asz, _, _, ag⟩ := ha'
  obtain ⟨b1, u, bu, b4, bsz, _, _, bg⟩ := hb'
  obtain ⟨g1, g2, _⟩ := hM.vc a1 av
  obtain ⟨f1, f2, _⟩ := hM.vc b1 bu
  unfold fM_sameText
  rw [if_neg g1, if_neg f1, g2.2.2.1, f2.2.2.1, asz, bsz]
  have hc : (i3 s.length = i3 t.length) = (s.length = t.length) := i3_eq (by omega) (by omega)
  by_cases hh : s.length = t.length
  · rw [if_pos (by rw [hh])]
    have := sameL hM ha hb hh s.length n 0 (by omega) (by omega)
    rw [List.drop_zero, List.drop_zero] at this
    exact this
  · rw [if_neg (by rw [hc]; exact hh), if_neg (fun h => hh (by rw [h]))]
end RK
