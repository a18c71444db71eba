/-! ===== the reference's reader: values ===== -/
section RO2
variable {base : Nat} {src : List Nat}
theorem membersM {d : Nat} {op : Int32 × Int32} {q : Nat} {rec : xS → Option (Nat × Nat × Nat × Nat × xS)} {recA : List Nat → List Nat ⊕ (JT d × List Nat)} (hrec : RecM base src op q rec recA) (hps : PS recA (fun j => (jc d j).length) (fun j => jok d j ∧ jd d j ≤ q)) (hsz : src.length ≤ 50000) {st : xS} {vs : List VR} {cs : List Nat} {ks ws : List NP} {r : List Nat} {n : Nat} (hM : MS st vs cs ks ws) (h : PR base src st r) (h18 : OP st op) (hG : q ≤ 59 ∨ ∃ l' r1, pO recA r = .inr (l', r1) ∧ ∀ x ∈ l', jd d x.2 ≤ 59) (hb1 : vs.length + r.length < bV) (hb1' : vs.length + 1 ≤ bV) (hb2 : cs.length + r.length ≤ bC) (hb3 : ks.length + r.length ≤ bK) (hb4 : ws.length + r.length ≤ bK) (hn : 3000000000 < n) : ValO base src st 0 0 vs cs ks ws 2 (fM_members rec n st) r 0 (mp jo (pO recA r)) := by
  have hbc : bC = 100000 := rfl
  have hl := h.2.1.length_le
  have hbl := blk_len r
  obtain ⟨e1, hP⟩ := h.blanks (n := n) (by omega)
  have h12 := hM.1.1.2.2.2
  have hMx : MS (xsI st 16 (rp base src (blk r))) vs cs ks ws := hM.si (by decide) (by decide) (by decide) (by decide)
  unfold fM_members pO
  rw [e1, Option.bind_some, hP.peek, Option.bind_some, h12]
  by_cases h125 : (blk r).head? = some 125
  · obtain ⟨r2, hr2⟩ := head_c h125
    rw [hr2] at hP hMx hbl ⊢
    rw [if_pos (show hv (125 :: r2) = 125 from rfl), List.head?_cons, if_pos rfl, List.tail_cons]
    have hw := wholeO (n := n) (wc := 0) (wn := 0) (W0 := ws) (W := []) (l := ([] : List (Sx × JT d))) (by rw [List.append_nil]; exact hMx) hP trivial (fun x hx => absurd hx (by simp)) (by simp [sm]) hb1' (by simp; omega) (by omega)
    exact hw.nil rfl (Fr1.at _) (SK.at (by decide)) hbl
  · rw [if_neg (show ¬ hv (blk r) = 125 from fun hh => h125 ((hP.hve (k := 125) (by omega)).mp hh)), if_neg h125]
    have hG' : q ≤ 59 ∨ ∃ l' r1, pF recA (r.length + 1) (([] : List (Sx × JT d)).map (fun x => x.1)) (blk r) = .inr (l', r1) ∧ ∀ x ∈ l', jd d x.2 ≤ 59 := by
      rcases hG with hG | hG
      · exact Or.inl hG
      · unfold pO at hG
        rw [if_neg h125] at hG
        exact Or.inr hG
    have he := memL hrec hps hsz (W0 := ws) (r.length + 1) (blk r) n _ vs cs ks [] [] 0 0 0 0 0 (by rw [List.append_nil]; exact hMx) hP (h18.fr (Fr1.at _)) trivial (fun x hx => absurd hx (by simp)) (by simp [sm]; omega) hG' (by omega) (by omega) (by simp; omega) (by simp; omega) (by omega) (by omega)
    exact he.nil rfl (Fr1.at _) (SK.at (by decide)) hbl
end RO2
