section RM2
variable {base : Nat} {src : List Nat} {d : Nat}
theorem isStr_new {vs : List VR} {cs : List Nat} {s : Sx} : isStr (vs ++ [(4, cs.length, cs.length + s.length - cs.length, 0, 1 + (cs.length + s.length - cs.length), 0)]) (cs ++ s) (vs.length + 1) s := by
  refine ⟨by omega, _, by rw [Nat.add_sub_cancel, List.getElem?_append_right (Nat.le_refl _), Nat.sub_self]; rfl, rfl, ?_, rfl, ?_, fun i x hx => ?_⟩
  · show cs.length + s.length - cs.length = s.length
    omega
  · show 1 + (cs.length + s.length - cs.length) = s.length + 1
    omega
  · show (cs ++ s)[cs.length + i]? = some x
    rw [List.getElem?_append_right (by omega), Nat.add_sub_cancel_left]
    exact hx
/-- behind a member's name -/
theorem memT {op : Int32 × Int32} {q : Nat} {rec : xS → Option (Nat × Nat × Nat × Nat × xS)} {recA : List Nat → List Nat ⊕ (JT d × List Nat)} (hrec : RecM base src op q rec recA) (hps : PS recA (fun j => (jc d j).length) (fun j => jok d j ∧ jd d j ≤ q)) (hsz : src.length ≤ 50000) {W0 : List NP} {m : Nat}
    (ih : ∀ (r : List Nat) (n : Nat) (st : xS) (vs : List VR) (cs : List Nat) (ks W : List NP) (l : List (Sx × JT d)) (wc wn : Nat) (y4 : Int32) (y3 : Nat) (y2 : Int32), MS st vs cs ks (W0 ++ W) → PR base src st r → OP st op → RM vs cs ks d W l → (∀ x ∈ l, jd d x.2 ≤ 59) → sm (fun x : Sx × JT d => (strc x.1 ++ jc d x.2).length) l + r.length ≤ src.length → (q ≤ 59 ∨ ∃ l' r1, pF recA m (l.map (fun x => x.1)) r = .inr (l', r1) ∧ ∀ x ∈ l', jd d x.2 ≤ 59) → vs.length + r.length < bV → cs.length + r.length ≤ bC → ks.length + W.length + r.length ≤ bK → W0.length + W.length + r.length ≤ bK → r.length < m → 3000000 + 40000 * r.length < n → ValO base src st wc wn vs cs ks W0 2 (fM_members_b rec n 1 (i3 W0.length) y4 y3 y2 st wc wn) r W.length (mp (fun l' => jo (l ++ l')) (pF recA m (l.map (fun x => x.1)) r)))
    {r2 : List Nat} {n : Nat} {st : xS} {vs : List VR} {cs : List Nat} {ks W : List NP} {l : List (Sx × JT d)} {wc wn c : Nat} {s : Sx} {y2 : Int32} (hM : MS st vs cs ks (W0 ++ W)) (h : PR base src st r2) (h18 : OP st op) (hR : RM vs cs ks d W l) (hs : isStr vs cs c s) (hsl : s.length ≤ 50000) (hdl : ∀ x ∈ l, jd d x.2 ≤ 59) (hsm : sm (fun x : Sx × JT d => (strc x.1 ++ jc d x.2).length) l + (s.length + 1) + r2.length ≤ src.length) (hb1 : vs.length + r2.length < bV) (hb2 : cs.length + r2.length ≤ bC) (hb3 : ks.length + W.length + r2.length ≤ bK) (hb4 : W0.length + W.length + r2.length ≤ bK) (hm : r2.length < m + 1) (hn : 3000001 + 40000 * r2.length < n)
    (F : List Nat ⊕ (List (Sx × JT d) × List Nat)) (hF : F = if (blk r2).head? = some 58 then (match recA (blk r2).tail with
      | .inl x => .inl x
      | .inr (v, r1) => if (blk r1).head? = some 44 then (match pF recA m (l.map (fun x => x.1) ++ [s]) (blk r1).tail with
          | .inl x => .inl x
          | .inr (l', r3) => .inr ((s, v) :: l', r3))
        else if (blk r1).head? = some 125 then .inr ([(s, v)], (blk r1).tail) else .inl (blk r1)) else .inl (blk r2))
    (hG : q ≤ 59 ∨ ∃ l' r1, F = .inr (l', r1) ∧ ∀ x ∈ l', jd d x.2 ≤ 59) : ValO base src st wc wn vs cs ks W0 2 (fM_members_b rec n 2 (i3 W0.length) (i3 (W0.length + W.length)) c y2 st wc wn) r2 W.length (mp (fun l' => jo (l ++ l')) F) := by
  have hbV : bV = 32000 := rfl
  have hbc : bC = 100000 := rfl
  have hbK : bK = 32000 := rfl
  have hcl := hM.cl.2.2.2
  have h12 := hM.1.1.2.2.2
  rw [List.length_append] at h12 hcl
  obtain ⟨n, rfl⟩ : ∃ j, n = j + 1 := ⟨n - 1, by omega⟩
  obtain ⟨e3, hP⟩ := h.blanks (n := n) (by omega)
  have hbl := blk_len r2
  have hMx : MS (xsI st 16 (rp base src (blk r2))) vs cs ks (W0 ++ W) := hM.si (by decide) (by decide) (by decide) (by decide)
  have hsle := hs.le
  have hct : ∀ st', MS st' vs cs ks (W0 ++ W) → ¬ xct st' < c := fun st' h' => by have := h'.2.2.1.1; omega
  have badX : ∀ x, x = blk r2 → ValO base src st wc wn vs cs ks W0 2 (d := d + 1) (some (2, wc + 1, wn + 6, 0, xsI (xsI st 16 (rp base src (blk r2))) 20 (xsi (xsI st 16 (rp base src (blk r2))) 16))) r2 W.length (.inl x) := fun x hx => by
    subst hx
    have hx : xsi (xsI st 16 (rp base src (blk r2))) 16 = rp base src (blk r2) := hP.2.2
    rw [hx]
    exact ⟨1, 6, _, rfl, ⟨by omega, Nat.le_of_eq (Nat.add_comm _ _)⟩, (Bad.of2 hMx FrP.refl (Nat.le_refl _) rfl).any (Fr1.at _) (Nat.le_refl _)⟩
  rw [fM_members_b, if_neg (by decide), h12, if_pos (by rw [i3_le (by omega) (by omega)]; omega), e3, Option.bind_some, hP.peek, Option.bind_some]
  by_cases h58 : (blk r2).head? = some 58
  · rw [if_pos h58] at hF
    obtain ⟨r3, hr3⟩ := head_c h58
    rw [hr3] at hP hMx hbl hF badX ⊢
    rw [List.length_cons] at hbl
    rw [if_pos (show hv (58 :: r3) = 58 from rfl)]
    rw [List.tail_cons] at hF
    have hnx := hP.next
    have hG1 : q ≤ 59 ∨ ∃ j r1, recA r3 = .inr (j, r1) ∧ jd d j ≤ 59 := by
      rcases hG with hG | ⟨l', r1, hG, hl'⟩
      · exact Or.inl hG
      · right
        rw [hF] at hG
        cases hp : recA r3 with
        | inl x => rw [hp] at hG; simp at hG
        | inr t =>
          obtain ⟨v, r4⟩ := t
          refine ⟨v, r4, rfl, ?_⟩
          rw [hp] at hG
          dsimp only at hG
          split at hG
          · split at hG
            · simp at hG
            · obtain ⟨rfl, _⟩ := Prod.mk.inj (Sum.inr.inj hG)
              exact hl' (s, v) (List.mem_cons_self ..)
          · split at hG
            · obtain ⟨rfl, _⟩ := Prod.mk.inj (Sum.inr.inj hG)
              exact hl' (s, v) (List.mem_cons_self ..)
            · simp at hG
    have hV := hrec _ r3 vs cs ks (W0 ++ W) (hMx.si (k := 16) (v := xsi (xsI st 16 (rp base src (58 :: r3))) 16 + 1) (by decide) (by decide) (by decide) (by decide)) hnx (h18.fr ((Fr1.at _).trans (Fr1.at _))) hG1 (by omega) (by omega) (by omega) (by rw [List.length_append]; omega)
    have hf0 : Fr1 st (xsI (xsI st 16 (rp base src (58 :: r3))) 16 (xsi (xsI st 16 (rp base src (58 :: r3))) 16 + 1)) := (Fr1.at _).trans (Fr1.at _)
    have hs0 : SK st (xsI (xsI st 16 (rp base src (58 :: r3))) 16 (xsi (xsI st 16 (rp base src (58 :: r3))) 16 + 1)) := (SK.at (by decide)).trans (SK.at (by decide))
    cases hp : recA r3 with
    | inl x =>
      rw [hp] at hV hF
      subst hF
      obtain ⟨cc, k, st', e1, b1, b2⟩ := hV
      rw [Nat.zero_add, Nat.zero_add] at e1
      refine ⟨cc, k, st', ?_, b1, b2.any hf0 (Nat.le_refl _)⟩
      rw [e1, Option.bind_some, if_neg (show ¬ (1 : Nat) = 0 by decide), if_pos rfl, if_neg (hct _ hMx)]
      dsimp only
      have hin : xmo (fun a : Nat × Nat × Nat × Nat × xS => a.2.1) (fun a => a.2.2.1) (wc + cc) (wn + k) (some (2, wc + cc, wn + k, 0, st')) = some (2, wc + cc, wn + k, 0, st') := xmo_some (Nat.le_refl _) (Nat.le_refl _)
      rw [hin]
      exact xmo_some (by show wc ≤ wc + cc; omega) (by show wn ≤ wn + k; omega)
    | inr t =>
      obtain ⟨v, r1⟩ := t
      rw [hp] at hV hF
      dsimp only at hF
      obtain ⟨cc, k, c2, st1, a, b, e, e1, m1, m2, m3, m4, m5, m6, m7, m8, m9⟩ := hV
      rw [Nat.zero_add, Nat.zero_add] at e1
      obtain ⟨s1, s2, s3, s4⟩ := (hps r3).2 v r1 hp
      have hjv : jd d v ≤ 59 := by
        rcases hG1 with hG1 | ⟨j, r4, hG1, hj⟩
        · have := s4.2; omega
        · rw [hp] at hG1
          obtain ⟨rfl, _⟩ := Prod.mk.inj (Sum.inr.inj hG1)
          exact hj
      dsimp only at s2 s3
      have hcl2 := m6.le
      have hs2 : isStr (vs ++ a) (cs ++ b) c s := hs.mono
      have hsle2 := hs2.le
      obtain ⟨cc2, k2, st2, e2, w1, w2, w3, w4⟩ := wait_w (n := n) m1 (a := c2) (b := c) hcl2.2 hsle2.2.1 (by rw [List.length_append]; omega) (by omega)
      have hPR2 : PR base src st2 r1 := m2.fr w3 w4
      obtain ⟨e4, hPR3⟩ := hPR2.blanks (n := n) (by omega)
      have hR2 : RM (vs ++ a) (cs ++ b) (ks ++ e) d (W ++ [(c2, c)]) (l ++ [(s, v)]) := hR.mono.snoc m6 hs2 (by show s.length ≤ 59999; omega)
      have hct1 : ¬ xct st1 < c2 := by have := m1.2.2.1.1; omega
      have hct2 : ¬ xct st1 < c := by have := m1.2.2.1.1; omega
      have hM3 : MS (xsI st2 16 (rp base src (blk r1))) (vs ++ a) (cs ++ b) (ks ++ e) (W0 ++ (W ++ [(c2, c)])) := by
        rw [← List.append_assoc]
        exact w1.si (by decide) (by decide) (by decide) (by decide)
      have hbl1 := blk_len r1
      have hcost : Cost st (xsI st2 16 (rp base src (blk r1))) (cc + cc2) (k + k2) := Cost.trans (b := st1) ⟨m3.1, m3.2⟩ ⟨w2.1, w2.2⟩
      have hfr : Fr1 st (xsI st2 16 (rp base src (blk r1))) := ((hf0.trans m4).trans (Fr1.of w3)).trans (Fr1.at _)
      have hsk : SK st (xsI st2 16 (rp base src (blk r1))) := ((hs0.trans m5).trans w4).trans (SK.at (by decide))
      have hdl2 : ∀ x ∈ l ++ [(s, v)], jd d x.2 ≤ 59 := fun x hx => by
        rcases List.mem_append.mp hx with hx | hx
        · exact hdl x hx
        · rw [List.mem_singleton.mp hx]; exact hjv
      have hsm2 : sm (fun x : Sx × JT d => (strc x.1 ++ jc d x.2).length) (l ++ [(s, v)]) = sm (fun x : Sx × JT d => (strc x.1 ++ jc d x.2).length) l + (s.length + 1 + (jc d v).length) := by
        unfold sm
        rw [List.map_append, List.sum_append]
        simp [strc_len]
      have hWl : (W ++ [(c2, c)]).length = W.length + 1 := by rw [List.length_append]; rfl
      rw [e1, Option.bind_some, if_pos rfl, if_neg (hct _ hMx)]
      dsimp only
      rw [e2, Option.bind_some, if_neg hct1, if_neg hct2]
      dsimp only
      rw [e4, Option.bind_some, hPR3.peek, Option.bind_some]
      have wrap : ∀ (X : Option (Nat × Nat × Nat × Nat × xS)) (res : List Nat ⊕ (JT (d + 1) × List Nat)), ValO base src st wc wn vs cs ks W0 2 X r2 W.length res → (∀ a, X = some a → wc + cc + cc2 ≤ a.2.1 ∧ wn + k + k2 ≤ a.2.2.1) → ValO base src st wc wn vs cs ks W0 2 (xmo (fun a => a.2.1) (fun a => a.2.2.1) wc wn (xmo (fun a => a.2.1) (fun a => a.2.2.1) (wc + cc) (wn + k) (xmo (fun a => a.2.1) (fun a => a.2.2.1) (wc + cc + cc2) (wn + k + k2) X))) r2 W.length res := fun X res hX hge => by
        have x1 : xmo (fun a : Nat × Nat × Nat × Nat × xS => a.2.1) (fun a => a.2.2.1) (wc + cc + cc2) (wn + k + k2) X = X := xmo_id hge
        have x2 : xmo (fun a : Nat × Nat × Nat × Nat × xS => a.2.1) (fun a => a.2.2.1) (wc + cc) (wn + k) X = X := xmo_id (fun a ha => ⟨by have := (hge a ha).1; omega, by have := (hge a ha).2; omega⟩)
        rw [x1, x2, xmo_id hX.ge]
        exact hX
      by_cases h44 : (blk r1).head? = some 44
      · rw [if_pos h44] at hF
        obtain ⟨r4, hr4⟩ := head_c h44
        rw [hr4] at hPR3 hbl1 hM3 hcost hfr hsk hF ⊢
        rw [List.length_cons] at hbl1
        rw [List.tail_cons] at hF
        rw [if_pos (show hv (44 :: r4) = 44 from rfl), if_neg (show ¬ hv (44 :: r4) = 125 from by rw [hv_c]; decide)]
        have hnm : (l ++ [(s, v)]).map (fun x => x.1) = l.map (fun x => x.1) ++ [s] := by rw [List.map_append]; rfl
        have hG2 : q ≤ 59 ∨ ∃ l' r1, pF recA m ((l ++ [(s, v)]).map (fun x => x.1)) r4 = .inr (l', r1) ∧ ∀ x ∈ l', jd d x.2 ≤ 59 := by
          rcases hG with hG | ⟨l', r5, hG, hl'⟩
          · exact Or.inl hG
          · right
            rw [hF] at hG
            rw [hnm]
            cases hp2 : pF recA m (l.map (fun x => x.1) ++ [s]) r4 with
            | inl x => rw [hp2] at hG; simp at hG
            | inr t =>
              obtain ⟨l2, r6⟩ := t
              rw [hp2] at hG
              obtain ⟨rfl, _⟩ := Prod.mk.inj (Sum.inr.inj hG)
              exact ⟨l2, r6, rfl, fun x hx => hl' x (List.mem_cons_of_mem _ hx)⟩
        have hih := ih r4 n _ (vs ++ a) (cs ++ b) (ks ++ e) (W ++ [(c2, c)]) (l ++ [(s, v)]) (wc + (cc + cc2)) (wn + (k + k2)) 0 c y2 (hM3.si (by decide) (by decide) (by decide) (by decide)) hPR3.next (h18.fr (hfr.trans (Fr1.at _))) hR2 hdl2 (by rw [hsm2]; omega) hG2 (by rw [List.length_append]; omega) (by rw [List.length_append]; omega) (by rw [List.length_append, hWl]; omega) (by rw [hWl]; omega) (by omega) (by omega)
        have hst := hih.step (vs := vs) (cs := cs) (ks := ks) (r := r2) (w := W.length) (st := st) (wc := wc) (wn := wn) ⟨hcost.1, hcost.2⟩ (hfr.trans (Fr1.at _)) (hsk.trans (SK.at (by decide))) (by omega) (by omega) (by rw [hWl]; omega)
        refine wrap _ _ ?_ ?_
        · rw [← Nat.add_assoc, ← Nat.add_assoc, hnm] at hst
          subst hF
          cases hpe : pF recA m (l.map (fun x => x.1) ++ [s]) r4 with
          | inl x =>
            rw [hpe] at hst
            exact hst
          | inr t =>
            obtain ⟨l2, r6⟩ := t
            rw [hpe] at hst
            have hl2 : l ++ [(s, v)] ++ l2 = l ++ (s, v) :: l2 := by simp
            have hst2 : ValO base src st wc wn vs cs ks W0 2 _ r2 W.length (.inr (jo (l ++ [(s, v)] ++ l2), r6)) := hst
            rw [hl2] at hst2
            exact hst2
        · rw [← Nat.add_assoc, ← Nat.add_assoc] at hih
          exact hih.ge
      · rw [if_neg h44] at hF
        rw [if_neg (show ¬ hv (blk r1) = 44 from fun hh => h44 ((hPR3.hve (k := 44) (by omega)).mp hh))]
        by_cases h125 : (blk r1).head? = some 125
        · rw [if_pos h125] at hF
          obtain ⟨r4, hr4⟩ := head_c h125
          rw [hr4] at hPR3 hbl1 hM3 hcost hfr hsk hF ⊢
          rw [List.length_cons] at hbl1
          rw [List.tail_cons] at hF
          subst hF
          rw [if_pos (show hv (125 :: r4) = 125 from rfl), if_pos (show hv (125 :: r4) = 125 from rfl)]
          have hw := wholeO (n := n) (wc := wc + (cc + cc2)) (wn := wn + (k + k2)) hM3 hPR3 hR2 hdl2 (by rw [hsm2]; omega) (by rw [List.length_append]; omega) (by rw [List.length_append, hWl]; omega) (by omega)
          have hst := hw.step (vs := vs) (cs := cs) (ks := ks) (r := r2) (w := W.length) (st := st) (wc := wc) (wn := wn) ⟨hcost.1, hcost.2⟩ hfr hsk (by rw [List.length_cons]; omega) (by rw [List.length_cons]; omega) (by rw [hWl, List.length_cons]; omega)
          refine wrap _ _ ?_ ?_
          · rw [← Nat.add_assoc, ← Nat.add_assoc] at hst
            exact hst
          · rw [← Nat.add_assoc, ← Nat.add_assoc] at hw
            exact hw.ge
        · rw [if_neg h125] at hF
          subst hF
          rw [if_neg (show ¬ hv (blk r1) = 125 from fun hh => h125 ((hPR3.hve (k := 125) (by omega)).mp hh))]
          have hb : ((fM_bad n (xsI st2 16 (rp base src (blk r1))) (xsi (xsI st2 16 (rp base src (blk r1))) 16)).bind fun o29 => (if o29.1 = 1 then if (xct (xsI st2 16 (rp base src (blk r1)))) < c2 then none else if (xct (xsI st2 16 (rp base src (blk r1)))) < c then none else xmo (fun a : Nat × Nat × Nat × Nat × xS => a.2.1) (fun a => a.2.2.1) (((wc + cc) + cc2) + o29.2.1) (((wn + k) + k2) + o29.2.2.1) (some (2, (((wc + cc) + cc2) + o29.2.1), (((wn + k) + k2) + o29.2.2.1), 0, o29.2.2.2)) else none)) = some (2, wc + cc + cc2 + 1, wn + k + k2 + 6, 0, xsI (xsI st2 16 (rp base src (blk r1))) 20 (rp base src (blk r1))) := by
            have hx : xsi (xsI st2 16 (rp base src (blk r1))) 16 = rp base src (blk r1) := hPR3.2.2
            have hc3 := hM3.2.2.1.1
            unfold fM_bad
            rw [Option.bind_some, if_pos rfl, if_neg (by omega), if_neg (by omega), hx]
            exact xmo_some (Nat.le_refl _) (Nat.le_refl _)
          refine wrap _ _ ?_ ?_
          · rw [hb]
            refine ⟨cc + cc2 + 1, k + k2 + 6, _, by rw [← Nat.add_assoc, ← Nat.add_assoc, ← Nat.add_assoc, ← Nat.add_assoc], ⟨by have := hcost.1; omega, ?_⟩, (Bad.of2 hM3 FrP.refl (Nat.le_refl _) rfl).any hfr (by have := hcost.2; omega)⟩
            have := hcost.2
            have hpe : pt (xsI (xsI st2 16 (rp base src (blk r1))) 20 (rp base src (blk r1))) = pt (xsI st2 16 (rp base src (blk r1))) := rfl
            omega
          · intro z hz
            rw [hb] at hz
            obtain rfl := Option.some.inj hz
            exact ⟨Nat.le_succ _, by show wn + k + k2 ≤ wn + k + k2 + 6; omega⟩
  · rw [if_neg h58] at hF
    subst hF
    rw [if_neg (show ¬ hv (blk r2) = 58 from fun hh => h58 ((hP.hve (k := 58) (by omega)).mp hh))]
    have hb : ((fM_bad n (xsI st 16 (rp base src (blk r2))) (xsi (xsI st 16 (rp base src (blk r2))) 16)).bind fun o8 => (if o8.1 = 1 then if (xct (xsI st 16 (rp base src (blk r2)))) < c then none else xmo (fun a : Nat × Nat × Nat × Nat × xS => a.2.1) (fun a => a.2.2.1) (wc + o8.2.1) (wn + o8.2.2.1) (some (2, (wc + o8.2.1), (wn + o8.2.2.1), 0, o8.2.2.2)) else none)) = some (2, wc + 1, wn + 6, 0, xsI (xsI st 16 (rp base src (blk r2))) 20 (xsi (xsI st 16 (rp base src (blk r2))) 16)) := by
      unfold fM_bad
      rw [Option.bind_some, if_pos rfl, if_neg (hct _ hMx)]
      exact xmo_some (Nat.le_refl _) (Nat.le_refl _)
    rw [hb, xmo_id (badX _ rfl).ge]
    exact badX _ rfl
end RM2
