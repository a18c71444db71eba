/-! ===== the reference's reader: lists ===== -/
/-- what the reading of a value gives; w: kids that waited before -/
def ValO (base : Nat) (src : List Nat) (st : xS) (wc wn : Nat) (vs : List VR) (cs : List Nat) (ks ws : List NP) {d : Nat} (bad : Nat) (out : Option (Nat × Nat × Nat × Nat × xS)) (r : List Nat) (w : Nat) (res : List Nat ⊕ (JT d × List Nat)) : Prop := match res with
  | .inl x => ∃ (cc k : Nat) (st' : xS), out = some (bad, wc + cc, wn + k, 0, st') ∧ CostE st st' cc k 1 ∧ Bad base src st st' vs cs ks ws x
  | .inr (j, r1) => ∃ (cc k c : Nat) (st' : xS) (vs' : List VR) (cs' : List Nat) (ks' : List NP), out = some (0, wc + cc, wn + k, c, st') ∧ MS st' (vs ++ vs') (cs ++ cs') (ks ++ ks') ws ∧ PR base src st' r1 ∧ Cost st st' cc k ∧ Fr1 st st' ∧ SK st st' ∧ Rep (vs ++ vs') (cs ++ cs') (ks ++ ks') d j c ∧ vs'.length + r1.length ≤ r.length ∧ cs'.length + r1.length ≤ r.length ∧ ks'.length + r1.length + 1 ≤ r.length + w
section RJ2
variable {base : Nat} {src : List Nat} {d : Nat}
theorem ValO.ge {st : xS} {vs : List VR} {cs : List Nat} {ks ws : List NP} {wc wn bad w : Nat} {out : Option (Nat × Nat × Nat × Nat × xS)} {r : List Nat} {res : List Nat ⊕ (JT d × List Nat)} (h : ValO base src st wc wn vs cs ks ws bad out r w res) : ∀ a, out = some a → wc ≤ a.2.1 ∧ wn ≤ a.2.2.1 := by
  intro a ha
  cases res with
  | inl x =>
    obtain ⟨cc, k, st', e, _⟩ := h
    rw [e] at ha
    obtain rfl := Option.some.inj ha
    exact ⟨Nat.le_add_right _ _, Nat.le_add_right _ _⟩
  | inr q =>
    obtain ⟨cc, k, c, st', vs', cs', ks', e, _⟩ := h
    rw [e] at ha
    obtain rfl := Option.some.inj ha
    exact ⟨Nat.le_add_right _ _, Nat.le_add_right _ _⟩
theorem Bad.any {st st1 st' : xS} {vs vs1 : List VR} {cs cs1 : List Nat} {ks ks1 ws ws1 : List NP} {x : List Nat} (h : Bad base src st1 st' vs1 cs1 ks1 ws1 x) (hf : Fr1 st st1) (hp : pt st ≤ pt st1) : Bad base src st st' vs cs ks ws x := ⟨h.1, h.2.1, hf.p.trans h.2.2.1, Nat.le_trans hp h.2.2.2.1, h.2.2.2.2.trans (hf.1 19 (by decide) (by decide) (by decide) (by decide) (by decide))⟩
theorem ValO.step {st st1 : xS} {vs a : List VR} {cs b : List Nat} {ks c ws : List NP} {wc wn cc k bad w w' : Nat} {out : Option (Nat × Nat × Nat × Nat × xS)} {r r1 : List Nat} {res : List Nat ⊕ (JT d × List Nat)} (h : ValO base src st1 (wc + cc) (wn + k) (vs ++ a) (cs ++ b) (ks ++ c) ws bad out r1 w' res) (hc : Cost st st1 cc k) (hf : Fr1 st st1) (hs : SK st st1) (ha : a.length + r1.length ≤ r.length) (hb : b.length + r1.length ≤ r.length) (hk : c.length + (r1.length + w') ≤ r.length + w) : ValO base src st wc wn vs cs ks ws bad out r w res := by
  cases res with
  | inl x =>
    obtain ⟨cc', k', st', e, h1, h2⟩ := h
    refine ⟨cc + cc', k + k', st', by rw [e, Nat.add_assoc, Nat.add_assoc], ?_, h2.any hf (by have := hc.2; omega)⟩
    have := hc.e.trans h1
    rwa [Nat.zero_add] at this
  | inr q =>
    obtain ⟨j, r2⟩ := q
    obtain ⟨cc', k', c', st', vs', cs', ks', e, h1, h2, h3, h4, h5, h6, h7, h8, h9⟩ := h
    refine ⟨cc + cc', k + k', c', st', a ++ vs', b ++ cs', c ++ ks', by rw [e, Nat.add_assoc, Nat.add_assoc], ?_, h2, hc.trans h3, hf.trans h4, hs.trans h5, ?_, by rw [List.length_append]; omega, by rw [List.length_append]; omega, by rw [List.length_append]; omega⟩
    · rw [← List.append_assoc, ← List.append_assoc, ← List.append_assoc]
      exact h1
    · rw [← List.append_assoc, ← List.append_assoc, ← List.append_assoc]
      exact h6
/-- lists within one another: opened, and how many may be -/
def OP (st : xS) (op : Int32 × Int32) : Prop := xsi st 18 = op.1 ∧ xsi st 19 = op.2
theorem OP.fr {st st' : xS} {op : Int32 × Int32} (h : OP st op) (hf : Fr1 st st') : OP st' op := ⟨(hf.1 18 (by decide) (by decide) (by decide) (by decide) (by decide)).trans h.1, (hf.1 19 (by decide) (by decide) (by decide) (by decide) (by decide)).trans h.2⟩
/-- the reading of a value, as its lists use it -/
def RecM (base : Nat) (src : List Nat) {d : Nat} (op : Int32 × Int32) (q : Nat) (rec : xS → Option (Nat × Nat × Nat × Nat × xS)) (recA : List Nat → List Nat ⊕ (JT d × List Nat)) : Prop := ∀ (st : xS) (r : List Nat) (vs : List VR) (cs : List Nat) (ks ws : List NP), MS st vs cs ks ws → PR base src st r → OP st op → (q ≤ 59 ∨ ∃ j r1, recA r = .inr (j, r1) ∧ jd d j ≤ 59) → vs.length + r.length < bV → cs.length + r.length ≤ bC → ks.length + r.length ≤ bK → ws.length + r.length ≤ bK → ValO base src st 0 0 vs cs ks ws 1 (rec st) r 0 (recA r)
theorem wholeA {st : xS} {n wc wn : Nat} {vs : List VR} {cs : List Nat} {ks W0 W : List NP} {l : List (JT d)} {r : List Nat} (hM : MS st vs cs ks (W0 ++ W)) (h : PR base src st (93 :: r)) (hR : RL vs cs ks d W l) (hd : ∀ x ∈ l, jd d x ≤ 59) (hw : sm (fun x => (jc d x).length) l ≤ 50000) (hbv : vs.length + 1 ≤ bV) (hbk : ks.length + W.length ≤ bK) (hn : 20 * bC < n) : ValO base src st wc wn vs cs ks W0 2 ((fM_whole n (xsI st 16 (xsi st 16 + 1)) 5 (i3 W0.length)).bind fun o8 => ((if o8.1 = 0 then xmo (fun a => a.2.1) (fun a => a.2.2.1) (wc + o8.2.1) (wn + o8.2.2.1) (some (0, (wc + o8.2.1), (wn + o8.2.2.1), o8.2.2.2.1, o8.2.2.2.2)) else (if o8.1 = 1 then xmo (fun a => a.2.1) (fun a => a.2.2.1) (wc + o8.2.1) (wn + o8.2.2.1) (some (1, (wc + o8.2.1), (wn + o8.2.2.1), 0, o8.2.2.2.2)) else none)))) (93 :: r) W.length (.inr (ja l, r)) := by
  obtain ⟨a1, a2, a3, a4, a5⟩ := hR.sums
  obtain ⟨cc, s, st1, st2, e1, m1, _, m2, m3, m4, _⟩ := whole_w (n := n) (hM.si (k := 16) (v := xsi st 16 + 1) (by decide) (by decide) (by decide) (by decide)) (k := 5) (by omega) a4 hbv hbk hn
  have hjd : jd (d + 1) (ja l) ≤ 59 + 1 := jd_a_le.mpr hd
  have hjc : (jc (d + 1) (ja l)).length ≤ 60000 := by
    rw [jc_a, lst_len, sm_flat]
    omega
  have hD : (W.map (fun p => vDp vs p.1)).foldl max 0 < 60 := by
    rw [a2]
    have : (l.map (jd d)).foldl max 0 + 1 ≤ 60 := hjd
    omega
  have hW : 1 + (W.map (kWt vs 5)).sum ≤ 60000 := by
    rw [a3]
    have : (l.map (fun x => (jc d x).length)).sum = sm (fun x => (jc d x).length) l := rfl
    omega
  rw [if_pos ⟨hD, hW⟩] at e1
  have hrep := rep_a hR hjd hjc
  refine ⟨cc, s, vs.length + 1, st1, [_], [], W, ?_, by rw [List.append_nil]; exact m1, h.next.fr m3 m4, ⟨m2.1, m2.2⟩, (Fr1.at _).trans (Fr1.of m3), (SK.at (by decide)).trans m4, by rw [List.append_nil]; exact hrep, by rw [List.length_singleton, List.length_cons]; omega, by simp, by rw [List.length_cons]; omega⟩
  have e1' : fM_whole n (xsI st 16 (xsi st 16 + 1)) 5 (i3 W0.length) = some (0, cc, s, vs.length + 1, st1) := e1
  rw [e1', Option.bind_some, if_pos rfl]
  exact xmo_some (Nat.le_refl _) (Nat.le_refl _)
theorem elemL {op : Int32 × Int32} {q : Nat} {rec : xS → Option (Nat × Nat × Nat × Nat × xS)} {recA : List Nat → List Nat ⊕ (JT d × List Nat)} (hrec : RecM base src op q rec recA) (hps : PS recA (fun j => (jc d j).length) (fun j => jok d j ∧ jd d j ≤ q)) (hsz : src.length ≤ 50000) {W0 : List NP} : ∀ (m : Nat) (r : List Nat) (n : Nat) (st : xS) (vs : List VR) (cs : List Nat) (ks W : List NP) (l : List (JT d)) (wc wn : Nat), MS st vs cs ks (W0 ++ W) → PR base src st r → OP st op → RL vs cs ks d W l → (∀ x ∈ l, jd d x ≤ 59) → sm (fun x => (jc d x).length) l + r.length ≤ src.length → (q ≤ 59 ∨ ∃ l' r1, pE recA m r = .inr (l', r1) ∧ ∀ x ∈ l', jd d x ≤ 59) → vs.length + r.length < bV → cs.length + r.length ≤ bC → ks.length + W.length + r.length ≤ bK → W0.length + W.length + r.length ≤ bK → r.length < m → 3000000 + r.length < n → ValO base src st wc wn vs cs ks W0 2 (fM_elements_b rec n 1 (i3 W0.length) st wc wn) r W.length (mp (fun l' => ja (l ++ l')) (pE recA m r)) := by
  have hbV : bV = 32000 := rfl
  have hbc : bC = 100000 := rfl
  have hbK : bK = 32000 := rfl
  intro m
  induction m with
  | zero => intro r n st vs cs ks W l wc wn _ _ _ _ _ _ _ _ _ _ _ hm; omega
  | succ m ih =>
    intro r n st vs cs ks W l wc wn hM h h18 hR hdl hsm hG hb1 hb2 hb3 hb4 hm hn
    obtain ⟨n, rfl⟩ : ∃ j, n = j + 1 := ⟨n - 1, by omega⟩
    have hG1 : q ≤ 59 ∨ ∃ j r1, recA r = .inr (j, r1) ∧ jd d j ≤ 59 := by
      rcases hG with hG | ⟨l', r1, hG, hl'⟩
      · exact Or.inl hG
      · right
        rw [pE] at hG
        cases hp : recA r with
        | inl x => rw [hp] at hG; simp at hG
        | inr t =>
          obtain ⟨v, r2⟩ := t
          refine ⟨v, r2, rfl, ?_⟩
          rw [hp] at hG
          dsimp only at hG
          split at hG
          · split at hG
            · simp at hG
            · obtain ⟨rfl, _⟩ := Prod.mk.inj (Sum.inr.inj hG)
              exact hl' v (List.mem_cons_self ..)
          · split at hG
            · obtain ⟨rfl, _⟩ := Prod.mk.inj (Sum.inr.inj hG)
              exact hl' v (List.mem_cons_self ..)
            · simp at hG
    have hV := hrec st r vs cs ks (W0 ++ W) hM h h18 hG1 hb1 hb2 (by omega) (by rw [List.length_append]; omega)
    rw [fM_elements_b, pE]
    cases hp : recA r with
    | inl x =>
      rw [hp] at hV
      obtain ⟨cc, k, st', e1, b1, b2⟩ := hV
      rw [Nat.zero_add, Nat.zero_add] at e1
      refine ⟨cc, k, st', ?_, b1, b2.any Fr1.refl (Nat.le_refl _)⟩
      rw [e1, Option.bind_some, if_neg (show ¬ (1 : Nat) = 0 by decide), if_pos rfl]
      dsimp only
      have hin : xmo (fun a : Nat × Nat × Nat × Nat × xS => a.2.1) (fun a => a.2.2.1) (wc + cc) (wn + k) (some (2, wc + cc, wn + k, 0, st')) = some (2, wc + cc, wn + k, 0, st') := xmo_some (Nat.le_refl _) (Nat.le_refl _)
      rw [hin]
      exact xmo_some (by show wc ≤ wc + cc; omega) (by show wn ≤ wn + k; omega)
    | inr t =>
      obtain ⟨v, r1⟩ := t
      rw [hp] at hV
      obtain ⟨cc, k, c, st1, a, b, e, e1, m1, m2, m3, m4, m5, m6, m7, m8, m9⟩ := hV
      rw [Nat.zero_add, Nat.zero_add] at e1
      obtain ⟨s1, s2, s3, s4⟩ := (hps r).2 v r1 hp
      have hjv : jd d v ≤ 59 := by
        rcases hG1 with hG1 | ⟨j, r2, hG1, hj⟩
        · have := s4.2; omega
        · rw [hp] at hG1
          obtain ⟨rfl, _⟩ := Prod.mk.inj (Sum.inr.inj hG1)
          exact hj
      dsimp only at s2 s3
      have hcl := m6.le
      obtain ⟨cc2, k2, st2, e2, w1, w2, w3, w4⟩ := wait_w (n := n) m1 (a := c) (b := 0) hcl.2 (Nat.zero_le _) (by rw [List.length_append]; omega) (by omega)
      have hPR2 : PR base src st2 r1 := m2.fr w3 w4
      obtain ⟨e3, hPR3⟩ := hPR2.blanks (n := n) (by omega)
      have hR2 : RL (vs ++ a) (cs ++ b) (ks ++ e) d (W ++ [(c, 0)]) (l ++ [v]) := hR.mono.snoc m6 (Nat.zero_le _)
      have hct : ¬ xct st1 < c := by have := m1.2.2.1.1; omega
      have hM3 : MS (xsI st2 16 (rp base src (blk r1))) (vs ++ a) (cs ++ b) (ks ++ e) (W0 ++ (W ++ [(c, 0)])) := by
        rw [← List.append_assoc]
        exact w1.si (by decide) (by decide) (by decide) (by decide)
      have hbl := blk_len r1
      have hcost : Cost st (xsI st2 16 (rp base src (blk r1))) (cc + cc2) (k + k2) := m3.trans ⟨w2.1, w2.2⟩
      have hfr : Fr1 st (xsI st2 16 (rp base src (blk r1))) := (m4.trans (Fr1.of w3)).trans (Fr1.at _)
      have hsk : SK st (xsI st2 16 (rp base src (blk r1))) := (m5.trans w4).trans (SK.at (by decide))
      have hdl2 : ∀ x ∈ l ++ [v], jd d x ≤ 59 := fun x hx => by
        rcases List.mem_append.mp hx with hx | hx
        · exact hdl x hx
        · rw [List.mem_singleton.mp hx]; exact hjv
      have hsm2 : sm (fun x => (jc d x).length) (l ++ [v]) = sm (fun x => (jc d x).length) l + (jc d v).length := by
        unfold sm
        rw [List.map_append, List.sum_append]
        simp
      have hWl : (W ++ [(c, 0)]).length = W.length + 1 := by rw [List.length_append]; rfl
      rw [e1, Option.bind_some, if_pos rfl]
      dsimp only
      rw [e2, Option.bind_some, if_neg hct]
      dsimp only
      rw [e3, Option.bind_some, hPR3.peek, Option.bind_some]
      have wrap : ∀ (X : Option (Nat × Nat × Nat × Nat × xS)) (res : List Nat ⊕ (JT (d + 1) × List Nat)), ValO base src st wc wn vs cs ks W0 2 X r W.length res → (∀ a, X = some a → wc + cc + cc2 ≤ a.2.1 ∧ wn + k + k2 ≤ a.2.2.1) → ValO base src st wc wn vs cs ks W0 2 (xmo (fun a => a.2.1) (fun a => a.2.2.1) wc wn (xmo (fun a => a.2.1) (fun a => a.2.2.1) (wc + cc) (wn + k) (xmo (fun a => a.2.1) (fun a => a.2.2.1) (wc + cc + cc2) (wn + k + k2) X))) r W.length res := fun X res hX hge => by
        have x1 : xmo (fun a : Nat × Nat × Nat × Nat × xS => a.2.1) (fun a => a.2.2.1) (wc + cc + cc2) (wn + k + k2) X = X := xmo_id hge
        have x2 : xmo (fun a : Nat × Nat × Nat × Nat × xS => a.2.1) (fun a => a.2.2.1) (wc + cc) (wn + k) X = X := xmo_id (fun a ha => ⟨by have := (hge a ha).1; omega, by have := (hge a ha).2; omega⟩)
        rw [x1, x2, xmo_id hX.ge]
        exact hX
      by_cases h44 : (blk r1).head? = some 44
      · obtain ⟨r2, hr2⟩ := head_c h44
        rw [hr2] at hPR3 hbl hM3 hcost hfr hsk ⊢
        rw [List.length_cons] at hbl
        rw [if_pos (show hv (44 :: r2) = 44 from rfl), if_neg (show ¬ hv (44 :: r2) = 93 from by rw [hv_c]; decide), List.head?_cons, if_pos rfl, List.tail_cons]
        have hnx := hPR3.next
        have hG2 : q ≤ 59 ∨ ∃ l' r1, pE recA m r2 = .inr (l', r1) ∧ ∀ x ∈ l', jd d x ≤ 59 := by
          rcases hG with hG | ⟨l', r3, hG, hl'⟩
          · exact Or.inl hG
          · right
            rw [pE, hp] at hG
            dsimp only at hG
            rw [hr2, List.head?_cons, if_pos rfl, List.tail_cons] at hG
            cases hp2 : pE recA m r2 with
            | inl x => rw [hp2] at hG; simp at hG
            | inr t =>
              obtain ⟨l2, r4⟩ := t
              rw [hp2] at hG
              obtain ⟨rfl, _⟩ := Prod.mk.inj (Sum.inr.inj hG)
              exact ⟨l2, r4, rfl, fun x hx => hl' x (List.mem_cons_of_mem _ hx)⟩
        have hih := ih r2 n _ (vs ++ a) (cs ++ b) (ks ++ e) (W ++ [(c, 0)]) (l ++ [v]) (wc + (cc + cc2)) (wn + (k + k2)) (hM3.si (by decide) (by decide) (by decide) (by decide)) hnx (h18.fr (hfr.trans (Fr1.at _))) hR2 hdl2 (by rw [hsm2]; omega) hG2 (by rw [List.length_append]; omega) (by rw [List.length_append]; omega) (by rw [List.length_append, hWl]; omega) (by rw [hWl]; omega) (by omega) (by omega)
        have hst := hih.step (vs := vs) (cs := cs) (ks := ks) (r := r) (w := W.length) (st := st) (wc := wc) (wn := wn) ⟨hcost.1, hcost.2⟩ (hfr.trans (Fr1.at _)) (hsk.trans (SK.at (by decide))) (by omega) (by omega) (by rw [hWl]; omega)
        refine wrap _ _ ?_ ?_
        · rw [← Nat.add_assoc, ← Nat.add_assoc] at hst
          cases hpe : pE recA m r2 with
          | inl x =>
            rw [hpe] at hst
            exact hst
          | inr t =>
            obtain ⟨l2, r4⟩ := t
            rw [hpe] at hst
            have hl2 : l ++ [v] ++ l2 = l ++ v :: l2 := by simp
            have hst2 : ValO base src st wc wn vs cs ks W0 2 (fM_elements_b rec n 1 (i3 W0.length) (xsI (xsI st2 16 (rp base src (44 :: r2))) 16 (xsi (xsI st2 16 (rp base src (44 :: r2))) 16 + 1)) (wc + cc + cc2) (wn + k + k2)) r W.length (.inr (ja (l ++ [v] ++ l2), r4)) := hst
            rw [hl2] at hst2
            exact hst2
        · rw [← Nat.add_assoc, ← Nat.add_assoc] at hih
          exact hih.ge
      · rw [if_neg (show ¬ hv (blk r1) = 44 from fun hh => h44 ((hPR3.hve (k := 44) (by omega)).mp hh)), if_neg h44]
        by_cases h93 : (blk r1).head? = some 93
        · obtain ⟨r2, hr2⟩ := head_c h93
          rw [hr2] at hPR3 hbl hM3 hcost hfr hsk ⊢
          rw [List.length_cons] at hbl
          rw [if_pos (show hv (93 :: r2) = 93 from rfl), if_pos (show hv (93 :: r2) = 93 from rfl), List.head?_cons, if_pos rfl, List.tail_cons]
          have hw := wholeA (n := n) (wc := wc + (cc + cc2)) (wn := wn + (k + k2)) hM3 hPR3 hR2 hdl2 (by rw [hsm2]; omega) (by rw [List.length_append]; omega) (by rw [List.length_append, hWl]; omega) (by omega)
          have hst := hw.step (vs := vs) (cs := cs) (ks := ks) (r := r) (w := W.length) (st := st) (wc := wc) (wn := wn) ⟨hcost.1, hcost.2⟩ hfr hsk (by rw [List.length_cons]; omega) (by rw [List.length_cons]; omega) (by rw [hWl, List.length_cons]; omega)
          refine wrap _ _ ?_ ?_
          · rw [← Nat.add_assoc, ← Nat.add_assoc] at hst
            exact hst
          · rw [← Nat.add_assoc, ← Nat.add_assoc] at hw
            exact hw.ge
        · rw [if_neg (show ¬ hv (blk r1) = 93 from fun hh => h93 ((hPR3.hve (k := 93) (by omega)).mp hh)), if_neg h93]
          have hb : ((fM_bad n (xsI st2 16 (rp base src (blk r1))) (xsi (xsI st2 16 (rp base src (blk r1))) 16)).bind fun o29 => (if o29.1 = 1 then if (xct (xsI st2 16 (rp base src (blk r1)))) < c then none else xmo (fun a : Nat × Nat × Nat × Nat × xS => a.2.1) (fun a => a.2.2.1) (((wc + cc) + cc2) + o29.2.1) (((wn + k) + k2) + o29.2.2.1) (some (2, (((wc + cc) + cc2) + o29.2.1), (((wn + k) + k2) + o29.2.2.1), 0, o29.2.2.2)) else none)) = some (2, wc + cc + cc2 + 1, wn + k + k2 + 6, 0, xsI (xsI st2 16 (rp base src (blk r1))) 20 (rp base src (blk r1))) := by
            have hx : xsi (xsI st2 16 (rp base src (blk r1))) 16 = rp base src (blk r1) := hPR3.2.2
            unfold fM_bad
            rw [Option.bind_some, if_pos rfl, if_neg (by have := hM3.2.2.1.1; rw [List.length_append] at this hcl; omega), hx]
            exact xmo_some (Nat.le_refl _) (Nat.le_refl _)
          refine wrap _ _ ?_ ?_
          · rw [hb]
            refine ⟨cc + cc2 + 1, k + k2 + 6, _, by rw [← Nat.add_assoc, ← Nat.add_assoc, ← Nat.add_assoc, ← Nat.add_assoc], ⟨by have := hcost.1; omega, ?_⟩, (Bad.of2 hM3 FrP.refl (Nat.le_refl _) rfl).any hfr (by have := hcost.2; omega)⟩
            have := hcost.2
            have hpe : pt (xsI (xsI st2 16 (rp base src (blk r1))) 20 (rp base src (blk r1))) = pt (xsI st2 16 (rp base src (blk r1))) := rfl
            omega
          · intro z hz
            rw [hb] at hz
            obtain rfl := Option.some.inj hz
            exact ⟨Nat.le_succ _, by show wn + k + k2 ≤ wn + k + k2 + 6; omega⟩
end RJ2
