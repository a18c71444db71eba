section ZRefi56
/-! ===== the reference's reader: lists ===== -/
/-- what the reading of a value gives; w: kids that waited before -/
def ValO (base : Nat) (src : List Nat) (st : xS) (wc wn : Nat) (vs : List VR) (cs : List Nat) (ks ws : List NP) {d : Nat} (bad : Nat) (out : Option (Nat × Nat × Nat × Nat × xS)) (r : List Nat) (w : Nat) (res : List Nat ⊕ (JT d × List Nat)) : Prop := match res with
  | .inl x => ∃ (cc k : Nat) (st' : xS), out = some (bad, wc + cc, wn + k, 0, st') ∧ CostE st st' cc k 1 ∧ Bad base src st st' vs cs ks ws x
  | .inr (j, r1) => ∃ (cc k c : Nat) (st' : xS) (vs' : List VR) (cs' : List Nat) (ks' : List NP), out = some (0, wc + cc, wn + k, c, st') ∧ MS st' (vs ++ vs') (cs ++ cs') (ks ++ ks') ws ∧ PR base src st' r1 ∧ Cost st st' cc k ∧ Fr1 st st' ∧ SK st st' ∧ Rep (vs ++ vs') (cs ++ cs') (ks ++ ks') d j c ∧ vs'.length + r1.length ≤ r.length ∧ cs'.length + r1.length ≤ r.length ∧ ks'.length + r1.length + 1 ≤ r.length + w
section RJ2
variable {base : Nat} {src : List Nat} {d : Nat}
theorem ValO.ge {st : xS} {vs : List VR} {cs : List Nat} {ks ws : List NP} {wc wn bad w : Nat} {out : Option (Nat × Nat × Nat × Nat × xS)} {r : List Nat} {res : List Nat ⊕ (JT d × List Nat)} (h : ValO base src st wc wn vs cs ks ws bad out r w res) : ∀ a, out = some a → wc ≤ a.2.1 ∧ wn ≤ a.2.2.1 := by
  intro a ha
  cases res with
  | inl x =>
    obtain ⟨cc, k, st', e, _⟩ := h
    rw [e] at ha
    obtain rfl := Option.some.inj ha
    exact ⟨Nat.le_add_right _ _, Nat.le_add_right _ _⟩
  | inr q =>
    obtain ⟨cc, k, c, st', vs', cs', ks', e, _⟩ := h
    rw [e] at ha
    obtain rfl := Option.some.inj ha
    exact ⟨Nat.le_add_right _ _, Nat.le_add_right _ _⟩
theorem Bad.any {st st1 st' : xS} {vs vs1 : List VR} {cs cs1 : List Nat} {ks ks1 ws ws1 : List NP} {x : List Nat} (h : Bad base src st1 st' vs1 cs1 ks1 ws1 x) (hf : Fr1 st st1) (hp : pt st ≤ pt st1) : Bad base src st st' vs cs ks ws x := ⟨h.1, h.2.1, hf.p.trans h.2.2.1, Nat.le_trans hp h.2.2.2.1, h.2.2.2.2.trans (hf.1 19 (by decide) (by decide) (by decide) (by decide) (by decide))⟩
theorem ValO.step {st st1 : xS} {vs a : List VR} {cs b : List Nat} {ks c ws : List NP} {wc wn cc k bad w w' : Nat} {out : Option (Nat × Nat × Nat × Nat × xS)} {r r1 : List Nat} {res : List Nat ⊕ (JT d × List Nat)} (h : ValO base src st1 (wc + cc) (wn + k) (vs ++ a) (cs ++ b) (ks ++ c) ws bad out r1 w' res) (hc : Cost st st1 cc k) (hf : Fr1 st st1) (hs : SK st st1) (ha : a.length + r1.length ≤ r.length) (hb : b.length + r1.length ≤ r.length) (hk : c.length + (r1.length + w') ≤ r.length + w) : ValO base src st wc wn vs cs ks ws bad out r w res := by
  cases res with
  | inl x =>
    obtain ⟨cc', k', st', e, h1, h2⟩ := h
    refine ⟨cc + cc', k + k', st', by rw [e, Nat.add_assoc, Nat.add_assoc], ?_, h2.any hf (by have := hc.2; omega)⟩
    have := hc.e.trans h1
    rwa [Nat.zero_add] at this
  | inr q =>
    obtain ⟨j, r2⟩ := q
    obtain ⟨cc', k', c', st', vs', cs', ks', e, h1, h2, h3, h4, h5, h6, h7, h8, h9⟩ := h
    refine ⟨cc + cc', k + k', c', st', a ++ vs', b ++ cs', c ++ ks', by rw [e, Nat.add_assoc, Nat.add_assoc], ?_, h2, hc.trans h3, hf.trans h4, hs.trans h5, ?_, by rw [List.length_append]; omega, by rw [List.length_append]; omega, by rw [List.length_append]; omega⟩
    · rw [← List.append_assoc, ← List.append_assoc, ← List.append_assoc]
      exact h1
    · rw [← List.append_assoc, ← List.append_assoc, ← List.append_assoc]
      exact h6
/-- lists within one another: opened, and how many may be -/
def OP (st : xS) (op : Int32 × Int32) : Prop := xsi st 18 = op.1 ∧ xsi st 19 = op.2
theorem OP.fr {st st' : xS} {op : Int32 × Int32} (h : OP st op) (hf : Fr1 st st') : OP st' op := ⟨(hf.1 18 (by decide) (by decide) (by decide) (by decide) (by decide)).trans h.1, (hf.1 19 (by decide) (by decide) (by decide) (by decide) (by decide)).trans h.2⟩
/-- the reading of a value, as its lists use it -/
def RecM (base : Nat) (src : List Nat) {d : Nat} (op : Int32 × Int32) (q : Nat) (rec : xS → Option (Nat × Nat × Nat × Nat × xS)) (recA : List Nat → List Nat ⊕ (JT d × List Nat)) : Prop := ∀ (st : xS) (r : List Nat) (vs : List VR) (cs : List Nat) (ks ws : List NP), MS st vs cs ks ws → PR base src st r → OP st op → (q ≤ 59 ∨ ∃ j r1, recA r = .inr (j, r1) ∧ jd d j ≤ 59) → vs.length + r.length < bV → cs.length + r.length ≤ bC → ks.length + r.length ≤ bK → ws.length + r.length ≤ bK → ValO base src st 0 0 vs cs ks ws 1 (rec st) r 0 (recA r)
theorem wholeA {st : xS} {n wc wn : Nat} {vs : List VR} {cs : List Nat} {ks W0 W : List NP} {l : List (JT d)} {r : List Nat} (hM : MS st vs cs ks (W0 ++ W)) (h : PR base src st (93 :: r)) (hR : RL vs cs ks d W l) (hd : ∀ x ∈ l, jd d x ≤ 59) (hw : sm (fun x => (jc d x).length) l ≤ 50000) (hbv : vs.length + 1 ≤ bV) (hbk : ks.length + W.length ≤ bK) (hn : 20 * bC < n) : ValO base src st wc wn vs cs ks W0 2 ((fM_whole n (xsI st 16 (xsi st 16 + 1)) 5 (i3 W0.length)).bind fun o8 => ((if o8.1 = 0 then xmo (fun a => a.2.1) (fun a => a.2.2.1) (wc + o8.2.1) (wn + o8.2.2.1) (some (0, (wc + o8.2.1), (wn + o8.2.2.1), o8.2.2.2.1, o8.2.2.2.2)) else (if o8.1 = 1 then xmo (fun a => a.2.1) (fun a => a.2.2.1) (wc + o8.2.1) (wn + o8.2.2.1) (some (1, (wc + o8.2.1), (wn + o8.2.2.1), 0, o8.2.2.2.2)) else none)))) (93 :: r) W.length (.inr (ja l, r)) := by
  obtain ⟨a1, a2, a3, a4, a5⟩ := hR.sums
  obtain ⟨cc, s, st1, st2, e1, m1, _, m2, m3, m4, _⟩ := whole_w (n := n) (hM.si (k := 16) (v := xsi st 16 + 1) (by decide) (by decide) (by decide) (by decide)) (k := 5) (by omega) a4 hbv hbk hn
  have hjd : jd (d + 1) (ja l) ≤ 59 + 1 := jd_a_le.mpr hd
  have hjc : (jc (d + 1) (ja l)).length ≤ 60000 := by
    rw [jc_a, lst_len, sm_flat]
    omega
  have hD : (W.map (fun p => vDp vs p.1)).foldl max 0 < 60 := by
    rw [a2]
    have : (l.map (jd d)).foldl max 0 + 1 ≤ 60 := hjd
    omega
  have hW : 1 + (W.map (kWt vs 5)).sum ≤ 60000 := by
    rw [a3]
    have : (l.map (fun x => (jc d x).length)).sum = sm (fun x => (jc d x).length) l := rfl
    omega
  rw [if_pos ⟨hD, hW⟩] at e1
  have hrep := rep_a hR hjd hjc
  refine ⟨cc, s, vs.length + 1, st1, [_], [], W, ?_, by rw [List.append_nil]; exact m1, h.next.fr m3 m4, ⟨m2.1, m2.2⟩, (Fr1.at _).trans (Fr1.of m3), (SK.at (by decide)).trans m4, by rw [List.append_nil]; exact hrep, by rw [List.length_singleton, List.length_cons]; omega, by simp, by rw [List.length_cons]; omega⟩
  have e1' : fM_whole n (xsI st 16 (xsi st 16 + 1)) 5 (i3 W0.length) = some (0, cc, s, vs.length + 1, st1) := e1
  rw [e1', Option.bind_some, if_pos rfl]
  exact xmo_some (Nat.le_refl _) (Nat.le_refl _)
theorem elemL {op : Int32 × Int32} {q : Nat} {rec : xS → Option (Nat × Nat × Nat × Nat × xS)} {recA : List Nat → List Nat ⊕ (JT d × List Nat)} (hrec : RecM base src op q rec recA) (hps : PS recA (fun j => (jc d j).length) (fun j => jok d j ∧ jd d j ≤ q)) (hsz : src.length ≤ 50000) {W0 : List NP} : ∀ (m : Nat) (r : List Nat) (n : Nat) (st : xS) (vs : List VR) (cs : List Nat) (ks W : List NP) (l : List (JT d)) (wc wn : Nat), MS st vs cs ks (W0 ++ W) → PR base src st r → OP st op → RL vs cs ks d W l → (∀ x ∈ l, jd d x ≤ 59) → sm (fun x => (jc d x).length) l + r.length ≤ src.length → (q ≤ 59 ∨ ∃ l' r1, pE recA m r = .inr (l', r1) ∧ ∀ x ∈ l', jd d x ≤ 59) → vs.length + r.length < bV → cs.length + r.length ≤ bC → ks.length + W.length + r.length ≤ bK → W0.length + W.length + r.length ≤ bK → r.length < m → 3000000 + r.length < n → ValO base src st wc wn vs cs ks W0 2 (fM_elements_b rec n 1 (i3 W0.length) st wc wn) r W.length (mp (fun l' => ja (l ++ l')) (pE recA m r)) := by
  have hbV : bV = 32000 := rfl
  have hbc : bC = 100000 := rfl
  have hbK : bK = 32000 := rfl
  intro m
  induction m with
  | zero => intro r n st vs cs ks W l wc wn _ _ _ _ _ _ _ _ _ _ _ hm; omega
  | succ m ih =>
    intro r n st vs cs ks W l wc wn hM h h18 hR hdl hsm hG hb1 hb2 hb3 hb4 hm hn
    obtain ⟨n, rfl⟩ : ∃ j, n = j + 1 := ⟨n - 1, by omega⟩
    have hG1 : q ≤ 59 ∨ ∃ j r1, recA r = .inr (j, r1) ∧ jd d j ≤ 59 := by
      rcases hG with hG | ⟨l', r1, hG, hl'⟩
      · exact Or.inl hG
      · right
        rw [pE] at hG
        cases hp : recA r with
        | inl x => rw [hp] at hG; simp at hG
        | inr t =>
          obtain ⟨v, r2⟩ := t
          refine ⟨v, r2, rfl, ?_⟩
          rw [hp] at hG
          dsimp only at hG
          split at hG
          · split at hG
            · simp at hG
            · obtain ⟨rfl, _⟩ := Prod.mk.inj (Sum.inr.inj hG)
              exact hl' v (List.mem_cons_self ..)
          · split at hG
            · obtain ⟨rfl, _⟩ := Prod.mk.inj (Sum.inr.inj hG)
              exact hl' v (List.mem_cons_self ..)
            · simp at hG
    have hV := hrec st r vs cs ks (W0 ++ W) hM h h18 hG1 hb1 hb2 (by omega) (by rw [List.length_append]; omega)
    rw [fM_elements_b, pE]
    cases hp : recA r with
    | inl x =>
      rw [hp] at hV
      obtain ⟨cc, k, st', e1, b1, b2⟩ := hV
      rw [Nat.zero_add, Nat.zero_add] at e1
      refine ⟨cc, k, st', ?_, b1, b2.any Fr1.refl (Nat.le_refl _)⟩
      rw [e1, Option.bind_some, if_neg (show ¬ (1 : Nat) = 0 by decide), if_pos rfl]
      dsimp only
      have hin : xmo (fun a : Nat × Nat × Nat × Nat × xS => a.2.1) (fun a => a.2.2.1) (wc + cc) (wn + k) (some (2, wc + cc, wn + k, 0, st')) = some (2, wc + cc, wn + k, 0, st') := xmo_some (Nat.le_refl _) (Nat.le_refl _)
      rw [hin]
      exact xmo_some (by show wc ≤ wc + cc; omega) (by show wn ≤ wn + k; omega)
    | inr t =>
      obtain ⟨v, r1⟩ := t
      rw [hp] at hV
      obtain ⟨cc, k, c, st1, a, b, e, e1, m1, m2, m3, m4, m5, m6, m7, m8, m9⟩ := hV
      rw [Nat.zero_add, Nat.zero_add] at e1
      obtain ⟨s1, s2, s3, s4⟩ := (hps r).2 v r1 hp
      have hjv : jd d v ≤ 59 := by
        rcases hG1 with hG1 | ⟨j, r2, hG1, hj⟩
        · have := s4.2; omega
        · rw [hp] at hG1
          obtain ⟨rfl, _⟩ := Prod.mk.inj (Sum.inr.inj hG1)
          exact hj
      dsimp only at s2 s3
      have hcl := m6.le
      obtain ⟨cc2, k2, st2, e2, w1, w2, w3, w4⟩ := wait_w (n := n) m1 (a := c) (b := 0) hcl.2 (Nat.zero_le _) (by rw [List.length_append]; omega) (by omega)
      have hPR2 : PR base src st2 r1 := m2.fr w3 w4
      obtain ⟨e3, hPR3⟩ := hPR2.blanks (n := n) (by omega)
      have hR2 : RL (vs ++ a) (cs ++ b) (ks ++ e) d (W ++ [(c, 0)]) (l ++ [v]) := hR.mono.snoc m6 (Nat.zero_le _)
      have hct : ¬ xct st1 < c := by have := m1.2.2.1.1; omega
      have hM3 : MS (xsI st2 16 (rp base src (blk r1))) (vs ++ a) (cs ++ b) (ks ++ e) (W0 ++ (W ++ [(c, 0)])) := by
        rw [← List.append_assoc]
        exact w1.si (by decide) (by decide) (by decide) (by decide)
      have hbl := blk_len r1
      have hcost : Cost st (xsI st2 16 (rp base src (blk r1))) (cc + cc2) (k + k2) := m3.trans ⟨w2.1, w2.2⟩
      have hfr : Fr1 st (xsI st2 16 (rp base src (blk r1))) := (m4.trans (Fr1.of w3)).trans (Fr1.at _)
      have hsk : SK st (xsI st2 16 (rp base src (blk r1))) := (m5.trans w4).trans (SK.at (by decide))
      have hdl2 : ∀ x ∈ l ++ [v], jd d x ≤ 59 := fun x hx => by
        rcases List.mem_append.mp hx with hx | hx
        · exact hdl x hx
        · rw [List.mem_singleton.mp hx]; exact hjv
      have hsm2 : sm (fun x => (jc d x).length) (l ++ [v]) = sm (fun x => (jc d x).length) l + (jc d v).length := by
        unfold sm
        rw [List.map_append, List.sum_append]
        simp
      have hWl : (W ++ [(c, 0)]).length = W.length + 1 := by rw [List.length_append]; rfl
      rw [e1, Option.bind_some, if_pos rfl]
      dsimp only
      rw [e2, Option.bind_some, if_neg hct]
      dsimp only
      rw [e3, Option.bind_some, hPR3.peek, Option.bind_some]
      have wrap : ∀ (X : Option (Nat × Nat × Nat × Nat × xS)) (res : List Nat ⊕ (JT (d + 1) × List Nat)), ValO base src st wc wn vs cs ks W0 2 X r W.length res → (∀ a, X = some a → wc + cc + cc2 ≤ a.2.1 ∧ wn + k + k2 ≤ a.2.2.1) → ValO base src st wc wn vs cs ks W0 2 (xmo (fun a => a.2.1) (fun a => a.2.2.1) wc wn (xmo (fun a => a.2.1) (fun a => a.2.2.1) (wc + cc) (wn + k) (xmo (fun a => a.2.1) (fun a => a.2.2.1) (wc + cc + cc2) (wn + k + k2) X))) r W.length res := fun X res hX hge => by
        have x1 : xmo (fun a : Nat × Nat × Nat × Nat × xS => a.2.1) (fun a => a.2.2.1) (wc + cc + cc2) (wn + k + k2) X = X := xmo_id hge
        have x2 : xmo (fun a : Nat × Nat × Nat × Nat × xS => a.2.1) (fun a => a.2.2.1) (wc + cc) (wn + k) X = X := xmo_id (fun a ha => ⟨by have := (hge a ha).1; omega, by have := (hge a ha).2; omega⟩)
        rw [x1, x2, xmo_id hX.ge]
        exact hX
      by_cases h44 : (blk r1).head? = some 44
      · obtain ⟨r2, hr2⟩ := head_c h44
        rw [hr2] at hPR3 hbl hM3 hcost hfr hsk ⊢
        rw [List.length_cons] at hbl
        rw [if_pos (show hv (44 :: r2) = 44 from rfl), if_neg (show ¬ hv (44 :: r2) = 93 from by rw [hv_c]; decide), List.head?_cons, if_pos rfl, List.tail_cons]
        have hnx := hPR3.next
        have hG2 : q ≤ 59 ∨ ∃ l' r1, pE recA m r2 = .inr (l', r1) ∧ ∀ x ∈ l', jd d x ≤ 59 := by
          rcases hG with hG | ⟨l', r3, hG, hl'⟩
          · exact Or.inl hG
          · right
            rw [pE, hp] at hG
            dsimp only at hG
            rw [hr2, List.head?_cons, if_pos rfl, List.tail_cons] at hG
            cases hp2 : pE recA m r2 with
            | inl x => rw [hp2] at hG; simp at hG
            | inr t =>
              obtain ⟨l2, r4⟩ := t
              rw [hp2] at hG
              obtain ⟨rfl, _⟩ := Prod.mk.inj (Sum.inr.inj hG)
              exact ⟨l2, r4, rfl, fun x hx => hl' x (List.mem_cons_of_mem _ hx)⟩
        have hih := ih r2 n _ (vs ++ a) (cs ++ b) (ks ++ e) (W ++ [(c, 0)]) (l ++ [v]) (wc + (cc + cc2)) (wn + (k + k2)) (hM3.si (by decide) (by decide) (by decide) (by decide)) hnx (h18.fr (hfr.trans (Fr1.at _))) hR2 hdl2 (by rw [hsm2]; omega) hG2 (by rw [List.length_append]; omega) (by rw [List.length_append]; omega) (by rw [List.length_append, hWl]; omega) (by rw [hWl]; omega) (by omega) (by omega)
        have hst := hih.step (vs := vs) (cs := cs) (ks := ks) (r := r) (w := W.length) (st := st) (wc := wc) (wn := wn) ⟨hcost.1, hcost.2⟩ (hfr.trans (Fr1.at _)) (hsk.trans (SK.at (by decide))) (by omega) (by omega) (by rw [hWl]; omega)
        refine wrap _ _ ?_ ?_
        · rw [← Nat.add_assoc, ← Nat.add_assoc] at hst
          cases hpe : pE recA m r2 with
          | inl x =>
            rw [hpe] at hst
            exact hst
          | inr t =>
            obtain ⟨l2, r4⟩ := t
            rw [hpe] at hst
            have hl2 : l ++ [v] ++ l2 = l ++ v :: l2 := by simp
            have hst2 : ValO base src st wc wn vs cs ks W0 2 (fM_elements_b rec n 1 (i3 W0.length) (xsI (xsI st2 16 (rp base src (44 :: r2))) 16 (xsi (xsI st2 16 (rp base src (44 :: r2))) 16 + 1)) (wc + cc + cc2) (wn + k + k2)) r W.length (.inr (ja (l ++ [v] ++ l2), r4)) := hst
            rw [hl2] at hst2
            exact hst2
        · rw [← Nat.add_assoc, ← Nat.add_assoc] at hih
          exact hih.ge
      · rw [if_neg (show ¬ hv (blk r1) = 44 from fun hh => h44 ((hPR3.hve (k := 44) (by omega)).mp hh)), if_neg h44]
        by_cases h93 : (blk r1).head? = some 93
        · obtain ⟨r2, hr2⟩ := head_c h93
          rw [hr2] at hPR3 hbl hM3 hcost hfr hsk ⊢
          rw [List.length_cons] at hbl
          rw [if_pos (show hv (93 :: r2) = 93 from rfl), if_pos (show hv (93 :: r2) = 93 from rfl), List.head?_cons, if_pos rfl, List.tail_cons]
          have hw := wholeA (n := n) (wc := wc + (cc + cc2)) (wn := wn + (k + k2)) hM3 hPR3 hR2 hdl2 (by rw [hsm2]; omega) (by rw [List.length_append]; omega) (by rw [List.length_append, hWl]; omega) (by omega)
          have hst := hw.step (vs := vs) (cs := cs) (ks := ks) (r := r) (w := W.length) (st := st) (wc := wc) (wn := wn) ⟨hcost.1, hcost.2⟩ hfr hsk (by rw [List.length_cons]; omega) (by rw [List.length_cons]; omega) (by rw [hWl, List.length_cons]; omega)
          refine wrap _ _ ?_ ?_
          · rw [← Nat.add_assoc, ← Nat.add_assoc] at hst
            exact hst
          · rw [← Nat.add_assoc, ← Nat.add_assoc] at hw
            exact hw.ge
        · rw [if_neg (show ¬ hv (blk r1) = 93 from fun hh => h93 ((hPR3.hve (k := 93) (by omega)).mp hh)), if_neg h93]
          have hb : ((fM_bad n (xsI st2 16 (rp base src (blk r1))) (xsi (xsI st2 16 (rp base src (blk r1))) 16)).bind fun o29 => (if o29.1 = 1 then if (xct (xsI st2 16 (rp base src (blk r1)))) < c then none else xmo (fun a : Nat × Nat × Nat × Nat × xS => a.2.1) (fun a => a.2.2.1) (((wc + cc) + cc2) + o29.2.1) (((wn + k) + k2) + o29.2.2.1) (some (2, (((wc + cc) + cc2) + o29.2.1), (((wn + k) + k2) + o29.2.2.1), 0, o29.2.2.2)) else none)) = some (2, wc + cc + cc2 + 1, wn + k + k2 + 6, 0, xsI (xsI st2 16 (rp base src (blk r1))) 20 (rp base src (blk r1))) := by
            have hx : xsi (xsI st2 16 (rp base src (blk r1))) 16 = rp base src (blk r1) := hPR3.2.2
            unfold fM_bad
            rw [Option.bind_some, if_pos rfl, if_neg (by have := hM3.2.2.1.1; rw [List.length_append] at this hcl; omega), hx]
            exact xmo_some (Nat.le_refl _) (Nat.le_refl _)
          refine wrap _ _ ?_ ?_
          · rw [hb]
            refine ⟨cc + cc2 + 1, k + k2 + 6, _, by rw [← Nat.add_assoc, ← Nat.add_assoc, ← Nat.add_assoc, ← Nat.add_assoc], ⟨by have := hcost.1; omega, ?_⟩, (Bad.of2 hM3 FrP.refl (Nat.le_refl _) rfl).any hfr (by have := hcost.2; omega)⟩
            have := hcost.2
            have hpe : pt (xsI (xsI st2 16 (rp base src (blk r1))) 20 (rp base src (blk r1))) = pt (xsI st2 16 (rp base src (blk r1))) := rfl
            omega
          · intro z hz
            rw [hb] at hz
            obtain rfl := Option.some.inj hz
            exact ⟨Nat.le_succ _, by show wn + k + k2 ≤ wn + k + k2 + 6; omega⟩
end RJ2
end ZRefi56
section ZRefj57
section RK
variable {base : Nat} {src : List Nat} {d : Nat}
theorem ValO.nil {st st1 : xS} {vs : List VR} {cs : List Nat} {ks ws : List NP} {wc wn bad w : Nat} {out : Option (Nat × Nat × Nat × Nat × xS)} {r r1 : List Nat} {res : List Nat ⊕ (JT d × List Nat)} (h : ValO base src st1 wc wn vs cs ks ws bad out r1 w res) (hp : pt st = pt st1) (hf : Fr1 st st1) (hs : SK st st1) (hr : r1.length ≤ r.length) : ValO base src st wc wn vs cs ks ws bad out r w res := by
  refine ValO.step (a := []) (b := []) (c := []) (cc := 0) (k := 0) (r1 := r1) (w' := w) ?_ ⟨by omega, by omega⟩ hf hs (by simpa using hr) (by simpa using hr) (by simp; omega)
  rw [List.append_nil, List.append_nil, List.append_nil]
  exact h
theorem elementsM {op : Int32 × Int32} {q : Nat} {rec : xS → Option (Nat × Nat × Nat × Nat × xS)} {recA : List Nat → List Nat ⊕ (JT d × List Nat)} (hrec : RecM base src op q rec recA) (hps : PS recA (fun j => (jc d j).length) (fun j => jok d j ∧ jd d j ≤ q)) (hsz : src.length ≤ 50000) {st : xS} {vs : List VR} {cs : List Nat} {ks ws : List NP} {r : List Nat} {n : Nat} (hM : MS st vs cs ks ws) (h : PR base src st r) (h18 : OP st op) (hG : q ≤ 59 ∨ ∃ l' r1, pA recA r = .inr (l', r1) ∧ ∀ x ∈ l', jd d x ≤ 59) (hb1 : vs.length + r.length < bV) (hb1' : vs.length + 1 ≤ bV) (hb2 : cs.length + r.length ≤ bC) (hb3 : ks.length + r.length ≤ bK) (hb4 : ws.length + r.length ≤ bK) (hn : 4000000 < n) : ValO base src st 0 0 vs cs ks ws 2 (fM_elements rec n st) r 0 (mp ja (pA recA r)) := by
  have hbc : bC = 100000 := rfl
  have hl := h.2.1.length_le
  have hbl := blk_len r
  obtain ⟨e1, hP⟩ := h.blanks (n := n) (by omega)
  have h12 := hM.1.1.2.2.2
  have hMx : MS (xsI st 16 (rp base src (blk r))) vs cs ks ws := hM.si (by decide) (by decide) (by decide) (by decide)
  unfold fM_elements pA
  rw [e1, Option.bind_some, hP.peek, Option.bind_some, h12]
  by_cases h93 : (blk r).head? = some 93
  · obtain ⟨r2, hr2⟩ := head_c h93
    rw [hr2] at hP hMx hbl ⊢
    rw [if_pos (show hv (93 :: r2) = 93 from rfl), List.head?_cons, if_pos rfl, List.tail_cons]
    have hw := wholeA (n := n) (wc := 0) (wn := 0) (W0 := ws) (W := []) (l := ([] : List (JT d))) (by rw [List.append_nil]; exact hMx) hP trivial (fun x hx => absurd hx (by simp)) (by simp [sm]) hb1' (by simp; omega) (by omega)
    exact hw.nil rfl (Fr1.at _) (SK.at (by decide)) hbl
  · rw [if_neg (show ¬ hv (blk r) = 93 from fun hh => h93 ((hP.hve (k := 93) (by omega)).mp hh)), if_neg h93]
    have hG' : q ≤ 59 ∨ ∃ l' r1, pE recA (r.length + 1) (blk r) = .inr (l', r1) ∧ ∀ x ∈ l', jd d x ≤ 59 := by
      rcases hG with hG | hG
      · exact Or.inl hG
      · unfold pA at hG
        rw [if_neg h93] at hG
        exact Or.inr hG
    have he := elemL hrec hps hsz (W0 := ws) (r.length + 1) (blk r) n _ vs cs ks [] [] 0 0 (by rw [List.append_nil]; exact hMx) hP (h18.fr (Fr1.at _)) trivial (fun x hx => absurd hx (by simp)) (by simp [sm]; omega) hG' (by omega) (by omega) (by simp; omega) (by simp; omega) (by omega) (by omega)
    exact he.nil rfl (Fr1.at _) (SK.at (by decide)) hbl
theorem sameL {st : xS} {vs : List VR} {cs : List Nat} {ks ws : List NP} (hM : MS st vs cs ks ws) {a b : Nat} {s t : Sx} (ha : isStr vs cs a s) (hb : isStr vs cs b t) (hl : s.length = t.length) : ∀ (q n i : Nat), i + q = s.length → q < n → fM_sameText_b st n 1 (i3 i) a b = some (if s.drop i = t.drop i then 1 else 0) := by
  obtain ⟨a1, v, av, a4, asz, _, _, ag⟩ := ha
  obtain ⟨b1, u, bu, b4, bsz, _, _, bg⟩ := hb
  obtain ⟨g1, g2, _⟩ := hM.vc a1 av
  obtain ⟨f1, f2, _⟩ := hM.vc b1 bu
  have hcl := hM.cl.2.1
  have hbc : bC = 100000 := rfl
  have r3 := hM.2.2.2.1
  have hsl : ∀ i, i < s.length → v.2.1 + i < cs.length ∧ xba st 3 (v.2.1 + i) = i3 s[i]! ∧ s[i]! < 128 := fun i hi => by
    have hx := ag i s[i] (List.getElem?_eq_getElem hi)
    obtain ⟨x1, x2⟩ := hM.1.2.2.1 _ _ hx
    rw [getElem!_pos s i hi]
    exact ⟨(List.getElem?_eq_some_iff.mp hx).1, x1, x2⟩
  have htl : ∀ i, i < t.length → u.2.1 + i < cs.length ∧ xba st 3 (u.2.1 + i) = i3 t[i]! ∧ t[i]! < 128 := fun i hi => by
    have hx := bg i t[i] (List.getElem?_eq_getElem hi)
    obtain ⟨x1, x2⟩ := hM.1.2.2.1 _ _ hx
    rw [getElem!_pos t i hi]
    exact ⟨(List.getElem?_eq_some_iff.mp hx).1, x1, x2⟩
  have hs0 : s.length ≤ cs.length := by
    cases hs : s.length with
    | zero => omega
    | succ k => have := (hsl k (by omega)).1; omega
  intro q
  induction q with
  | zero =>
    intro n i hi hn
    obtain ⟨n, rfl⟩ : ∃ j, n = j + 1 := ⟨n - 1, by omega⟩
    rw [fM_sameText_b, if_neg g1, g2.2.2.1, asz, if_pos (by rw [i3_le (by omega) (by omega)]; omega), List.drop_eq_nil_of_le (by omega), List.drop_eq_nil_of_le (by omega), if_pos rfl]
  | succ q ih =>
    intro n i hi hn
    obtain ⟨n, rfl⟩ : ∃ j, n = j + 1 := ⟨n - 1, by omega⟩
    obtain ⟨x1, x2, x3⟩ := hsl i (by omega)
    obtain ⟨y1, y2, y3⟩ := htl i (by omega)
    rw [fM_sameText_b, if_neg g1, g2.2.2.1, asz, if_neg (by rw [i3_le (by omega) (by omega)]; omega), g2.2.1, i3_add, if_neg (i3_idx (by omega) (by omega)), if_neg f1, f2.2.1, i3_add, if_neg (i3_idx (by omega) (by omega)), i3_N (by omega), i3_N (by omega), x2, y2, List.drop_eq_getElem_cons (show i < s.length by omega), List.drop_eq_getElem_cons (show i < t.length by omega), i3_one, ih n (i + 1) (by omega) (by omega)]
    rw [getElem!_pos s i (by omega), getElem!_pos t i (by omega)] at *
    have hc : (i3 s[i] = i3 t[i]) = (s[i] = t[i]) := i3_eq (by omega) (by omega)
    by_cases hh : s[i] = t[i]
    · rw [if_pos (by rw [hh])]
      by_cases hd : s.drop (i + 1) = t.drop (i + 1)
      · rw [if_pos hd, if_pos (by rw [hh, hd])]
      · rw [if_neg hd, if_neg (fun h => hd (List.cons.inj h).2)]
    · rw [if_neg (by rw [hc]; exact hh), if_neg (fun h => hh (List.cons.inj h).1)]
theorem sameTextM {st : xS} {vs : List VR} {cs : List Nat} {ks ws : List NP} {n : Nat} (hM : MS st vs cs ks ws) {a b : Nat} {s t : Sx} (ha : isStr vs cs a s) (hb : isStr vs cs b t) (hl : s.length ≤ 1000000) (hl' : t.length ≤ 1000000) (hn : 1000001 < n) : fM_sameText n st a b = some (if s = t then 1 else 0) := by
  have ha' := ha
  have hb' := hb
  obtain ⟨a1, v, av, a4, asz, _, _, ag⟩ := ha'
  obtain ⟨b1, u, bu, b4, bsz, _, _, bg⟩ := hb'
  obtain ⟨g1, g2, _⟩ := hM.vc a1 av
  obtain ⟨f1, f2, _⟩ := hM.vc b1 bu
  unfold fM_sameText
  rw [if_neg g1, if_neg f1, g2.2.2.1, f2.2.2.1, asz, bsz]
  have hc : (i3 s.length = i3 t.length) = (s.length = t.length) := i3_eq (by omega) (by omega)
  by_cases hh : s.length = t.length
  · rw [if_pos (by rw [hh])]
    have := sameL hM ha hb hh s.length n 0 (by omega) (by omega)
    rw [List.drop_zero, List.drop_zero] at this
    exact this
  · rw [if_neg (by rw [hc]; exact hh), if_neg (fun h => hh (by rw [h]))]
end RK
end ZRefj57
section ZRefk58
/-! ===== the reference's reader: members ===== -/
section RL2
variable {base : Nat} {src : List Nat} {d : Nat}
theorem wholeO {st : xS} {n wc wn : Nat} {vs : List VR} {cs : List Nat} {ks W0 W : List NP} {l : List (Sx × JT d)} {r : List Nat} (hM : MS st vs cs ks (W0 ++ W)) (h : PR base src st (125 :: r)) (hR : RM vs cs ks d W l) (hd : ∀ x ∈ l, jd d x.2 ≤ 59) (hw : sm (fun x : Sx × JT d => (strc x.1 ++ jc d x.2).length) l ≤ 50000) (hbv : vs.length + 1 ≤ bV) (hbk : ks.length + W.length ≤ bK) (hn : 20 * bC < n) : ValO base src st wc wn vs cs ks W0 2 ((fM_whole n (xsI st 16 (xsi st 16 + 1)) 6 (i3 W0.length)).bind fun o8 => ((if o8.1 = 0 then xmo (fun a => a.2.1) (fun a => a.2.2.1) (wc + o8.2.1) (wn + o8.2.2.1) (some (0, (wc + o8.2.1), (wn + o8.2.2.1), o8.2.2.2.1, o8.2.2.2.2)) else (if o8.1 = 1 then xmo (fun a => a.2.1) (fun a => a.2.2.1) (wc + o8.2.1) (wn + o8.2.2.1) (some (1, (wc + o8.2.1), (wn + o8.2.2.1), 0, o8.2.2.2.2)) else none)))) (125 :: r) W.length (.inr (jo l, r)) := by
  obtain ⟨a1, a2, a3, a4, a5⟩ := hR.sums
  obtain ⟨cc, s, st1, st2, e1, m1, _, m2, m3, m4, _⟩ := whole_w (n := n) (hM.si (k := 16) (v := xsi st 16 + 1) (by decide) (by decide) (by decide) (by decide)) (k := 6) (by omega) a4 hbv hbk hn
  have hjd : jd (d + 1) (jo l) ≤ 59 + 1 := jd_o_le.mpr hd
  have hjc : (jc (d + 1) (jo l)).length ≤ 60000 := by
    rw [jc_o, lst_len, sm_flat]
    omega
  have hD : (W.map (fun p => vDp vs p.1)).foldl max 0 < 60 := by
    rw [a2]
    have : (l.map (fun x => jd d x.2)).foldl max 0 + 1 ≤ 60 := hjd
    omega
  have hW : 1 + (W.map (kWt vs 6)).sum ≤ 60000 := by
    rw [a3]
    have : (l.map (fun x : Sx × JT d => (strc x.1 ++ jc d x.2).length)).sum = sm (fun x : Sx × JT d => (strc x.1 ++ jc d x.2).length) l := rfl
    omega
  rw [if_pos ⟨hD, hW⟩] at e1
  have hrep := rep_o hR hjd hjc
  refine ⟨cc, s, vs.length + 1, st1, [_], [], W, ?_, by rw [List.append_nil]; exact m1, h.next.fr m3 m4, ⟨m2.1, m2.2⟩, (Fr1.at _).trans (Fr1.of m3), (SK.at (by decide)).trans m4, by rw [List.append_nil]; exact hrep, by rw [List.length_singleton, List.length_cons]; omega, by simp, by rw [List.length_cons]; omega⟩
  have e1' : fM_whole n (xsI st 16 (xsi st 16 + 1)) 6 (i3 W0.length) = some (0, cc, s, vs.length + 1, st1) := e1
  rw [e1', Option.bind_some, if_pos rfl]
  exact xmo_some (Nat.le_refl _) (Nat.le_refl _)
theorem RM.at : ∀ {vs : List VR} {cs : List Nat} {ks : List NP} {W : List NP} {l : List (Sx × JT d)} {U : List NP} {p : NP} {W' : List NP}, RM vs cs ks d W l → U ++ p :: W' = W → ∃ x l1 l2, l = l1 ++ x :: l2 ∧ l1.length = U.length ∧ isStr vs cs p.2 x.1 ∧ x.1.length ≤ 59999 := by
  intro vs cs ks W l U
  induction U generalizing W l with
  | nil =>
    intro p W' h hU
    rw [List.nil_append] at hU
    subst hU
    cases l with
    | nil => exact h.elim
    | cons x l => exact ⟨x, [], l, rfl, rfl, h.2.1, h.2.2.1⟩
  | cons u U ih =>
    intro p W' h hU
    subst hU
    cases l with
    | nil => exact h.elim
    | cons y l =>
      obtain ⟨x, l1, l2, h1, h2, h3, h4⟩ := ih (W := U ++ p :: W') (l := l) h.2.2.2 rfl
      exact ⟨x, y :: l1, l2, by rw [h1]; rfl, by rw [List.length_cons, List.length_cons, h2], h3, h4⟩
theorem dupL {rec : xS → Option (Nat × Nat × Nat × Nat × xS)} {st : xS} {vs : List VR} {cs : List Nat} {ks W0 W : List NP} {l : List (Sx × JT d)} (hM : MS st vs cs ks (W0 ++ W)) (hR : RM vs cs ks d W l) {c : Nat} {s : Sx} (hs : isStr vs cs c s) (hsl : s.length ≤ 59999) {y2 : Int32} {wc wn : Nat} : ∀ (W' U : List NP) (l1 l' : List (Sx × JT d)) (n : Nat), U ++ W' = W → l1 ++ l' = l → l1.length = U.length → 1000002 + W'.length < n → (s ∈ l'.map (fun x => x.1) → fM_members_b rec n 2 (i3 W0.length) (i3 (W0.length + U.length)) c y2 st wc wn = some (2, wc + 1, wn + 6, 0, xsI st 20 y2)) ∧ (s ∉ l'.map (fun x => x.1) → ∃ n', n = n' + W'.length ∧ ∀ out : Nat × Nat × Nat × Nat × xS, wc ≤ out.2.1 → wn ≤ out.2.2.1 → fM_members_b rec n' 2 (i3 W0.length) (i3 (W0.length + W.length)) c y2 st wc wn = some out → fM_members_b rec n 2 (i3 W0.length) (i3 (W0.length + U.length)) c y2 st wc wn = some out) := by
  have hcl := hM.cl.2.2.2
  have hbK : bK = 32000 := rfl
  have hWl := hR.sums.1
  intro W'
  induction W' with
  | nil =>
    intro U l1 l' n hU hl hlen hn
    rw [List.append_nil] at hU
    subst hU
    have hl' : l' = [] := by
      have : l1.length + l'.length = l.length := by rw [← hl, List.length_append]
      exact List.length_eq_zero_iff.mp (by omega)
    subst hl'
    exact ⟨fun h => absurd h (by simp), fun _ => ⟨n, rfl, fun out _ _ h => h⟩⟩
  | cons p W' ih =>
    intro U l1 l' n hU hl hlen hn
    obtain ⟨n, rfl⟩ : ∃ j, n = j + 1 := ⟨n - 1, by omega⟩
    rw [List.length_cons] at hn
    obtain ⟨x, k1, k2, hk, hkl, hx1, hx2⟩ := hR.at hU
    have hUl : W.length = U.length + (W'.length + 1) := by rw [← hU, List.length_append, List.length_cons]
    have hl1 : l1 = k1 ∧ l' = x :: k2 := List.append_inj (hl.trans hk) (by omega)
    obtain ⟨rfl, rfl⟩ := hl1
    have h12 := hM.1.1.2.2.2
    have r5 := hM.2.2.2.2.2.1
    rw [List.length_append] at h12 hcl r5
    obtain ⟨_, k11⟩ := hM.1.2.2.2.2 (W0.length + U.length) p (by
      rw [List.getElem?_append_right (by omega), ← hU, List.getElem?_append_right (by omega), show W0.length + U.length - W0.length - U.length = 0 by omega]
      rfl)
    have hst := sameTextM (n := n) hM hx1 hs (by omega) (by omega) (by omega)
    have hct : ¬ xct st < c := by have := hs.le; have := hM.2.2.1.1; omega
    have hstep : fM_members_b rec (n + 1) 2 (i3 W0.length) (i3 (W0.length + U.length)) c y2 st wc wn = xmo (fun a : Nat × Nat × Nat × Nat × xS => a.2.1) (fun a => a.2.2.1) wc wn (if x.1 = s then some (2, wc + 1, wn + 6, 0, xsI st 20 y2) else fM_members_b rec n 2 (i3 W0.length) (i3 (W0.length + U.length + 1)) c y2 st wc wn) := by
      rw [fM_members_b, if_neg (by decide), h12, if_neg (by rw [i3_le (by omega) (by omega)]; omega), if_neg (i3_idx (by omega) (by omega)), i3_N (by omega), k11, hst, Option.bind_some, i3_one]
      by_cases he : x.1 = s
      · rw [if_pos he, if_neg (by decide), if_pos he]
        congr 1
        unfold fM_bad
        rw [Option.bind_some, if_pos rfl, if_neg hct]
        exact xmo_some (Nat.le_refl _) (Nat.le_refl _)
      · rw [if_neg he, if_pos rfl, if_neg he]
    rw [hstep]
    obtain ⟨i1, i2⟩ := ih (U ++ [p]) (l1 ++ [x]) k2 n (by rw [← hU]; simp) (by rw [hk]; simp) (by simp; omega) (by omega)
    rw [List.length_append, List.length_singleton, ← Nat.add_assoc] at i1 i2
    by_cases he : x.1 = s
    · rw [if_pos he]
      refine ⟨fun _ => xmo_some (Nat.le_succ _) (by show wn ≤ wn + 6; omega), fun h => absurd (by rw [List.map_cons, he]; exact List.mem_cons_self ..) h⟩
    · rw [if_neg he]
      constructor
      · intro h
        rw [List.map_cons] at h
        rcases List.mem_cons.mp h with h | h
        · exact absurd h.symm he
        · rw [i1 h]
          exact xmo_some (Nat.le_succ _) (by show wn ≤ wn + 6; omega)
      · intro h
        obtain ⟨n', hn', hout⟩ := i2 (fun h' => h (by rw [List.map_cons]; exact List.mem_cons_of_mem _ h'))
        refine ⟨n', by rw [List.length_cons]; omega, fun out o1 o2 ho => ?_⟩
        rw [hout out o1 o2 ho]
        exact xmo_some o1 o2
end RL2
end ZRefk58
section ZRefl59
section RM2
variable {base : Nat} {src : List Nat} {d : Nat}
theorem isStr_new {vs : List VR} {cs : List Nat} {s : Sx} : isStr (vs ++ [(4, cs.length, cs.length + s.length - cs.length, 0, 1 + (cs.length + s.length - cs.length), 0)]) (cs ++ s) (vs.length + 1) s := by
  refine ⟨by omega, _, by rw [Nat.add_sub_cancel, List.getElem?_append_right (Nat.le_refl _), Nat.sub_self]; rfl, rfl, ?_, rfl, ?_, fun i x hx => ?_⟩
  · show cs.length + s.length - cs.length = s.length
    omega
  · show 1 + (cs.length + s.length - cs.length) = s.length + 1
    omega
  · show (cs ++ s)[cs.length + i]? = some x
    rw [List.getElem?_append_right (by omega), Nat.add_sub_cancel_left]
    exact hx
/-- behind a member's name -/
theorem memT {op : Int32 × Int32} {q : Nat} {rec : xS → Option (Nat × Nat × Nat × Nat × xS)} {recA : List Nat → List Nat ⊕ (JT d × List Nat)} (hrec : RecM base src op q rec recA) (hps : PS recA (fun j => (jc d j).length) (fun j => jok d j ∧ jd d j ≤ q)) (hsz : src.length ≤ 50000) {W0 : List NP} {m : Nat}
    (ih : ∀ (r : List Nat) (n : Nat) (st : xS) (vs : List VR) (cs : List Nat) (ks W : List NP) (l : List (Sx × JT d)) (wc wn : Nat) (y4 : Int32) (y3 : Nat) (y2 : Int32), MS st vs cs ks (W0 ++ W) → PR base src st r → OP st op → RM vs cs ks d W l → (∀ x ∈ l, jd d x.2 ≤ 59) → sm (fun x : Sx × JT d => (strc x.1 ++ jc d x.2).length) l + r.length ≤ src.length → (q ≤ 59 ∨ ∃ l' r1, pF recA m (l.map (fun x => x.1)) r = .inr (l', r1) ∧ ∀ x ∈ l', jd d x.2 ≤ 59) → vs.length + r.length < bV → cs.length + r.length ≤ bC → ks.length + W.length + r.length ≤ bK → W0.length + W.length + r.length ≤ bK → r.length < m → 3000000 + 40000 * r.length < n → ValO base src st wc wn vs cs ks W0 2 (fM_members_b rec n 1 (i3 W0.length) y4 y3 y2 st wc wn) r W.length (mp (fun l' => jo (l ++ l')) (pF recA m (l.map (fun x => x.1)) r)))
    {r2 : List Nat} {n : Nat} {st : xS} {vs : List VR} {cs : List Nat} {ks W : List NP} {l : List (Sx × JT d)} {wc wn c : Nat} {s : Sx} {y2 : Int32} (hM : MS st vs cs ks (W0 ++ W)) (h : PR base src st r2) (h18 : OP st op) (hR : RM vs cs ks d W l) (hs : isStr vs cs c s) (hsl : s.length ≤ 50000) (hdl : ∀ x ∈ l, jd d x.2 ≤ 59) (hsm : sm (fun x : Sx × JT d => (strc x.1 ++ jc d x.2).length) l + (s.length + 1) + r2.length ≤ src.length) (hb1 : vs.length + r2.length < bV) (hb2 : cs.length + r2.length ≤ bC) (hb3 : ks.length + W.length + r2.length ≤ bK) (hb4 : W0.length + W.length + r2.length ≤ bK) (hm : r2.length < m + 1) (hn : 3000001 + 40000 * r2.length < n)
    (F : List Nat ⊕ (List (Sx × JT d) × List Nat)) (hF : F = if (blk r2).head? = some 58 then (match recA (blk r2).tail with
      | .inl x => .inl x
      | .inr (v, r1) => if (blk r1).head? = some 44 then (match pF recA m (l.map (fun x => x.1) ++ [s]) (blk r1).tail with
          | .inl x => .inl x
          | .inr (l', r3) => .inr ((s, v) :: l', r3))
        else if (blk r1).head? = some 125 then .inr ([(s, v)], (blk r1).tail) else .inl (blk r1)) else .inl (blk r2))
    (hG : q ≤ 59 ∨ ∃ l' r1, F = .inr (l', r1) ∧ ∀ x ∈ l', jd d x.2 ≤ 59) : ValO base src st wc wn vs cs ks W0 2 (fM_members_b rec n 2 (i3 W0.length) (i3 (W0.length + W.length)) c y2 st wc wn) r2 W.length (mp (fun l' => jo (l ++ l')) F) := by
  have hbV : bV = 32000 := rfl
  have hbc : bC = 100000 := rfl
  have hbK : bK = 32000 := rfl
  have hcl := hM.cl.2.2.2
  have h12 := hM.1.1.2.2.2
  rw [List.length_append] at h12 hcl
  obtain ⟨n, rfl⟩ : ∃ j, n = j + 1 := ⟨n - 1, by omega⟩
  obtain ⟨e3, hP⟩ := h.blanks (n := n) (by omega)
  have hbl := blk_len r2
  have hMx : MS (xsI st 16 (rp base src (blk r2))) vs cs ks (W0 ++ W) := hM.si (by decide) (by decide) (by decide) (by decide)
  have hsle := hs.le
  have hct : ∀ st', MS st' vs cs ks (W0 ++ W) → ¬ xct st' < c := fun st' h' => by have := h'.2.2.1.1; omega
  have badX : ∀ x, x = blk r2 → ValO base src st wc wn vs cs ks W0 2 (d := d + 1) (some (2, wc + 1, wn + 6, 0, xsI (xsI st 16 (rp base src (blk r2))) 20 (xsi (xsI st 16 (rp base src (blk r2))) 16))) r2 W.length (.inl x) := fun x hx => by
    subst hx
    have hx : xsi (xsI st 16 (rp base src (blk r2))) 16 = rp base src (blk r2) := hP.2.2
    rw [hx]
    exact ⟨1, 6, _, rfl, ⟨by omega, Nat.le_of_eq (Nat.add_comm _ _)⟩, (Bad.of2 hMx FrP.refl (Nat.le_refl _) rfl).any (Fr1.at _) (Nat.le_refl _)⟩
  rw [fM_members_b, if_neg (by decide), h12, if_pos (by rw [i3_le (by omega) (by omega)]; omega), e3, Option.bind_some, hP.peek, Option.bind_some]
  by_cases h58 : (blk r2).head? = some 58
  · rw [if_pos h58] at hF
    obtain ⟨r3, hr3⟩ := head_c h58
    rw [hr3] at hP hMx hbl hF badX ⊢
    rw [List.length_cons] at hbl
    rw [if_pos (show hv (58 :: r3) = 58 from rfl)]
    rw [List.tail_cons] at hF
    have hnx := hP.next
    have hG1 : q ≤ 59 ∨ ∃ j r1, recA r3 = .inr (j, r1) ∧ jd d j ≤ 59 := by
      rcases hG with hG | ⟨l', r1, hG, hl'⟩
      · exact Or.inl hG
      · right
        rw [hF] at hG
        cases hp : recA r3 with
        | inl x => rw [hp] at hG; simp at hG
        | inr t =>
          obtain ⟨v, r4⟩ := t
          refine ⟨v, r4, rfl, ?_⟩
          rw [hp] at hG
          dsimp only at hG
          split at hG
          · split at hG
            · simp at hG
            · obtain ⟨rfl, _⟩ := Prod.mk.inj (Sum.inr.inj hG)
              exact hl' (s, v) (List.mem_cons_self ..)
          · split at hG
            · obtain ⟨rfl, _⟩ := Prod.mk.inj (Sum.inr.inj hG)
              exact hl' (s, v) (List.mem_cons_self ..)
            · simp at hG
    have hV := hrec _ r3 vs cs ks (W0 ++ W) (hMx.si (k := 16) (v := xsi (xsI st 16 (rp base src (58 :: r3))) 16 + 1) (by decide) (by decide) (by decide) (by decide)) hnx (h18.fr ((Fr1.at _).trans (Fr1.at _))) hG1 (by omega) (by omega) (by omega) (by rw [List.length_append]; omega)
    have hf0 : Fr1 st (xsI (xsI st 16 (rp base src (58 :: r3))) 16 (xsi (xsI st 16 (rp base src (58 :: r3))) 16 + 1)) := (Fr1.at _).trans (Fr1.at _)
    have hs0 : SK st (xsI (xsI st 16 (rp base src (58 :: r3))) 16 (xsi (xsI st 16 (rp base src (58 :: r3))) 16 + 1)) := (SK.at (by decide)).trans (SK.at (by decide))
    cases hp : recA r3 with
    | inl x =>
      rw [hp] at hV hF
      subst hF
      obtain ⟨cc, k, st', e1, b1, b2⟩ := hV
      rw [Nat.zero_add, Nat.zero_add] at e1
      refine ⟨cc, k, st', ?_, b1, b2.any hf0 (Nat.le_refl _)⟩
      rw [e1, Option.bind_some, if_neg (show ¬ (1 : Nat) = 0 by decide), if_pos rfl, if_neg (hct _ hMx)]
      dsimp only
      have hin : xmo (fun a : Nat × Nat × Nat × Nat × xS => a.2.1) (fun a => a.2.2.1) (wc + cc) (wn + k) (some (2, wc + cc, wn + k, 0, st')) = some (2, wc + cc, wn + k, 0, st') := xmo_some (Nat.le_refl _) (Nat.le_refl _)
      rw [hin]
      exact xmo_some (by show wc ≤ wc + cc; omega) (by show wn ≤ wn + k; omega)
    | inr t =>
      obtain ⟨v, r1⟩ := t
      rw [hp] at hV hF
      dsimp only at hF
      obtain ⟨cc, k, c2, st1, a, b, e, e1, m1, m2, m3, m4, m5, m6, m7, m8, m9⟩ := hV
      rw [Nat.zero_add, Nat.zero_add] at e1
      obtain ⟨s1, s2, s3, s4⟩ := (hps r3).2 v r1 hp
      have hjv : jd d v ≤ 59 := by
        rcases hG1 with hG1 | ⟨j, r4, hG1, hj⟩
        · have := s4.2; omega
        · rw [hp] at hG1
          obtain ⟨rfl, _⟩ := Prod.mk.inj (Sum.inr.inj hG1)
          exact hj
      dsimp only at s2 s3
      have hcl2 := m6.le
      have hs2 : isStr (vs ++ a) (cs ++ b) c s := hs.mono
      have hsle2 := hs2.le
      obtain ⟨cc2, k2, st2, e2, w1, w2, w3, w4⟩ := wait_w (n := n) m1 (a := c2) (b := c) hcl2.2 hsle2.2.1 (by rw [List.length_append]; omega) (by omega)
      have hPR2 : PR base src st2 r1 := m2.fr w3 w4
      obtain ⟨e4, hPR3⟩ := hPR2.blanks (n := n) (by omega)
      have hR2 : RM (vs ++ a) (cs ++ b) (ks ++ e) d (W ++ [(c2, c)]) (l ++ [(s, v)]) := hR.mono.snoc m6 hs2 (by show s.length ≤ 59999; omega)
      have hct1 : ¬ xct st1 < c2 := by have := m1.2.2.1.1; omega
      have hct2 : ¬ xct st1 < c := by have := m1.2.2.1.1; omega
      have hM3 : MS (xsI st2 16 (rp base src (blk r1))) (vs ++ a) (cs ++ b) (ks ++ e) (W0 ++ (W ++ [(c2, c)])) := by
        rw [← List.append_assoc]
        exact w1.si (by decide) (by decide) (by decide) (by decide)
      have hbl1 := blk_len r1
      have hcost : Cost st (xsI st2 16 (rp base src (blk r1))) (cc + cc2) (k + k2) := Cost.trans (b := st1) ⟨m3.1, m3.2⟩ ⟨w2.1, w2.2⟩
      have hfr : Fr1 st (xsI st2 16 (rp base src (blk r1))) := ((hf0.trans m4).trans (Fr1.of w3)).trans (Fr1.at _)
      have hsk : SK st (xsI st2 16 (rp base src (blk r1))) := ((hs0.trans m5).trans w4).trans (SK.at (by decide))
      have hdl2 : ∀ x ∈ l ++ [(s, v)], jd d x.2 ≤ 59 := fun x hx => by
        rcases List.mem_append.mp hx with hx | hx
        · exact hdl x hx
        · rw [List.mem_singleton.mp hx]; exact hjv
      have hsm2 : sm (fun x : Sx × JT d => (strc x.1 ++ jc d x.2).length) (l ++ [(s, v)]) = sm (fun x : Sx × JT d => (strc x.1 ++ jc d x.2).length) l + (s.length + 1 + (jc d v).length) := by
        unfold sm
        rw [List.map_append, List.sum_append]
        simp [strc_len]
      have hWl : (W ++ [(c2, c)]).length = W.length + 1 := by rw [List.length_append]; rfl
      rw [e1, Option.bind_some, if_pos rfl, if_neg (hct _ hMx)]
      dsimp only
      rw [e2, Option.bind_some, if_neg hct1, if_neg hct2]
      dsimp only
      rw [e4, Option.bind_some, hPR3.peek, Option.bind_some]
      have wrap : ∀ (X : Option (Nat × Nat × Nat × Nat × xS)) (res : List Nat ⊕ (JT (d + 1) × List Nat)), ValO base src st wc wn vs cs ks W0 2 X r2 W.length res → (∀ a, X = some a → wc + cc + cc2 ≤ a.2.1 ∧ wn + k + k2 ≤ a.2.2.1) → ValO base src st wc wn vs cs ks W0 2 (xmo (fun a => a.2.1) (fun a => a.2.2.1) wc wn (xmo (fun a => a.2.1) (fun a => a.2.2.1) (wc + cc) (wn + k) (xmo (fun a => a.2.1) (fun a => a.2.2.1) (wc + cc + cc2) (wn + k + k2) X))) r2 W.length res := fun X res hX hge => by
        have x1 : xmo (fun a : Nat × Nat × Nat × Nat × xS => a.2.1) (fun a => a.2.2.1) (wc + cc + cc2) (wn + k + k2) X = X := xmo_id hge
        have x2 : xmo (fun a : Nat × Nat × Nat × Nat × xS => a.2.1) (fun a => a.2.2.1) (wc + cc) (wn + k) X = X := xmo_id (fun a ha => ⟨by have := (hge a ha).1; omega, by have := (hge a ha).2; omega⟩)
        rw [x1, x2, xmo_id hX.ge]
        exact hX
      by_cases h44 : (blk r1).head? = some 44
      · rw [if_pos h44] at hF
        obtain ⟨r4, hr4⟩ := head_c h44
        rw [hr4] at hPR3 hbl1 hM3 hcost hfr hsk hF ⊢
        rw [List.length_cons] at hbl1
        rw [List.tail_cons] at hF
        rw [if_pos (show hv (44 :: r4) = 44 from rfl), if_neg (show ¬ hv (44 :: r4) = 125 from by rw [hv_c]; decide)]
        have hnm : (l ++ [(s, v)]).map (fun x => x.1) = l.map (fun x => x.1) ++ [s] := by rw [List.map_append]; rfl
        have hG2 : q ≤ 59 ∨ ∃ l' r1, pF recA m ((l ++ [(s, v)]).map (fun x => x.1)) r4 = .inr (l', r1) ∧ ∀ x ∈ l', jd d x.2 ≤ 59 := by
          rcases hG with hG | ⟨l', r5, hG, hl'⟩
          · exact Or.inl hG
          · right
            rw [hF] at hG
            rw [hnm]
            cases hp2 : pF recA m (l.map (fun x => x.1) ++ [s]) r4 with
            | inl x => rw [hp2] at hG; simp at hG
            | inr t =>
              obtain ⟨l2, r6⟩ := t
              rw [hp2] at hG
              obtain ⟨rfl, _⟩ := Prod.mk.inj (Sum.inr.inj hG)
              exact ⟨l2, r6, rfl, fun x hx => hl' x (List.mem_cons_of_mem _ hx)⟩
        have hih := ih r4 n _ (vs ++ a) (cs ++ b) (ks ++ e) (W ++ [(c2, c)]) (l ++ [(s, v)]) (wc + (cc + cc2)) (wn + (k + k2)) 0 c y2 (hM3.si (by decide) (by decide) (by decide) (by decide)) hPR3.next (h18.fr (hfr.trans (Fr1.at _))) hR2 hdl2 (by rw [hsm2]; omega) hG2 (by rw [List.length_append]; omega) (by rw [List.length_append]; omega) (by rw [List.length_append, hWl]; omega) (by rw [hWl]; omega) (by omega) (by omega)
        have hst := hih.step (vs := vs) (cs := cs) (ks := ks) (r := r2) (w := W.length) (st := st) (wc := wc) (wn := wn) ⟨hcost.1, hcost.2⟩ (hfr.trans (Fr1.at _)) (hsk.trans (SK.at (by decide))) (by omega) (by omega) (by rw [hWl]; omega)
        refine wrap _ _ ?_ ?_
        · rw [← Nat.add_assoc, ← Nat.add_assoc, hnm] at hst
          subst hF
          cases hpe : pF recA m (l.map (fun x => x.1) ++ [s]) r4 with
          | inl x =>
            rw [hpe] at hst
            exact hst
          | inr t =>
            obtain ⟨l2, r6⟩ := t
            rw [hpe] at hst
            have hl2 : l ++ [(s, v)] ++ l2 = l ++ (s, v) :: l2 := by simp
            have hst2 : ValO base src st wc wn vs cs ks W0 2 _ r2 W.length (.inr (jo (l ++ [(s, v)] ++ l2), r6)) := hst
            rw [hl2] at hst2
            exact hst2
        · rw [← Nat.add_assoc, ← Nat.add_assoc] at hih
          exact hih.ge
      · rw [if_neg h44] at hF
        rw [if_neg (show ¬ hv (blk r1) = 44 from fun hh => h44 ((hPR3.hve (k := 44) (by omega)).mp hh))]
        by_cases h125 : (blk r1).head? = some 125
        · rw [if_pos h125] at hF
          obtain ⟨r4, hr4⟩ := head_c h125
          rw [hr4] at hPR3 hbl1 hM3 hcost hfr hsk hF ⊢
          rw [List.length_cons] at hbl1
          rw [List.tail_cons] at hF
          subst hF
          rw [if_pos (show hv (125 :: r4) = 125 from rfl), if_pos (show hv (125 :: r4) = 125 from rfl)]
          have hw := wholeO (n := n) (wc := wc + (cc + cc2)) (wn := wn + (k + k2)) hM3 hPR3 hR2 hdl2 (by rw [hsm2]; omega) (by rw [List.length_append]; omega) (by rw [List.length_append, hWl]; omega) (by omega)
          have hst := hw.step (vs := vs) (cs := cs) (ks := ks) (r := r2) (w := W.length) (st := st) (wc := wc) (wn := wn) ⟨hcost.1, hcost.2⟩ hfr hsk (by rw [List.length_cons]; omega) (by rw [List.length_cons]; omega) (by rw [hWl, List.length_cons]; omega)
          refine wrap _ _ ?_ ?_
          · rw [← Nat.add_assoc, ← Nat.add_assoc] at hst
            exact hst
          · rw [← Nat.add_assoc, ← Nat.add_assoc] at hw
            exact hw.ge
        · rw [if_neg h125] at hF
          subst hF
          rw [if_neg (show ¬ hv (blk r1) = 125 from fun hh => h125 ((hPR3.hve (k := 125) (by omega)).mp hh))]
          have hb : ((fM_bad n (xsI st2 16 (rp base src (blk r1))) (xsi (xsI st2 16 (rp base src (blk r1))) 16)).bind fun o29 => (if o29.1 = 1 then if (xct (xsI st2 16 (rp base src (blk r1)))) < c2 then none else if (xct (xsI st2 16 (rp base src (blk r1)))) < c then none else xmo (fun a : Nat × Nat × Nat × Nat × xS => a.2.1) (fun a => a.2.2.1) (((wc + cc) + cc2) + o29.2.1) (((wn + k) + k2) + o29.2.2.1) (some (2, (((wc + cc) + cc2) + o29.2.1), (((wn + k) + k2) + o29.2.2.1), 0, o29.2.2.2)) else none)) = some (2, wc + cc + cc2 + 1, wn + k + k2 + 6, 0, xsI (xsI st2 16 (rp base src (blk r1))) 20 (rp base src (blk r1))) := by
            have hx : xsi (xsI st2 16 (rp base src (blk r1))) 16 = rp base src (blk r1) := hPR3.2.2
            have hc3 := hM3.2.2.1.1
            unfold fM_bad
            rw [Option.bind_some, if_pos rfl, if_neg (by omega), if_neg (by omega), hx]
            exact xmo_some (Nat.le_refl _) (Nat.le_refl _)
          refine wrap _ _ ?_ ?_
          · rw [hb]
            refine ⟨cc + cc2 + 1, k + k2 + 6, _, by rw [← Nat.add_assoc, ← Nat.add_assoc, ← Nat.add_assoc, ← Nat.add_assoc], ⟨by have := hcost.1; omega, ?_⟩, (Bad.of2 hM3 FrP.refl (Nat.le_refl _) rfl).any hfr (by have := hcost.2; omega)⟩
            have := hcost.2
            have hpe : pt (xsI (xsI st2 16 (rp base src (blk r1))) 20 (rp base src (blk r1))) = pt (xsI st2 16 (rp base src (blk r1))) := rfl
            omega
          · intro z hz
            rw [hb] at hz
            obtain rfl := Option.some.inj hz
            exact ⟨Nat.le_succ _, by show wn + k + k2 ≤ wn + k + k2 + 6; omega⟩
  · rw [if_neg h58] at hF
    subst hF
    rw [if_neg (show ¬ hv (blk r2) = 58 from fun hh => h58 ((hP.hve (k := 58) (by omega)).mp hh))]
    have hb : ((fM_bad n (xsI st 16 (rp base src (blk r2))) (xsi (xsI st 16 (rp base src (blk r2))) 16)).bind fun o8 => (if o8.1 = 1 then if (xct (xsI st 16 (rp base src (blk r2)))) < c then none else xmo (fun a : Nat × Nat × Nat × Nat × xS => a.2.1) (fun a => a.2.2.1) (wc + o8.2.1) (wn + o8.2.2.1) (some (2, (wc + o8.2.1), (wn + o8.2.2.1), 0, o8.2.2.2)) else none)) = some (2, wc + 1, wn + 6, 0, xsI (xsI st 16 (rp base src (blk r2))) 20 (xsi (xsI st 16 (rp base src (blk r2))) 16)) := by
      unfold fM_bad
      rw [Option.bind_some, if_pos rfl, if_neg (hct _ hMx)]
      exact xmo_some (Nat.le_refl _) (Nat.le_refl _)
    rw [hb, xmo_id (badX _ rfl).ge]
    exact badX _ rfl
end RM2
end ZRefl59
section ZRefm60
section RN
variable {base : Nat} {src : List Nat} {d : Nat}
def pF2 (recA : List Nat → List Nat ⊕ (JT d × List Nat)) (m : Nat) (seen : List Sx) (s : Sx) (r2 : List Nat) : List Nat ⊕ (List (Sx × JT d) × List Nat) := if (blk r2).head? = some 58 then (match recA (blk r2).tail with
      | .inl x => .inl x
      | .inr (v, r1) => if (blk r1).head? = some 44 then (match pF recA m (seen ++ [s]) (blk r1).tail with
          | .inl x => .inl x
          | .inr (l', r3) => .inr ((s, v) :: l', r3))
        else if (blk r1).head? = some 125 then .inr ([(s, v)], (blk r1).tail) else .inl (blk r1)) else .inl (blk r2)
theorem pF_34 {recA : List Nat → List Nat ⊕ (JT d × List Nat)} {m : Nat} {seen : List Sx} {r : List Nat} (h : (blk r).head? = some 34) : (∀ x, pS (r.length + 1) (blk r).tail = .inl x → pF recA (m + 1) seen r = .inl x) ∧ (∀ s r2, pS (r.length + 1) (blk r).tail = .inr (s, r2) → (s ∈ seen → pF recA (m + 1) seen r = .inl (blk r)) ∧ (s ∉ seen → pF recA (m + 1) seen r = pF2 recA m seen s r2)) := by
  refine ⟨fun x hx => ?_, fun s r2 hp => ⟨fun hs => ?_, fun hs => ?_⟩⟩
  · rw [pF, pM, if_pos h, hx]
  · rw [pF, pM, if_pos h, hp]
    dsimp only
    rw [if_pos hs]
  · rw [pF, pM, if_pos h, hp]
    dsimp only
    rw [if_neg hs]
    unfold pF2
    by_cases h58 : (blk r2).head? = some 58
    · rw [if_pos h58, if_pos h58]
      cases recA (blk r2).tail with
      | inl x => rfl
      | inr t =>
        obtain ⟨v, r1⟩ := t
        dsimp only
        by_cases h44 : (blk r1).head? = some 44
        · rw [if_pos h44, if_pos h44]
          cases pF recA m (seen ++ [s]) (blk r1).tail with
          | inl x => rfl
          | inr t =>
            obtain ⟨l2, r4⟩ := t
            rfl
        · rw [if_neg h44, if_neg h44]
    · rw [if_neg h58, if_neg h58]
theorem pF_n34 {recA : List Nat → List Nat ⊕ (JT d × List Nat)} {m : Nat} {seen : List Sx} {r : List Nat} (h : (blk r).head? ≠ some 34) : pF recA (m + 1) seen r = .inl (blk r) := by
  rw [pF, pM, if_neg h]
theorem memL {op : Int32 × Int32} {q : Nat} {rec : xS → Option (Nat × Nat × Nat × Nat × xS)} {recA : List Nat → List Nat ⊕ (JT d × List Nat)} (hrec : RecM base src op q rec recA) (hps : PS recA (fun j => (jc d j).length) (fun j => jok d j ∧ jd d j ≤ q)) (hsz : src.length ≤ 50000) {W0 : List NP} : ∀ (m : Nat) (r : List Nat) (n : Nat) (st : xS) (vs : List VR) (cs : List Nat) (ks W : List NP) (l : List (Sx × JT d)) (wc wn : Nat) (y4 : Int32) (y3 : Nat) (y2 : Int32), MS st vs cs ks (W0 ++ W) → PR base src st r → OP st op → RM vs cs ks d W l → (∀ x ∈ l, jd d x.2 ≤ 59) → sm (fun x : Sx × JT d => (strc x.1 ++ jc d x.2).length) l + r.length ≤ src.length → (q ≤ 59 ∨ ∃ l' r1, pF recA m (l.map (fun x => x.1)) r = .inr (l', r1) ∧ ∀ x ∈ l', jd d x.2 ≤ 59) → vs.length + r.length < bV → cs.length + r.length ≤ bC → ks.length + W.length + r.length ≤ bK → W0.length + W.length + r.length ≤ bK → r.length < m → 3000000 + 40000 * r.length < n → ValO base src st wc wn vs cs ks W0 2 (fM_members_b rec n 1 (i3 W0.length) y4 y3 y2 st wc wn) r W.length (mp (fun l' => jo (l ++ l')) (pF recA m (l.map (fun x => x.1)) r)) := by
  have hbV : bV = 32000 := rfl
  have hbc : bC = 100000 := rfl
  have hbK : bK = 32000 := rfl
  intro m
  induction m with
  | zero => intro r n st vs cs ks W l wc wn y4 y3 y2 _ _ _ _ _ _ _ _ _ _ _ hm; omega
  | succ m ih =>
    intro r n st vs cs ks W l wc wn y4 y3 y2 hM h h18 hR hdl hsm hG hb1 hb2 hb3 hb4 hm hn
    obtain ⟨n, rfl⟩ : ∃ j, n = j + 1 := ⟨n - 1, by omega⟩
    obtain ⟨e3, hP⟩ := h.blanks (n := n) (by omega)
    have hbl := blk_len r
    have hMx : MS (xsI st 16 (rp base src (blk r))) vs cs ks (W0 ++ W) := hM.si (by decide) (by decide) (by decide) (by decide)
    rw [fM_members_b, if_pos rfl, e3, Option.bind_some, hP.peek, Option.bind_some]
    by_cases h34 : (blk r).head? = some 34
    · obtain ⟨z1, z2⟩ := pF_34 (recA := recA) (m := m) (seen := l.map (fun x => x.1)) h34
      obtain ⟨r', hr'⟩ := head_c h34
      have hy2 : xsi (xsI st 16 (rp base src (blk r))) 16 = rp base src (blk r) := hP.2.2
      rw [hr'] at hP hMx hbl z1 z2 hy2 ⊢
      rw [List.length_cons] at hbl
      rw [List.tail_cons] at z1 z2
      rw [if_pos (show hv (34 :: r') = 34 from rfl), hy2]
      have hS := stringM_w (n := n) hMx hP (by omega) (by omega) hsz (by omega) (m := r.length + 1) (by omega)
      cases hp : pS (r.length + 1) r' with
      | inl x =>
        rw [hp] at hS
        rw [z1 x hp]
        obtain ⟨cc, k, st', e1, b1, b2⟩ := hS
        rw [Nat.zero_add, Nat.zero_add] at e1
        refine ⟨cc, k, st', ?_, b1, b2.any (Fr1.at _) (Nat.le_refl _)⟩
        rw [e1, Option.bind_some, if_neg (show ¬ (2 : Nat) = 0 by decide), if_neg (show ¬ (2 : Nat) = 1 by decide), if_pos rfl]
        dsimp only
        have hin : xmo (fun a : Nat × Nat × Nat × Nat × xS => a.2.1) (fun a => a.2.2.1) (wc + cc) (wn + k) (some (2, wc + cc, wn + k, 0, st')) = some (2, wc + cc, wn + k, 0, st') := xmo_some (Nat.le_refl _) (Nat.le_refl _)
        rw [hin]
        exact xmo_some (by show wc ≤ wc + cc; omega) (by show wn ≤ wn + k; omega)
      | inr t =>
        obtain ⟨s, r2⟩ := t
        rw [hp] at hS
        obtain ⟨zs1, zs2⟩ := z2 s r2 hp
        obtain ⟨_, sl, _⟩ := (pS_suf (r.length + 1) r').2 s r2 hp
        obtain ⟨cc, k, st1, e1, m1, m2, m3, m4, m5⟩ := hS
        rw [Nat.zero_add, Nat.zero_add] at e1
        have hstr := isStr_new (vs := vs) (cs := cs) (s := s)
        have hR1 : RM (vs ++ [((4, cs.length, cs.length + s.length - cs.length, 0, 1 + (cs.length + s.length - cs.length), 0) : VR)]) (cs ++ s) ks d W l := by
          have := hR.mono (vs' := [((4, cs.length, cs.length + s.length - cs.length, 0, 1 + (cs.length + s.length - cs.length), 0) : VR)]) (cs' := s) (ks' := [])
          rwa [List.append_nil] at this
        have hfr : Fr1 st st1 := (Fr1.at _).trans m4
        have hsk : SK st st1 := (SK.at (by decide)).trans m5
        have h18' : OP st1 op := h18.fr hfr
        obtain ⟨d1, d2⟩ := dupL (rec := rec) m1 hR1 hstr (by omega) (y2 := rp base src (34 :: r')) (wc := wc + cc) (wn := wn + k) W [] [] l n rfl rfl rfl (by omega)
        rw [List.length_nil, Nat.add_zero] at d1 d2
        rw [e1, Option.bind_some, if_pos rfl]
        dsimp only
        by_cases hin : s ∈ l.map (fun x => x.1)
        · rw [d1 hin, zs1 hin]
          have hin' : ∀ z : xS, xmo (fun a : Nat × Nat × Nat × Nat × xS => a.2.1) (fun a => a.2.2.1) (wc + cc) (wn + k) (some (2, wc + cc + 1, wn + k + 6, 0, z)) = some (2, wc + cc + 1, wn + k + 6, 0, z) := fun z => xmo_some (Nat.le_succ _) (by show wn + k ≤ wn + k + 6; omega)
          rw [hin']
          refine ⟨cc + 1, k + 6, xsI st1 20 (rp base src (34 :: r')), ?_, ⟨by have := m3.1; omega, ?_⟩, (Bad.of2 m1 FrP.refl (Nat.le_refl _) rfl).any hfr (by have := m3.2; have hpe : pt (xsI st 16 (rp base src (34 :: r'))) = pt st := rfl; omega)⟩
          · rw [← Nat.add_assoc, ← Nat.add_assoc]
            exact xmo_some (by show wc ≤ wc + cc + 1; omega) (by show wn ≤ wn + k + 6; omega)
          · have := m3.2
            have hpe : pt (xsI st 16 (rp base src (34 :: r'))) = pt st := rfl
            have hpe2 : pt (xsI st1 20 (rp base src (34 :: r'))) = pt st1 := rfl
            omega
        · obtain ⟨n', hn', hout⟩ := d2 hin
          rw [zs2 hin]
          have hG' : q ≤ 59 ∨ ∃ l' r1, pF2 recA m (l.map (fun x => x.1)) s r2 = .inr (l', r1) ∧ ∀ x ∈ l', jd d x.2 ≤ 59 := by
            rw [zs2 hin] at hG
            exact hG
          have hT := memT hrec hps hsz ih (n := n') (wc := wc + cc) (wn := wn + k) (y2 := rp base src (34 :: r')) m1 m2 h18' hR1 hstr (by omega) hdl (by omega) (by rw [List.length_append, List.length_singleton]; omega) (by rw [List.length_append]; omega) (by omega) (by omega) (by omega) (by omega) (pF2 recA m (l.map (fun x => x.1)) s r2) rfl hG'
          have hTs := ValO.step (a := [((4, cs.length, cs.length + s.length - cs.length, 0, 1 + (cs.length + s.length - cs.length), 0) : VR)]) (b := s) (c := []) (cc := cc) (k := k) (wc := wc) (wn := wn) (vs := vs) (cs := cs) (ks := ks) (r := r) (w := W.length) (st := st) (r1 := r2) (w' := W.length) (by rw [List.append_nil]; exact hT) ⟨m3.1, m3.2⟩ hfr hsk (by rw [List.length_singleton]; omega) (by omega) (by rw [List.length_nil]; omega)
          have hsome : ∃ out, fM_members_b rec n' 2 (i3 W0.length) (i3 (W0.length + W.length)) (vs.length + 1) (rp base src (34 :: r')) st1 (wc + cc) (wn + k) = some out := by
            cases hF : pF2 recA m (l.map (fun x => x.1)) s r2 with
            | inl x =>
              rw [hF] at hT
              obtain ⟨_, _, _, e, _⟩ := hT
              exact ⟨_, e⟩
            | inr t =>
              obtain ⟨l2, r4⟩ := t
              rw [hF] at hT
              obtain ⟨_, _, _, _, _, _, _, e, _⟩ := hT
              exact ⟨_, e⟩
          obtain ⟨out, ho⟩ := hsome
          obtain ⟨g1, g2⟩ := hT.ge out ho
          have heq : fM_members_b rec n 2 (i3 W0.length) (i3 W0.length) (vs.length + 1) (rp base src (34 :: r')) st1 (wc + cc) (wn + k) = some out := hout out g1 g2 ho
          rw [heq]
          rw [ho] at hT hTs
          rw [xmo_id hT.ge, xmo_id hTs.ge]
          exact hTs
    · rw [if_neg (show ¬ hv (blk r) = 34 from fun hh => h34 ((hP.hve (k := 34) (by omega)).mp hh)), pF_n34 h34, bad_5]
      have hx : xsi (xsI st 16 (rp base src (blk r))) 16 = rp base src (blk r) := hP.2.2
      rw [hx]
      exact ⟨1, 6, _, xmo_some (Nat.le_succ _) (by show wn ≤ wn + 6; omega), ⟨by omega, Nat.le_of_eq (Nat.add_comm _ _)⟩, (Bad.of2 hMx FrP.refl (Nat.le_refl _) rfl).any (Fr1.at _) (Nat.le_refl _)⟩
end RN
end ZRefm60
section ZRefn61
/-! ===== the reference's reader: values ===== -/
section RO2
variable {base : Nat} {src : List Nat}
theorem membersM {d : Nat} {op : Int32 × Int32} {q : Nat} {rec : xS → Option (Nat × Nat × Nat × Nat × xS)} {recA : List Nat → List Nat ⊕ (JT d × List Nat)} (hrec : RecM base src op q rec recA) (hps : PS recA (fun j => (jc d j).length) (fun j => jok d j ∧ jd d j ≤ q)) (hsz : src.length ≤ 50000) {st : xS} {vs : List VR} {cs : List Nat} {ks ws : List NP} {r : List Nat} {n : Nat} (hM : MS st vs cs ks ws) (h : PR base src st r) (h18 : OP st op) (hG : q ≤ 59 ∨ ∃ l' r1, pO recA r = .inr (l', r1) ∧ ∀ x ∈ l', jd d x.2 ≤ 59) (hb1 : vs.length + r.length < bV) (hb1' : vs.length + 1 ≤ bV) (hb2 : cs.length + r.length ≤ bC) (hb3 : ks.length + r.length ≤ bK) (hb4 : ws.length + r.length ≤ bK) (hn : 3000000000 < n) : ValO base src st 0 0 vs cs ks ws 2 (fM_members rec n st) r 0 (mp jo (pO recA r)) := by
  have hbc : bC = 100000 := rfl
  have hl := h.2.1.length_le
  have hbl := blk_len r
  obtain ⟨e1, hP⟩ := h.blanks (n := n) (by omega)
  have h12 := hM.1.1.2.2.2
  have hMx : MS (xsI st 16 (rp base src (blk r))) vs cs ks ws := hM.si (by decide) (by decide) (by decide) (by decide)
  unfold fM_members pO
  rw [e1, Option.bind_some, hP.peek, Option.bind_some, h12]
  by_cases h125 : (blk r).head? = some 125
  · obtain ⟨r2, hr2⟩ := head_c h125
    rw [hr2] at hP hMx hbl ⊢
    rw [if_pos (show hv (125 :: r2) = 125 from rfl), List.head?_cons, if_pos rfl, List.tail_cons]
    have hw := wholeO (n := n) (wc := 0) (wn := 0) (W0 := ws) (W := []) (l := ([] : List (Sx × JT d))) (by rw [List.append_nil]; exact hMx) hP trivial (fun x hx => absurd hx (by simp)) (by simp [sm]) hb1' (by simp; omega) (by omega)
    exact hw.nil rfl (Fr1.at _) (SK.at (by decide)) hbl
  · rw [if_neg (show ¬ hv (blk r) = 125 from fun hh => h125 ((hP.hve (k := 125) (by omega)).mp hh)), if_neg h125]
    have hG' : q ≤ 59 ∨ ∃ l' r1, pF recA (r.length + 1) (([] : List (Sx × JT d)).map (fun x => x.1)) (blk r) = .inr (l', r1) ∧ ∀ x ∈ l', jd d x.2 ≤ 59 := by
      rcases hG with hG | hG
      · exact Or.inl hG
      · unfold pO at hG
        rw [if_neg h125] at hG
        exact Or.inr hG
    have he := memL hrec hps hsz (W0 := ws) (r.length + 1) (blk r) n _ vs cs ks [] [] 0 0 0 0 0 (by rw [List.append_nil]; exact hMx) hP (h18.fr (Fr1.at _)) trivial (fun x hx => absurd hx (by simp)) (by simp [sm]; omega) hG' (by omega) (by omega) (by simp; omega) (by simp; omega) (by omega) (by omega)
    exact he.nil rfl (Fr1.at _) (SK.at (by decide)) hbl
end RO2
end ZRefn61
section ZRefo62
section RP2
variable {base : Nat} {src : List Nat} {vs : List VR} {cs : List Nat} {ks ws : List NP}
/-- a plain record -/
theorem ValO.one {d : Nat} {st st' : xS} {j : JT (d + 1)} {v : VR} {cs' : List Nat} {cc k : Nat} {out : Option (Nat × Nat × Nat × Nat × xS)} {r r1 : List Nat} (e : out = some (0, cc, k, vs.length + 1, st')) (hM : MS st' (vs ++ [v]) (cs ++ cs') ks ws) (hP : PR base src st' r1) (hc : Cost st st' cc k) (hf : Fr1 st st') (hs : SK st st') (hd : v.2.2.2.1 = jd (d + 1) j) (hw : v.2.2.2.2.1 = (jc (d + 1) j).length) (hd6 : jd (d + 1) j ≤ 60) (hw6 : (jc (d + 1) j).length ≤ 60000) (hB : RepB (vs ++ [v]) (cs ++ cs') (ks ++ []) (Rep (vs ++ [v]) (cs ++ cs') (ks ++ []) d) v j) (h1 : r1.length + 1 ≤ r.length) (h2 : cs'.length + r1.length ≤ r.length) : ValO base src st 0 0 vs cs ks ws 1 out r 0 (.inr (j, r1)) := by
  refine ⟨cc, k, vs.length + 1, st', [v], cs', [], by rw [e, Nat.zero_add, Nat.zero_add], by rw [List.append_nil]; exact hM, hP, hc, hf, hs, ⟨by omega, v, ?_, hd, hw, hd6, hw6, hB⟩, by rw [List.length_singleton]; omega, h2, by rw [List.length_nil]; omega⟩
  rw [Nat.add_sub_cancel, List.getElem?_append_right (Nat.le_refl _), Nat.sub_self]
  rfl
theorem wordV {k j : Nat} {st S : xS} {r rr : List Nat} {out : Option (Nat × Nat × Nat × Nat × xS)} (hj : j < 3) (hf : Fr1 st S) (hs : SK st S) (hp : pt st = pt S) (hrr : rr.length ≤ r.length) (h : match pw (wd j) rr with
    | .inl x => ∃ st' : xS, out = some (1, 1, 6, 0, st') ∧ Bad base src S st' vs cs ks ws x
    | .inr r1 => ∃ (cc s : Nat) (st' : xS), out = some (0, cc, s, vs.length + 1, st') ∧ MS st' (vs ++ [(j, 0, 0, 0, 1, 0)]) cs ks ws ∧ PR base src st' r1 ∧ Cost S st' cc s ∧ Fr1 S st' ∧ SK S st') : ValO base src st 0 0 vs cs ks ws 1 (out.bind fun o8 => ((if o8.1 = 0 then xmo (fun a => a.2.1) (fun a => a.2.2.1) (0 + o8.2.1) (0 + o8.2.2.1) (some (0, (0 + o8.2.1), (0 + o8.2.2.1), o8.2.2.2.1, o8.2.2.2.2)) else (if o8.1 = 1 then xmo (fun a => a.2.1) (fun a => a.2.2.1) (0 + o8.2.1) (0 + o8.2.2.1) (some (1, (0 + o8.2.1), (0 + o8.2.2.1), 0, o8.2.2.2.2)) else none)))) r 0 (pWd j rr : List Nat ⊕ (JT (k + 1) × List Nat)) := by
  unfold pWd
  cases hq : pw (wd j) rr with
  | inl x =>
    rw [hq] at h
    obtain ⟨st', e, b⟩ := h
    refine ⟨1, 6, st', ?_, ⟨by omega, by have := b.2.2.2.1; omega⟩, b.any hf (Nat.le_of_eq hp)⟩
    rw [e, Option.bind_some, if_neg (show ¬ (1 : Nat) = 0 by decide), if_pos rfl]
    exact xmo_some (Nat.le_refl _) (Nat.le_refl _)
  | inr r1 =>
    rw [hq] at h
    obtain ⟨cc, s, st', e, m1, m2, m3, m4, m5⟩ := h
    have hl := (pw_suf (wd j) rr).2 r1 hq
    have hw := wd_pos j
    refine ValO.one (d := k) (j := jk j) (v := (j, 0, 0, 0, 1, 0)) (cs' := []) (cc := cc) (k := s) (st' := st') ?_ (by rw [List.append_nil]; exact m1) m2 ⟨m3.1, by have := m3.2; omega⟩ (hf.trans m4) (hs.trans m5) rfl rfl (by rw [jd_k]; omega) (by show 1 ≤ 60000; omega) rfl (by omega) (by rw [List.length_nil]; omega)
    rw [e, Option.bind_some, if_pos rfl]
    dsimp only
    rw [Nat.zero_add, Nat.zero_add]
    exact xmo_some (Nat.le_refl _) (Nat.le_refl _)
theorem numV {k : Nat} {st S : xS} {r rr : List Nat} {out : Option (Nat × Nat × Nat × Nat × xS)} (hf : Fr1 st S) (hs : SK st S) (hp : pt st = pt S) (hrr : rr.length ≤ r.length) (h : NumO base src S vs cs ks ws out (pN rr)) : ValO base src st 0 0 vs cs ks ws 1 (out.bind fun o8 => ((if o8.1 = 0 then xmo (fun a => a.2.1) (fun a => a.2.2.1) (0 + o8.2.1) (0 + o8.2.2.1) (some (0, (0 + o8.2.1), (0 + o8.2.2.1), o8.2.2.2.1, o8.2.2.2.2)) else (if o8.1 = 1 then xmo (fun a => a.2.1) (fun a => a.2.2.1) (0 + o8.2.1) (0 + o8.2.2.1) (some (3, (0 + o8.2.1), (0 + o8.2.2.1), 0, o8.2.2.2.2)) else (if o8.1 = 2 then xmo (fun a => a.2.1) (fun a => a.2.2.1) (0 + o8.2.1) (0 + o8.2.2.1) (some (1, (0 + o8.2.1), (0 + o8.2.2.1), 0, o8.2.2.2.2)) else none))))) r 0 (mp jn (pN rr) : List Nat ⊕ (JT (k + 1) × List Nat)) := by
  cases hq : pN rr with
  | inl x =>
    rw [hq] at h
    obtain ⟨st', e, b⟩ := h
    refine ⟨1, 6, st', ?_, ⟨by omega, by have := b.2.2.2.1; omega⟩, b.any hf (Nat.le_of_eq hp)⟩
    rw [e, Option.bind_some, if_neg (show ¬ (2 : Nat) = 0 by decide), if_neg (show ¬ (2 : Nat) = 1 by decide), if_pos rfl]
    exact xmo_some (Nat.le_refl _) (Nat.le_refl _)
  | inr t =>
    obtain ⟨z, r1⟩ := t
    rw [hq] at h
    obtain ⟨cc, s, st', e, m1, m2, m3, m4, m5⟩ := h
    have hl := (pN_suf rr).2 z r1 hq
    refine ValO.one (d := k) (j := jn z) (v := (3, 0, 0, 0, 1, z)) (cs' := []) (cc := cc) (k := s) (st' := st') ?_ (by rw [List.append_nil]; exact m1) m2 ⟨m3.1, by have := m3.2; omega⟩ (hf.trans m4) (hs.trans m5) rfl rfl (by rw [jd_n]; omega) (by show 1 ≤ 60000; omega) ⟨rfl, rfl⟩ (by omega) (by rw [List.length_nil]; omega)
    rw [e, Option.bind_some, if_pos rfl]
    dsimp only
    rw [Nat.zero_add, Nat.zero_add]
    exact xmo_some (Nat.le_refl _) (Nat.le_refl _)
theorem strV {k m : Nat} {st S : xS} {r rr : List Nat} {out : Option (Nat × Nat × Nat × Nat × xS)} (hf : Fr1 st S) (hs : SK st S) (hp : pt st = pt S) (hrr : rr.length + 1 ≤ r.length) (hr5 : r.length ≤ 50000) (h : StrO base src S 0 0 vs cs ks ws cs.length out (pS m rr)) : ValO base src st 0 0 vs cs ks ws 1 (out.bind fun o8 => ((if o8.1 = 0 then xmo (fun a => a.2.1) (fun a => a.2.2.1) (0 + o8.2.1) (0 + o8.2.2.1) (some (0, (0 + o8.2.1), (0 + o8.2.2.1), o8.2.2.2.1, o8.2.2.2.2)) else (if o8.1 = 1 then xmo (fun a => a.2.1) (fun a => a.2.2.1) (0 + o8.2.1) (0 + o8.2.2.1) (some (2, (0 + o8.2.1), (0 + o8.2.2.1), 0, o8.2.2.2.2)) else (if o8.1 = 2 then xmo (fun a => a.2.1) (fun a => a.2.2.1) (0 + o8.2.1) (0 + o8.2.2.1) (some (1, (0 + o8.2.1), (0 + o8.2.2.1), 0, o8.2.2.2.2)) else none))))) r 0 (mp js (pS m rr) : List Nat ⊕ (JT (k + 1) × List Nat)) := by
  cases hq : pS m rr with
  | inl x =>
    rw [hq] at h
    obtain ⟨cc, s, st', e, c, b⟩ := h
    refine ⟨cc, s, st', ?_, ⟨c.1, by have := c.2; omega⟩, b.any hf (Nat.le_of_eq hp)⟩
    rw [e, Option.bind_some, if_neg (show ¬ (2 : Nat) = 0 by decide), if_neg (show ¬ (2 : Nat) = 1 by decide), if_pos rfl]
    dsimp only
    rw [Nat.zero_add, Nat.zero_add, Nat.zero_add, Nat.zero_add]
    exact xmo_some (Nat.le_refl _) (Nat.le_refl _)
  | inr t =>
    obtain ⟨s, r1⟩ := t
    rw [hq] at h
    obtain ⟨cc, q, st', e, m1, m2, m3, m4, m5⟩ := h
    have hl := (pS_suf m rr).2 s r1 hq
    refine ValO.one (d := k) (j := js s) (cs' := s) (cc := cc) (k := q) (st' := st') ?_ m1 m2 ⟨m3.1, by have := m3.2; omega⟩ (hf.trans m4) (hs.trans m5) rfl ?_ (by rw [jd_s]; omega) (by rw [jc_s, strc_len]; omega) ⟨rfl, ?_, fun i x hx => ?_⟩ (by omega) (by omega)
    · rw [e, Option.bind_some, if_pos rfl]
      dsimp only
      rw [Nat.zero_add, Nat.zero_add, Nat.zero_add, Nat.zero_add]
      exact xmo_some (Nat.le_refl _) (Nat.le_refl _)
    · rw [jc_s, strc_len]
      show 1 + (cs.length + s.length - cs.length) = _
      omega
    · show cs.length + s.length - cs.length = _
      omega
    · show (cs ++ s)[cs.length + i]? = some x
      rw [List.getElem?_append_right (by omega), Nat.add_sub_cancel_left]
      exact hx
/-- a list's end: one opened less -/
theorem lstV {d o : Nat} {st S S1 : xS} {r rr : List Nat} {out : Option (Nat × Nat × Nat × Nat × xS)} {res : List Nat ⊕ (JT d × List Nat)} (hS1 : xsi S1 18 = xsi st 18 + 1) (hoth : ∀ k, k ≠ 2 → k ≠ 4 → k ≠ 7 → k ≠ 12 → k ≠ 16 → k ≠ 18 → xsi S1 k = xsi st k) (harr : ∀ k, xln S1 k = xln st k ∧ xba S1 k = xba st k) (hs : SK st S1) (hp : pt st = pt S1) (hrr : rr.length ≤ r.length) (h : ValO base src S1 0 0 vs cs ks ws 2 out rr 0 res) : ValO base src st 0 0 vs cs ks ws 1 (out.bind fun o11 => ((if o11.1 = 0 then xmo (fun a => a.2.1) (fun a => a.2.2.1) (0 + o11.2.1) (0 + o11.2.2.1) (some (0, (0 + o11.2.1), (0 + o11.2.2.1), o11.2.2.2.1, (xsI o11.2.2.2.2 18 ((xsi o11.2.2.2.2 18) - 1)))) else (if o11.1 = 1 then xmo (fun a => a.2.1) (fun a => a.2.2.1) (0 + o11.2.1) (0 + o11.2.2.1) (some (2, (0 + o11.2.1), (0 + o11.2.2.1), 0, o11.2.2.2.2)) else (if o11.1 = 2 then xmo (fun a => a.2.1) (fun a => a.2.2.1) (0 + o11.2.1) (0 + o11.2.2.1) (some (1, (0 + o11.2.1), (0 + o11.2.2.1), 0, o11.2.2.2.2)) else (if o11.1 = 3 then xmo (fun a => a.2.1) (fun a => a.2.2.1) (0 + o11.2.1) (0 + o11.2.2.1) (some (3, (0 + o11.2.1), (0 + o11.2.2.1), 0, o11.2.2.2.2)) else none)))))) r 0 res := by
  have hfp : FrP st S1 := ⟨fun k hk => hoth k (by omega) (by omega) (by omega) (by omega) (by omega) (by omega), fun k _ => harr k⟩
  cases res with
  | inl x =>
    obtain ⟨cc, s, st', e, c, b⟩ := h
    refine ⟨cc, s, st', ?_, ⟨c.1, by have := c.2; omega⟩, b.1, b.2.1, hfp.trans b.2.2.1, by have := b.2.2.2.1; omega, b.2.2.2.2.trans (hoth 19 (by decide) (by decide) (by decide) (by decide) (by decide) (by decide))⟩
    rw [e, Option.bind_some, if_neg (show ¬ (2 : Nat) = 0 by decide), if_neg (show ¬ (2 : Nat) = 1 by decide), if_pos rfl]
    dsimp only
    rw [Nat.zero_add, Nat.zero_add, Nat.zero_add, Nat.zero_add]
    exact xmo_some (Nat.le_refl _) (Nat.le_refl _)
  | inr t =>
    obtain ⟨j, r1⟩ := t
    obtain ⟨cc, s, c, st', a, b, e', e, m1, m2, m3, m4, m5, m6, m7, m8, m9⟩ := h
    have h18 : xsi st' 18 - 1 = xsi st 18 := by
      rw [m4.1 18 (by decide) (by decide) (by decide) (by decide) (by decide), hS1, Int32.add_sub_cancel]
    refine ⟨cc, s, c, xsI st' 18 (xsi st' 18 - 1), a, b, e', ?_, m1.si (by decide) (by decide) (by decide) (by decide), ⟨?_, m2.2.1, m2.2.2⟩, ⟨m3.1, ?_⟩, ⟨fun k k1 k2 k3 k4 k5 => ?_, fun k k1 k2 k3 k4 k5 k6 => ⟨(m4.2 k k1 k2 k3 k4 k5 k6).1.trans (harr k).1, (m4.2 k k1 k2 k3 k4 k5 k6).2.trans (harr k).2⟩⟩, (hs.trans m5).trans (SK.at (by decide)), m6, by omega, by omega, by omega⟩
    · rw [e, Option.bind_some, if_pos rfl]
      dsimp only
      rw [Nat.zero_add, Nat.zero_add, Nat.zero_add, Nat.zero_add]
      exact xmo_some (Nat.le_refl _) (Nat.le_refl _)
    · obtain ⟨p1, ⟨f, p2, p3⟩, p4, p5⟩ := m2.1
      exact ⟨p1, ⟨f, (SK.at (k := 18) (by decide)).1 _ _ p2, p3⟩, p4, p5⟩
    · have := m3.2
      have hpe : pt (xsI st' 18 (xsi st' 18 - 1)) = pt st' := rfl
      omega
    · show va_up st'.1 18 (xsi st' 18 - 1) k = xsi st k
      by_cases hk : k = 18
      · rw [hk, up_eq, h18]
      · rw [up_ne hk]
        exact (m4.1 k k1 k2 k3 k4 k5).trans (hoth k k1 k2 k3 k4 k5 hk)
end RP2
end ZRefo62
