section RQ
variable {base : Nat} {src : List Nat} {vs : List VR} {cs : List Nat} {ks ws : List NP}
theorem valC {k o m0 fu n : Nat} (hsz : src.length ≤ 50000) (hn : 3000000000 < n) (hm0 : m0 ≤ 1000) (ho : o ≤ m0) {recA : List Nat → List Nat ⊕ (JT k × List Nat)} (hrec : o ≠ 0 → RecM base src (i3 (m0 - o) + 1, i3 m0) (o - 1) (fM_value fu n) recA) (hps : o ≠ 0 → PS recA (fun j => (jc k j).length) (fun j => jok k j ∧ jd k j ≤ o - 1)) {st : xS} {r : List Nat} (hM : MS st vs cs ks ws) (h : PR base src st r) (h18 : OP st (i3 (m0 - o), i3 m0))
    (hGA : o ≠ 0 → (blk r).head? = some 91 → o - 1 ≤ 59 ∨ ∃ l' r1, pA recA (blk r).tail = .inr (l', r1) ∧ ∀ x ∈ l', jd k x ≤ 59) (hGO : o ≠ 0 → (blk r).head? = some 123 → o - 1 ≤ 59 ∨ ∃ l' r1, pO recA (blk r).tail = .inr (l', r1) ∧ ∀ x ∈ l', jd k x.2 ≤ 59) (hb1 : vs.length + r.length < bV) (hb2 : cs.length + r.length ≤ bC) (hb3 : ks.length + r.length ≤ bK) (hb4 : ws.length + r.length ≤ bK) : ValO base src st 0 0 vs cs ks ws 1 (fM_value (fu + 1) n st) r 0 (if (blk r).head? = some 110 then pWd 0 (blk r) else if (blk r).head? = some 102 then pWd 1 (blk r) else if (blk r).head? = some 116 then pWd 2 (blk r) else if (blk r).head? = some 34 then mp js (pS (r.length + 1) (blk r).tail)
    else if (blk r).head? = some 91 then (if o = 0 then .inl (blk r) else mp ja (pA recA (blk r).tail))
    else if (blk r).head? = some 123 then (if o = 0 then .inl (blk r) else mp jo (pO recA (blk r).tail))
    else mp jn (pN (blk r))) := by
  have hbV : bV = 32000 := rfl
  have hbc : bC = 100000 := rfl
  have hbK : bK = 32000 := rfl
  have hl := h.2.1.length_le
  have hbl := blk_len r
  obtain ⟨e1, hP⟩ := h.blanks (n := n) (by omega)
  have hMx : MS (xsI st 16 (rp base src (blk r))) vs cs ks ws := hM.si (by decide) (by decide) (by decide) (by decide)
  have hf : Fr1 st (xsI st 16 (rp base src (blk r))) := Fr1.at _
  have hs : SK st (xsI st 16 (rp base src (blk r))) := SK.at (by decide)
  have hOP : OP (xsI st 16 (rp base src (blk r))) (i3 (m0 - o), i3 m0) := h18.fr hf
  have ne : ∀ d : Nat, d < 256 → (blk r).head? ≠ some d → ¬ hv (blk r) = i3 d := fun d hd hh he => hh ((hP.hve (k := d) hd).mp he)
  have badX : ∀ {α : Nat}, ValO (d := α) base src st 0 0 vs cs ks ws 1 (some (1, 1, 6, 0, xsI (xsI st 16 (rp base src (blk r))) 20 (xsi (xsI st 16 (rp base src (blk r))) 16))) r 0 (.inl (blk r)) := by
    intro α
    have hx : xsi (xsI st 16 (rp base src (blk r))) 16 = rp base src (blk r) := hP.2.2
    rw [hx]
    exact ⟨1, 6, _, rfl, ⟨by omega, Nat.le_of_eq (Nat.add_comm _ _)⟩, (Bad.of2 hMx FrP.refl (Nat.le_refl _) rfl).any hf (Nat.le_refl _)⟩
  have opn : (xsi (xsI st 16 (rp base src (blk r))) 18 = xsi (xsI st 16 (rp base src (blk r))) 19) = (o = 0) := by
    rw [hOP.1, hOP.2]
    show (i3 (m0 - o) = i3 m0) = _
    rw [i3_eq (by omega) (by omega)]
    exact propext (by omega)
  rw [fM_value, e1, Option.bind_some, hP.peek, Option.bind_some]
  by_cases c110 : (blk r).head? = some 110
  · rw [if_pos (show hv (blk r) = 110 from (hP.hve (k := 110) (by omega)).mpr c110), if_pos c110]
    exact wordV (by omega) hf hs rfl hbl (saysb_w hMx hP (by omega) (by omega))
  rw [if_neg (show ¬ hv (blk r) = 110 from ne 110 (by omega) c110), if_neg c110]
  by_cases c116 : (blk r).head? = some 116
  · have c102 : (blk r).head? ≠ some 102 := by rw [c116]; decide
    rw [if_pos (show hv (blk r) = 116 from (hP.hve (k := 116) (by omega)).mpr c116), if_neg c102, if_pos c116]
    exact wordV (by omega) hf hs rfl hbl (saysa_w hMx hP (by omega) (by omega))
  rw [if_neg (show ¬ hv (blk r) = 116 from ne 116 (by omega) c116)]
  by_cases c102 : (blk r).head? = some 102
  · rw [if_pos (show hv (blk r) = 102 from (hP.hve (k := 102) (by omega)).mpr c102), if_pos c102]
    exact wordV (by omega) hf hs rfl hbl (says_w hMx hP (by omega) (by omega))
  rw [if_neg (show ¬ hv (blk r) = 102 from ne 102 (by omega) c102), if_neg c102, if_neg c116]
  by_cases c34 : (blk r).head? = some 34
  · rw [if_pos (show hv (blk r) = 34 from (hP.hve (k := 34) (by omega)).mpr c34), if_pos c34]
    obtain ⟨r', hr'⟩ := head_c c34
    rw [hr'] at hP hMx hbl hf hs ⊢
    rw [List.length_cons] at hbl
    rw [List.tail_cons]
    exact strV hf hs rfl hbl (by omega) (stringM_w hMx hP (by omega) (by omega) hsz (by omega) (by omega))
  rw [if_neg (show ¬ hv (blk r) = 34 from ne 34 (by omega) c34), if_neg c34]
  by_cases c45 : (blk r).head? = some 45
  · rw [if_pos (show hv (blk r) = 45 from (hP.hve (k := 45) (by omega)).mpr c45), if_neg (show ¬ (blk r).head? = some 91 by rw [c45]; decide), if_neg (show ¬ (blk r).head? = some 123 by rw [c45]; decide)]
    exact numV hf hs rfl hbl (numberM_w hMx hP (by omega) (by omega))
  rw [if_neg (show ¬ hv (blk r) = 45 from ne 45 (by omega) c45), digitM hP, Option.bind_some]
  have hlist : ∀ rr, (∃ c, blk r = c :: rr) → PR base src (xsI (xsI (xsI st 16 (rp base src (blk r))) 18 (xsi (xsI st 16 (rp base src (blk r))) 18 + 1)) 16 (xsi (xsI st 16 (rp base src (blk r))) 16 + 1)) rr ∧ rr.length ≤ r.length := fun rr ⟨c, hc⟩ => by
    have hP' := hP
    rw [hc] at hP' hbl
    rw [List.length_cons] at hbl
    refine ⟨?_, by omega⟩
    have hq := hP'.next
    obtain ⟨⟨p1, ⟨f, p2, p3⟩, p4, p5⟩, p6, p7⟩ := hq
    rw [hc]
    exact ⟨⟨p1, ⟨f, p2, p3⟩, p4, p5⟩, p6, p7⟩
  have hM1 : MS (xsI (xsI (xsI st 16 (rp base src (blk r))) 18 (xsi (xsI st 16 (rp base src (blk r))) 18 + 1)) 16 (xsi (xsI st 16 (rp base src (blk r))) 16 + 1)) vs cs ks ws := (hMx.si (by decide) (by decide) (by decide) (by decide)).si (by decide) (by decide) (by decide) (by decide)
  have hOP1 : OP (xsI (xsI (xsI st 16 (rp base src (blk r))) 18 (xsi (xsI st 16 (rp base src (blk r))) 18 + 1)) 16 (xsi (xsI st 16 (rp base src (blk r))) 16 + 1)) (i3 (m0 - o) + 1, i3 m0) := ⟨(congrArg (fun x => x + 1) hOP.1 : xsi (xsI st 16 (rp base src (blk r))) 18 + 1 = i3 (m0 - o) + 1), hOP.2⟩
  have hsk1 : SK st (xsI (xsI (xsI st 16 (rp base src (blk r))) 18 (xsi (xsI st 16 (rp base src (blk r))) 18 + 1)) 16 (xsi (xsI st 16 (rp base src (blk r))) 16 + 1)) := (hs.trans (SK.at (by decide))).trans (SK.at (by decide))
  have hoth : ∀ k, k ≠ 2 → k ≠ 4 → k ≠ 7 → k ≠ 12 → k ≠ 16 → k ≠ 18 → xsi (xsI (xsI (xsI st 16 (rp base src (blk r))) 18 (xsi (xsI st 16 (rp base src (blk r))) 18 + 1)) 16 (xsi (xsI st 16 (rp base src (blk r))) 16 + 1)) k = xsi st k := fun k _ _ _ _ k5 k6 => (up_ne k5).trans ((up_ne k6).trans (up_ne k5))
  by_cases c91 : (blk r).head? = some 91
  · obtain ⟨r', hr'⟩ := head_c c91
    have hv91 : hv (blk r) = 91 := (hP.hve (k := 91) (by omega)).mpr c91
    rw [show hD (blk r) = false by rw [hr']; rfl, if_pos (by decide), if_pos hv91, if_pos c91]
    by_cases h0 : o = 0
    · rw [if_pos (by rw [opn]; exact h0), if_pos h0, bad_c]
      exact badX
    · rw [if_neg (by rw [opn]; exact h0), if_neg h0, if_pos hv91]
      obtain ⟨q1, q2⟩ := hlist r' ⟨91, hr'⟩
      have hG := hGA h0 c91
      rw [hr', List.tail_cons] at hG
      have htl : (blk r).tail = r' := by rw [hr']; rfl
      rw [htl]
      exact lstV (o := o) (S := st) rfl hoth (fun _ => ⟨rfl, rfl⟩) hsk1 rfl q2 (elementsM (hrec h0) (hps h0) hsz hM1 q1 hOP1 hG (by omega) (by omega) (by omega) (by omega) (by omega) (by omega))
  by_cases c123 : (blk r).head? = some 123
  · obtain ⟨r', hr'⟩ := head_c c123
    have hv123 : hv (blk r) = 123 := (hP.hve (k := 123) (by omega)).mpr c123
    have hn91 : ¬ hv (blk r) = 91 := ne 91 (by omega) c91
    rw [show hD (blk r) = false by rw [hr']; rfl, if_pos (by decide), if_neg hn91, if_pos hv123, if_neg c91, if_pos c123]
    by_cases h0 : o = 0
    · rw [if_pos (by rw [opn]; exact h0), if_pos h0, bad_c]
      exact badX
    · rw [if_neg (by rw [opn]; exact h0), if_neg h0, if_neg hn91]
      obtain ⟨q1, q2⟩ := hlist r' ⟨123, hr'⟩
      have hG := hGO h0 c123
      rw [hr', List.tail_cons] at hG
      have htl : (blk r).tail = r' := by rw [hr']; rfl
      rw [htl]
      exact lstV (o := o) (S := st) rfl hoth (fun _ => ⟨rfl, rfl⟩) hsk1 rfl q2 (membersM (hrec h0) (hps h0) hsz hM1 q1 hOP1 hG (by omega) (by omega) (by omega) (by omega) (by omega) (by omega))
  rw [if_neg c91, if_neg c123]
  by_cases hd : hD (blk r) = true
  · rw [hd, if_pos rfl, if_neg (by decide)]
    exact numV hf hs rfl hbl (numberM_w hMx hP (by omega) (by omega))
  · have hd' : hD (blk r) = false := by simpa using hd
    rw [hd', if_pos (by decide), if_neg (show ¬ hv (blk r) = 91 from ne 91 (by omega) c91), if_neg (show ¬ hv (blk r) = 123 from ne 123 (by omega) c123), bad_c]
    have hpn : pN (blk r) = .inl (blk r) := by
      unfold pN
      rw [if_neg c45, pNd, pD_none.mpr hd']
    rw [hpn]
    exact badX
/-- the reference reads as the abstract reader -/
theorem valueM {n m0 : Nat} (hsz : src.length ≤ 50000) (hn : 3000000000 < n) (hm0 : m0 ≤ 1000) : ∀ (k o fu : Nat), o ≤ k → o ≤ m0 → k < fu → ∀ (st : xS) (r : List Nat) (vs : List VR) (cs : List Nat) (ks ws : List NP), MS st vs cs ks ws → PR base src st r → OP st (i3 (m0 - o), i3 m0) → (o ≤ 60 ∨ ∃ j r1, pV k o r = .inr (j, r1) ∧ jd (k + 1) j ≤ 60) → vs.length + r.length < bV → cs.length + r.length ≤ bC → ks.length + r.length ≤ bK → ws.length + r.length ≤ bK → ValO base src st 0 0 vs cs ks ws 1 (fM_value fu n st) r 0 (pV k o r) := by
  intro k
  induction k with
  | zero =>
    intro o fu ho hom hfu st r vs cs ks ws hM h h18 hG hb1 hb2 hb3 hb4
    obtain ⟨fu, rfl⟩ : ∃ j, fu = j + 1 := ⟨fu - 1, by omega⟩
    obtain rfl : o = 0 := by omega
    have := valC (k := 0) (o := 0) (fu := fu) (recA := fun r => .inl r) hsz hn hm0 hom (fun h => absurd rfl h) (fun h => absurd rfl h) hM h h18 (fun h => absurd rfl h) (fun h => absurd rfl h) hb1 hb2 hb3 hb4
    rw [pV]
    have e1 : (if (blk r).head? = some 91 then (if (0 : Nat) = 0 then (.inl (blk r) : List Nat ⊕ (JT (0 + 1) × List Nat)) else mp ja (pA (fun r => .inl r) (blk r).tail)) else if (blk r).head? = some 123 then (if (0 : Nat) = 0 then .inl (blk r) else mp jo (pO (fun r => .inl r) (blk r).tail)) else mp jn (pN (blk r))) = (if (blk r).head? = some 91 ∨ (blk r).head? = some 123 then .inl (blk r) else mp jn (pN (blk r))) := by
      by_cases g1 : (blk r).head? = some 91
      · rw [if_pos g1, if_pos (Or.inl g1), if_pos rfl]
      · rw [if_neg g1]
        by_cases g2 : (blk r).head? = some 123
        · rw [if_pos g2, if_pos (Or.inr g2), if_pos rfl]
        · rw [if_neg g2, if_neg (fun g => g.elim g1 g2)]
    rw [e1] at this
    exact this
  | succ k ih =>
    intro o fu ho hom hfu st r vs cs ks ws hM h h18 hG hb1 hb2 hb3 hb4
    obtain ⟨fu, rfl⟩ : ∃ j, fu = j + 1 := ⟨fu - 1, by omega⟩
    have := valC (k := k + 1) (o := o) (fu := fu) (recA := pV k (o - 1)) hsz hn hm0 hom (fun h0 => fun st' r' vs' cs' ks' ws' a1 a2 a3 a4 a5 a6 a7 a8 => by
      rw [i3_one, show m0 - o + 1 = m0 - (o - 1) by omega] at a3
      refine ih (o - 1) fu (by omega) (by omega) (by omega) st' r' vs' cs' ks' ws' a1 a2 a3 ?_ a5 a6 a7 a8
      rcases a4 with a4 | ⟨j, r1, e, hj⟩
      · exact Or.inl (by omega)
      · exact Or.inr ⟨j, r1, e, by omega⟩) (fun h0 => pV_suf k (o - 1) (by omega)) hM h h18 (fun h0 hh => by
      rcases hG with hG | ⟨j, r1, e, hj⟩
      · exact Or.inl (by omega)
      · right
        rw [pV, if_neg (by rw [hh]; decide), if_neg (by rw [hh]; decide), if_neg (by rw [hh]; decide), if_neg (by rw [hh]; decide), if_pos hh, if_neg h0] at e
        obtain ⟨l, e2, e3⟩ := mp_inr e
        refine ⟨l, r1, e2, ?_⟩
        rw [e3] at hj
        exact (jd_a_le (n := 59)).mp hj) (fun h0 hh => by
      rcases hG with hG | ⟨j, r1, e, hj⟩
      · exact Or.inl (by omega)
      · right
        rw [pV, if_neg (by rw [hh]; decide), if_neg (by rw [hh]; decide), if_neg (by rw [hh]; decide), if_neg (by rw [hh]; decide), if_neg (by rw [hh]; decide), if_pos hh, if_neg h0] at e
        obtain ⟨l, e2, e3⟩ := mp_inr e
        refine ⟨l, r1, e2, ?_⟩
        rw [e3] at hj
        exact (jd_o_le (n := 59)).mp hj) hb1 hb2 hb3 hb4
    rw [pV]
    exact this
end RQ
