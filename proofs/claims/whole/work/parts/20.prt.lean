section ZRefp63
section RQ
variable {base : Nat} {src : List Nat} {vs : List VR} {cs : List Nat} {ks ws : List NP}
theorem valC {k o m0 fu n : Nat} (hsz : src.length ≤ 50000) (hn : 3000000000 < n) (hm0 : m0 ≤ 1000) (ho : o ≤ m0) {recA : List Nat → List Nat ⊕ (JT k × List Nat)} (hrec : o ≠ 0 → RecM base src (i3 (m0 - o) + 1, i3 m0) (o - 1) (fM_value fu n) recA) (hps : o ≠ 0 → PS recA (fun j => (jc k j).length) (fun j => jok k j ∧ jd k j ≤ o - 1)) {st : xS} {r : List Nat} (hM : MS st vs cs ks ws) (h : PR base src st r) (h18 : OP st (i3 (m0 - o), i3 m0))
    (hGA : o ≠ 0 → (blk r).head? = some 91 → o - 1 ≤ 59 ∨ ∃ l' r1, pA recA (blk r).tail = .inr (l', r1) ∧ ∀ x ∈ l', jd k x ≤ 59) (hGO : o ≠ 0 → (blk r).head? = some 123 → o - 1 ≤ 59 ∨ ∃ l' r1, pO recA (blk r).tail = .inr (l', r1) ∧ ∀ x ∈ l', jd k x.2 ≤ 59) (hb1 : vs.length + r.length < bV) (hb2 : cs.length + r.length ≤ bC) (hb3 : ks.length + r.length ≤ bK) (hb4 : ws.length + r.length ≤ bK) : ValO base src st 0 0 vs cs ks ws 1 (fM_value (fu + 1) n st) r 0 (if (blk r).head? = some 110 then pWd 0 (blk r) else if (blk r).head? = some 102 then pWd 1 (blk r) else if (blk r).head? = some 116 then pWd 2 (blk r) else if (blk r).head? = some 34 then mp js (pS (r.length + 1) (blk r).tail)
    else if (blk r).head? = some 91 then (if o = 0 then .inl (blk r) else mp ja (pA recA (blk r).tail))
    else if (blk r).head? = some 123 then (if o = 0 then .inl (blk r) else mp jo (pO recA (blk r).tail))
    else mp jn (pN (blk r))) := by
  have hbV : bV = 32000 := rfl
  have hbc : bC = 100000 := rfl
  have hbK : bK = 32000 := rfl
  have hl := h.2.1.length_le
  have hbl := blk_len r
  obtain ⟨e1, hP⟩ := h.blanks (n := n) (by omega)
  have hMx : MS (xsI st 16 (rp base src (blk r))) vs cs ks ws := hM.si (by decide) (by decide) (by decide) (by decide)
  have hf : Fr1 st (xsI st 16 (rp base src (blk r))) := Fr1.at _
  have hs : SK st (xsI st 16 (rp base src (blk r))) := SK.at (by decide)
  have hOP : OP (xsI st 16 (rp base src (blk r))) (i3 (m0 - o), i3 m0) := h18.fr hf
  have ne : ∀ d : Nat, d < 256 → (blk r).head? ≠ some d → ¬ hv (blk r) = i3 d := fun d hd hh he => hh ((hP.hve (k := d) hd).mp he)
  have badX : ∀ {α : Nat}, ValO (d := α) base src st 0 0 vs cs ks ws 1 (some (1, 1, 6, 0, xsI (xsI st 16 (rp base src (blk r))) 20 (xsi (xsI st 16 (rp base src (blk r))) 16))) r 0 (.inl (blk r)) := by
    intro α
    have hx : xsi (xsI st 16 (rp base src (blk r))) 16 = rp base src (blk r) := hP.2.2
    rw [hx]
    exact ⟨1, 6, _, rfl, ⟨by omega, Nat.le_of_eq (Nat.add_comm _ _)⟩, (Bad.of2 hMx FrP.refl (Nat.le_refl _) rfl).any hf (Nat.le_refl _)⟩
  have opn : (xsi (xsI st 16 (rp base src (blk r))) 18 = xsi (xsI st 16 (rp base src (blk r))) 19) = (o = 0) := by
    rw [hOP.1, hOP.2]
    show (i3 (m0 - o) = i3 m0) = _
    rw [i3_eq (by omega) (by omega)]
    exact propext (by omega)
  rw [fM_value, e1, Option.bind_some, hP.peek, Option.bind_some]
  by_cases c110 : (blk r).head? = some 110
  · rw [if_pos (show hv (blk r) = 110 from (hP.hve (k := 110) (by omega)).mpr c110), if_pos c110]
    exact wordV (by omega) hf hs rfl hbl (saysb_w hMx hP (by omega) (by omega))
  rw [if_neg (show ¬ hv (blk r) = 110 from ne 110 (by omega) c110), if_neg c110]
  by_cases c116 : (blk r).head? = some 116
  · have c102 : (blk r).head? ≠ some 102 := by rw [c116]; decide
    rw [if_pos (show hv (blk r) = 116 from (hP.hve (k := 116) (by omega)).mpr c116), if_neg c102, if_pos c116]
    exact wordV (by omega) hf hs rfl hbl (saysa_w hMx hP (by omega) (by omega))
  rw [if_neg (show ¬ hv (blk r) = 116 from ne 116 (by omega) c116)]
  by_cases c102 : (blk r).head? = some 102
  · rw [if_pos (show hv (blk r) = 102 from (hP.hve (k := 102) (by omega)).mpr c102), if_pos c102]
    exact wordV (by omega) hf hs rfl hbl (says_w hMx hP (by omega) (by omega))
  rw [if_neg (show ¬ hv (blk r) = 102 from ne 102 (by omega) c102), if_neg c102, if_neg c116]
  by_cases c34 : (blk r).head? = some 34
  · rw [if_pos (show hv (blk r) = 34 from (hP.hve (k := 34) (by omega)).mpr c34), if_pos c34]
    obtain ⟨r', hr'⟩ := head_c c34
    rw [hr'] at hP hMx hbl hf hs ⊢
    rw [List.length_cons] at hbl
    rw [List.tail_cons]
    exact strV hf hs rfl hbl (by omega) (stringM_w hMx hP (by omega) (by omega) hsz (by omega) (by omega))
  rw [if_neg (show ¬ hv (blk r) = 34 from ne 34 (by omega) c34), if_neg c34]
  by_cases c45 : (blk r).head? = some 45
  · rw [if_pos (show hv (blk r) = 45 from (hP.hve (k := 45) (by omega)).mpr c45), if_neg (show ¬ (blk r).head? = some 91 by rw [c45]; decide), if_neg (show ¬ (blk r).head? = some 123 by rw [c45]; decide)]
    exact numV hf hs rfl hbl (numberM_w hMx hP (by omega) (by omega))
  rw [if_neg (show ¬ hv (blk r) = 45 from ne 45 (by omega) c45), digitM hP, Option.bind_some]
  have hlist : ∀ rr, (∃ c, blk r = c :: rr) → PR base src (xsI (xsI (xsI st 16 (rp base src (blk r))) 18 (xsi (xsI st 16 (rp base src (blk r))) 18 + 1)) 16 (xsi (xsI st 16 (rp base src (blk r))) 16 + 1)) rr ∧ rr.length ≤ r.length := fun rr ⟨c, hc⟩ => by
    have hP' := hP
    rw [hc] at hP' hbl
    rw [List.length_cons] at hbl
    refine ⟨?_, by omega⟩
    have hq := hP'.next
    obtain ⟨⟨p1, ⟨f, p2, p3⟩, p4, p5⟩, p6, p7⟩ := hq
    rw [hc]
    exact ⟨⟨p1, ⟨f, p2, p3⟩, p4, p5⟩, p6, p7⟩
  have hM1 : MS (xsI (xsI (xsI st 16 (rp base src (blk r))) 18 (xsi (xsI st 16 (rp base src (blk r))) 18 + 1)) 16 (xsi (xsI st 16 (rp base src (blk r))) 16 + 1)) vs cs ks ws := (hMx.si (by decide) (by decide) (by decide) (by decide)).si (by decide) (by decide) (by decide) (by decide)
  have hOP1 : OP (xsI (xsI (xsI st 16 (rp base src (blk r))) 18 (xsi (xsI st 16 (rp base src (blk r))) 18 + 1)) 16 (xsi (xsI st 16 (rp base src (blk r))) 16 + 1)) (i3 (m0 - o) + 1, i3 m0) := ⟨(congrArg (fun x => x + 1) hOP.1 : xsi (xsI st 16 (rp base src (blk r))) 18 + 1 = i3 (m0 - o) + 1), hOP.2⟩
  have hsk1 : SK st (xsI (xsI (xsI st 16 (rp base src (blk r))) 18 (xsi (xsI st 16 (rp base src (blk r))) 18 + 1)) 16 (xsi (xsI st 16 (rp base src (blk r))) 16 + 1)) := (hs.trans (SK.at (by decide))).trans (SK.at (by decide))
  have hoth : ∀ k, k ≠ 2 → k ≠ 4 → k ≠ 7 → k ≠ 12 → k ≠ 16 → k ≠ 18 → xsi (xsI (xsI (xsI st 16 (rp base src (blk r))) 18 (xsi (xsI st 16 (rp base src (blk r))) 18 + 1)) 16 (xsi (xsI st 16 (rp base src (blk r))) 16 + 1)) k = xsi st k := fun k _ _ _ _ k5 k6 => (up_ne k5).trans ((up_ne k6).trans (up_ne k5))
  by_cases c91 : (blk r).head? = some 91
  · obtain ⟨r', hr'⟩ := head_c c91
    have hv91 : hv (blk r) = 91 := (hP.hve (k := 91) (by omega)).mpr c91
    rw [show hD (blk r) = false by rw [hr']; rfl, if_pos (by decide), if_pos hv91, if_pos c91]
    by_cases h0 : o = 0
    · rw [if_pos (by rw [opn]; exact h0), if_pos h0, bad_c]
      exact badX
    · rw [if_neg (by rw [opn]; exact h0), if_neg h0, if_pos hv91]
      obtain ⟨q1, q2⟩ := hlist r' ⟨91, hr'⟩
      have hG := hGA h0 c91
      rw [hr', List.tail_cons] at hG
      have htl : (blk r).tail = r' := by rw [hr']; rfl
      rw [htl]
      exact lstV (o := o) (S := st) rfl hoth (fun _ => ⟨rfl, rfl⟩) hsk1 rfl q2 (elementsM (hrec h0) (hps h0) hsz hM1 q1 hOP1 hG (by omega) (by omega) (by omega) (by omega) (by omega) (by omega))
  by_cases c123 : (blk r).head? = some 123
  · obtain ⟨r', hr'⟩ := head_c c123
    have hv123 : hv (blk r) = 123 := (hP.hve (k := 123) (by omega)).mpr c123
    have hn91 : ¬ hv (blk r) = 91 := ne 91 (by omega) c91
    rw [show hD (blk r) = false by rw [hr']; rfl, if_pos (by decide), if_neg hn91, if_pos hv123, if_neg c91, if_pos c123]
    by_cases h0 : o = 0
    · rw [if_pos (by rw [opn]; exact h0), if_pos h0, bad_c]
      exact badX
    · rw [if_neg (by rw [opn]; exact h0), if_neg h0, if_neg hn91]
      obtain ⟨q1, q2⟩ := hlist r' ⟨123, hr'⟩
      have hG := hGO h0 c123
      rw [hr', List.tail_cons] at hG
      have htl : (blk r).tail = r' := by rw [hr']; rfl
      rw [htl]
      exact lstV (o := o) (S := st) rfl hoth (fun _ => ⟨rfl, rfl⟩) hsk1 rfl q2 (membersM (hrec h0) (hps h0) hsz hM1 q1 hOP1 hG (by omega) (by omega) (by omega) (by omega) (by omega) (by omega))
  rw [if_neg c91, if_neg c123]
  by_cases hd : hD (blk r) = true
  · rw [hd, if_pos rfl, if_neg (by decide)]
    exact numV hf hs rfl hbl (numberM_w hMx hP (by omega) (by omega))
  · have hd' : hD (blk r) = false := by simpa using hd
    rw [hd', if_pos (by decide), if_neg (show ¬ hv (blk r) = 91 from ne 91 (by omega) c91), if_neg (show ¬ hv (blk r) = 123 from ne 123 (by omega) c123), bad_c]
    have hpn : pN (blk r) = .inl (blk r) := by
      unfold pN
      rw [if_neg c45, pNd, pD_none.mpr hd']
    rw [hpn]
    exact badX
/-- the reference reads as the abstract reader -/
theorem valueM {n m0 : Nat} (hsz : src.length ≤ 50000) (hn : 3000000000 < n) (hm0 : m0 ≤ 1000) : ∀ (k o fu : Nat), o ≤ k → o ≤ m0 → k < fu → ∀ (st : xS) (r : List Nat) (vs : List VR) (cs : List Nat) (ks ws : List NP), MS st vs cs ks ws → PR base src st r → OP st (i3 (m0 - o), i3 m0) → (o ≤ 60 ∨ ∃ j r1, pV k o r = .inr (j, r1) ∧ jd (k + 1) j ≤ 60) → vs.length + r.length < bV → cs.length + r.length ≤ bC → ks.length + r.length ≤ bK → ws.length + r.length ≤ bK → ValO base src st 0 0 vs cs ks ws 1 (fM_value fu n st) r 0 (pV k o r) := by
  intro k
  induction k with
  | zero =>
    intro o fu ho hom hfu st r vs cs ks ws hM h h18 hG hb1 hb2 hb3 hb4
    obtain ⟨fu, rfl⟩ : ∃ j, fu = j + 1 := ⟨fu - 1, by omega⟩
    obtain rfl : o = 0 := by omega
    have := valC (k := 0) (o := 0) (fu := fu) (recA := fun r => .inl r) hsz hn hm0 hom (fun h => absurd rfl h) (fun h => absurd rfl h) hM h h18 (fun h => absurd rfl h) (fun h => absurd rfl h) hb1 hb2 hb3 hb4
    rw [pV]
    have e1 : (if (blk r).head? = some 91 then (if (0 : Nat) = 0 then (.inl (blk r) : List Nat ⊕ (JT (0 + 1) × List Nat)) else mp ja (pA (fun r => .inl r) (blk r).tail)) else if (blk r).head? = some 123 then (if (0 : Nat) = 0 then .inl (blk r) else mp jo (pO (fun r => .inl r) (blk r).tail)) else mp jn (pN (blk r))) = (if (blk r).head? = some 91 ∨ (blk r).head? = some 123 then .inl (blk r) else mp jn (pN (blk r))) := by
      by_cases g1 : (blk r).head? = some 91
      · rw [if_pos g1, if_pos (Or.inl g1), if_pos rfl]
      · rw [if_neg g1]
        by_cases g2 : (blk r).head? = some 123
        · rw [if_pos g2, if_pos (Or.inr g2), if_pos rfl]
        · rw [if_neg g2, if_neg (fun g => g.elim g1 g2)]
    rw [e1] at this
    exact this
  | succ k ih =>
    intro o fu ho hom hfu st r vs cs ks ws hM h h18 hG hb1 hb2 hb3 hb4
    obtain ⟨fu, rfl⟩ : ∃ j, fu = j + 1 := ⟨fu - 1, by omega⟩
    have := valC (k := k + 1) (o := o) (fu := fu) (recA := pV k (o - 1)) hsz hn hm0 hom (fun h0 => fun st' r' vs' cs' ks' ws' a1 a2 a3 a4 a5 a6 a7 a8 => by
      rw [i3_one, show m0 - o + 1 = m0 - (o - 1) by omega] at a3
      refine ih (o - 1) fu (by omega) (by omega) (by omega) st' r' vs' cs' ks' ws' a1 a2 a3 ?_ a5 a6 a7 a8
      rcases a4 with a4 | ⟨j, r1, e, hj⟩
      · exact Or.inl (by omega)
      · exact Or.inr ⟨j, r1, e, by omega⟩) (fun h0 => pV_suf k (o - 1) (by omega)) hM h h18 (fun h0 hh => by
      rcases hG with hG | ⟨j, r1, e, hj⟩
      · exact Or.inl (by omega)
      · right
        rw [pV, if_neg (by rw [hh]; decide), if_neg (by rw [hh]; decide), if_neg (by rw [hh]; decide), if_neg (by rw [hh]; decide), if_pos hh, if_neg h0] at e
        obtain ⟨l, e2, e3⟩ := mp_inr e
        refine ⟨l, r1, e2, ?_⟩
        rw [e3] at hj
        exact (jd_a_le (n := 59)).mp hj) (fun h0 hh => by
      rcases hG with hG | ⟨j, r1, e, hj⟩
      · exact Or.inl (by omega)
      · right
        rw [pV, if_neg (by rw [hh]; decide), if_neg (by rw [hh]; decide), if_neg (by rw [hh]; decide), if_neg (by rw [hh]; decide), if_neg (by rw [hh]; decide), if_pos hh, if_neg h0] at e
        obtain ⟨l, e2, e3⟩ := mp_inr e
        refine ⟨l, r1, e2, ?_⟩
        rw [e3] at hj
        exact (jd_o_le (n := 59)).mp hj) hb1 hb2 hb3 hb4
    rw [pV]
    exact this
end RQ
end ZRefp63
section ZRefq64
section RS3
variable {base : Nat} {src : List Nat} {vs : List VR} {cs : List Nat} {ks ws : List NP}
/-- a whole text, with nothing behind -/
def pW (k o : Nat) (r : List Nat) : List Nat ⊕ (JT (k + 1) × List Nat) := match pV k o r with
  | .inl x => .inl x
  | .inr (j, r1) => if blk r1 = [] then .inr (j, []) else .inl (blk r1)
theorem pW_pT {k o : Nat} {r : List Nat} : pW k o r = match pT k o r with
    | .inl x => .inl x
    | .inr j => .inr (j, []) := by
  unfold pW pT
  cases pV k o r with
  | inl x => rfl
  | inr t =>
    obtain ⟨j, r1⟩ := t
    dsimp only
    by_cases h : blk r1 = []
    · rw [if_pos h, if_pos h]
    · rw [if_neg h, if_neg h]
theorem jsonM {k n m0 fu c0 : Nat} {st : xS} {x1 x2 : Int32} (hsz : src.length ≤ 50000) (hn : 3000000000 < n) (hm0 : m0 ≤ 1000) (hk : m0 ≤ k) (hfu : k < fu) (hM : MS (xsI (xsI (xsI (xsX st c0) 16 x1) 17 x2) 18 0) vs cs ks ws) (h : PR base src (xsI (xsI (xsI (xsX st c0) 16 x1) 17 x2) 18 0) src) (h19 : xsi st 19 = i3 m0) (hG : m0 ≤ 60 ∨ ∃ j r1, pV k m0 src = .inr (j, r1) ∧ jd (k + 1) j ≤ 60) (hb1 : vs.length + src.length < bV) (hb2 : cs.length + src.length ≤ bC) (hb3 : ks.length + src.length ≤ bK) (hb4 : ws.length + src.length ≤ bK) : ValO base src (xsI (xsI (xsI (xsX st c0) 16 x1) 17 x2) 18 0) 0 0 vs cs ks ws 1 (fM_json fu n st c0 x1 x2) src 0 (pW k m0 src) := by
  have hV := valueM (n := n) (m0 := m0) hsz hn hm0 k m0 fu hk (Nat.le_refl _) hfu _ src vs cs ks ws hM h ⟨by rw [Nat.sub_self]; rfl, h19⟩ hG hb1 hb2 hb3 hb4
  unfold fM_json pW
  cases hp : pV k m0 src with
  | inl x =>
    rw [hp] at hV
    obtain ⟨cc, s, st', e, c, b⟩ := hV
    refine ⟨cc, s, st', ?_, c, b⟩
    rw [e, Option.bind_some, if_neg (show ¬ (1 : Nat) = 0 by decide), if_pos rfl]
    dsimp only
    rw [Nat.zero_add, Nat.zero_add, Nat.zero_add, Nat.zero_add]
    exact xmo_some (Nat.le_refl _) (Nat.le_refl _)
  | inr t =>
    obtain ⟨j, r1⟩ := t
    rw [hp] at hV
    obtain ⟨cc, s, c, st', a, b, e', e, m1, m2, m3, m4, m5, m6, m7, m8, m9⟩ := hV
    obtain ⟨e2, hP⟩ := m2.blanks (n := n) (by omega)
    have hbl := blk_len r1
    have hl1 := hP.2.1.length_le
    have h17 : xsi (xsI st' 16 (rp base src (blk r1))) 17 = i3 (base + src.length) := hP.1.2.2.1
    have h16 : xsi (xsI st' 16 (rp base src (blk r1))) 16 = rp base src (blk r1) := hP.2.2
    have hlim := hP.1.2.2.2
    have hcmp : (i3 (base + src.length) ≤ rp base src (blk r1)) = (blk r1 = []) := by
      unfold rp
      rw [i3_le (by omega) (by omega)]
      refine propext ⟨fun hh => List.length_eq_zero_iff.mp (by omega), fun hh => by rw [hh, List.length_nil]; omega⟩
    dsimp only
    rw [e, Option.bind_some, if_pos rfl]
    dsimp only
    rw [e2, Option.bind_some, h17, h16]
    by_cases hz : blk r1 = []
    · rw [if_pos (by rw [hcmp]; exact hz), if_pos hz]
      refine ⟨cc, s, c, xsI st' 16 (rp base src (blk r1)), a, b, e', ?_, m1.si (by decide) (by decide) (by decide) (by decide), ⟨hP.1, List.nil_suffix, hP.2.2.trans (by rw [hz])⟩, ⟨m3.1, m3.2⟩, m4.trans (Fr1.at _), m5.trans (SK.at (by decide)), m6, by rw [List.length_nil]; omega, by rw [List.length_nil]; omega, by rw [List.length_nil]; omega⟩
      simp only [Nat.zero_add]
      exact xmo_some (Nat.le_refl _) (Nat.le_refl _)
    · rw [if_neg (by rw [hcmp]; exact hz), if_neg hz]
      have hct : ¬ xct (xsI st' 16 (rp base src (blk r1))) < c := by
        have h1 := m1.2.2.1.1
        have h2 := m6.le
        show ¬ xct st' < c
        omega
      refine ⟨cc + 1, s + 6, xsI (xsI st' 16 (rp base src (blk r1))) 20 (rp base src (blk r1)), ?_, ⟨by have := m3.1; omega, ?_⟩, (Bad.of2 (m1.si (by decide) (by decide) (by decide) (by decide)) FrP.refl (Nat.le_refl _) rfl).any (m4.trans (Fr1.at _)) (by have := m3.2; have hpe : pt (xsI st' 16 (rp base src (blk r1))) = pt st' := rfl; omega)⟩
      · unfold fM_bad
        rw [Option.bind_some, if_pos rfl, if_neg hct]
        dsimp only
        simp only [Nat.zero_add]
        have hin : ∀ z : xS, xmo (fun a : Nat × Nat × Nat × Nat × xS => a.2.1) (fun a => a.2.2.1) (cc + 1) (s + 6) (some (1, cc + 1, s + 6, 0, z)) = some (1, cc + 1, s + 6, 0, z) := fun z => xmo_some (Nat.le_refl _) (Nat.le_refl _)
        rw [hin]
        exact xmo_some (by show cc ≤ cc + 1; omega) (by show s ≤ s + 6; omega)
      · have := m3.2
        have hpe : pt (xsI (xsI st' 16 (rp base src (blk r1))) 20 (rp base src (blk r1))) = pt st' := rfl
        omega
end RS3
end ZRefq64
section ZRefr65
section RT3
variable {vs : List VR} {cs : List Nat} {ks ws : List NP}
theorem MS.sx {st : xS} (hM : MS st vs cs ks ws) {c : Nat} (hc : c < 41 + xgl st) : MS (xsX st c) vs cs ks ws := by
  obtain ⟨h, r1, r2, r3, r4, r5, r6, r7⟩ := hM
  exact ⟨h, r1, r2, r3, r4, r5, r6, hc⟩
/-- a register of the reference holds this value's text -/
def RegM (st : xS) (x : Nat) (w : List Nat) : Prop := x < 8 ∧ xln st 24 = 8 ∧ xln st 25 = 8 ∧ xln st (32 + x) = 4096 ∧ xba st 25 x = i3 w.length ∧ w.length ≤ 4096 ∧ seg (xba st (32 + x)) 0 (w.map sb)
theorem RegM.fr {st st' : xS} {x : Nat} {w : List Nat} (h : RegM st x w) (hf : FrP st st') : RegM st' x w := by
  obtain ⟨h1, h2, h3, h4, h5, h6, h7⟩ := h
  refine ⟨h1, (hf.2 24 (by omega)).1.trans h2, (hf.2 25 (by omega)).1.trans h3, (hf.2 (32 + x) (by omega)).1.trans h4, by rw [(hf.2 25 (by omega)).2]; exact h5, h6, by rw [(hf.2 (32 + x) (by omega)).2]; exact h7⟩
theorem registerM {st : xS} {x n fu k : Nat} {j : JT (k + 1)} (hM : MS st vs cs ks ws) (hj : jok (k + 1) j) (hfit : fit j) (hk : 100 ≤ k) (hfu : k < fu) (hn : 3000000000 < n) (hR : RegM st x (jt (k + 1) j)) (hb1 : vs.length + (jt (k + 1) j).length < bV) (hb2 : cs.length + (jt (k + 1) j).length ≤ bC) (hb3 : ks.length + (jt (k + 1) j).length ≤ bK) (hb4 : ws.length + (jt (k + 1) j).length ≤ bK) : ∃ (cc s c : Nat) (st' : xS) (vs' : List VR) (cs' : List Nat) (ks' : List NP), fM_register fu n st (i3 x) = some (0, cc, s, c, st') ∧ MS st' (vs ++ vs') (cs ++ cs') (ks ++ ks') ws ∧ Cost st st' cc s ∧ FrP st st' ∧ Rep (vs ++ vs') (cs ++ cs') (ks ++ ks') (k + 1) j c ∧ vs'.length ≤ (jt (k + 1) j).length ∧ cs'.length ≤ (jt (k + 1) j).length ∧ ks'.length ≤ (jt (k + 1) j).length ∧ (32 ≤ xsr st' ∧ xsr st' < 41) := by
  obtain ⟨h1, h2, h3, h4, h5, h6, h7⟩ := hR
  have hlt := jt_lt _ j hj
  have hpv : pV k 100 (jt (k + 1) j) = .inr (j, []) := rtT (by omega) hj (by have := hfit.1; omega)
  have hW : pW k 100 (jt (k + 1) j) = .inr (j, []) := by
    unfold pW
    rw [hpv]
    rfl
  have hM0 : MS (xsI (xsI (xsI (xsX (xsI st 19 100) (32 + x)) 16 0) 17 (i3 (jt (k + 1) j).length)) 18 0) vs cs ks ws := (((MS.sx (hM.si (k := 19) (v := 100) (by decide) (by decide) (by decide) (by decide)) (show 32 + x < 41 + xgl st by omega)).si (by decide) (by decide) (by decide) (by decide)).si (by decide) (by decide) (by decide) (by decide)).si (by decide) (by decide) (by decide) (by decide)
  have hP0 : PR 0 (jt (k + 1) j) (xsI (xsI (xsI (xsX (xsI st 19 100) (32 + x)) 16 0) 17 (i3 (jt (k + 1) j).length)) 18 0) (jt (k + 1) j) := by
    refine ⟨⟨fun c hc => by have := hlt c hc; omega, ⟨xba st (32 + x), ⟨Or.inr (Or.inl ⟨by show 32 ≤ 32 + x; omega, by show 32 + x < 41; omega⟩), ?_, fun i hi => ?_, fun hh => ?_⟩, h7⟩, ?_, by omega⟩, List.suffix_refl _, ?_⟩
    · show 0 + (jt (k + 1) j).length ≤ (if 32 + x < 41 then xln st (32 + x) else xgn st (32 + x - 41))
      rw [if_pos (by omega), h4]
      omega
    · show (if 32 + x < 41 then xba st (32 + x) else xgb st (32 + x - 41)) i = _
      rw [if_pos (by omega)]
    · have : 32 + x = 3 := hh
      omega
    · show i3 (jt (k + 1) j).length = i3 (0 + (jt (k + 1) j).length)
      rw [Nat.zero_add]
    · show (0 : Int32) = rp 0 (jt (k + 1) j) (jt (k + 1) j)
      unfold rp
      rw [Nat.sub_self]
      rfl
  have hJ := jsonM (st := xsI st 19 100) (c0 := 32 + x) (x1 := 0) (x2 := i3 (jt (k + 1) j).length) (k := k) (m0 := 100) (fu := fu) (n := n) (by omega) hn (by omega) hk hfu hM0 hP0 rfl (Or.inr ⟨j, [], hpv, hfit.1⟩) hb1 hb2 hb3 hb4
  rw [hW] at hJ
  obtain ⟨cc, s, c, st', a, b, e', e, m1, m2, m3, m4, m5, m6, m7, m8, m9⟩ := hJ
  rw [List.length_nil] at m7 m8 m9
  refine ⟨cc, s, c, st', a, b, e', ?_, m1, ⟨m3.1, m3.2⟩, ⟨fun q hq => ?_, fun q hq => ?_⟩, m6, by omega, by omega, by omega, ?_⟩
  · unfold fM_register
    rw [h2, if_neg (i3_idx (by omega) (by omega)), i3_N (by omega), if_neg (by omega), h3, if_neg (i3_id2 (by omega) (by omega)), h5, e, Option.bind_some, if_pos rfl]
    simp only [Nat.zero_add]
    exact xmo_some (Nat.le_refl _) (Nat.le_refl _)
  · have := m4.p.1 q hq
    rw [this]
    show va_up (va_up (va_up (va_up st.1 19 100) 16 0) 17 (i3 (jt (k + 1) j).length)) 18 0 q = xsi st q
    rw [up_ne (by omega), up_ne (by omega), up_ne (by omega), up_ne (by omega)]
  · exact m4.p.2 q hq
  · have hx : xsr st' = 32 + x := m5.2 (show (32 + x : Nat) ≠ 3 by omega)
    rw [hx]
    omega
end RT3
end ZRefr65
section ZRefs66
/-! ===== the reference: printing ===== -/
def bP : Nat := 200000
/-- what is printed so far, and the room for it -/
def PV (st : xS) (mx : Nat) (ps : List Nat) : Prop := xsi st 22 = i3 ps.length ∧ xsi st 23 = i3 mx ∧ mx ≤ 1000000000 ∧ (∀ i c, ps[i]? = some c → xba st 21 i = i3 c ∧ c < 128) ∧ ps.length ≤ xln st 21 ∧ 64 ≤ xln st 21 ∧ xln st 21 ≤ 2 * bP
/-- all but what is printed is as it was -/
def Fr2 (st st' : xS) : Prop := (∀ k, k ≠ 22 → xsi st' k = xsi st k) ∧ (∀ k, k ≠ 21 → xln st' k = xln st k ∧ xba st' k = xba st k) ∧ st'.2.2.2 = st.2.2.2
theorem Fr2.refl {st : xS} : Fr2 st st := ⟨fun _ _ => rfl, fun _ _ => ⟨rfl, rfl⟩, rfl⟩
theorem Fr2.trans {a b c : xS} (h : Fr2 a b) (h' : Fr2 b c) : Fr2 a c := ⟨fun k hk => (h'.1 k hk).trans (h.1 k hk), fun k hk => ⟨(h'.2.1 k hk).1.trans (h.2.1 k hk).1, (h'.2.1 k hk).2.trans (h.2.1 k hk).2⟩, h'.2.2.trans h.2.2⟩
theorem MS.fr2 {st st' : xS} {vs : List VR} {cs : List Nat} {ks ws : List NP} (hM : MS st vs cs ks ws) (hf : Fr2 st st') : MS st' vs cs ks ws := by
  obtain ⟨a1, a2, a3, a4⟩ := st
  obtain ⟨b1, b2, b3, b4⟩ := st'
  obtain ⟨f1, f2, f3⟩ := hf
  dsimp only at f3
  subst f3
  obtain ⟨⟨⟨h1, h2, h3, h4⟩, h5, h6, h7, h8⟩, r1, r2, r3, r4, r5, r6, r7⟩ := hM
  have l1 := (f2 1 (by decide)).1
  have l3 := (f2 3 (by decide)).1
  have l5 := (f2 5 (by decide)).1
  have l6 := (f2 6 (by decide)).1
  have l10 := (f2 10 (by decide)).1
  have l11 := (f2 11 (by decide)).1
  have a3' := (f2 3 (by decide)).2
  refine ⟨⟨⟨(f1 2 (by decide)).trans h1, (f1 4 (by decide)).trans h2, (f1 7 (by decide)).trans h3, (f1 12 (by decide)).trans h4⟩, h5, fun i c hc => by rw [a3']; exact h6 i c hc, h7, h8⟩, r1, ?_, ?_, ?_, ?_, r6, r7⟩
  · rw [l1]; exact r2
  · rw [l3]; exact r3
  · rw [l5, l6]; exact r4
  · rw [l10, l11]; exact r5
section PT
variable {st : xS} {mx n : Nat} {ps : List Nat}
theorem put_p (h : PV st mx ps) {c : Nat} (hc : c < 128) (hr : ps.length < xln st 21) : PV (xsI (xsB st 21 ps.length (i3 c)) 22 (i3 (ps.length + 1))) mx (ps ++ [c]) ∧ Fr2 st (xsI (xsB st 21 ps.length (i3 c)) 22 (i3 (ps.length + 1))) := by
  obtain ⟨h1, h2, h3, h4, h5, h6, h7⟩ := h
  refine ⟨⟨by rw [List.length_append]; rfl, h2, h3, fun i x hx => ?_, by rw [List.length_append]; exact hr, h6, h7⟩, ⟨fun k hk => up_ne hk, fun k hk => ⟨rfl, up_ne hk⟩, rfl⟩⟩
  show upd (xba st 21) ps.length (i3 c) i = i3 x ∧ x < 128
  rcases get_snoc hx with ⟨h, hi⟩ | ⟨rfl, rfl⟩
  · rw [upd_ne (by omega)]
    exact h4 i x h
  · exact ⟨upd_eq, hc⟩
theorem grow_p (h : PV st mx ps) {m : Nat} {f : Nat → Int32} (hm : xln st 21 ≤ m) (hm2 : m ≤ 2 * bP) (hf : ∀ i, i < ps.length → f i = xba st 21 i) : PV (xsG st 21 m f) mx ps ∧ Fr2 st (xsG st 21 m f) ∧ pt (xsG st 21 m f) + 2 * xln st 21 = pt st + 2 * m := by
  obtain ⟨h1, h2, h3, h4, h5, h6, h7⟩ := h
  refine ⟨⟨h1, h2, h3, fun i x hx => ?_, ?_, ?_, hm2⟩, ⟨fun k hk => rfl, fun k hk => ⟨up_ne hk, up_ne hk⟩, rfl⟩, ?_⟩
  · show f i = i3 x ∧ x < 128
    rw [hf i (List.getElem?_eq_some_iff.mp hx).1]
    exact h4 i x hx
  · show ps.length ≤ m
    omega
  · show 64 ≤ m
    omega
  · show 2 * (xln st 1 + xln st 3 + xln st 5 + xln st 6 + xln st 10 + xln st 11 + xln st 13 + xln st 14 + m) + 6 * xct st + 2 * xln st 21 = pt st + 2 * m
    unfold pt
    omega
theorem put0_loop (h : PV st mx ps) {c m wc wn : Nat} (hc : c < 128) (hm : ps.length < m) (hm2 : m ≤ 2 * bP) : ∀ (q n i : Nat) (tf : Nat → Int32), i + q = ps.length → q < n → (∀ k, k < i → tf k = xba st 21 k) → ∃ tf' : Nat → Int32, fM_put0_b n 1 (i3 i) (i3 c) m tf st wc wn = some (0, wc, wn, xsI (xsB (xsG st 21 m tf') 21 ps.length (i3 c)) 22 (i3 (ps.length + 1))) ∧ (∀ k, k < ps.length → tf' k = xba st 21 k) := by
  obtain ⟨h1, h2, h3, h4, h5, h6, h7⟩ := h
  have hbp : bP = 200000 := rfl
  intro q
  induction q with
  | zero =>
    intro n i tf hi hn htf
    obtain ⟨n, rfl⟩ : ∃ j, n = j + 1 := ⟨n - 1, by omega⟩
    obtain rfl : i = ps.length := by omega
    refine ⟨tf, ?_, htf⟩
    rw [fM_put0_b, h1, if_pos (by rw [i3_le (by omega) (by omega)]; omega), if_neg (i3_idx (by omega) (by omega)), i3_N (by omega), i3_one, nar_l hc]
    exact xmo_some (Nat.le_refl _) (Nat.le_refl _)
  | succ q ih =>
    intro n i tf hi hn htf
    obtain ⟨n, rfl⟩ : ∃ j, n = j + 1 := ⟨n - 1, by omega⟩
    have hx : ps[i]? = some ps[i] := List.getElem?_eq_getElem (by omega)
    obtain ⟨x1, x2⟩ := h4 i _ hx
    obtain ⟨tf', e1, e2⟩ := ih n (i + 1) (upd tf i (xba st 21 i)) (by omega) (by omega) (fun k hk => by
      by_cases hk' : k = i
      · rw [hk', upd_eq]
      · rw [upd_ne hk', htf k (by omega)])
    refine ⟨tf', ?_, e2⟩
    rw [fM_put0_b, h1, if_neg (by rw [i3_le (by omega) (by omega)]; omega), if_neg (i3_idx (by omega) (by omega)), if_neg (i3_idx (by omega) (by omega)), i3_N (by omega), i3_one, vp_nb, x1, nar_c _ x2, ← x1, e1]
    exact xmo_some (Nat.le_refl _) (Nat.le_refl _)
theorem put0_w (h : PV st mx ps) {c : Nat} (hc : c < 128) (hb : ps.length + 1 ≤ bP) (hn : bP < n) : (ps.length = mx → fM_put0 n st (i3 c) = some (1, 1, 6, st)) ∧ (ps.length ≠ mx → ∃ (cc s : Nat) (st' : xS), fM_put0 n st (i3 c) = some (0, cc, s, st') ∧ PV st' mx (ps ++ [c]) ∧ Cost st st' cc s ∧ Fr2 st st') := by
  have h' := h
  obtain ⟨h1, h2, h3, h4, h5, h6, h7⟩ := h'
  have hbp : bP = 200000 := rfl
  have hcmp : (i3 ps.length = i3 mx) = (ps.length = mx) := i3_eq (by omega) (by omega)
  unfold fM_put0
  rw [h1, h2]
  constructor
  · intro hh
    rw [if_pos (by rw [hcmp]; exact hh)]
  · intro hh
    rw [if_neg (by rw [hcmp]; exact hh)]
    by_cases hf : ps.length = xln st 21
    · have e2 : (2 : Int32) * i3 ps.length = i3 (2 * ps.length) := i3_mul 2 ps.length
      rw [e2, if_pos (by rw [← hf]; rfl), i3_N (by omega), if_neg (fun h => h.elim (i3_nn (by omega)) (by omega))]
      obtain ⟨tf, e1, g1⟩ := put0_loop h hc (m := 2 * ps.length) (wc := 0 + 1) (wn := 0 + 2 * ps.length) (by omega) (by omega) ps.length n 0 (fun _ => 0) (by omega) (by omega) (fun k hk => absurd hk (by omega))
      have e1' : fM_put0_b n 1 0 (i3 c) (2 * ps.length) (fun _ => 0) st (0 + 1) (0 + 2 * ps.length) = _ := e1
      rw [e1']
      obtain ⟨m1, m2, m3⟩ := grow_p h (m := 2 * ps.length) (f := tf) (by omega) (by omega) g1
      obtain ⟨p1, p2⟩ := put_p m1 hc (show ps.length < 2 * ps.length by omega)
      refine ⟨_, _, _, xmo_some (Nat.le_refl _) (Nat.le_refl _), p1, ⟨by omega, ?_⟩, m2.trans p2⟩
      show 0 + 2 * ps.length + pt st ≤ pt (xsG st 21 (2 * ps.length) tf)
      omega
    · rw [if_neg (by rw [show Int32.ofNat (xln st 21) = i3 (xln st 21) from rfl, i3_eq (by omega) (by omega)]; exact hf), if_neg (i3_idx (by omega) (by omega)), i3_N (by omega), i3_one, nar_l hc]
      obtain ⟨p1, p2⟩ := put_p h hc (by omega)
      exact ⟨0, 0, _, rfl, p1, ⟨by omega, Nat.le_of_eq (by rw [Nat.zero_add]; rfl)⟩, p2⟩
end PT
end ZRefs66
section ZReft67
section PU
variable {st : xS} {mx n : Nat} {ps : List Nat}
abbrev Out4P : Type := Nat × Nat × Nat × xS
/-- a text is put behind what is printed, or there is no room for it -/
def PutO (st : xS) (mx : Nat) (ps : List Nat) (wc wn : Nat) (out : Option Out4P) (w : List Nat) : Prop :=
  (ps.length + w.length ≤ mx ∧ ∃ (cc s : Nat) (st' : xS), out = some (0, wc + cc, wn + s, st') ∧ PV st' mx (ps ++ w) ∧ Cost st st' cc s ∧ Fr2 st st') ∨
  (mx < ps.length + w.length ∧ ∃ (cc s : Nat) (st' : xS) (ps' : List Nat), out = some (1, wc + cc, wn + s, st') ∧ PV st' mx ps' ∧ CostE st st' cc s 1 ∧ Fr2 st st')
theorem PutO.ge {wc wn : Nat} {out : Option Out4P} {w : List Nat} (h : PutO st mx ps wc wn out w) : ∀ a, out = some a → wc ≤ a.2.1 ∧ wn ≤ a.2.2.1 := by
  intro a ha
  rcases h with ⟨_, cc, s, st', e, _⟩ | ⟨_, cc, s, st', ps', e, _⟩
  · rw [e] at ha
    obtain rfl := Option.some.inj ha
    exact ⟨Nat.le_add_right _ _, Nat.le_add_right _ _⟩
  · rw [e] at ha
    obtain rfl := Option.some.inj ha
    exact ⟨Nat.le_add_right _ _, Nat.le_add_right _ _⟩
theorem PutO.done (h : PV st mx ps) (hl : ps.length ≤ mx) {wc wn : Nat} : PutO st mx ps wc wn (some (0, wc, wn, st)) [] := Or.inl ⟨by simpa using hl, 0, 0, st, rfl, by rw [List.append_nil]; exact h, Cost.refl, Fr2.refl⟩
/-- one text, then another -/
theorem PutO.bind {out1 : Option Out4P} {K : Out4P → Option Out4P} {w1 w2 : List Nat} {wc wn : Nat} (h1 : PutO st mx ps 0 0 out1 w1) (h2 : ∀ (cc s : Nat) (st1 : xS), PV st1 mx (ps ++ w1) → (ps ++ w1).length ≤ mx → Fr2 st st1 → PutO st1 mx (ps ++ w1) (wc + cc) (wn + s) (K (0, cc, s, st1)) w2) : PutO st mx ps wc wn (out1.bind fun o => (if o.1 = 0 then xmo (fun a => a.2.1) (fun a => a.2.2.1) (wc + o.2.1) (wn + o.2.2.1) (K o) else (if o.1 = 1 then xmo (fun a => a.2.1) (fun a => a.2.2.1) (wc + o.2.1) (wn + o.2.2.1) (some (1, (wc + o.2.1), (wn + o.2.2.1), o.2.2.2)) else none))) (w1 ++ w2) := by
  rcases h1 with ⟨l1, cc, s, st1, e, p1, c1, f1⟩ | ⟨l1, cc, s, st1, ps', e, p1, c1, f1⟩
  · rw [Nat.zero_add, Nat.zero_add] at e
    rw [e, Option.bind_some, if_pos rfl]
    have hK := h2 cc s st1 p1 (by rw [List.length_append]; exact l1) f1
    dsimp only
    rw [xmo_id hK.ge]
    rcases hK with ⟨l2, cc2, s2, st2, e2, p2, c2, f2⟩ | ⟨l2, cc2, s2, st2, ps', e2, p2, c2, f2⟩
    · refine Or.inl ⟨by rw [List.length_append] at l2 ⊢; omega, cc + cc2, s + s2, st2, by rw [e2, Nat.add_assoc, Nat.add_assoc], by rw [← List.append_assoc]; exact p2, c1.trans c2, f1.trans f2⟩
    · refine Or.inr ⟨by rw [List.length_append] at l2 ⊢; omega, cc + cc2, s + s2, st2, ps', by rw [e2, Nat.add_assoc, Nat.add_assoc], p2, ?_, f1.trans f2⟩
      have := c1.e.trans c2
      rwa [Nat.zero_add] at this
  · rw [Nat.zero_add, Nat.zero_add] at e
    rw [e, Option.bind_some, if_neg (show ¬ (1 : Nat) = 0 by decide), if_pos rfl]
    exact Or.inr ⟨by rw [List.length_append]; omega, cc, s, st1, ps', xmo_some (Nat.le_refl _) (Nat.le_refl _), p1, c1, f1⟩
theorem put_o (h : PV st mx ps) (hl : ps.length ≤ mx) {c : Nat} (hc : c < 128) (hb : ps.length + 1 ≤ bP) (hn : bP < n) : PutO st mx ps 0 0 (fM_put0 n st (i3 c)) [c] := by
  obtain ⟨h1, h2⟩ := put0_w (n := n) h hc hb hn
  by_cases hh : ps.length = mx
  · exact Or.inr ⟨by rw [List.length_singleton]; omega, 1, 6, st, ps, h1 hh, h, ⟨by omega, by omega⟩, Fr2.refl⟩
  · obtain ⟨cc, s, st', e, p, c', f⟩ := h2 hh
    exact Or.inl ⟨by rw [List.length_singleton]; omega, cc, s, st', by rw [e, Nat.zero_add, Nat.zero_add], p, c', f⟩
theorem put1_w (h : PV st mx ps) (hl : ps.length ≤ mx) (hb : ps.length + 4 ≤ bP) (hn : bP < n) : PutO st mx ps 0 0 (fM_put1 n st) [110, 117, 108, 108] := by
  unfold fM_put1
  refine PutO.bind (w1 := [110]) (w2 := [117, 108, 108]) (put_o h hl (c := 110) (by omega) (by omega) hn) (fun cc s st1 p1 l1 f1 => ?_)
  refine PutO.bind (w1 := [117]) (w2 := [108, 108]) (put_o p1 l1 (c := 117) (by omega) (by rw [List.length_append, List.length_singleton]; omega) hn) (fun cc s st1 p1 l1 f1 => ?_)
  refine PutO.bind (w1 := [108]) (w2 := [108]) (put_o p1 l1 (c := 108) (by omega) (by simp only [List.length_append, List.length_singleton]; omega) hn) (fun cc s st1 p1 l1 f1 => ?_)
  exact PutO.bind (w1 := [108]) (w2 := []) (put_o p1 l1 (c := 108) (by omega) (by simp only [List.length_append, List.length_singleton]; omega) hn) (fun cc s st1 p1 l1 f1 => PutO.done p1 l1)
/-- the same, where a value is looked at first -/
theorem PutO.bindG {G : Prop} [Decidable G] (hG : ¬ G) {out1 : Option Out4P} {K : Out4P → Option Out4P} {w1 w2 : List Nat} {wc wn : Nat} (h1 : PutO st mx ps 0 0 out1 w1) (h2 : ∀ (cc s : Nat) (st1 : xS), PV st1 mx (ps ++ w1) → (ps ++ w1).length ≤ mx → Fr2 st st1 → PutO st1 mx (ps ++ w1) (wc + cc) (wn + s) (K (0, cc, s, st1)) w2) : PutO st mx ps wc wn (out1.bind fun o => (if o.1 = 0 then if G then none else xmo (fun a => a.2.1) (fun a => a.2.2.1) (wc + o.2.1) (wn + o.2.2.1) (K o) else (if o.1 = 1 then if G then none else xmo (fun a => a.2.1) (fun a => a.2.2.1) (wc + o.2.1) (wn + o.2.2.1) (some (1, (wc + o.2.1), (wn + o.2.2.1), o.2.2.2)) else none))) (w1 ++ w2) := by
  have := PutO.bind (K := K) h1 h2
  simp only [if_neg hG]
  exact this
theorem put1a_w (h : PV st mx ps) (hl : ps.length ≤ mx) (hb : ps.length + 5 ≤ bP) (hn : bP < n) : PutO st mx ps 0 0 (fM_put1a n st) [102, 97, 108, 115, 101] := by
  unfold fM_put1a
  refine PutO.bind (w1 := [102]) (w2 := [97, 108, 115, 101]) (put_o h hl (c := 102) (by omega) (by omega) hn) (fun cc s st1 p1 l1 f1 => ?_)
  refine PutO.bind (w1 := [97]) (w2 := [108, 115, 101]) (put_o p1 l1 (c := 97) (by omega) (by simp only [List.length_append, List.length_singleton]; omega) hn) (fun cc s st1 p1 l1 f1 => ?_)
  refine PutO.bind (w1 := [108]) (w2 := [115, 101]) (put_o p1 l1 (c := 108) (by omega) (by simp only [List.length_append, List.length_singleton]; omega) hn) (fun cc s st1 p1 l1 f1 => ?_)
  refine PutO.bind (w1 := [115]) (w2 := [101]) (put_o p1 l1 (c := 115) (by omega) (by simp only [List.length_append, List.length_singleton]; omega) hn) (fun cc s st1 p1 l1 f1 => ?_)
  exact PutO.bind (w1 := [101]) (w2 := []) (put_o p1 l1 (c := 101) (by omega) (by simp only [List.length_append, List.length_singleton]; omega) hn) (fun cc s st1 p1 l1 f1 => PutO.done p1 l1)
theorem put1b_w (h : PV st mx ps) (hl : ps.length ≤ mx) (hb : ps.length + 4 ≤ bP) (hn : bP < n) : PutO st mx ps 0 0 (fM_put1b n st) [116, 114, 117, 101] := by
  unfold fM_put1b
  refine PutO.bind (w1 := [116]) (w2 := [114, 117, 101]) (put_o h hl (c := 116) (by omega) (by omega) hn) (fun cc s st1 p1 l1 f1 => ?_)
  refine PutO.bind (w1 := [114]) (w2 := [117, 101]) (put_o p1 l1 (c := 114) (by omega) (by simp only [List.length_append, List.length_singleton]; omega) hn) (fun cc s st1 p1 l1 f1 => ?_)
  refine PutO.bind (w1 := [117]) (w2 := [101]) (put_o p1 l1 (c := 117) (by omega) (by simp only [List.length_append, List.length_singleton]; omega) hn) (fun cc s st1 p1 l1 f1 => ?_)
  exact PutO.bind (w1 := [101]) (w2 := []) (put_o p1 l1 (c := 101) (by omega) (by simp only [List.length_append, List.length_singleton]; omega) hn) (fun cc s st1 p1 l1 f1 => PutO.done p1 l1)
theorem put1c_w (h : PV st mx ps) (hl : ps.length ≤ mx) (hb : ps.length + 3 ≤ bP) (hn : bP < n) : PutO st mx ps 0 0 (fM_put1c n st) [117, 48, 48] := by
  unfold fM_put1c
  refine PutO.bind (w1 := [117]) (w2 := [48, 48]) (put_o h hl (c := 117) (by omega) (by omega) hn) (fun cc s st1 p1 l1 f1 => ?_)
  refine PutO.bind (w1 := [48]) (w2 := [48]) (put_o p1 l1 (c := 48) (by omega) (by simp only [List.length_append, List.length_singleton]; omega) hn) (fun cc s st1 p1 l1 f1 => ?_)
  exact PutO.bind (w1 := [48]) (w2 := []) (put_o p1 l1 (c := 48) (by omega) (by simp only [List.length_append, List.length_singleton]; omega) hn) (fun cc s st1 p1 l1 f1 => PutO.done p1 l1)
theorem putHex_w (h : PV st mx ps) (hl : ps.length ≤ mx) (hb : ps.length + 1 ≤ bP) (hn : bP < n) {x : Nat} (hx6 : x < 16) : PutO st mx ps 0 0 (fM_putHex n st (i3 x)) [hx x] := by
  unfold fM_putHex hx
  have hc : ((10 : Int32) ≤ i3 x) = (10 ≤ x) := i3_le (a := 10) (b := x) (by omega) (by omega)
  by_cases h10 : 10 ≤ x
  · have e1 : (97 : Int32) + i3 x - 10 = i3 (87 + x) := by
      rw [show (97 : Int32) = i3 97 from rfl, i3_add, show (10 : Int32) = i3 10 from rfl, i3_sub (by omega)]
      congr 1
      omega
    rw [if_pos (by rw [hc]; exact h10), e1, if_neg (by omega)]
    exact PutO.bind (w1 := [87 + x]) (w2 := []) (put_o h hl (by omega) hb hn) (fun cc s st1 p1 l1 f1 => PutO.done p1 l1)
  · have e1 : (48 : Int32) + i3 x = i3 (48 + x) := i3_add 48 x
    rw [if_neg (by rw [hc]; exact h10), e1, if_pos (by omega)]
    exact PutO.bind (w1 := [48 + x]) (w2 := []) (put_o h hl (by omega) hb hn) (fun cc s st1 p1 l1 f1 => PutO.done p1 l1)
end PU
end ZReft67
section ZRefu68
theorem shr4 : ∀ c, c < 128 → i3 c >>> ((4 : Int32) &&& 31) = i3 (c / 16) := by decide +kernel
theorem and15c : ∀ c, c < 128 → i3 c &&& 15 = i3 (c % 16) := by decide +kernel
section PX2
variable {mx : Nat} {vs : List VR} {cs : List Nat} {ks ws : List NP}
theorem putSL {c : Nat} {s : Sx} (hs : isStr vs cs c s) : ∀ (q n i : Nat) (st : xS) (ps : List Nat) (wc wn : Nat), i + q = s.length → MS st vs cs ks ws → PV st mx ps → ps.length ≤ mx → mx + 100 ≤ bP → bP + 1 + q < n → PutO st mx ps wc wn (fM_putString_b n 1 (i3 i) c st wc wn) ((s.drop i).flatMap esc ++ [34]) := by
  have hs' := hs
  obtain ⟨c1, v, cv, c4, csz, _, _, cg⟩ := hs'
  have hbc : bC = 100000 := rfl
  have hbp : bP = 200000 := rfl
  intro q
  induction q with
  | zero =>
    intro n i st ps wc wn hi hM h hl hb hn
    obtain ⟨n, rfl⟩ : ∃ j, n = j + 1 := ⟨n - 1, by omega⟩
    obtain ⟨g1, g2, _⟩ := hM.vc c1 cv
    have hsl : s.length ≤ 2 * bC := by
      cases hz : s.length with
      | zero => omega
      | succ k =>
        have hxx := cg k s[k] (List.getElem?_eq_getElem (by omega))
        have := (List.getElem?_eq_some_iff.mp hxx).1
        have := hM.cl.2.1
        omega
    rw [fM_putString_b, if_neg g1, g2.2.2.1, csz, if_pos (by rw [i3_le (by omega) (by omega)]; omega), List.drop_eq_nil_of_le (by omega), List.flatMap_nil, List.nil_append]
    have hX := PutO.bind (K := fun o2 => some (0, (wc + o2.2.1), (wn + o2.2.2.1), o2.2.2.2)) (wc := wc) (wn := wn) (w1 := [34]) (w2 := []) (put_o (n := n) h hl (c := 34) (by omega) (by omega) (by omega)) (fun cc s st1 p1 l1 f1 => PutO.done p1 l1)
    exact (congrArg (fun x => PutO st mx ps wc wn x [34]) (xmo_id hX.ge)).mpr hX
  | succ q ih =>
    intro n i st ps wc wn hi hM h hl hb hn
    obtain ⟨n, rfl⟩ : ∃ j, n = j + 1 := ⟨n - 1, by omega⟩
    obtain ⟨g1, g2, _⟩ := hM.vc c1 cv
    have hxx := cg i s[i] (List.getElem?_eq_getElem (by omega))
    have hcl := (List.getElem?_eq_some_iff.mp hxx).1
    have hcc := hM.cl.2.1
    obtain ⟨y1, y2⟩ := hM.1.2.2.1 _ _ hxx
    have hln := hM.2.2.2.1.1
    have hsl : s.length ≤ 2 * bC := by
      have hxx := cg (s.length - 1) s[s.length - 1] (List.getElem?_eq_getElem (by omega))
      have := (List.getElem?_eq_some_iff.mp hxx).1
      omega
    have wrap : ∀ X w, PutO st mx ps wc wn X w → PutO st mx ps wc wn (xmo (fun a => a.2.1) (fun a => a.2.2.1) wc wn X) w := fun X w h => by rw [xmo_id h.ge]; exact h
    have hle := hs.le
    have hG : ∀ st1, Fr2 st st1 → ¬ xct st1 < c := fun st1 f => by
      have := (hM.fr2 f).2.2.1.1
      omega
    rw [fM_putString_b, if_neg g1, g2.2.2.1, csz, if_neg (by rw [i3_le (by omega) (by omega)]; omega), g2.2.1, i3_add, if_neg (i3_idx (by omega) (by omega)), i3_N (by omega), y1, i3_one, List.drop_eq_getElem_cons (show i < s.length by omega), List.flatMap_cons, List.append_assoc]
    have rec' : ∀ (st1 : xS) (w : List Nat) (wc' wn' : Nat), Fr2 st st1 → PV st1 mx (ps ++ w) → (ps ++ w).length ≤ mx → w.length ≤ 6 → PutO st1 mx (ps ++ w) wc' wn' (fM_putString_b n 1 (i3 (i + 1)) c st1 wc' wn') ((s.drop (i + 1)).flatMap esc ++ [34]) := fun st1 w wc' wn' f p l hw => ih n (i + 1) st1 (ps ++ w) wc' wn' (by omega) (hM.fr2 f) p l hb (by omega)
    have ce : ∀ d : Nat, d < 256 → (i3 s[i] = i3 d) = (s[i] = d) := fun d hd => i3_eq (by omega) (by omega)
    have l1 : ∀ (w : List Nat), (ps ++ w).length = ps.length + w.length := fun w => List.length_append
    refine wrap _ _ ?_
    by_cases e34 : s[i] = 34
    · rw [if_pos (show i3 s[i] = 34 by rw [e34]; rfl), show esc s[i] = [92] ++ [34] by rw [e34]; rfl, List.append_assoc]
      refine PutO.bind (put_o h hl (c := 92) (by omega) (by omega) (by omega)) (fun cc k st1 p1 k1 f1 => ?_)
      refine PutO.bindG (hG st1 f1) (w1 := [34]) (by rw [e34]; exact put_o p1 k1 (c := 34) (by omega) (by rw [l1]; simp; omega) (by omega)) (fun cc k st2 p2 k2 f2 => ?_)
      rw [List.append_assoc] at p2 k2 ⊢
      exact rec' st2 _ _ _ (f1.trans f2) p2 k2 (by simp)
    rw [if_neg (show ¬ i3 s[i] = 34 from fun hh => e34 ((ce 34 (by omega)).mp hh))]
    by_cases e92 : s[i] = 92
    · rw [if_pos (show i3 s[i] = 92 by rw [e92]; rfl), show esc s[i] = [92] ++ [92] by rw [e92]; rfl, List.append_assoc]
      refine PutO.bind (put_o h hl (c := 92) (by omega) (by omega) (by omega)) (fun cc k st1 p1 k1 f1 => ?_)
      refine PutO.bindG (hG st1 f1) (w1 := [92]) (by rw [e92]; exact put_o p1 k1 (c := 92) (by omega) (by rw [l1]; simp; omega) (by omega)) (fun cc k st2 p2 k2 f2 => ?_)
      rw [List.append_assoc] at p2 k2 ⊢
      exact rec' st2 _ _ _ (f1.trans f2) p2 k2 (by simp)
    rw [if_neg (show ¬ i3 s[i] = 92 from fun hh => e92 ((ce 92 (by omega)).mp hh))]
    have c32 : (i3 s[i] < 32) = (s[i] < 32) := i3_lt (a := s[i]) (b := 32) (by omega) (by omega)
    have c127 : ((127 : Int32) ≤ i3 s[i]) = (127 ≤ s[i]) := i3_le (a := 127) (b := s[i]) (by omega) (by omega)
    have hsh : i3 s[i] >>> ((4 : Int32) &&& 31) = i3 (s[i] / 16) := shr4 _ y2
    have han : i3 s[i] &&& 15 = i3 (s[i] % 16) := and15c _ y2
    by_cases e32 : s[i] < 32 ∨ s[i] = 127
    · by_cases h32 : s[i] < 32
      · rw [if_pos (by rw [c32]; exact h32)]
        have hesc : s[i] ≠ 8 → s[i] ≠ 9 → s[i] ≠ 10 → s[i] ≠ 12 → s[i] ≠ 13 → esc s[i] = [92, 117, 48, 48, hx (s[i] / 16), hx (s[i] % 16)] := fun a b c' d' e' => by
          unfold esc
          rw [if_neg e34, if_neg e92, if_neg a, if_neg b, if_neg c', if_neg d', if_neg e', if_pos (Or.inl h32)]
        by_cases e8 : s[i] = 8
        · rw [show esc s[i] = [92] ++ [98] by rw [e8]; rfl, List.append_assoc]
          refine PutO.bind (put_o h hl (c := 92) (by omega) (by omega) (by omega)) (fun cc k st1 p1 k1 f1 => ?_)
          dsimp only
          rw [if_pos (show i3 s[i] = 8 by rw [e8]; rfl)]
          refine PutO.bindG (hG st1 f1) (w1 := [98]) (put_o p1 k1 (c := 98) (by omega) (by rw [l1]; simp; omega) (by omega)) (fun cc k st2 p2 k2 f2 => ?_)
          rw [List.append_assoc] at p2 k2 ⊢
          exact rec' st2 _ _ _ (f1.trans f2) p2 k2 (by simp)
        by_cases e9 : s[i] = 9
        · rw [show esc s[i] = [92] ++ [116] by rw [e9]; rfl, List.append_assoc]
          refine PutO.bind (put_o h hl (c := 92) (by omega) (by omega) (by omega)) (fun cc k st1 p1 k1 f1 => ?_)
          dsimp only
          rw [if_neg (show ¬ i3 s[i] = 8 from fun hh => e8 ((ce 8 (by omega)).mp hh)), if_pos (show i3 s[i] = 9 by rw [e9]; rfl)]
          refine PutO.bindG (hG st1 f1) (w1 := [116]) (put_o p1 k1 (c := 116) (by omega) (by rw [l1]; simp; omega) (by omega)) (fun cc k st2 p2 k2 f2 => ?_)
          rw [List.append_assoc] at p2 k2 ⊢
          exact rec' st2 _ _ _ (f1.trans f2) p2 k2 (by simp)
        by_cases e10 : s[i] = 10
        · rw [show esc s[i] = [92] ++ [110] by rw [e10]; rfl, List.append_assoc]
          refine PutO.bind (put_o h hl (c := 92) (by omega) (by omega) (by omega)) (fun cc k st1 p1 k1 f1 => ?_)
          dsimp only
          rw [if_neg (show ¬ i3 s[i] = 8 from fun hh => e8 ((ce 8 (by omega)).mp hh)), if_neg (show ¬ i3 s[i] = 9 from fun hh => e9 ((ce 9 (by omega)).mp hh)), if_pos (show i3 s[i] = 10 by rw [e10]; rfl)]
          refine PutO.bindG (hG st1 f1) (w1 := [110]) (put_o p1 k1 (c := 110) (by omega) (by rw [l1]; simp; omega) (by omega)) (fun cc k st2 p2 k2 f2 => ?_)
          rw [List.append_assoc] at p2 k2 ⊢
          exact rec' st2 _ _ _ (f1.trans f2) p2 k2 (by simp)
        by_cases e12 : s[i] = 12
        · rw [show esc s[i] = [92] ++ [102] by rw [e12]; rfl, List.append_assoc]
          refine PutO.bind (put_o h hl (c := 92) (by omega) (by omega) (by omega)) (fun cc k st1 p1 k1 f1 => ?_)
          dsimp only
          rw [if_neg (show ¬ i3 s[i] = 8 from fun hh => e8 ((ce 8 (by omega)).mp hh)), if_neg (show ¬ i3 s[i] = 9 from fun hh => e9 ((ce 9 (by omega)).mp hh)), if_neg (show ¬ i3 s[i] = 10 from fun hh => e10 ((ce 10 (by omega)).mp hh)), if_pos (show i3 s[i] = 12 by rw [e12]; rfl)]
          refine PutO.bindG (hG st1 f1) (w1 := [102]) (put_o p1 k1 (c := 102) (by omega) (by rw [l1]; simp; omega) (by omega)) (fun cc k st2 p2 k2 f2 => ?_)
          rw [List.append_assoc] at p2 k2 ⊢
          exact rec' st2 _ _ _ (f1.trans f2) p2 k2 (by simp)
        by_cases e13 : s[i] = 13
        · rw [show esc s[i] = [92] ++ [114] by rw [e13]; rfl, List.append_assoc]
          refine PutO.bind (put_o h hl (c := 92) (by omega) (by omega) (by omega)) (fun cc k st1 p1 k1 f1 => ?_)
          dsimp only
          rw [if_neg (show ¬ i3 s[i] = 8 from fun hh => e8 ((ce 8 (by omega)).mp hh)), if_neg (show ¬ i3 s[i] = 9 from fun hh => e9 ((ce 9 (by omega)).mp hh)), if_neg (show ¬ i3 s[i] = 10 from fun hh => e10 ((ce 10 (by omega)).mp hh)), if_neg (show ¬ i3 s[i] = 12 from fun hh => e12 ((ce 12 (by omega)).mp hh)), if_pos (show i3 s[i] = 13 by rw [e13]; rfl)]
          refine PutO.bindG (hG st1 f1) (w1 := [114]) (put_o p1 k1 (c := 114) (by omega) (by rw [l1]; simp; omega) (by omega)) (fun cc k st2 p2 k2 f2 => ?_)
          rw [List.append_assoc] at p2 k2 ⊢
          exact rec' st2 _ _ _ (f1.trans f2) p2 k2 (by simp)
        rw [hesc e8 e9 e10 e12 e13, show [92, 117, 48, 48, hx (s[i] / 16), hx (s[i] % 16)] = [92] ++ ([117, 48, 48] ++ ([hx (s[i] / 16)] ++ [hx (s[i] % 16)])) from rfl, List.append_assoc, List.append_assoc, List.append_assoc]
        refine PutO.bind (put_o h hl (c := 92) (by omega) (by omega) (by omega)) (fun cc k st1 p1 k1 f1 => ?_)
        dsimp only
        rw [if_neg (show ¬ i3 s[i] = 8 from fun hh => e8 ((ce 8 (by omega)).mp hh)), if_neg (show ¬ i3 s[i] = 9 from fun hh => e9 ((ce 9 (by omega)).mp hh)), if_neg (show ¬ i3 s[i] = 10 from fun hh => e10 ((ce 10 (by omega)).mp hh)), if_neg (show ¬ i3 s[i] = 12 from fun hh => e12 ((ce 12 (by omega)).mp hh)), if_neg (show ¬ i3 s[i] = 13 from fun hh => e13 ((ce 13 (by omega)).mp hh))]
        refine PutO.bindG (hG st1 f1) (put1c_w p1 k1 (by rw [l1]; simp; omega) (by omega)) (fun cc k st2 p2 k2 f2 => ?_)
        refine PutO.bindG (hG st2 (f1.trans f2)) (w1 := [hx (s[i] / 16)]) (by rw [hsh]; exact putHex_w p2 k2 (by simp only [List.length_append, List.length_cons, List.length_nil]; omega) (by omega) (by omega)) (fun cc k st3 p3 k3 f3 => ?_)
        refine PutO.bindG (hG st3 ((f1.trans f2).trans f3)) (w1 := [hx (s[i] % 16)]) (by rw [han]; exact putHex_w p3 k3 (by simp only [List.length_append, List.length_cons, List.length_nil]; omega) (by omega) (by omega)) (fun cc k st4 p4 k4 f4 => ?_)
        rw [List.append_assoc, List.append_assoc, List.append_assoc] at p4 k4 ⊢
        exact rec' st4 _ _ _ (((f1.trans f2).trans f3).trans f4) p4 k4 (by simp)
      · have h127 : s[i] = 127 := by omega
        rw [if_neg (by rw [c32]; exact h32), if_pos (by rw [c127]; omega)]
        have e8 : s[i] ≠ 8 := by omega
        have e9 : s[i] ≠ 9 := by omega
        have e10 : s[i] ≠ 10 := by omega
        have e12 : s[i] ≠ 12 := by omega
        have e13 : s[i] ≠ 13 := by omega
        have hesc : esc s[i] = [92, 117, 48, 48, hx (s[i] / 16), hx (s[i] % 16)] := by
          unfold esc
          rw [if_neg e34, if_neg e92, if_neg e8, if_neg e9, if_neg e10, if_neg e12, if_neg e13, if_pos (Or.inr h127)]
        rw [hesc, show [92, 117, 48, 48, hx (s[i] / 16), hx (s[i] % 16)] = [92] ++ ([117, 48, 48] ++ ([hx (s[i] / 16)] ++ [hx (s[i] % 16)])) from rfl, List.append_assoc, List.append_assoc, List.append_assoc]
        refine PutO.bind (put_o h hl (c := 92) (by omega) (by omega) (by omega)) (fun cc k st1 p1 k1 f1 => ?_)
        dsimp only
        rw [if_neg (show ¬ i3 s[i] = 8 from fun hh => e8 ((ce 8 (by omega)).mp hh)), if_neg (show ¬ i3 s[i] = 9 from fun hh => e9 ((ce 9 (by omega)).mp hh)), if_neg (show ¬ i3 s[i] = 10 from fun hh => e10 ((ce 10 (by omega)).mp hh)), if_neg (show ¬ i3 s[i] = 12 from fun hh => e12 ((ce 12 (by omega)).mp hh)), if_neg (show ¬ i3 s[i] = 13 from fun hh => e13 ((ce 13 (by omega)).mp hh))]
        refine PutO.bindG (hG st1 f1) (put1c_w p1 k1 (by rw [l1]; simp; omega) (by omega)) (fun cc k st2 p2 k2 f2 => ?_)
        refine PutO.bindG (hG st2 (f1.trans f2)) (w1 := [hx (s[i] / 16)]) (by rw [hsh]; exact putHex_w p2 k2 (by simp only [List.length_append, List.length_cons, List.length_nil]; omega) (by omega) (by omega)) (fun cc k st3 p3 k3 f3 => ?_)
        refine PutO.bindG (hG st3 ((f1.trans f2).trans f3)) (w1 := [hx (s[i] % 16)]) (by rw [han]; exact putHex_w p3 k3 (by simp only [List.length_append, List.length_cons, List.length_nil]; omega) (by omega) (by omega)) (fun cc k st4 p4 k4 f4 => ?_)
        rw [List.append_assoc, List.append_assoc, List.append_assoc] at p4 k4 ⊢
        exact rec' st4 _ _ _ (((f1.trans f2).trans f3).trans f4) p4 k4 (by simp)
    · rw [if_neg (by rw [c32]; omega), if_neg (by rw [c127]; omega)]
      have hesc : esc s[i] = [s[i]] := by
        unfold esc
        rw [if_neg e34, if_neg e92, if_neg (by omega), if_neg (by omega), if_neg (by omega), if_neg (by omega), if_neg (by omega), if_neg e32]
      rw [hesc]
      refine PutO.bind (put_o h hl y2 (by omega) (by omega)) (fun cc k st1 p1 k1 f1 => ?_)
      exact rec' st1 _ _ _ f1 p1 k1 (by simp)
end PX2
end ZRefu68
