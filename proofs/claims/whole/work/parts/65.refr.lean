section RT3
variable {vs : List VR} {cs : List Nat} {ks ws : List NP}
theorem MS.sx {st : xS} (hM : MS st vs cs ks ws) {c : Nat} (hc : c < 41 + xgl st) : MS (xsX st c) vs cs ks ws := by
  obtain ⟨h, r1, r2, r3, r4, r5, r6, r7⟩ := hM
  exact ⟨h, r1, r2, r3, r4, r5, r6, hc⟩
/-- a register of the reference holds this value's text -/
def RegM (st : xS) (x : Nat) (w : List Nat) : Prop := x < 8 ∧ xln st 24 = 8 ∧ xln st 25 = 8 ∧ xln st (32 + x) = 4096 ∧ xba st 25 x = i3 w.length ∧ w.length ≤ 4096 ∧ seg (xba st (32 + x)) 0 (w.map sb)
theorem RegM.fr {st st' : xS} {x : Nat} {w : List Nat} (h : RegM st x w) (hf : FrP st st') : RegM st' x w := by
  obtain ⟨h1, h2, h3, h4, h5, h6, h7⟩ := h
  refine ⟨h1, (hf.2 24 (by omega)).1.trans h2, (hf.2 25 (by omega)).1.trans h3, (hf.2 (32 + x) (by omega)).1.trans h4, by rw [(hf.2 25 (by omega)).2]; exact h5, h6, by rw [(hf.2 (32 + x) (by omega)).2]; exact h7⟩
theorem registerM {st : xS} {x n fu k : Nat} {j : JT (k + 1)} (hM : MS st vs cs ks ws) (hj : jok (k + 1) j) (hfit : fit j) (hk : 100 ≤ k) (hfu : k < fu) (hn : 3000000000 < n) (hR : RegM st x (jt (k + 1) j)) (hb1 : vs.length + (jt (k + 1) j).length < bV) (hb2 : cs.length + (jt (k + 1) j).length ≤ bC) (hb3 : ks.length + (jt (k + 1) j).length ≤ bK) (hb4 : ws.length + (jt (k + 1) j).length ≤ bK) : ∃ (cc s c : Nat) (st' : xS) (vs' : List VR) (cs' : List Nat) (ks' : List NP), fM_register fu n st (i3 x) = some (0, cc, s, c, st') ∧ MS st' (vs ++ vs') (cs ++ cs') (ks ++ ks') ws ∧ Cost st st' cc s ∧ FrP st st' ∧ Rep (vs ++ vs') (cs ++ cs') (ks ++ ks') (k + 1) j c ∧ vs'.length ≤ (jt (k + 1) j).length ∧ cs'.length ≤ (jt (k + 1) j).length ∧ ks'.length ≤ (jt (k + 1) j).length ∧ (32 ≤ xsr st' ∧ xsr st' < 41) := by
  obtain ⟨h1, h2, h3, h4, h5, h6, h7⟩ := hR
  have hlt := jt_lt _ j hj
  have hpv : pV k 100 (jt (k + 1) j) = .inr (j, []) := rtT (by omega) hj (by have := hfit.1; omega)
  have hW : pW k 100 (jt (k + 1) j) = .inr (j, []) := by
    unfold pW
    rw [hpv]
    rfl
  have hM0 : MS (xsI (xsI (xsI (xsX (xsI st 19 100) (32 + x)) 16 0) 17 (i3 (jt (k + 1) j).length)) 18 0) vs cs ks ws := (((MS.sx (hM.si (k := 19) (v := 100) (by decide) (by decide) (by decide) (by decide)) (show 32 + x < 41 + xgl st by omega)).si (by decide) (by decide) (by decide) (by decide)).si (by decide) (by decide) (by decide) (by decide)).si (by decide) (by decide) (by decide) (by decide)
  have hP0 : PR 0 (jt (k + 1) j) (xsI (xsI (xsI (xsX (xsI st 19 100) (32 + x)) 16 0) 17 (i3 (jt (k + 1) j).length)) 18 0) (jt (k + 1) j) := by
    refine ⟨⟨fun c hc => by have := hlt c hc; omega, ⟨xba st (32 + x), ⟨Or.inr (Or.inl ⟨by show 32 ≤ 32 + x; omega, by show 32 + x < 41; omega⟩), ?_, fun i hi => ?_, fun hh => ?_⟩, h7⟩, ?_, by omega⟩, List.suffix_refl _, ?_⟩
    · show 0 + (jt (k + 1) j).length ≤ (if 32 + x < 41 then xln st (32 + x) else xgn st (32 + x - 41))
      rw [if_pos (by omega), h4]
      omega
    · show (if 32 + x < 41 then xba st (32 + x) else xgb st (32 + x - 41)) i = _
      rw [if_pos (by omega)]
    · have : 32 + x = 3 := hh
      omega
    · show i3 (jt (k + 1) j).length = i3 (0 + (jt (k + 1) j).length)
      rw [Nat.zero_add]
    · show (0 : Int32) = rp 0 (jt (k + 1) j) (jt (k + 1) j)
      unfold rp
      rw [Nat.sub_self]
      rfl
  have hJ := jsonM (st := xsI st 19 100) (c0 := 32 + x) (x1 := 0) (x2 := i3 (jt (k + 1) j).length) (k := k) (m0 := 100) (fu := fu) (n := n) (by omega) hn (by omega) hk hfu hM0 hP0 rfl (Or.inr ⟨j, [], hpv, hfit.1⟩) hb1 hb2 hb3 hb4
  rw [hW] at hJ
  obtain ⟨cc, s, c, st', a, b, e', e, m1, m2, m3, m4, m5, m6, m7, m8, m9⟩ := hJ
  rw [List.length_nil] at m7 m8 m9
  refine ⟨cc, s, c, st', a, b, e', ?_, m1, ⟨m3.1, m3.2⟩, ⟨fun q hq => ?_, fun q hq => ?_⟩, m6, by omega, by omega, by omega, ?_⟩
  · unfold fM_register
    rw [h2, if_neg (i3_idx (by omega) (by omega)), i3_N (by omega), if_neg (by omega), h3, if_neg (i3_id2 (by omega) (by omega)), h5, e, Option.bind_some, if_pos rfl]
    simp only [Nat.zero_add]
    exact xmo_some (Nat.le_refl _) (Nat.le_refl _)
  · have := m4.p.1 q hq
    rw [this]
    show va_up (va_up (va_up (va_up st.1 19 100) 16 0) 17 (i3 (jt (k + 1) j).length)) 18 0 q = xsi st q
    rw [up_ne (by omega), up_ne (by omega), up_ne (by omega), up_ne (by omega)]
  · exact m4.p.2 q hq
  · have hx : xsr st' = 32 + x := m5.2 (show (32 + x : Nat) ≠ 3 by omega)
    rw [hx]
    omega
end RT3
