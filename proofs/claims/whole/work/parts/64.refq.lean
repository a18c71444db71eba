section RS3
variable {base : Nat} {src : List Nat} {vs : List VR} {cs : List Nat} {ks ws : List NP}
/-- a whole text, with nothing behind -/
def pW (k o : Nat) (r : List Nat) : List Nat ⊕ (JT (k + 1) × List Nat) := match pV k o r with
  | .inl x => .inl x
  | .inr (j, r1) => if blk r1 = [] then .inr (j, []) else .inl (blk r1)
theorem pW_pT {k o : Nat} {r : List Nat} : pW k o r = match pT k o r with
    | .inl x => .inl x
    | .inr j => .inr (j, []) := by
  unfold pW pT
  cases pV k o r with
  | inl x => rfl
  | inr t =>
    obtain ⟨j, r1⟩ := t
    dsimp only
    by_cases h : blk r1 = []
    · rw [if_pos h, if_pos h]
    · rw [if_neg h, if_neg h]
theorem jsonM {k n m0 fu c0 : Nat} {st : xS} {x1 x2 : Int32} (hsz : src.length ≤ 50000) (hn : 3000000000 < n) (hm0 : m0 ≤ 1000) (hk : m0 ≤ k) (hfu : k < fu) (hM : MS (xsI (xsI (xsI (xsX st c0) 16 x1) 17 x2) 18 0) vs cs ks ws) (h : PR base src (xsI (xsI (xsI (xsX st c0) 16 x1) 17 x2) 18 0) src) (h19 : xsi st 19 = i3 m0) (hG : m0 ≤ 60 ∨ ∃ j r1, pV k m0 src = .inr (j, r1) ∧ jd (k + 1) j ≤ 60) (hb1 : vs.length + src.length < bV) (hb2 : cs.length + src.length ≤ bC) (hb3 : ks.length + src.length ≤ bK) (hb4 : ws.length + src.length ≤ bK) : ValO base src (xsI (xsI (xsI (xsX st c0) 16 x1) 17 x2) 18 0) 0 0 vs cs ks ws 1 (fM_json fu n st c0 x1 x2) src 0 (pW k m0 src) := by
  have hV := valueM (n := n) (m0 := m0) hsz hn hm0 k m0 fu hk (Nat.le_refl _) hfu _ src vs cs ks ws hM h ⟨by rw [Nat.sub_self]; rfl, h19⟩ hG hb1 hb2 hb3 hb4
  unfold fM_json pW
  cases hp : pV k m0 src with
  | inl x =>
    rw [hp] at hV
    obtain ⟨cc, s, st', e, c, b⟩ := hV
    refine ⟨cc, s, st', ?_, c, b⟩
    rw [e, Option.bind_some, if_neg (show ¬ (1 : Nat) = 0 by decide), if_pos rfl]
    dsimp only
    rw [Nat.zero_add, Nat.zero_add, Nat.zero_add, Nat.zero_add]
    exact xmo_some (Nat.le_refl _) (Nat.le_refl _)
  | inr t =>
    obtain ⟨j, r1⟩ := t
    rw [hp] at hV
    obtain ⟨cc, s, c, st', a, b, e', e, m1, m2, m3, m4, m5, m6, m7, m8, m9⟩ := hV
    obtain ⟨e2, hP⟩ := m2.blanks (n := n) (by omega)
    have hbl := blk_len r1
    have hl1 := hP.2.1.length_le
    have h17 : xsi (xsI st' 16 (rp base src (blk r1))) 17 = i3 (base + src.length) := hP.1.2.2.1
    have h16 : xsi (xsI st' 16 (rp base src (blk r1))) 16 = rp base src (blk r1) := hP.2.2
    have hlim := hP.1.2.2.2
    have hcmp : (i3 (base + src.length) ≤ rp base src (blk r1)) = (blk r1 = []) := by
      unfold rp
      rw [i3_le (by omega) (by omega)]
      refine propext ⟨fun hh => List.length_eq_zero_iff.mp (by omega), fun hh => by rw [hh, List.length_nil]; omega⟩
    dsimp only
    rw [e, Option.bind_some, if_pos rfl]
    dsimp only
    rw [e2, Option.bind_some, h17, h16]
    by_cases hz : blk r1 = []
    · rw [if_pos (by rw [hcmp]; exact hz), if_pos hz]
      refine ⟨cc, s, c, xsI st' 16 (rp base src (blk r1)), a, b, e', ?_, m1.si (by decide) (by decide) (by decide) (by decide), ⟨hP.1, List.nil_suffix, hP.2.2.trans (by rw [hz])⟩, ⟨m3.1, m3.2⟩, m4.trans (Fr1.at _), m5.trans (SK.at (by decide)), m6, by rw [List.length_nil]; omega, by rw [List.length_nil]; omega, by rw [List.length_nil]; omega⟩
      simp only [Nat.zero_add]
      exact xmo_some (Nat.le_refl _) (Nat.le_refl _)
    · rw [if_neg (by rw [hcmp]; exact hz), if_neg hz]
      have hct : ¬ xct (xsI st' 16 (rp base src (blk r1))) < c := by
        have h1 := m1.2.2.1.1
        have h2 := m6.le
        show ¬ xct st' < c
        omega
      refine ⟨cc + 1, s + 6, xsI (xsI st' 16 (rp base src (blk r1))) 20 (rp base src (blk r1)), ?_, ⟨by have := m3.1; omega, ?_⟩, (Bad.of2 (m1.si (by decide) (by decide) (by decide) (by decide)) FrP.refl (Nat.le_refl _) rfl).any (m4.trans (Fr1.at _)) (by have := m3.2; have hpe : pt (xsI st' 16 (rp base src (blk r1))) = pt st' := rfl; omega)⟩
      · unfold fM_bad
        rw [Option.bind_some, if_pos rfl, if_neg hct]
        dsimp only
        simp only [Nat.zero_add]
        have hin : ∀ z : xS, xmo (fun a : Nat × Nat × Nat × Nat × xS => a.2.1) (fun a => a.2.2.1) (cc + 1) (s + 6) (some (1, cc + 1, s + 6, 0, z)) = some (1, cc + 1, s + 6, 0, z) := fun z => xmo_some (Nat.le_refl _) (Nat.le_refl _)
        rw [hin]
        exact xmo_some (by show cc ≤ cc + 1; omega) (by show s ≤ s + 6; omega)
      · have := m3.2
        have hpe : pt (xsI (xsI st' 16 (rp base src (blk r1))) 20 (rp base src (blk r1))) = pt st' := rfl
        omega
end RS3
