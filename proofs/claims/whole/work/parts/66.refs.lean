/-! ===== the reference: printing ===== -/
def bP : Nat := 200000
/-- what is printed so far, and the room for it -/
def PV (st : xS) (mx : Nat) (ps : List Nat) : Prop := xsi st 22 = i3 ps.length ∧ xsi st 23 = i3 mx ∧ mx ≤ 1000000000 ∧ (∀ i c, ps[i]? = some c → xba st 21 i = i3 c ∧ c < 128) ∧ ps.length ≤ xln st 21 ∧ 64 ≤ xln st 21 ∧ xln st 21 ≤ 2 * bP
/-- all but what is printed is as it was -/
def Fr2 (st st' : xS) : Prop := (∀ k, k ≠ 22 → xsi st' k = xsi st k) ∧ (∀ k, k ≠ 21 → xln st' k = xln st k ∧ xba st' k = xba st k) ∧ st'.2.2.2 = st.2.2.2
theorem Fr2.refl {st : xS} : Fr2 st st := ⟨fun _ _ => rfl, fun _ _ => ⟨rfl, rfl⟩, rfl⟩
theorem Fr2.trans {a b c : xS} (h : Fr2 a b) (h' : Fr2 b c) : Fr2 a c := ⟨fun k hk => (h'.1 k hk).trans (h.1 k hk), fun k hk => ⟨(h'.2.1 k hk).1.trans (h.2.1 k hk).1, (h'.2.1 k hk).2.trans (h.2.1 k hk).2⟩, h'.2.2.trans h.2.2⟩
theorem MS.fr2 {st st' : xS} {vs : List VR} {cs : List Nat} {ks ws : List NP} (hM : MS st vs cs ks ws) (hf : Fr2 st st') : MS st' vs cs ks ws := by
  obtain ⟨a1, a2, a3, a4⟩ := st
  obtain ⟨b1, b2, b3, b4⟩ := st'
  obtain ⟨f1, f2, f3⟩ := hf
  dsimp only at f3
  subst f3
  obtain ⟨⟨⟨h1, h2, h3, h4⟩, h5, h6, h7, h8⟩, r1, r2, r3, r4, r5, r6, r7⟩ := hM
  have l1 := (f2 1 (by decide)).1
  have l3 := (f2 3 (by decide)).1
  have l5 := (f2 5 (by decide)).1
  have l6 := (f2 6 (by decide)).1
  have l10 := (f2 10 (by decide)).1
  have l11 := (f2 11 (by decide)).1
  have a3' := (f2 3 (by decide)).2
  refine ⟨⟨⟨(f1 2 (by decide)).trans h1, (f1 4 (by decide)).trans h2, (f1 7 (by decide)).trans h3, (f1 12 (by decide)).trans h4⟩, h5, fun i c hc => by rw [a3']; exact h6 i c hc, h7, h8⟩, r1, ?_, ?_, ?_, ?_, r6, r7⟩
  · rw [l1]; exact r2
  · rw [l3]; exact r3
  · rw [l5, l6]; exact r4
  · rw [l10, l11]; exact r5
section PT
variable {st : xS} {mx n : Nat} {ps : List Nat}
theorem put_p (h : PV st mx ps) {c : Nat} (hc : c < 128) (hr : ps.length < xln st 21) : PV (xsI (xsB st 21 ps.length (i3 c)) 22 (i3 (ps.length + 1))) mx (ps ++ [c]) ∧ Fr2 st (xsI (xsB st 21 ps.length (i3 c)) 22 (i3 (ps.length + 1))) := by
  obtain ⟨h1, h2, h3, h4, h5, h6, h7⟩ := h
  refine ⟨⟨by rw [List.length_append]; rfl, h2, h3, fun i x hx => ?_, by rw [List.length_append]; exact hr, h6, h7⟩, ⟨fun k hk => up_ne hk, fun k hk => ⟨rfl, up_ne hk⟩, rfl⟩⟩
  show upd (xba st 21) ps.length (i3 c) i = i3 x ∧ x < 128
  rcases get_snoc hx with ⟨h, hi⟩ | ⟨rfl, rfl⟩
  · rw [upd_ne (by omega)]
    exact h4 i x h
  · exact ⟨upd_eq, hc⟩
theorem grow_p (h : PV st mx ps) {m : Nat} {f : Nat → Int32} (hm : xln st 21 ≤ m) (hm2 : m ≤ 2 * bP) (hf : ∀ i, i < ps.length → f i = xba st 21 i) : PV (xsG st 21 m f) mx ps ∧ Fr2 st (xsG st 21 m f) ∧ pt (xsG st 21 m f) + 2 * xln st 21 = pt st + 2 * m := by
  obtain ⟨h1, h2, h3, h4, h5, h6, h7⟩ := h
  refine ⟨⟨h1, h2, h3, fun i x hx => ?_, ?_, ?_, hm2⟩, ⟨fun k hk => rfl, fun k hk => ⟨up_ne hk, up_ne hk⟩, rfl⟩, ?_⟩
  · show f i = i3 x ∧ x < 128
    rw [hf i (List.getElem?_eq_some_iff.mp hx).1]
    exact h4 i x hx
  · show ps.length ≤ m
    omega
  · show 64 ≤ m
    omega
  · show 2 * (xln st 1 + xln st 3 + xln st 5 + xln st 6 + xln st 10 + xln st 11 + xln st 13 + xln st 14 + m) + 6 * xct st + 2 * xln st 21 = pt st + 2 * m
    unfold pt
    omega
theorem put0_loop (h : PV st mx ps) {c m wc wn : Nat} (hc : c < 128) (hm : ps.length < m) (hm2 : m ≤ 2 * bP) : ∀ (q n i : Nat) (tf : Nat → Int32), i + q = ps.length → q < n → (∀ k, k < i → tf k = xba st 21 k) → ∃ tf' : Nat → Int32, fM_put0_b n 1 (i3 i) (i3 c) m tf st wc wn = some (0, wc, wn, xsI (xsB (xsG st 21 m tf') 21 ps.length (i3 c)) 22 (i3 (ps.length + 1))) ∧ (∀ k, k < ps.length → tf' k = xba st 21 k) := by
  obtain ⟨h1, h2, h3, h4, h5, h6, h7⟩ := h
  have hbp : bP = 200000 := rfl
  intro q
  induction q with
  | zero =>
    intro n i tf hi hn htf
    obtain ⟨n, rfl⟩ : ∃ j, n = j + 1 := ⟨n - 1, by omega⟩
    obtain rfl : i = ps.length := by omega
    refine ⟨tf, ?_, htf⟩
    rw [fM_put0_b, h1, if_pos (by rw [i3_le (by omega) (by omega)]; omega), if_neg (i3_idx (by omega) (by omega)), i3_N (by omega), i3_one, nar_l hc]
    exact xmo_some (Nat.le_refl _) (Nat.le_refl _)
  | succ q ih =>
    intro n i tf hi hn htf
    obtain ⟨n, rfl⟩ : ∃ j, n = j + 1 := ⟨n - 1, by omega⟩
    have hx : ps[i]? = some ps[i] := List.getElem?_eq_getElem (by omega)
    obtain ⟨x1, x2⟩ := h4 i _ hx
    obtain ⟨tf', e1, e2⟩ := ih n (i + 1) (upd tf i (xba st 21 i)) (by omega) (by omega) (fun k hk => by
      by_cases hk' : k = i
      · rw [hk', upd_eq]
      · rw [upd_ne hk', htf k (by omega)])
    refine ⟨tf', ?_, e2⟩
    rw [fM_put0_b, h1, if_neg (by rw [i3_le (by omega) (by omega)]; omega), if_neg (i3_idx (by omega) (by omega)), if_neg (i3_idx (by omega) (by omega)), i3_N (by omega), i3_one, vp_nb, x1, nar_c _ x2, ← x1, e1]
    exact xmo_some (Nat.le_refl _) (Nat.le_refl _)
theorem put0_w (h : PV st mx ps) {c : Nat} (hc : c < 128) (hb : ps.length + 1 ≤ bP) (hn : bP < n) : (ps.length = mx → fM_put0 n st (i3 c) = some (1, 1, 6, st)) ∧ (ps.length ≠ mx → ∃ (cc s : Nat) (st' : xS), fM_put0 n st (i3 c) = some (0, cc, s, st') ∧ PV st' mx (ps ++ [c]) ∧ Cost st st' cc s ∧ Fr2 st st') := by
  have h' := h
  obtain ⟨h1, h2, h3, h4, h5, h6, h7⟩ := h'
  have hbp : bP = 200000 := rfl
  have hcmp : (i3 ps.length = i3 mx) = (ps.length = mx) := i3_eq (by omega) (by omega)
  unfold fM_put0
  rw [h1, h2]
  constructor
  · intro hh
    rw [if_pos (by rw [hcmp]; exact hh)]
  · intro hh
    rw [if_neg (by rw [hcmp]; exact hh)]
    by_cases hf : ps.length = xln st 21
    · have e2 : (2 : Int32) * i3 ps.length = i3 (2 * ps.length) := i3_mul 2 ps.length
      rw [e2, if_pos (by rw [← hf]; rfl), i3_N (by omega), if_neg (fun h => h.elim (i3_nn (by omega)) (by omega))]
      obtain ⟨tf, e1, g1⟩ := put0_loop h hc (m := 2 * ps.length) (wc := 0 + 1) (wn := 0 + 2 * ps.length) (by omega) (by omega) ps.length n 0 (fun _ => 0) (by omega) (by omega) (fun k hk => absurd hk (by omega))
      have e1' : fM_put0_b n 1 0 (i3 c) (2 * ps.length) (fun _ => 0) st (0 + 1) (0 + 2 * ps.length) = _ := e1
      rw [e1']
      obtain ⟨m1, m2, m3⟩ := grow_p h (m := 2 * ps.length) (f := tf) (by omega) (by omega) g1
      obtain ⟨p1, p2⟩ := put_p m1 hc (show ps.length < 2 * ps.length by omega)
      refine ⟨_, _, _, xmo_some (Nat.le_refl _) (Nat.le_refl _), p1, ⟨by omega, ?_⟩, m2.trans p2⟩
      show 0 + 2 * ps.length + pt st ≤ pt (xsG st 21 (2 * ps.length) tf)
      omega
    · rw [if_neg (by rw [show Int32.ofNat (xln st 21) = i3 (xln st 21) from rfl, i3_eq (by omega) (by omega)]; exact hf), if_neg (i3_idx (by omega) (by omega)), i3_N (by omega), i3_one, nar_l hc]
      obtain ⟨p1, p2⟩ := put_p h hc (by omega)
      exact ⟨0, 0, _, rfl, p1, ⟨by omega, Nat.le_of_eq (by rw [Nat.zero_add]; rfl)⟩, p2⟩
end PT
