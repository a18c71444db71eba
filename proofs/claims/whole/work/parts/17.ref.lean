section ZRef46
/-! ===== the reference: its stacks as lists ===== -/
/-- a value's record: kind, from, size, depth, weight, number -/
abbrev VR : Type := Nat × Nat × Nat × Nat × Nat × Int
abbrev NP : Type := Nat × Nat
/-- the limits that its stacks never pass -/
def bV : Nat := 32000
def bC : Nat := 100000
def bK : Nat := 32000
def pt (st : xS) : Nat := 2 * (xln st 1 + xln st 3 + xln st 5 + xln st 6 + xln st 10 + xln st 11 + xln st 13 + xln st 14 + xln st 21) + 6 * xct st
def Cost (st st' : xS) (c s : Nat) : Prop := 6 * c ≤ s ∧ s + pt st ≤ pt st'
theorem Cost.refl {st : xS} : Cost st st 0 0 := ⟨Nat.le_refl _, by omega⟩
theorem Cost.trans {a b d : xS} {c c' s s' : Nat} (h : Cost a b c s) (h' : Cost b d c' s') : Cost a d (c + c') (s + s') := ⟨by have := h.1; have := h'.1; omega, by have := h.2; have := h'.2; omega⟩
def VRat (st : xS) (i : Nat) (v : VR) : Prop := xpi st 0 i = i3 v.1 ∧ xpi st 2 i = i3 v.2.1 ∧ xpi st 3 i = i3 v.2.2.1 ∧ xpi st 4 i = i3 v.2.2.2.1 ∧ xpi st 5 i = i3 v.2.2.2.2.1 ∧ xpl st i = cW v.2.2.2.2.2
/-- the four stacks -/
def Vw (st : xS) (vs : List VR) (cs : List Nat) (ks ws : List NP) : Prop :=
  (xsi st 2 = i3 vs.length ∧ xsi st 4 = i3 cs.length ∧ xsi st 7 = i3 ks.length ∧ xsi st 12 = i3 ws.length) ∧
  (∀ i v, vs[i]? = some v → VRat st i v) ∧ (∀ i c, cs[i]? = some c → xba st 3 i = i3 c ∧ c < 128) ∧
  (∀ i p, ks[i]? = some p → xvc st 5 i = p.1 ∧ xvc st 6 i = p.2) ∧ (∀ i p, ws[i]? = some p → xvc st 10 i = p.1 ∧ xvc st 11 i = p.2)
/-- the room of the stacks -/
def Rm (st : xS) (a b c d : Nat) : Prop :=
  (∀ i, xvc st 1 i = if i < xct st then i + 1 else 0) ∧ (a ≤ xct st ∧ xct st ≤ xln st 1 ∧ 64 ≤ xln st 1 ∧ xln st 1 ≤ 2 * bV) ∧
  (b ≤ xln st 3 ∧ 64 ≤ xln st 3 ∧ xln st 3 ≤ 2 * bC) ∧ (c ≤ xln st 5 ∧ xln st 6 = xln st 5 ∧ 64 ≤ xln st 5 ∧ xln st 5 ≤ 2 * bK) ∧
  (d ≤ xln st 10 ∧ xln st 11 = xln st 10 ∧ 64 ≤ xln st 10 ∧ xln st 10 ≤ 2 * bK) ∧ xIn st ∧ xsr st < 41 + xgl st
def MS (st : xS) (vs : List VR) (cs : List Nat) (ks ws : List NP) : Prop := Vw st vs cs ks ws ∧ Rm st vs.length cs.length ks.length ws.length
/-- all but the stacks is as it was -/
def Fr0 (st st' : xS) : Prop := (∀ k, k ≠ 2 → k ≠ 4 → k ≠ 7 → k ≠ 12 → xsi st' k = xsi st k) ∧ (∀ k, k ≠ 1 → k ≠ 3 → k ≠ 5 → k ≠ 6 → k ≠ 10 → k ≠ 11 → xln st' k = xln st k ∧ xba st' k = xba st k)
theorem Fr0.refl {st : xS} : Fr0 st st := ⟨fun _ _ _ _ _ => rfl, fun _ _ _ _ _ _ _ => ⟨rfl, rfl⟩⟩
theorem Fr0.trans {a b c : xS} (h : Fr0 a b) (h' : Fr0 b c) : Fr0 a c := ⟨fun k k1 k2 k3 k4 => (h'.1 k k1 k2 k3 k4).trans (h.1 k k1 k2 k3 k4), fun k k1 k2 k3 k4 k5 k6 => ⟨((h'.2 k k1 k2 k3 k4 k5 k6).1).trans (h.2 k k1 k2 k3 k4 k5 k6).1, ((h'.2 k k1 k2 k3 k4 k5 k6).2).trans (h.2 k k1 k2 k3 k4 k5 k6).2⟩⟩
/-- the text that is read, below a place -/
def SV (st : xS) (f : Nat → Int32) (hi : Nat) : Prop := xrok st (xsr st) ∧ hi ≤ xrl st (xsr st) ∧ (∀ i, i < hi → xrb st (xsr st) i = f i) ∧ (xsr st = 3 → ∃ t, t < 2147483648 ∧ xsi st 4 = i3 t ∧ hi ≤ t)
/-- no step takes the source away -/
def SK (st st' : xS) : Prop := (∀ f hi, SV st f hi → SV st' f hi) ∧ (xsr st ≠ 3 → xsr st' = xsr st)
theorem SK.refl {st : xS} : SK st st := ⟨fun _ _ h => h, fun _ => rfl⟩
theorem SK.trans {a b c : xS} (h : SK a b) (h' : SK b c) : SK a c := ⟨fun f hi x => h'.1 f hi (h.1 f hi x), fun ha => by
  have hb := h.2 ha
  rw [h'.2 (by rw [hb]; exact ha), hb]⟩
theorem nar_c : ∀ c, c < 128 → (i3 c).toInt8.toInt32 = i3 c := by decide +kernel
theorem up_eq {α : Type} {f : Nat → α} {k : Nat} {x : α} : va_up f k x k = x := if_pos rfl
theorem up_ne {α : Type} {f : Nat → α} {k i : Nat} {x : α} (h : i ≠ k) : va_up f k x i = f i := if_neg h
theorem xmo_some {α : Type} {f g : α → Nat} {c s : Nat} {a : α} (h1 : c ≤ f a) (h2 : s ≤ g a) : xmo f g c s (some a) = some a := by
  unfold xmo
  rw [Option.bind_some, if_neg (by omega)]
/-- one step of a stack's list -/
theorem get_snoc {α : Type} {l : List α} {x y : α} {i : Nat} (h : (l ++ [x])[i]? = some y) : (l[i]? = some y ∧ i < l.length) ∨ (i = l.length ∧ y = x) := by
  by_cases hi : i < l.length
  · rw [List.getElem?_append_left hi] at h
    exact Or.inl ⟨h, hi⟩
  · rw [List.getElem?_append_right (by omega)] at h
    have : i - l.length = 0 := by
      obtain ⟨h', _⟩ := List.getElem?_eq_some_iff.mp h
      simp at h'
      omega
    rw [this] at h
    exact Or.inr ⟨by omega, (Option.some.inj h).symm⟩
end ZRef46
section ZRefa47
section RA
variable {st : xS} {vs : List VR} {cs : List Nat} {ks ws : List NP} {n : Nat}
theorem MS.cl (hM : MS st vs cs ks ws) : vs.length ≤ 2 * bV ∧ cs.length ≤ 2 * bC ∧ ks.length ≤ 2 * bK ∧ ws.length ≤ 2 * bK := by
  obtain ⟨_, r1, r2, r3, r4, r5, r6, r7⟩ := hM
  exact ⟨by omega, by omega, by omega, by omega⟩
theorem SV.top (hM : MS st vs cs ks ws) {f : Nat → Int32} {hi : Nat} (h : SV st f hi) (h3 : xsr st = 3) : hi ≤ cs.length := by
  obtain ⟨t, t0, t1, t2⟩ := h.2.2.2 h3
  have := hM.cl.2.1
  rw [hM.1.1.2.1] at t1
  unfold bC at this
  have := (i3_eq (by omega) t0).mp t1
  omega
/-- the state with one more character, where there is room -/
theorem put_c (hM : MS st vs cs ks ws) {c : Nat} (hc : c < 128) (hr : cs.length < xln st 3) : MS (xsI (xsB st 3 cs.length (i3 c)) 4 (i3 (cs.length + 1))) vs (cs ++ [c]) ks ws ∧ Fr0 st (xsI (xsB st 3 cs.length (i3 c)) 4 (i3 (cs.length + 1))) ∧ SK st (xsI (xsB st 3 cs.length (i3 c)) 4 (i3 (cs.length + 1))) := by
  have hM' := hM
  have hcl := hM.cl.2.1
  unfold bC at hcl
  obtain ⟨⟨⟨h1, h2, h3, h4⟩, h5, h6, h7, h8⟩, r1, r2, r3, r4, r5, r6, r7⟩ := hM
  refine ⟨⟨⟨⟨h1, ?_, h3, h4⟩, h5, fun i x hx => ?_, h7, h8⟩, r1, r2, ⟨?_, r3.2⟩, r4, r5, r6, r7⟩, ⟨fun k _ k2 _ _ => up_ne k2, fun k _ k2 _ _ _ _ => ⟨rfl, up_ne k2⟩⟩, ?_⟩
  · rw [List.length_append]
    rfl
  · show upd (xba st 3) cs.length (i3 c) i = i3 x ∧ x < 128
    rcases get_snoc hx with ⟨h, hi⟩ | ⟨rfl, rfl⟩
    · rw [upd_ne (by omega)]
      exact h6 i x h
    · exact ⟨upd_eq, hc⟩
  · rw [List.length_append]
    exact hr
  · refine ⟨?_, fun _ => rfl⟩
    intro f hi hS
    have hS' := hS
    obtain ⟨s1, s2, s3, s4⟩ := hS'
    refine ⟨s1, s2, fun i hi' => ?_, fun h => ⟨cs.length + 1, by omega, rfl, ?_⟩⟩
    · rw [← s3 i hi']
      show xrb (xsB st 3 cs.length (i3 c)) (xsr st) i = _
      unfold xrb
      split
      · show va_up (xba st) 3 (upd (xba st 3) cs.length (i3 c)) (xsr st) i = xba st (xsr st) i
        by_cases h3' : xsr st = 3
        · have := SV.top hM' hS h3'
          rw [h3', up_eq]
          exact upd_ne (by omega)
        · rw [up_ne h3']
      · rfl
    · have := SV.top hM' hS h
      omega
/-- a longer row of characters -/
theorem grow_c (hM : MS st vs cs ks ws) {m : Nat} {f : Nat → Int32} (hm : xln st 3 ≤ m) (hm2 : m ≤ 2 * bC) (hf : ∀ i, i < cs.length → f i = xba st 3 i) : MS (xsO st m f) vs cs ks ws ∧ Fr0 st (xsO st m f) ∧ SK st (xsO st m f) ∧ pt (xsO st m f) + 2 * xln st 3 = pt st + 2 * m := by
  have hM' := hM
  obtain ⟨⟨⟨h1, h2, h3, h4⟩, h5, h6, h7, h8⟩, r1, r2, r3, r4, r5, r6, r7⟩ := hM
  refine ⟨⟨⟨⟨h1, h2, h3, h4⟩, h5, fun i x hx => ?_, h7, h8⟩, r1, r2, ?_, r4, r5, r6, ?_⟩, ⟨fun k _ k2 _ _ => rfl, fun k _ k2 _ _ _ _ => ⟨up_ne k2, up_ne k2⟩⟩, ?_, ?_⟩
  · show f i = i3 x ∧ x < 128
    rw [hf i (List.getElem?_eq_some_iff.mp hx).1]
    exact h6 i x hx
  · show cs.length ≤ m ∧ 64 ≤ m ∧ m ≤ 2 * bC
    omega
  · show (if xsr st = 3 then 41 + xgl st else xsr st) < 41 + (xgl st + 1)
    split <;> omega
  · refine ⟨?_, fun h => if_neg h⟩
    intro g hi hS
    obtain ⟨s1, s2, s3, s4⟩ := hS
    by_cases h3' : xsr st = 3
    · have hsr : xsr (xsO st m f) = 41 + xgl st := if_pos h3'
      refine ⟨?_, ?_, fun i hi' => ?_, fun h => ?_⟩
      · rw [hsr]
        show 41 + xgl st = 3 ∨ (32 ≤ 41 + xgl st ∧ 41 + xgl st < 41) ∨ (41 ≤ 41 + xgl st ∧ 41 + xgl st < 41 + (xgl st + 1))
        omega
      · rw [hsr]
        unfold xrl
        rw [if_neg (by omega), show 41 + xgl st - 41 = xgl st by omega]
        show hi ≤ va_up (xgn st) (xgl st) (xln st 3) (xgl st)
        rw [up_eq]
        rw [h3'] at s2
        exact s2
      · rw [hsr]
        unfold xrb
        rw [if_neg (by omega), show 41 + xgl st - 41 = xgl st by omega]
        show va_up (xgb st) (xgl st) (xba st 3) (xgl st) i = g i
        rw [up_eq, ← s3 i hi', h3']
        rfl
      · rw [hsr] at h
        omega
    · have hsr : xsr (xsO st m f) = xsr st := if_neg h3'
      refine ⟨?_, ?_, fun i hi' => ?_, fun h => absurd (hsr ▸ h) h3'⟩
      · rw [hsr]
        show xsr st = 3 ∨ (32 ≤ xsr st ∧ xsr st < 41) ∨ (41 ≤ xsr st ∧ xsr st < 41 + (xgl st + 1))
        rcases s1 with s1 | s1 | s1 <;> omega
      · rw [hsr]
        refine Nat.le_trans s2 (Nat.le_of_eq ?_)
        unfold xrl
        split
        · exact (up_ne h3').symm
        · exact (up_ne (by omega)).symm
      · rw [hsr, ← s3 i hi']
        unfold xrb
        split
        · exact congrFun (up_ne h3') i
        · exact congrFun (up_ne (by omega)) i
  · show 2 * (xln st 1 + m + xln st 5 + xln st 6 + xln st 10 + xln st 11 + xln st 13 + xln st 14 + xln st 21) + 6 * xct st + 2 * xln st 3 = pt st + 2 * m
    unfold pt
    omega
theorem nar_l {c : Nat} (hc : c < 128) : vp_nar .byte (i3 c).toInt8.toInt32 = i3 c := by
  rw [vp_nb, nar_c c hc, nar_c c hc]
theorem letter_loop (hM : MS st vs cs ks ws) {c m wc wn : Nat} (hc : c < 128) (hsr : xsr st < 41 + xgl st) (hm : cs.length < m) (hm2 : m ≤ 2 * bC) : ∀ (q n i : Nat) (tf : Nat → Int32), i + q = cs.length → q < n → (∀ k, k < i → tf k = xba st 3 k) → ∃ tf' : Nat → Int32, fM_letter_b n 1 (i3 i) (i3 c) m tf st wc wn = some (wc, wn, xsI (xsB (xsO st m tf') 3 cs.length (i3 c)) 4 (i3 (cs.length + 1))) ∧ (∀ k, k < cs.length → tf' k = xba st 3 k) := by
  have hcl := hM.cl.2.1
  unfold bC at hcl hm2
  have h2 := hM.1.1.2.1
  have r3 := hM.2.2.2.1
  intro q
  induction q with
  | zero =>
    intro n i tf hi hn htf
    obtain ⟨n, rfl⟩ : ∃ j, n = j + 1 := ⟨n - 1, by omega⟩
    obtain rfl : i = cs.length := by omega
    refine ⟨tf, ?_, htf⟩
    rw [fM_letter_b, h2, if_pos (by rw [i3_le (by omega) (by omega)]; omega), if_neg (by omega), if_neg (i3_idx (by omega) (by omega)), i3_N (by omega), i3_one, nar_l hc]
    exact xmo_some (Nat.le_refl _) (Nat.le_refl _)
  | succ q ih =>
    intro n i tf hi hn htf
    obtain ⟨n, rfl⟩ : ∃ j, n = j + 1 := ⟨n - 1, by omega⟩
    have hx : cs[i]? = some cs[i] := List.getElem?_eq_getElem (by omega)
    obtain ⟨x1, x2⟩ := hM.1.2.2.1 i _ hx
    obtain ⟨tf', e1, e2⟩ := ih n (i + 1) (upd tf i (xba st 3 i)) (by omega) (by omega) (fun k hk => by
      by_cases hk' : k = i
      · rw [hk', upd_eq]
      · rw [upd_ne hk', htf k (by omega)])
    refine ⟨tf', ?_, e2⟩
    rw [fM_letter_b, h2, if_neg (by rw [i3_le (by omega) (by omega)]; omega), if_neg (i3_idx (by omega) (by omega)), if_neg (i3_idx (by omega) (by omega)), i3_N (by omega), i3_one, vp_nb, x1, nar_c _ x2, ← x1, e1]
    exact xmo_some (Nat.le_refl _) (Nat.le_refl _)
theorem letter_w (hM : MS st vs cs ks ws) {c : Nat} (hc : c < 128) (hb : cs.length + 1 ≤ bC) (hn : bC < n) : ∃ (cc s : Nat) (st' : xS), fM_letter n st (i3 c) = some (cc, s, st') ∧ MS st' vs (cs ++ [c]) ks ws ∧ Cost st st' cc s ∧ Fr0 st st' ∧ SK st st' := by
  have hcl := hM.cl.2.1
  have h2 := hM.1.1.2.1
  have r3 := hM.2.2.2.1
  have hsr := hM.2.2.2.2.2.2.2
  unfold fM_letter
  by_cases hf : cs.length = xln st 3
  · have hbc : bC = 100000 := rfl
    have e2 : (2 : Int32) * i3 cs.length = i3 (2 * cs.length) := i3_mul 2 cs.length
    rw [h2, e2, if_pos (by rw [← hf]; rfl), i3_N (by omega), if_neg (fun h => h.elim (i3_nn (by omega)) (by omega))]
    obtain ⟨tf, e1, g1⟩ := letter_loop hM hc (m := 2 * cs.length) (wc := 0 + 1) (wn := 0 + 2 * cs.length) hsr (by omega) (by omega) cs.length n 0 (fun _ => 0) (by omega) (by omega) (fun k hk => absurd hk (by omega))
    have e1' : fM_letter_b n 1 0 (i3 c) (2 * cs.length) (fun _ => 0) st (0 + 1) (0 + 2 * cs.length) = _ := e1
    rw [e1']
    obtain ⟨m1, m2, m3, m4⟩ := grow_c hM (m := 2 * cs.length) (f := tf) (by omega) (by omega) g1
    obtain ⟨p1, p2, p3⟩ := put_c m1 hc (show cs.length < 2 * cs.length by omega)
    refine ⟨_, _, _, xmo_some (Nat.le_refl _) (Nat.le_refl _), p1, ⟨by omega, ?_⟩, m2.trans p2, m3.trans p3⟩
    show 0 + 2 * cs.length + pt st ≤ pt (xsO st (2 * cs.length) tf)
    omega
  · have hbc : bC = 100000 := rfl
    rw [h2, if_neg (by rw [show Int32.ofNat (xln st 3) = i3 (xln st 3) from rfl, i3_eq (by omega) (by omega)]; exact hf), if_neg (i3_idx (by omega) (by omega)), i3_N (by omega), i3_one, nar_l hc]
    obtain ⟨p1, p2, p3⟩ := put_c hM hc (by omega)
    exact ⟨0, 0, _, rfl, p1, ⟨by omega, Nat.le_of_eq (by rw [Nat.zero_add]; rfl)⟩, p2, p3⟩
end RA
end ZRefa47
section ZRefb48
section RB
theorem i3_id2 {p m : Nat} (h : p < m) (hp : p < 2147483648) : ¬ (i3 p < 0 ∨ m ≤ p) := fun h' => h'.elim (i3_nn hp) (by omega)
variable {st : xS} {vs : List VR} {cs : List Nat} {ks ws : List NP} {n : Nat}
/-- the source is where it was -/
theorem SK.same {st st' : xS} (h1 : xsr st' = xsr st) (h2 : xgl st' = xgl st) (h3 : xgn st' = xgn st) (h4 : xgb st' = xgb st) (h5 : ∀ k, (k = 3 ∨ 32 ≤ k) → xln st' k = xln st k ∧ xba st' k = xba st k) (h6 : xsi st' 4 = xsi st 4) : SK st st' := by
  refine ⟨?_, fun _ => h1⟩
  intro f hi ⟨s1, s2, s3, s4⟩
  have hl : xrl st' (xsr st) = xrl st (xsr st) ∧ xrb st' (xsr st) = xrb st (xsr st) := by
    unfold xrl xrb
    rw [h3, h4]
    split
    · rename_i hc
      exact h5 _ (by rcases s1 with s1 | s1 | s1 <;> omega)
    · exact ⟨rfl, rfl⟩
  refine ⟨?_, ?_, ?_, ?_⟩
  · rw [h1]
    show xsr st = 3 ∨ (32 ≤ xsr st ∧ xsr st < 41) ∨ (41 ≤ xsr st ∧ xsr st < 41 + xgl st')
    rw [h2]
    exact s1
  · rw [h1, hl.1]
    exact s2
  · rw [h1, hl.2]
    exact s3
  · rw [h1, h6]
    exact s4
def setV (st : xS) (c : Nat) (k : Int32) : xS := xsP (xsP (xsP (xsP (xsN (xsP st 0 (c - 1) k) (c - 1) 0) 2 (c - 1) 0) 3 (c - 1) 0) 4 (c - 1) 0) 5 (c - 1) 1
theorem put_v (hM : MS st vs cs ks ws) (hr : vs.length < xct st) (k : Nat) : MS (setV (xsI st 2 (i3 (vs.length + 1))) (vs.length + 1) (i3 k)) (vs ++ [(k, 0, 0, 0, 1, 0)]) cs ks ws ∧ Fr0 st (setV (xsI st 2 (i3 (vs.length + 1))) (vs.length + 1) (i3 k)) ∧ SK st (setV (xsI st 2 (i3 (vs.length + 1))) (vs.length + 1) (i3 k)) := by
  obtain ⟨⟨⟨h1, h2, h3, h4⟩, h5, h6, h7, h8⟩, r1, r2, r3, r4, r5, r6, r7⟩ := hM
  refine ⟨⟨⟨⟨?_, h2, h3, h4⟩, fun i x hx => ?_, h6, h7, h8⟩, r1, ⟨?_, r2.2⟩, r3, r4, r5, r6, r7⟩, ⟨fun k k1 _ _ _ => up_ne k1, fun k _ k2 _ _ _ _ => ⟨rfl, rfl⟩⟩, SK.same rfl rfl rfl rfl (fun _ _ => ⟨rfl, rfl⟩) rfl⟩
  · rw [List.length_append]
    rfl
  · rcases get_snoc hx with ⟨h, hi⟩ | ⟨rfl, rfl⟩
    · have := h5 i x h
      unfold VRat at this ⊢
      have hne : i ≠ vs.length + 1 - 1 := by omega
      refine ⟨?_, ?_, ?_, ?_, ?_, ?_⟩
      · show upd (xpi st 0) (vs.length + 1 - 1) (i3 k) i = _
        rw [upd_ne hne]; exact this.1
      · show upd (xpi st 2) (vs.length + 1 - 1) 0 i = _
        rw [upd_ne hne]; exact this.2.1
      · show upd (xpi st 3) (vs.length + 1 - 1) 0 i = _
        rw [upd_ne hne]; exact this.2.2.1
      · show upd (xpi st 4) (vs.length + 1 - 1) 0 i = _
        rw [upd_ne hne]; exact this.2.2.2.1
      · show upd (xpi st 5) (vs.length + 1 - 1) 1 i = _
        rw [upd_ne hne]; exact this.2.2.2.2.1
      · show va_up (xpl st) (vs.length + 1 - 1) 0 i = _
        rw [up_ne hne]; exact this.2.2.2.2.2
    · refine ⟨?_, ?_, ?_, ?_, ?_, ?_⟩
      · show upd (xpi st 0) (vs.length + 1 - 1) (i3 k) vs.length = _
        rw [Nat.add_sub_cancel, upd_eq]
      · show upd (xpi st 2) (vs.length + 1 - 1) 0 vs.length = _
        rw [Nat.add_sub_cancel, upd_eq]; rfl
      · show upd (xpi st 3) (vs.length + 1 - 1) 0 vs.length = _
        rw [Nat.add_sub_cancel, upd_eq]; rfl
      · show upd (xpi st 4) (vs.length + 1 - 1) 0 vs.length = _
        rw [Nat.add_sub_cancel, upd_eq]; rfl
      · show upd (xpi st 5) (vs.length + 1 - 1) 1 vs.length = _
        rw [Nat.add_sub_cancel, upd_eq]; rfl
      · show va_up (xpl st) (vs.length + 1 - 1) 0 vs.length = _
        rw [Nat.add_sub_cancel, up_eq]; rfl
  · rw [List.length_append]
    exact hr
/-- one more object -/
theorem more_v (hM : MS st vs cs ks ws) (hr : vs.length = xct st) (hl : xct st < xln st 1) : MS (xsC (xsA st) 1 vs.length (xct st + 1)) vs cs ks ws ∧ Fr0 st (xsC (xsA st) 1 vs.length (xct st + 1)) ∧ SK st (xsC (xsA st) 1 vs.length (xct st + 1)) ∧ pt (xsC (xsA st) 1 vs.length (xct st + 1)) = pt st + 6 := by
  obtain ⟨⟨⟨h1, h2, h3, h4⟩, h5, h6, h7, h8⟩, r1, r2, r3, r4, r5, r6, r7⟩ := hM
  refine ⟨⟨⟨⟨h1, h2, h3, h4⟩, fun i x hx => ?_, h6, h7, h8⟩, fun i => ?_, ⟨?_, ?_, r2.2.2⟩, r3, r4, r5, fun i => ?_, r7⟩, ⟨fun k k1 _ _ _ => rfl, fun k _ k2 _ _ _ _ => ⟨rfl, rfl⟩⟩, SK.same rfl rfl rfl rfl (fun _ _ => ⟨rfl, rfl⟩) rfl, ?_⟩
  · have hi := (List.getElem?_eq_some_iff.mp hx).1
    have hne : i ≠ xct st := by omega
    obtain ⟨a0, a1, a2, a3, a4, a5⟩ := h5 i x hx
    refine ⟨?_, ?_, ?_, ?_, ?_, ?_⟩
    · exact (upd_ne hne).trans a0
    · exact (upd_ne hne).trans a1
    · exact (upd_ne hne).trans a2
    · exact (upd_ne hne).trans a3
    · exact (upd_ne hne).trans a4
    · exact (up_ne hne).trans a5
  · show va_up (xvc st 1) vs.length (xct st + 1) i = if i < xct st + 1 then i + 1 else 0
    by_cases hi : i = vs.length
    · rw [hi, up_eq, hr, if_pos (by omega)]
    · rw [up_ne hi, r1 i]
      by_cases h : i < xct st
      · rw [if_pos h, if_pos (by omega)]
      · rw [if_neg h, if_neg (by omega)]
  · show vs.length ≤ xct st + 1
    omega
  · show xct st + 1 ≤ xln st 1
    omega
  · obtain ⟨b1, b2, b3, b4, b5⟩ := r6 i
    refine ⟨?_, Nat.le_succ_of_le b2, Nat.le_succ_of_le b3, Nat.le_succ_of_le b4, Nat.le_succ_of_le b5⟩
    show va_up (xvc st 1) vs.length (xct st + 1) i ≤ xct st + 1
    by_cases hi : i = vs.length
    · rw [hi, up_eq]
      exact Nat.le_refl _
    · rw [up_ne hi]
      exact Nat.le_succ_of_le b1
  · show 2 * (xln st 1 + xln st 3 + xln st 5 + xln st 6 + xln st 10 + xln st 11 + xln st 13 + xln st 14 + xln st 21) + 6 * (xct st + 1) = pt st + 6
    unfold pt
    omega
/-- a longer row of objects -/
theorem grow_v (hM : MS st vs cs ks ws) {m : Nat} {f : Nat → Nat} (hm : xln st 1 ≤ m) (hm2 : m ≤ 2 * bV) (hf : ∀ i, f i = xvc st 1 i) : MS (xsH st 1 m f) vs cs ks ws ∧ Fr0 st (xsH st 1 m f) ∧ SK st (xsH st 1 m f) ∧ pt (xsH st 1 m f) + 2 * xln st 1 = pt st + 2 * m := by
  obtain ⟨⟨⟨h1, h2, h3, h4⟩, h5, h6, h7, h8⟩, r1, r2, r3, r4, r5, r6, r7⟩ := hM
  refine ⟨⟨⟨⟨h1, h2, h3, h4⟩, h5, h6, h7, h8⟩, fun i => ?_, ⟨r2.1, ?_⟩, r3, r4, r5, fun i => ?_, r7⟩, ⟨fun k k1 _ _ _ => rfl, fun k k1 k2 _ _ _ _ => ⟨up_ne k1, rfl⟩⟩, SK.same rfl rfl rfl rfl (fun k hk => ⟨up_ne (by omega), rfl⟩) rfl, ?_⟩
  · exact (hf i).trans (r1 i)
  · show xct st ≤ m ∧ 64 ≤ m ∧ m ≤ 2 * bV
    omega
  · obtain ⟨b1, b2, b3, b4, b5⟩ := r6 i
    refine ⟨?_, b2, b3, b4, b5⟩
    show f i ≤ xct st
    rw [hf i]
    exact b1
  · show 2 * (m + xln st 3 + xln st 5 + xln st 6 + xln st 10 + xln st 11 + xln st 13 + xln st 14 + xln st 21) + 6 * xct st + 2 * xln st 1 = pt st + 2 * m
    unfold pt
    omega
theorem fresh_loop (hM : MS st vs cs ks ws) {k m wc wn : Nat} (hr : vs.length = xct st) (hl : xct st = xln st 1) (hm : vs.length < m) (hm2 : m ≤ 2 * bV) : ∀ (q n i : Nat) (tf : Nat → Nat), i + q = vs.length → q < n → (∀ j, tf j = if j < i then xvc st 1 j else 0) → ∃ tf' : Nat → Nat, fM_fresh_b n 1 (i3 i) (i3 k) m tf st wc wn = some (wc + 1, wn + 6, vs.length + 1, setV (xsI (xsC (xsA (xsH st 1 m tf')) 1 vs.length (xct st + 1)) 2 (i3 (vs.length + 1))) (vs.length + 1) (i3 k)) ∧ (∀ j, tf' j = xvc st 1 j) := by
  have hcl := hM.cl.1
  have hbv : bV = 32000 := rfl
  have h2 := hM.1.1.1
  have r1 := hM.2.1
  have r2 := hM.2.2.1
  intro q
  induction q with
  | zero =>
    intro n i tf hi hn htf
    obtain ⟨n, rfl⟩ : ∃ j, n = j + 1 := ⟨n - 1, by omega⟩
    obtain rfl : i = vs.length := by omega
    have hall : ∀ j, tf j = xvc st 1 j := fun j => by
      rw [htf j, r1 j]
      by_cases hj : j < vs.length
      · rw [if_pos hj]
      · rw [if_neg hj, if_neg (by omega)]
    have hg := (grow_v hM (m := m) (f := tf) (by omega) hm2 hall).1
    have htop : tf vs.length = 0 := by rw [htf, if_neg (by omega)]
    refine ⟨tf, ?_, hall⟩
    rw [fM_fresh_b, h2, if_pos (by rw [i3_le (by omega) (by omega)]; omega), if_neg (i3_idx (by omega) (by omega)), i3_N (by omega), htop, if_pos rfl, if_pos hg.2.2.2.2.2.2.1, if_neg (by omega), if_neg (i3_id2 (by omega) (by omega)), if_neg (i3_id2 (by omega) (by omega)), up_eq, if_neg (by omega), i3_one, hr, xmo_some (by exact Nat.le_refl _) (by exact Nat.le_refl _)]
    exact xmo_some (Nat.le_succ _) (by show wn ≤ wn + 6; omega)
  | succ q ih =>
    intro n i tf hi hn htf
    obtain ⟨n, rfl⟩ : ∃ j, n = j + 1 := ⟨n - 1, by omega⟩
    have hx := r1 i
    rw [if_pos (by omega)] at hx
    obtain ⟨tf', e1, e2⟩ := ih n (i + 1) (va_up tf i (xvc st 1 i)) (by omega) (by omega) (fun j => by
      by_cases hj : j = i
      · rw [hj, up_eq, if_pos (by omega)]
      · rw [up_ne hj, htf j]
        by_cases hj2 : j < i
        · rw [if_pos hj2, if_pos (by omega)]
        · rw [if_neg hj2, if_neg (by omega)])
    refine ⟨tf', ?_, e2⟩
    rw [fM_fresh_b, h2, if_neg (by rw [i3_le (by omega) (by omega)]; omega), if_neg (i3_idx (by omega) (by omega)), i3_N (by omega), if_neg (by omega), if_neg (i3_id2 (by omega) (by omega)), i3_one, e1]
    exact xmo_some (Nat.le_succ _) (by show wn ≤ wn + 6; omega)
theorem fresh_w (hM : MS st vs cs ks ws) (k : Nat) (hb : vs.length + 1 ≤ bV) (hn : bV < n) : ∃ (cc s : Nat) (st' : xS), fM_fresh n st (i3 k) = some (cc, s, vs.length + 1, st') ∧ MS st' (vs ++ [(k, 0, 0, 0, 1, 0)]) cs ks ws ∧ Cost st st' cc s ∧ Fr0 st st' ∧ SK st st' := by
  have hcl := hM.cl.1
  have hbv : bV = 32000 := rfl
  have h2 := hM.1.1.1
  have r1 := hM.2.1
  have r2 := hM.2.2.1
  have r6 := hM.2.2.2.2.2.2.1
  unfold fM_fresh
  by_cases hf : vs.length = xln st 1
  · have e2 : (2 : Int32) * i3 vs.length = i3 (2 * vs.length) := i3_mul 2 vs.length
    rw [h2, e2, if_pos (by rw [← hf]; rfl), i3_N (by omega), if_neg (fun h => h.elim (i3_nn (by omega)) (by omega))]
    obtain ⟨tf, e1, g1⟩ := fresh_loop hM (k := k) (m := 2 * vs.length) (wc := 0 + 1) (wn := 0 + 2 * vs.length) (by omega) (by omega) (by omega) (by omega) vs.length n 0 (fun _ => 0) (by omega) (by omega) (fun j => by rw [if_neg (by omega)])
    have e1' : fM_fresh_b n 1 0 (i3 k) (2 * vs.length) (fun _ => 0) st (0 + 1) (0 + 2 * vs.length) = _ := e1
    rw [e1']
    obtain ⟨m1, m2, m3, m4⟩ := grow_v hM (m := 2 * vs.length) (f := tf) (by omega) (by omega) g1
    obtain ⟨q1, q2, q3, q4⟩ := more_v m1 (show vs.length = xct st by omega) (show xct st < 2 * vs.length by omega)
    obtain ⟨p1, p2, p3⟩ := put_v q1 (show vs.length < xct st + 1 by omega) k
    refine ⟨_, _, _, xmo_some (by show 0 + 1 ≤ 0 + 1 + 1; omega) (by show 0 + 2 * vs.length ≤ 0 + 2 * vs.length + 6; omega), p1, ⟨by omega, ?_⟩, (m2.trans q2).trans p2, (m3.trans q3).trans p3⟩
    show 0 + 2 * vs.length + 6 + pt st ≤ pt (xsC (xsA (xsH st 1 (2 * vs.length) tf)) 1 vs.length (xct st + 1))
    have q4' : pt (xsC (xsA (xsH st 1 (2 * vs.length) tf)) 1 vs.length (xct st + 1)) = pt (xsH st 1 (2 * vs.length) tf) + 6 := q4
    omega
  · rw [h2, if_neg (by rw [show Int32.ofNat (xln st 1) = i3 (xln st 1) from rfl, i3_eq (by omega) (by omega)]; exact hf), if_neg (i3_idx (by omega) (by omega)), i3_N (by omega)]
    by_cases ht : vs.length = xct st
    · rw [r1 vs.length, if_neg (show ¬ vs.length < xct st by omega), if_pos rfl, if_pos r6, if_neg (by omega), if_neg (i3_id2 (by omega) (by omega)), if_neg (i3_id2 (by omega) (by omega)), up_eq, if_neg (by omega), i3_one]
      obtain ⟨q1, q2, q3, q4⟩ := more_v hM ht (by omega)
      obtain ⟨p1, p2, p3⟩ := put_v q1 (show vs.length < xct st + 1 by omega) k
      rw [← ht] at p1 p2 p3 q2 q3 q4 ⊢
      refine ⟨_, _, _, xmo_some (Nat.le_refl _) (Nat.le_refl _), p1, ⟨by omega, ?_⟩, q2.trans p2, q3.trans p3⟩
      show 0 + 6 + pt st ≤ pt (xsC (xsA st) 1 vs.length (vs.length + 1))
      omega
    · have hm : xvc st 1 vs.length = vs.length + 1 := by rw [r1, if_pos (by omega)]
      rw [hm, if_neg (by omega), if_neg (i3_id2 (by omega) (by omega)), if_neg (by omega), i3_one]
      obtain ⟨p1, p2, p3⟩ := put_v hM (show vs.length < xct st by omega) k
      exact ⟨0, 0, _, rfl, p1, ⟨by omega, Nat.le_of_eq (by rw [Nat.zero_add]; rfl)⟩, p2, p3⟩
end RB
end ZRefb48
section ZRefc49
/-! ===== the reference: strings, numbers, what waits ===== -/
/-- costs with e exceptions -/
def CostE (st st' : xS) (c s e : Nat) : Prop := 6 * c ≤ s ∧ s + pt st ≤ pt st' + 6 * e
theorem Cost.e {st st' : xS} {c s : Nat} (h : Cost st st' c s) : CostE st st' c s 0 := ⟨h.1, h.2⟩
theorem CostE.trans {a b d : xS} {c c' s s' e e' : Nat} (h : CostE a b c s e) (h' : CostE b d c' s' e') : CostE a d (c + c') (s + s') (e + e') := ⟨by have := h.1; have := h'.1; omega, by have := h.2; have := h'.2; omega⟩
def isStr (vs : List VR) (cs : List Nat) (c : Nat) (s : Sx) : Prop := 1 ≤ c ∧ ∃ v, vs[c - 1]? = some v ∧ v.1 = 4 ∧ v.2.2.1 = s.length ∧ v.2.2.2.1 = 0 ∧ v.2.2.2.2.1 = s.length + 1 ∧ (∀ i x, s[i]? = some x → cs[v.2.1 + i]? = some x)
section RC2
variable {st : xS} {vs : List VR} {cs : List Nat} {ks ws : List NP} {n : Nat}
theorem MS.vc (hM : MS st vs cs ks ws) {c : Nat} (h1 : 1 ≤ c) {v : VR} (hv : vs[c - 1]? = some v) : ¬ (c = 0 ∨ xct st < c) ∧ VRat st (c - 1) v ∧ c ≤ vs.length := by
  have hl := (List.getElem?_eq_some_iff.mp hv).1
  have := hM.2.2.1.1
  exact ⟨by omega, hM.1.2.1 _ _ hv, by omega⟩
theorem letters_loop {c from' : Nat} {v : VR} {s : Sx} {cs0 : List Nat} (h1 : 1 ≤ c) (hv : vs[c - 1]? = some v) (hsz : v.2.2.1 = s.length) (hs : ∀ i x, s[i]? = some x → cs0[v.2.1 + i]? = some x) (hb : cs0.length + s.length ≤ bC) : ∀ (q n i : Nat) (st : xS) (wc wn : Nat), i + q = s.length → MS st vs (cs0 ++ s.take i) ks ws → bC + q < n → ∃ (cc k : Nat) (st' : xS), fM_letters_b n 1 (i3 i) c st wc wn = some (wc + cc, wn + k, st') ∧ MS st' vs (cs0 ++ s) ks ws ∧ Cost st st' cc k ∧ Fr0 st st' ∧ SK st st' := by
  have hbc : bC = 100000 := rfl
  intro q
  induction q with
  | zero =>
    intro n i st wc wn hi hM hn
    obtain ⟨n, rfl⟩ : ∃ j, n = j + 1 := ⟨n - 1, by omega⟩
    obtain ⟨g1, g2, _⟩ := hM.vc h1 hv
    refine ⟨0, 0, st, ?_, by rw [List.take_of_length_le (by omega)] at hM; exact hM, Cost.refl, Fr0.refl, SK.refl⟩
    rw [fM_letters_b, if_neg g1, g2.2.2.1, hsz, if_pos (by rw [i3_le (by omega) (by omega)]; omega)]
    exact xmo_some (Nat.le_refl _) (Nat.le_refl _)
  | succ q ih =>
    intro n i st wc wn hi hM hn
    obtain ⟨n, rfl⟩ : ∃ j, n = j + 1 := ⟨n - 1, by omega⟩
    obtain ⟨g1, g2, _⟩ := hM.vc h1 hv
    have hx : s[i]? = some s[i] := List.getElem?_eq_getElem (by omega)
    have hc := hs i _ hx
    have hcl := (List.getElem?_eq_some_iff.mp hc).1
    obtain ⟨y1, y2⟩ := hM.1.2.2.1 (v.2.1 + i) s[i] (by rw [List.getElem?_append_left hcl]; exact hc)
    have hln := hM.2.2.2.1.1
    rw [List.length_append] at hln
    obtain ⟨cc, k, st1, e1, m1, m2, m3, m4⟩ := letter_w (n := n) hM y2 (by rw [List.length_append, List.length_take]; omega) (by omega)
    have hm1 : MS st1 vs (cs0 ++ s.take (i + 1)) ks ws := by
      rw [List.take_add_one, hx, ← List.append_assoc]
      exact m1
    obtain ⟨cc', k', st2, e2, q1, q2, q3, q4⟩ := ih n (i + 1) st1 (wc + cc) (wn + k) (by omega) hm1 (by omega)
    refine ⟨cc + cc', k + k', st2, ?_, q1, m2.trans q2, m3.trans q3, m4.trans q4⟩
    rw [fM_letters_b, if_neg g1, g2.2.2.1, hsz, if_neg (by rw [i3_le (by omega) (by omega)]; omega), g2.2.1, i3_add, if_neg (i3_idx (by omega) (by omega)), i3_N (by omega), y1, e1, Option.bind_some, i3_one]
    dsimp only
    rw [e2, ← Nat.add_assoc, ← Nat.add_assoc]
    have hin : xmo (fun a : Nat × Nat × xS => a.1) (fun a => a.2.1) (wc + cc) (wn + k) (some (wc + cc + cc', wn + k + k', st2)) = some (wc + cc + cc', wn + k + k', st2) := xmo_some (by show wc + cc ≤ wc + cc + cc'; omega) (by show wn + k ≤ wn + k + k'; omega)
    rw [hin]
    exact xmo_some (by show wc ≤ wc + cc + cc'; omega) (by show wn ≤ wn + k + k'; omega)
theorem letters_w (hM : MS st vs cs ks ws) {c : Nat} {s : Sx} (hs : isStr vs cs c s) (hb : cs.length + s.length ≤ bC) (hn : 2 * bC < n) : ∃ (cc k : Nat) (st' : xS), fM_letters n st c = some (cc, k, st') ∧ MS st' vs (cs ++ s) ks ws ∧ Cost st st' cc k ∧ Fr0 st st' ∧ SK st st' := by
  have hbc : bC = 100000 := rfl
  obtain ⟨h1, v, hv, _, hsz, _, _, hg⟩ := hs
  obtain ⟨cc, k, st', e1, r⟩ := letters_loop (ks := ks) (ws := ws) (from' := 0) h1 hv hsz hg hb s.length n 0 st 0 0 (by omega) (by rw [List.take_zero, List.append_nil]; exact hM) (by omega)
  refine ⟨cc, k, st', ?_, r⟩
  rw [Nat.zero_add, Nat.zero_add] at e1
  exact e1
/-- the last value's record is set anew -/
theorem set_last {w : VR} (hM : MS st (vs ++ [w]) cs ks ws) {st' : xS} {v : VR} (h1 : VRat st' vs.length v) (h2 : ∀ i x, i < vs.length → VRat st i x → VRat st' i x) (h3 : st'.1 = st.1) (h4 : st'.2.1 = st.2.1) (h5 : st'.2.2.1 = st.2.2.1) (h6 : st'.2.2.2.1 = st.2.2.2.1) (h7 : st'.2.2.2.2.2.2 = st.2.2.2.2.2.2) : MS st' (vs ++ [v]) cs ks ws ∧ Fr0 st st' ∧ SK st st' ∧ pt st' = pt st := by
  obtain ⟨a1, a2, a3, a4, a5, a6, a7⟩ := st
  obtain ⟨b1, b2, b3, b4, b5, b6, b7⟩ := st'
  dsimp only at h3 h4 h5 h6 h7
  subst h3 h4 h5 h6 h7
  obtain ⟨⟨⟨k1, k2, k3, k4⟩, k5, k6, k7, k8⟩, r1, r2, r3, r4, r5, r6, r7⟩ := hM
  refine ⟨⟨⟨⟨?_, k2, k3, k4⟩, fun i x hx => ?_, k6, k7, k8⟩, r1, ⟨?_, r2.2⟩, r3, r4, r5, r6, r7⟩, ⟨fun _ _ _ _ _ => rfl, fun _ _ _ _ _ _ _ => ⟨rfl, rfl⟩⟩, SK.same rfl rfl rfl rfl (fun _ _ => ⟨rfl, rfl⟩) rfl, rfl⟩
  · rw [List.length_append] at k1 ⊢
    exact k1
  · rcases get_snoc hx with ⟨h, hi⟩ | ⟨rfl, rfl⟩
    · exact h2 i x hi (k5 i x (by rw [List.getElem?_append_left hi]; exact h))
    · exact h1
  · have := r2.1
    rw [List.length_append] at this ⊢
    exact this
theorem i3_sub' {a b : Nat} (h : b ≤ a) : i3 a - i3 b = i3 (a - b) := i3_sub h
theorem string_w (hM : MS st vs cs ks ws) {x0 : Nat} (hx : x0 ≤ cs.length) (hb : vs.length + 1 ≤ bV) (hn : bV < n) : ∃ (cc s : Nat) (st' : xS), fM_string n st (i3 x0) = (if 1 + (cs.length - x0) ≤ 60000 then some (0, cc, s, vs.length + 1, st') else some (1, cc + 1, s + 6, 0, st')) ∧ MS st' (vs ++ [(4, x0, cs.length - x0, 0, 1 + (cs.length - x0), 0)]) cs ks ws ∧ Cost st st' cc s ∧ Fr0 st st' ∧ SK st st' := by
  have hbc : bC = 100000 := rfl
  have hcl := hM.cl.2.1
  obtain ⟨cc, s, st1, e1, m1, m2, m3, m4⟩ := fresh_w hM 4 hb hn
  have e1' : fM_fresh n st 4 = some (cc, s, vs.length + 1, st1) := e1
  have hct := m1.2.2.1.1
  rw [List.length_append, List.length_singleton] at hct
  have h4 := m1.1.1.2.1
  have hv := m1.1.2.1 vs.length _ (by rw [List.getElem?_append_right (Nat.le_refl _), Nat.sub_self]; rfl)
  have hlast := set_last m1 (st' := xsP (xsP (xsP st1 2 (vs.length + 1 - 1) (i3 x0)) 3 (vs.length + 1 - 1) (i3 (cs.length - x0))) 5 (vs.length + 1 - 1) (i3 (1 + (cs.length - x0)))) (v := (4, x0, cs.length - x0, 0, 1 + (cs.length - x0), 0)) (by
    rw [Nat.add_sub_cancel]
    obtain ⟨a0, a1, a2, a3, a4, a5⟩ := hv
    exact ⟨a0, upd_eq, upd_eq, a3, upd_eq, a5⟩) (fun i x hi hx => by
    rw [Nat.add_sub_cancel]
    obtain ⟨a0, a1, a2, a3, a4, a5⟩ := hx
    have hne : i ≠ vs.length := by omega
    exact ⟨a0, (upd_ne hne).trans a1, (upd_ne hne).trans a2, a3, (upd_ne hne).trans a4, a5⟩) rfl rfl rfl rfl rfl
  obtain ⟨l1, l2, l3, l4⟩ := hlast
  refine ⟨cc, s, _, ?_, l1, ⟨m2.1, by have := m2.2; omega⟩, m3.trans l2, m4.trans l3⟩
  unfold fM_string
  rw [e1', Option.bind_some]
  dsimp only
  have e60 : (60000 : Int32) = i3 60000 := rfl
  have e5 : (1 : Int32) + i3 (cs.length - x0) = i3 (1 + (cs.length - x0)) := i3_add 1 _
  rw [if_neg (by omega), upd_eq, upd_eq, h4, i3_sub' hx, e5]
  have hcmp : (i3 (1 + (cs.length - x0)) ≤ (60000 : Int32)) = (1 + (cs.length - x0) ≤ 60000) := by rw [e60, i3_le (by omega) (by omega)]
  by_cases hw : 1 + (cs.length - x0) ≤ 60000
  · rw [if_pos (hcmp ▸ hw), if_pos hw, Nat.zero_add, Nat.zero_add]
    exact xmo_some (Nat.le_refl _) (Nat.le_refl _)
  · rw [if_neg (hcmp ▸ hw), if_neg hw]
    unfold fM_limit
    rw [Option.bind_some, if_pos rfl, Nat.zero_add, Nat.zero_add, Nat.zero_add, Nat.zero_add]
    have hin : ∀ z : xS, xmo (fun a : Nat × Nat × Nat × Nat × xS => a.2.1) (fun a => a.2.2.1) (cc + 1) (s + 6) (some (1, cc + 1, s + 6, 0, z)) = some (1, cc + 1, s + 6, 0, z) := fun z => xmo_some (Nat.le_refl _) (Nat.le_refl _)
    dsimp only
    rw [hin]
    exact xmo_some (by show cc ≤ cc + 1; omega) (by show s ≤ s + 6; omega)
theorem numM_w (hM : MS st vs cs ks ws) {z : Int} (h1 : -9223372036854775808 ≤ z) (h2 : z < 9223372036854775808) (hb : vs.length + 1 ≤ bV) (hn : bV < n) : (-9007199254740991 ≤ z ∧ z ≤ 9007199254740991 → ∃ (cc s : Nat) (st' : xS), fM_number n st (cW z) = some (0, cc, s, vs.length + 1, st') ∧ MS st' (vs ++ [(3, 0, 0, 0, 1, z)]) cs ks ws ∧ Cost st st' cc s ∧ Fr0 st st' ∧ SK st st') ∧ (¬ (-9007199254740991 ≤ z ∧ z ≤ 9007199254740991) → fM_number n st (cW z) = some (1, 1, 6, 0, xsI st 8 2)) := by
  have c1 : (0 < lg_cmp (cW z) 9007199254740991) = (9007199254740991 < z) := by
    rw [show (9007199254740991 : Int64) = cW 9007199254740991 from rfl, lg_cW h1 h2 (by omega) (by omega), izs_gt0]
    exact propext (by omega)
  have c2 : (0 ≤ lg_cmp (cW z) (-9007199254740991)) = (-9007199254740991 ≤ z) := by
    rw [show (-9007199254740991 : Int64) = cW (-9007199254740991) from rfl, lg_cW h1 h2 (by omega) (by omega), izs_ge0]
    exact propext (by omega)
  have ref : ∀ x : Option (Nat × Nat × Nat × Nat × xS), x = ((fM_refuse n st 2).bind fun o1 => (if o1.1 = 1 then xmo (fun a => a.2.1) (fun a => a.2.2.1) (0 + o1.2.1) (0 + o1.2.2.1) (some (1, (0 + o1.2.1), (0 + o1.2.2.1), 0, o1.2.2.2.2)) else none)) → x = some (1, 1, 6, 0, xsI st 8 2) := fun x hx => by
    rw [hx]
    unfold fM_refuse
    rw [Option.bind_some, if_pos rfl]
    exact xmo_some (Nat.le_refl _) (Nat.le_refl _)
  constructor
  · intro hz
    obtain ⟨cc, s, st1, e1, m1, m2, m3, m4⟩ := fresh_w hM 3 hb hn
    have e1' : fM_fresh n st 3 = some (cc, s, vs.length + 1, st1) := e1
    have hct := m1.2.2.1.1
    rw [List.length_append, List.length_singleton] at hct
    have hv := m1.1.2.1 vs.length _ (by rw [List.getElem?_append_right (Nat.le_refl _), Nat.sub_self]; rfl)
    obtain ⟨l1, l2, l3, l4⟩ := set_last m1 (st' := xsN st1 (vs.length + 1 - 1) (cW z)) (v := (3, 0, 0, 0, 1, z)) (by
      rw [Nat.add_sub_cancel]
      obtain ⟨a0, a1, a2, a3, a4, a5⟩ := hv
      exact ⟨a0, a1, a2, a3, a4, up_eq⟩) (fun i x hi hx => by
      rw [Nat.add_sub_cancel]
      obtain ⟨a0, a1, a2, a3, a4, a5⟩ := hx
      have hne : i ≠ vs.length := by omega
      exact ⟨a0, a1, a2, a3, a4, (up_ne hne).trans a5⟩) rfl rfl rfl rfl rfl
    refine ⟨cc, s, _, ?_, l1, ⟨m2.1, by have := m2.2; omega⟩, m3.trans l2, m4.trans l3⟩
    unfold fM_number
    rw [if_neg (by rw [c1]; omega), if_pos (by rw [c2]; exact hz.1), e1', Option.bind_some]
    dsimp only
    rw [if_neg (by omega), Nat.zero_add, Nat.zero_add]
    exact xmo_some (Nat.le_refl _) (Nat.le_refl _)
  · intro hz
    unfold fM_number
    by_cases hg : 9007199254740991 < z
    · rw [if_pos (by rw [c1]; exact hg)]
      exact ref _ rfl
    · rw [if_neg (by rw [c1]; exact hg), if_neg (by rw [c2]; omega)]
      exact ref _ rfl
theorem kid_w (hM : MS st vs cs ks ws) {c i : Nat} {v : VR} {p : NP} (h1 : 1 ≤ c) (hv : vs[c - 1]? = some v) (hp : ks[v.2.1 + i]? = some p) : fM_kid n st c (i3 i) = some p.1 ∧ fM_name n st c (i3 i) = some p.2 := by
  obtain ⟨g1, g2, _⟩ := hM.vc h1 hv
  have hl := (List.getElem?_eq_some_iff.mp hp).1
  have hcl := hM.cl.2.2.1
  have hbk : bK = 32000 := rfl
  have r4 := hM.2.2.2.2.1
  obtain ⟨k1, k2⟩ := hM.1.2.2.2.1 _ _ hp
  unfold fM_kid fM_name
  rw [if_neg g1, g2.2.1, i3_add, if_neg (i3_idx (by omega) (by omega)), i3_N (by omega), k1, if_neg g1, if_neg (i3_id2 (by omega) (by omega)), k2]
  exact ⟨rfl, rfl⟩
theorem put_w2 (hM : MS st vs cs ks ws) {a b : Nat} (ha : a ≤ xct st) (hb : b ≤ xct st) (hr : ws.length < xln st 10) : MS (xsI (xsC (xsC st 10 ws.length a) 11 ws.length b) 12 (i3 (ws.length + 1))) vs cs ks (ws ++ [(a, b)]) ∧ Fr0 st (xsI (xsC (xsC st 10 ws.length a) 11 ws.length b) 12 (i3 (ws.length + 1))) ∧ SK st (xsI (xsC (xsC st 10 ws.length a) 11 ws.length b) 12 (i3 (ws.length + 1))) := by
  obtain ⟨⟨⟨h1, h2, h3, h4⟩, h5, h6, h7, h8⟩, r1, r2, r3, r4, r5, r6, r7⟩ := hM
  refine ⟨⟨⟨⟨h1, h2, h3, ?_⟩, h5, h6, h7, fun i x hx => ?_⟩, r1, r2, r3, r4, ⟨?_, r5.2⟩, fun i => ?_, r7⟩, ⟨fun k _ _ _ k4 => up_ne k4, fun k _ _ _ _ _ _ => ⟨rfl, rfl⟩⟩, SK.same rfl rfl rfl rfl (fun _ _ => ⟨rfl, rfl⟩) rfl⟩
  · rw [List.length_append]
    rfl
  · show va_up (xvc st 10) ws.length a i = x.1 ∧ va_up (xvc st 11) ws.length b i = x.2
    rcases get_snoc hx with ⟨h, hi⟩ | ⟨rfl, rfl⟩
    · rw [up_ne (by omega), up_ne (by omega)]
      exact h8 i x h
    · exact ⟨up_eq, up_eq⟩
  · rw [List.length_append]
    exact hr
  · obtain ⟨b1, b2, b3, b4, b5⟩ := r6 i
    refine ⟨b1, b2, b3, ?_, ?_⟩
    · show va_up (xvc st 10) ws.length a i ≤ xct st
      by_cases hi : i = ws.length
      · rw [hi, up_eq]; exact ha
      · rw [up_ne hi]; exact b4
    · show va_up (xvc st 11) ws.length b i ≤ xct st
      by_cases hi : i = ws.length
      · rw [hi, up_eq]; exact hb
      · rw [up_ne hi]; exact b5
theorem grow_w (hM : MS st vs cs ks ws) {m : Nat} {f g : Nat → Nat} (hm : xln st 10 ≤ m) (hm2 : m ≤ 2 * bK) (hf : ∀ i, i < ws.length → f i = xvc st 10 i ∧ g i = xvc st 11 i) (hf2 : ∀ i, f i ≤ xct st ∧ g i ≤ xct st) : MS (xsH (xsH st 10 m f) 11 m g) vs cs ks ws ∧ Fr0 st (xsH (xsH st 10 m f) 11 m g) ∧ SK st (xsH (xsH st 10 m f) 11 m g) ∧ pt (xsH (xsH st 10 m f) 11 m g) + 4 * xln st 10 = pt st + 4 * m := by
  obtain ⟨⟨⟨h1, h2, h3, h4⟩, h5, h6, h7, h8⟩, r1, r2, r3, r4, r5, r6, r7⟩ := hM
  refine ⟨⟨⟨⟨h1, h2, h3, h4⟩, h5, h6, h7, fun i x hx => ?_⟩, r1, r2, r3, r4, ?_, fun i => ?_, r7⟩, ⟨fun k k1 _ _ _ => rfl, fun k _ _ _ _ k5 k6 => ⟨(up_ne k6).trans (up_ne k5), rfl⟩⟩, SK.same rfl rfl rfl rfl (fun k hk => ⟨(up_ne (by omega)).trans (up_ne (by omega)), rfl⟩) rfl, ?_⟩
  · show f i = x.1 ∧ g i = x.2
    obtain ⟨f1, f2⟩ := hf i (List.getElem?_eq_some_iff.mp hx).1
    rw [f1, f2]
    exact h8 i x hx
  · show ws.length ≤ m ∧ m = m ∧ 64 ≤ m ∧ m ≤ 2 * bK
    omega
  · obtain ⟨b1, b2, b3, b4, b5⟩ := r6 i
    exact ⟨b1, b2, b3, (hf2 i).1, (hf2 i).2⟩
  · show 2 * (xln st 1 + xln st 3 + xln st 5 + xln st 6 + m + m + xln st 13 + xln st 14 + xln st 21) + 6 * xct st + 4 * xln st 10 = pt st + 4 * m
    unfold pt
    omega
theorem wait_loop (hM : MS st vs cs ks ws) {a b m wc wn : Nat} (ha : a ≤ xct st) (hb : b ≤ xct st) (hm : ws.length < m) (hm2 : m ≤ 2 * bK) : ∀ (q n i : Nat) (f g : Nat → Nat), i + q = ws.length → q < n → (∀ k, k < i → f k = xvc st 10 k ∧ g k = xvc st 11 k) → (∀ k, f k ≤ xct st ∧ g k ≤ xct st) → ∃ f' g' : Nat → Nat, fM_wait_b n 1 (i3 i) b a m f m g st wc wn = some (wc, wn, xsI (xsC (xsC (xsH (xsH st 10 m f') 11 m g') 10 ws.length a) 11 ws.length b) 12 (i3 (ws.length + 1))) ∧ (∀ k, k < ws.length → f' k = xvc st 10 k ∧ g' k = xvc st 11 k) ∧ (∀ k, f' k ≤ xct st ∧ g' k ≤ xct st) := by
  have hcl := hM.cl.2.2.2
  have hbk : bK = 32000 := rfl
  have h4 := hM.1.1.2.2.2
  have r5 := hM.2.2.2.2.2.1
  have r6 := hM.2.2.2.2.2.2.1
  intro q
  induction q with
  | zero =>
    intro n i f g hi hn hfg hle
    obtain ⟨n, rfl⟩ : ∃ j, n = j + 1 := ⟨n - 1, by omega⟩
    obtain rfl : i = ws.length := by omega
    refine ⟨f, g, ?_, hfg, hle⟩
    rw [fM_wait_b, h4, if_pos (by rw [i3_le (by omega) (by omega)]; omega), if_neg (by omega), if_neg (i3_idx (by omega) (by omega)), if_neg (by omega), if_neg (i3_idx (by omega) (by omega)), i3_N (by omega), i3_one]
    exact xmo_some (Nat.le_refl _) (Nat.le_refl _)
  | succ q ih =>
    intro n i f g hi hn hfg hle
    obtain ⟨n, rfl⟩ : ∃ j, n = j + 1 := ⟨n - 1, by omega⟩
    obtain ⟨_, _, _, b4, b5⟩ := r6 i
    obtain ⟨f', g', e1, e2, e3⟩ := ih n (i + 1) (va_up f i (xvc st 10 i)) (va_up g i (xvc st 11 i)) (by omega) (by omega) (fun k hk => by
      by_cases hk' : k = i
      · rw [hk', up_eq, up_eq]
        exact ⟨rfl, rfl⟩
      · rw [up_ne hk', up_ne hk']
        exact hfg k (by omega)) (fun k => by
      by_cases hk' : k = i
      · rw [hk', up_eq, up_eq]
        exact ⟨b4, b5⟩
      · rw [up_ne hk', up_ne hk']
        exact hle k)
    refine ⟨f', g', ?_, e2, e3⟩
    rw [fM_wait_b, h4, if_neg (by rw [i3_le (by omega) (by omega)]; omega), if_neg (i3_idx (by omega) (by omega)), i3_N (by omega), if_neg (by omega), if_neg (i3_id2 (by omega) (by omega)), if_neg (i3_id2 (by omega) (by omega)), if_neg (by omega), if_neg (i3_id2 (by omega) (by omega)), i3_one, e1]
    exact xmo_some (Nat.le_refl _) (Nat.le_refl _)
theorem wait_w (hM : MS st vs cs ks ws) {a b : Nat} (ha : a ≤ vs.length) (hb : b ≤ vs.length) (hl : ws.length + 1 ≤ bK) (hn : bK < n) : ∃ (cc s : Nat) (st' : xS), fM_wait n st b a = some (cc, s, st') ∧ MS st' vs cs ks (ws ++ [(a, b)]) ∧ Cost st st' cc s ∧ Fr0 st st' ∧ SK st st' := by
  have hcl := hM.cl.2.2.2
  have hbk : bK = 32000 := rfl
  have h4 := hM.1.1.2.2.2
  have r2 := hM.2.2.1
  have r5 := hM.2.2.2.2.2.1
  unfold fM_wait
  by_cases hf : ws.length = xln st 10
  · have e2 : (2 : Int32) * i3 ws.length = i3 (2 * ws.length) := i3_mul 2 ws.length
    rw [h4, e2, if_pos (by rw [← hf]; rfl), i3_N (by omega), if_neg (fun h => h.elim (i3_nn (by omega)) (by omega)), if_neg (fun h => h.elim (i3_nn (by omega)) (by omega))]
    obtain ⟨f, g, e1, g1, g2⟩ := wait_loop hM (a := a) (b := b) (m := 2 * ws.length) (wc := 0 + 1 + 1) (wn := 0 + 2 * ws.length + 2 * ws.length) (by omega) (by omega) (by omega) (by omega) ws.length n 0 (fun _ => 0) (fun _ => 0) (by omega) (by omega) (fun k hk => absurd hk (by omega)) (fun k => ⟨Nat.zero_le _, Nat.zero_le _⟩)
    have e1' : fM_wait_b n 1 0 b a (2 * ws.length) (fun _ => 0) (2 * ws.length) (fun _ => 0) st (0 + 1 + 1) (0 + 2 * ws.length + 2 * ws.length) = _ := e1
    rw [e1']
    obtain ⟨m1, m2, m3, m4⟩ := grow_w hM (m := 2 * ws.length) (f := f) (g := g) (by omega) (by omega) g1 g2
    obtain ⟨p1, p2, p3⟩ := put_w2 m1 (a := a) (b := b) (show a ≤ xct st by omega) (show b ≤ xct st by omega) (show ws.length < 2 * ws.length by omega)
    have hin : ∀ z : xS, xmo (fun a : Nat × Nat × xS => a.1) (fun a => a.2.1) (0 + 1 + 1) (0 + 2 * ws.length + 2 * ws.length) (some (0 + 1 + 1, 0 + 2 * ws.length + 2 * ws.length, z)) = some (0 + 1 + 1, 0 + 2 * ws.length + 2 * ws.length, z) := fun z => xmo_some (Nat.le_refl _) (Nat.le_refl _)
    rw [hin]
    refine ⟨_, _, _, xmo_some (by show 0 + 1 ≤ 0 + 1 + 1; omega) (by show 0 + 2 * ws.length ≤ 0 + 2 * ws.length + 2 * ws.length; omega), p1, ⟨by omega, ?_⟩, m2.trans p2, m3.trans p3⟩
    show 0 + 2 * ws.length + 2 * ws.length + pt st ≤ pt (xsH (xsH st 10 (2 * ws.length) f) 11 (2 * ws.length) g)
    omega
  · rw [h4, if_neg (by rw [show Int32.ofNat (xln st 10) = i3 (xln st 10) from rfl, i3_eq (by omega) (by omega)]; exact hf), if_neg (by omega), if_neg (i3_idx (by omega) (by omega)), if_neg (by omega), if_neg (i3_idx (by omega) (by omega)), i3_N (by omega), i3_one]
    obtain ⟨p1, p2, p3⟩ := put_w2 hM (a := a) (b := b) (by omega) (by omega) (by omega)
    exact ⟨0, 0, _, rfl, p1, ⟨by omega, Nat.le_of_eq (by rw [Nat.zero_add]; rfl)⟩, p2, p3⟩
end RC2
end ZRefc49
section ZRefd50
/-! ===== the reference: lists are made whole ===== -/
def vDp (vs : List VR) (c : Nat) : Nat := match vs[c - 1]? with
  | some v => v.2.2.2.1
  | none => 0
def vWt (vs : List VR) (c : Nat) : Nat := match vs[c - 1]? with
  | some v => v.2.2.2.2.1
  | none => 0
def kWt (vs : List VR) (k : Nat) (p : NP) : Nat := if k = 6 then vWt vs p.1 + vWt vs p.2 else vWt vs p.1
/-- what waits is sound -/
def KP (vs : List VR) (k : Nat) (p : NP) : Prop := (1 ≤ p.1 ∧ ∃ v, vs[p.1 - 1]? = some v ∧ v.2.2.2.1 ≤ 60 ∧ v.2.2.2.2.1 ≤ 60000) ∧ (k = 6 → 1 ≤ p.2 ∧ ∃ v, vs[p.2 - 1]? = some v ∧ v.2.2.2.2.1 ≤ 60000) ∧ p.2 ≤ vs.length
section RD2
variable {st : xS} {vs : List VR} {cs : List Nat} {ks ws : List NP} {n : Nat}
theorem put_k (hM : MS st vs cs ks ws) {a b : Nat} (ha : a ≤ xct st) (hb : b ≤ xct st) (hr : ks.length < xln st 5) : MS (xsI (xsC (xsC st 5 ks.length a) 6 ks.length b) 7 (i3 (ks.length + 1))) vs cs (ks ++ [(a, b)]) ws ∧ Fr0 st (xsI (xsC (xsC st 5 ks.length a) 6 ks.length b) 7 (i3 (ks.length + 1))) ∧ SK st (xsI (xsC (xsC st 5 ks.length a) 6 ks.length b) 7 (i3 (ks.length + 1))) := by
  obtain ⟨⟨⟨h1, h2, h3, h4⟩, h5, h6, h7, h8⟩, r1, r2, r3, r4, r5, r6, r7⟩ := hM
  refine ⟨⟨⟨⟨h1, h2, ?_, h4⟩, h5, h6, fun i x hx => ?_, h8⟩, r1, r2, r3, ⟨?_, r4.2⟩, r5, fun i => ?_, r7⟩, ⟨fun k _ _ k3 _ => up_ne k3, fun k _ _ _ _ _ _ => ⟨rfl, rfl⟩⟩, SK.same rfl rfl rfl rfl (fun _ _ => ⟨rfl, rfl⟩) rfl⟩
  · rw [List.length_append]
    rfl
  · show va_up (xvc st 5) ks.length a i = x.1 ∧ va_up (xvc st 6) ks.length b i = x.2
    rcases get_snoc hx with ⟨h, hi⟩ | ⟨rfl, rfl⟩
    · rw [up_ne (by omega), up_ne (by omega)]
      exact h7 i x h
    · exact ⟨up_eq, up_eq⟩
  · rw [List.length_append]
    exact hr
  · obtain ⟨b1, b2, b3, b4, b5⟩ := r6 i
    refine ⟨b1, ?_, ?_, b4, b5⟩
    · show va_up (xvc st 5) ks.length a i ≤ xct st
      by_cases hi : i = ks.length
      · rw [hi, up_eq]; exact ha
      · rw [up_ne hi]; exact b2
    · show va_up (xvc st 6) ks.length b i ≤ xct st
      by_cases hi : i = ks.length
      · rw [hi, up_eq]; exact hb
      · rw [up_ne hi]; exact b3
theorem cut_w {W0 W1 : List NP} (hM : MS st vs cs ks (W0 ++ W1)) : MS (xsI st 12 (i3 W0.length)) vs cs ks W0 ∧ Fr0 st (xsI st 12 (i3 W0.length)) ∧ SK st (xsI st 12 (i3 W0.length)) := by
  obtain ⟨⟨⟨h1, h2, h3, h4⟩, h5, h6, h7, h8⟩, r1, r2, r3, r4, r5, r6, r7⟩ := hM
  refine ⟨⟨⟨⟨h1, h2, h3, rfl⟩, h5, h6, h7, fun i x hx => h8 i x ?_⟩, r1, r2, r3, r4, ⟨?_, r5.2⟩, r6, r7⟩, ⟨fun k _ _ _ k4 => up_ne k4, fun k _ _ _ _ _ _ => ⟨rfl, rfl⟩⟩, SK.same rfl rfl rfl rfl (fun _ _ => ⟨rfl, rfl⟩) rfl⟩
  · rw [List.getElem?_append_left (List.getElem?_eq_some_iff.mp hx).1]
    exact hx
  · have := r5.1
    rw [List.length_append] at this
    show W0.length ≤ xln st 10
    omega
theorem grow_k (hM : MS st vs cs ks ws) {m : Nat} {f g : Nat → Nat} (hm : xln st 5 ≤ m) (hm2 : m ≤ 2 * bK) (hf : ∀ i, i < ks.length → f i = xvc st 5 i ∧ g i = xvc st 6 i) (hf2 : ∀ i, f i ≤ xct st ∧ g i ≤ xct st) : MS (xsH (xsH st 5 m f) 6 m g) vs cs ks ws ∧ Fr0 st (xsH (xsH st 5 m f) 6 m g) ∧ SK st (xsH (xsH st 5 m f) 6 m g) ∧ pt (xsH (xsH st 5 m f) 6 m g) + 4 * xln st 5 = pt st + 4 * m := by
  obtain ⟨⟨⟨h1, h2, h3, h4⟩, h5, h6, h7, h8⟩, r1, r2, r3, r4, r5, r6, r7⟩ := hM
  refine ⟨⟨⟨⟨h1, h2, h3, h4⟩, h5, h6, fun i x hx => ?_, h8⟩, r1, r2, r3, ?_, r5, fun i => ?_, r7⟩, ⟨fun k k1 _ _ _ => rfl, fun k _ _ k3 k4 _ _ => ⟨(up_ne k4).trans (up_ne k3), rfl⟩⟩, SK.same rfl rfl rfl rfl (fun k hk => ⟨(up_ne (by omega)).trans (up_ne (by omega)), rfl⟩) rfl, ?_⟩
  · show f i = x.1 ∧ g i = x.2
    obtain ⟨f1, f2⟩ := hf i (List.getElem?_eq_some_iff.mp hx).1
    rw [f1, f2]
    exact h7 i x hx
  · show ks.length ≤ m ∧ m = m ∧ 64 ≤ m ∧ m ≤ 2 * bK
    omega
  · obtain ⟨b1, b2, b3, b4, b5⟩ := r6 i
    exact ⟨b1, (hf2 i).1, (hf2 i).2, b4, b5⟩
  · show 2 * (xln st 1 + xln st 3 + m + m + xln st 10 + xln st 11 + xln st 13 + xln st 14 + xln st 21) + 6 * xct st + 4 * xln st 5 = pt st + 4 * m
    unfold pt
    omega
theorem xmo_id {α : Type} {f g : α → Nat} {c s : Nat} {o : Option α} (h : ∀ a, o = some a → c ≤ f a ∧ s ≤ g a) : xmo f g c s o = o := by
  cases o with
  | none => rfl
  | some a => exact xmo_some (h a rfl).1 (h a rfl).2
/-- copying to longer rows -/
theorem whole2 (hM : MS st vs cs ks ws) {c : Nat} {y1 y2 : Int32} {m wc wn : Nat} (hm : ks.length < m) (hm2 : m ≤ 2 * bK) : ∀ (q n i : Nat) (f g : Nat → Nat), i + q = ks.length → q < n → (∀ k, k < i → f k = xvc st 5 k ∧ g k = xvc st 6 k) → (∀ k, f k ≤ xct st ∧ g k ≤ xct st) → ∃ (f' g' : Nat → Nat) (n' : Nat) (y : Int32), (∀ out : Nat × Nat × Nat × Nat × xS, wc ≤ out.2.1 → wn ≤ out.2.2.1 → fM_whole_b n' 1 c y1 y2 y 0 0 0 (fun _ => 0) 0 (fun _ => 0) (xsH (xsH st 5 m f') 6 m g') wc wn = some out → fM_whole_b n 2 c y1 y2 (i3 i) 0 0 m f m g st wc wn = some out) ∧ n = n' + q + 1 ∧ (∀ k, k < ks.length → f' k = xvc st 5 k ∧ g' k = xvc st 6 k) ∧ (∀ k, f' k ≤ xct st ∧ g' k ≤ xct st) := by
  have hcl := hM.cl.2.2.1
  have hbk : bK = 32000 := rfl
  have h7 := hM.1.1.2.2.1
  have r4 := hM.2.2.2.2.1
  have r6 := hM.2.2.2.2.2.2.1
  intro q
  induction q with
  | zero =>
    intro n i f g hi hn hfg hle
    obtain ⟨n, rfl⟩ : ∃ j, n = j + 1 := ⟨n - 1, by omega⟩
    obtain rfl : i = ks.length := by omega
    refine ⟨f, g, n, i3 ks.length, fun out o1 o2 ho => ?_, by omega, hfg, hle⟩
    rw [fM_whole_b, if_neg (by decide), if_pos rfl, h7, if_pos (by rw [i3_le (by omega) (by omega)]; omega), ho]
    exact xmo_some o1 o2
  | succ q ih =>
    intro n i f g hi hn hfg hle
    obtain ⟨n, rfl⟩ : ∃ j, n = j + 1 := ⟨n - 1, by omega⟩
    obtain ⟨_, b2, b3, _, _⟩ := r6 i
    obtain ⟨f', g', n', y, e1, e0, e2, e3⟩ := ih n (i + 1) (va_up f i (xvc st 5 i)) (va_up g i (xvc st 6 i)) (by omega) (by omega) (fun k hk => by
      by_cases hk' : k = i
      · rw [hk', up_eq, up_eq]
        exact ⟨rfl, rfl⟩
      · rw [up_ne hk', up_ne hk']
        exact hfg k (by omega)) (fun k => by
      by_cases hk' : k = i
      · rw [hk', up_eq, up_eq]
        exact ⟨b2, b3⟩
      · rw [up_ne hk', up_ne hk']
        exact hle k)
    refine ⟨f', g', n', y, fun out o1 o2 ho => ?_, by omega, e2, e3⟩
    rw [fM_whole_b, if_neg (by decide), if_pos rfl, h7, if_neg (by rw [i3_le (by omega) (by omega)]; omega), if_neg (i3_idx (by omega) (by omega)), i3_N (by omega), if_neg (by omega), if_neg (i3_id2 (by omega) (by omega)), if_neg (i3_id2 (by omega) (by omega)), if_neg (by omega), if_neg (i3_id2 (by omega) (by omega)), i3_one, e1 out o1 o2 ho]
    exact xmo_some o1 o2
/-- rows long enough for all that waits -/
theorem whole1 {c : Nat} {v : VR} (h1 : 1 ≤ c) (hv : vs[c - 1]? = some v) {y1 y2 : Int32} (hb : ks.length + v.2.2.1 ≤ bK) : ∀ (gd : Nat) (st : xS) (n wc wn : Nat) (y : Int32), MS st vs cs ks ws → ks.length + v.2.2.1 ≤ xln st 5 * 2 ^ gd → (gd + 1) * (ks.length + 2) < n → ∃ (cc s : Nat) (st' : xS) (n' : Nat), (∀ out : Nat × Nat × Nat × Nat × xS, wc + cc ≤ out.2.1 → wn + s ≤ out.2.2.1 → fM_whole_b n' 3 c y1 y2 0 y2 1 0 (fun _ => 0) 0 (fun _ => 0) st' (wc + cc) (wn + s) = some out → fM_whole_b n 1 c y1 y2 y 0 0 0 (fun _ => 0) 0 (fun _ => 0) st wc wn = some out) ∧ n ≤ n' + (gd + 1) * (ks.length + 2) ∧ MS st' vs cs ks ws ∧ ks.length + v.2.2.1 ≤ xln st' 5 ∧ Cost st st' cc s ∧ Fr0 st st' ∧ SK st st' := by
  have hbk : bK = 32000 := rfl
  intro gd
  induction gd with
  | zero =>
    intro st n wc wn y hM hln hn
    obtain ⟨n, rfl⟩ : ∃ j, n = j + 1 := ⟨n - 1, by omega⟩
    have h7 := hM.1.1.2.2.1
    have r4 := hM.2.2.2.2.1
    obtain ⟨g1, g2, _⟩ := hM.vc h1 hv
    rw [Nat.pow_zero, Nat.mul_one] at hln
    refine ⟨0, 0, st, n, fun out o1 o2 ho => ?_, by omega, hM, hln, Cost.refl, Fr0.refl, SK.refl⟩
    rw [fM_whole_b, if_pos rfl, if_neg g1, h7, g2.2.2.1, i3_add, if_pos (by rw [show Int32.ofNat (xln st 5) = i3 (xln st 5) from rfl, i3_le (by omega) (by omega)]; exact hln)]
    exact (congrArg (fun x => xmo (fun a : Nat × Nat × Nat × Nat × xS => a.2.1) (fun a => a.2.2.1) wc wn x) ho).trans (xmo_some (by omega) (by omega))
  | succ gd ih =>
    intro st n wc wn y hM hln hn
    obtain ⟨n, rfl⟩ : ∃ j, n = j + 1 := ⟨n - 1, by omega⟩
    have h7 := hM.1.1.2.2.1
    have r4 := hM.2.2.2.2.1
    obtain ⟨g1, g2, _⟩ := hM.vc h1 hv
    have hmul : (gd + 1 + 1) * (ks.length + 2) = (gd + 1) * (ks.length + 2) + (ks.length + 2) := Nat.succ_mul _ _
    by_cases hf : ks.length + v.2.2.1 ≤ xln st 5
    · refine ⟨0, 0, st, n, fun out o1 o2 ho => ?_, by omega, hM, hf, Cost.refl, Fr0.refl, SK.refl⟩
      rw [fM_whole_b, if_pos rfl, if_neg g1, h7, g2.2.2.1, i3_add, if_pos (by rw [show Int32.ofNat (xln st 5) = i3 (xln st 5) from rfl, i3_le (by omega) (by omega)]; exact hf)]
      exact (congrArg (fun x => xmo (fun a : Nat × Nat × Nat × Nat × xS => a.2.1) (fun a => a.2.2.1) wc wn x) ho).trans (xmo_some (by omega) (by omega))
    · have e2 : (2 : Int32) * Int32.ofNat (xln st 5) = i3 (2 * xln st 5) := i3_mul 2 (xln st 5)
      obtain ⟨f, g, n1, y', w1, w0, w2, w3⟩ := whole2 hM (c := c) (y1 := y1) (y2 := y2) (m := 2 * xln st 5) (wc := wc + 1 + 1) (wn := wn + 2 * xln st 5 + 2 * xln st 5) (by omega) (by omega) ks.length n 0 (fun _ => 0) (fun _ => 0) (by omega) (by omega) (fun k hk => absurd hk (by omega)) (fun k => ⟨Nat.zero_le _, Nat.zero_le _⟩)
      obtain ⟨m1, m2, m3, m4⟩ := grow_k hM (m := 2 * xln st 5) (f := f) (g := g) (by omega) (by omega) w2 w3
      obtain ⟨cc, s, st', n', q1, q0, q2, q3, q4, q5, q6⟩ := ih (xsH (xsH st 5 (2 * xln st 5) f) 6 (2 * xln st 5) g) n1 (wc + 1 + 1) (wn + 2 * xln st 5 + 2 * xln st 5) y' m1 (by
        show ks.length + v.2.2.1 ≤ 2 * xln st 5 * 2 ^ gd
        rw [Nat.pow_succ, Nat.mul_comm (2 ^ gd) 2, ← Nat.mul_assoc, Nat.mul_comm (xln st 5) 2] at hln
        exact hln) (by omega)
      refine ⟨2 + cc, 2 * xln st 5 + 2 * xln st 5 + s, st', n', fun out o1 o2 ho => ?_, by omega, q2, q3, ⟨by have := q4.1; omega, ?_⟩, m2.trans q5, m3.trans q6⟩
      · have ho' := q1 out (by omega) (by omega) (by
          rw [show wc + 1 + 1 + cc = wc + (2 + cc) by omega, show wn + 2 * xln st 5 + 2 * xln st 5 + s = wn + (2 * xln st 5 + 2 * xln st 5 + s) by omega]
          exact ho)
        have ho2 : fM_whole_b n 2 c y1 y2 0 0 0 (2 * xln st 5) (fun _ => 0) (2 * xln st 5) (fun _ => 0) st (wc + 1 + 1) (wn + 2 * xln st 5 + 2 * xln st 5) = some out := w1 out (by omega) (by omega) ho'
        rw [fM_whole_b, if_pos rfl, if_neg g1, h7, g2.2.2.1, i3_add, if_neg (by rw [show Int32.ofNat (xln st 5) = i3 (xln st 5) from rfl, i3_le (by omega) (by omega)]; exact hf), e2, if_neg (fun h => h.elim (i3_nn (by omega)) (by rw [i3_N (by omega)]; omega)), if_neg (fun h => h.elim (i3_nn (by omega)) (by rw [i3_N (by omega)]; omega)), i3_N (by omega), ho2]
        have x1 : xmo (fun a : Nat × Nat × Nat × Nat × xS => a.2.1) (fun a => a.2.2.1) (wc + 1 + 1) (wn + 2 * xln st 5 + 2 * xln st 5) (some out) = some out := xmo_some (by omega) (by omega)
        have x2 : xmo (fun a : Nat × Nat × Nat × Nat × xS => a.2.1) (fun a => a.2.2.1) (wc + 1) (wn + 2 * xln st 5) (some out) = some out := xmo_some (by omega) (by omega)
        rw [x1, x2]
        exact xmo_some (by omega) (by omega)
      · have := q4.2
        omega
theorem vDp_some {c : Nat} {v : VR} (h : vs[c - 1]? = some v) : vDp vs c = v.2.2.2.1 := by unfold vDp; rw [h]
theorem vWt_some {c : Nat} {v : VR} (h : vs[c - 1]? = some v) : vWt vs c = v.2.2.2.2.1 := by unfold vWt; rw [h]
theorem KP.wt {k : Nat} {p : NP} (h : KP vs k p) : vDp vs p.1 ≤ 60 ∧ kWt vs k p ≤ 120000 := by
  obtain ⟨⟨_, v, h1, h2, h3⟩, h4, _⟩ := h
  refine ⟨by rw [vDp_some h1]; exact h2, ?_⟩
  unfold kWt
  split
  · rename_i hk
    obtain ⟨_, u, u1, u2⟩ := h4 hk
    rw [vWt_some h1, vWt_some u1]
    omega
  · rw [vWt_some h1]
    omega
/-- how the making of a list ends -/
def wEnd (c x0 : Nat) (D W wc wn : Nat) (st : xS) : Nat × Nat × Nat × Nat × xS :=
  if 60 < D + 1 then (1, wc + 1, wn + 6, 0, xsP (xsI st 12 (i3 x0)) 4 (c - 1) (i3 (D + 1)))
  else if W ≤ 60000 then (0, wc, wn, c, xsP (xsP (xsI st 12 (i3 x0)) 4 (c - 1) (i3 (D + 1))) 5 (c - 1) (i3 W))
  else (1, wc + 1, wn + 6, 0, xsP (xsI st 12 (i3 x0)) 4 (c - 1) (i3 (D + 1)))
theorem wEnd_ge {c x0 D W wc wn : Nat} {st : xS} : wc ≤ (wEnd c x0 D W wc wn st).2.1 ∧ wn ≤ (wEnd c x0 D W wc wn st).2.2.1 := by
  unfold wEnd
  split
  · exact ⟨Nat.le_succ _, by show wn ≤ wn + 6; omega⟩
  · split
    · exact ⟨Nat.le_refl _, Nat.le_refl _⟩
    · exact ⟨Nat.le_succ _, by show wn ≤ wn + 6; omega⟩
theorem whole3 {c k : Nat} {W0 W1 : List NP} {vs0 : List VR} {ks0 : List NP} (hc1 : 1 ≤ c) (hcl : c ≤ vs.length) (hk7 : k < 8) (hKP : ∀ p ∈ W1, KP vs k p) (hb : ks0.length + W1.length ≤ bK) (hbw : W0.length + W1.length ≤ 2 * bK) {wc wn : Nat} : ∀ (W' U : List NP) (st : xS) (n D W : Nat), U ++ W' = W1 → MS st vs cs (ks0 ++ U) (W0 ++ W1) → ks0.length + W1.length ≤ xln st 5 → D ≤ 60 → W ≤ 1 + U.length * 120000 → W'.length < n → ∃ st' : xS, fM_whole_b n 3 c (i3 k) (i3 W0.length) (i3 D) (i3 (W0.length + U.length)) (cW (W : Nat)) 0 (fun _ => 0) 0 (fun _ => 0) st wc wn = some (wEnd c W0.length ((W'.map (fun p => vDp vs p.1)).foldl max D) (W + (W'.map (kWt vs k)).sum) wc wn st') ∧ MS st' vs cs (ks0 ++ W1) (W0 ++ W1) ∧ Fr0 st st' ∧ SK st st' ∧ pt st' = pt st := by
  have hbk : bK = 32000 := rfl
  intro W'
  induction W' with
  | nil =>
    intro U st n D W hU hM hln hD hW hn
    obtain ⟨n, rfl⟩ : ∃ j, n = j + 1 := ⟨n - 1, by omega⟩
    rw [List.append_nil] at hU
    subst hU
    have h12 := hM.1.1.2.2.2
    have r2 := hM.2.2.1
    refine ⟨st, ?_, hM, Fr0.refl, SK.refl, rfl⟩
    rw [List.map_nil, List.foldl_nil, List.map_nil, List.sum_nil, show W + 0 = W from rfl]
    have hW2 : U.length * 120000 ≤ 32000 * 120000 := Nat.mul_le_mul_right _ (by omega)
    rw [fM_whole_b, if_neg (by decide), if_neg (by decide), h12, List.length_append, if_pos (by rw [i3_le (by omega) (by omega)]; omega), if_neg (by omega), upd_eq, i3_one]
    have c60 : ((60 : Int32) < i3 (D + 1)) = (60 < D + 1) := by rw [show (60 : Int32) = i3 60 from rfl, i3_lt (by omega) (by omega)]
    have cW6 : (lg_cmp (cW (W : Nat)) 60000 ≤ 0) = (W ≤ 60000) := by
      rw [show (60000 : Int64) = cW 60000 from rfl, lg_cW (by omega) (by omega) (by omega) (by omega), izs_le0]
      exact propext (by omega)
    have lim : ∀ z : xS, ((fM_limit n z).bind fun o2 => (if o2.1 = 1 then xmo (fun a : Nat × Nat × Nat × Nat × xS => a.2.1) (fun a => a.2.2.1) (wc + o2.2.1) (wn + o2.2.2.1) (some (1, (wc + o2.2.1), (wn + o2.2.2.1), 0, z)) else none)) = some (1, wc + 1, wn + 6, 0, z) := fun z => by
      unfold fM_limit
      rw [Option.bind_some, if_pos rfl]
      exact xmo_some (Nat.le_refl _) (Nat.le_refl _)
    unfold wEnd
    by_cases hd : 60 < D + 1
    · rw [if_pos (c60 ▸ hd), if_pos hd, lim]
      exact xmo_some (Nat.le_succ _) (by show wn ≤ wn + 6; omega)
    · rw [if_neg (c60 ▸ hd), if_neg hd]
      by_cases hw : W ≤ 60000
      · rw [if_pos (cW6 ▸ hw), if_pos hw]
        have : (cW (W : Nat)).toInt32 = i3 W := cW_c
        rw [this]
        exact xmo_some (Nat.le_refl _) (Nat.le_refl _)
      · rw [if_neg (cW6 ▸ hw), if_neg hw, lim]
        exact xmo_some (Nat.le_succ _) (by show wn ≤ wn + 6; omega)
  | cons p W' ih =>
    intro U st n D W hU hM hln hD hW hn
    obtain ⟨n, rfl⟩ : ∃ j, n = j + 1 := ⟨n - 1, by omega⟩
    rw [List.length_cons] at hn
    have hUl : W1.length = U.length + (W'.length + 1) := by rw [← hU, List.length_append, List.length_cons]
    have hp := hKP p (by rw [← hU]; simp)
    obtain ⟨kd1, kw1⟩ := hp.wt
    have hp' := hp
    obtain ⟨⟨a1, v, av, ad, aw⟩, bn, bl⟩ := hp
    obtain ⟨g1, g2, g3⟩ := hM.vc a1 av
    have h12 := hM.1.1.2.2.2
    have h7 := hM.1.1.2.2.1
    have r2 := hM.2.2.1
    have r4 := hM.2.2.2.2.1
    have r5 := hM.2.2.2.2.2.1
    rw [List.length_append] at r4 r5 h7 h12
    obtain ⟨k10, k11⟩ := hM.1.2.2.2.2 (W0.length + U.length) p (by
      rw [List.getElem?_append_right (by omega), ← hU, List.getElem?_append_right (by omega), show W0.length + U.length - W0.length - U.length = 0 by omega]
      rfl)
    obtain ⟨m1, m2, m3⟩ := put_k hM (a := p.1) (b := p.2) (by omega) (by omega) (by rw [List.length_append]; omega)
    rw [List.append_assoc, List.length_append] at m1
    rw [List.length_append] at m2 m3
    have hW2 : U.length * 120000 ≤ 32000 * 120000 := Nat.mul_le_mul_right _ (by omega)
    obtain ⟨st', e1, q1, q2, q3, q4⟩ := ih (U ++ [p]) _ n (max D (vDp vs p.1)) (W + kWt vs k p) (by rw [← hU]; simp) m1 hln (by omega) (by rw [List.length_append, List.length_singleton, Nat.succ_mul]; omega) (by omega)
    refine ⟨st', ?_, q1, m2.trans q2, m3.trans q3, q4⟩
    have hmax : (if i3 D < i3 v.2.2.2.1 then i3 v.2.2.2.1 else i3 D) = i3 (max D (vDp vs p.1)) := by
      rw [vDp_some av]
      by_cases hh : D < v.2.2.2.1
      · rw [if_pos (by rw [i3_lt (by omega) (by omega)]; exact hh), Nat.max_eq_right (by omega)]
      · rw [if_neg (by rw [i3_lt (by omega) (by omega)]; exact hh), Nat.max_eq_left (by omega)]
    rw [List.length_append, List.length_singleton, ← Nat.add_assoc] at e1
    rw [List.map_cons, List.foldl_cons, List.map_cons, List.sum_cons, ← Nat.add_assoc]
    rw [fM_whole_b, if_neg (by decide), if_neg (by decide), h12, if_neg (by rw [i3_le (by omega) (by omega)]; omega), if_neg (i3_idx (by omega) (by omega)), i3_N (by omega), k10, k11, if_neg (by omega), h7, if_neg (i3_idx (by omega) (by omega)), if_neg (i3_id2 (by omega) (by omega)), if_neg (by omega), if_neg (i3_idx (by omega) (by omega)), if_neg (i3_id2 (by omega) (by omega)), if_neg g1, i3_N (by omega), g2.2.2.2.1, g2.2.2.2.2.1, hmax, i3_one, i3_one]
    by_cases hk : k = 6
    · obtain ⟨b1, u, bu, bw⟩ := bn hk
      obtain ⟨f1, f2, _⟩ := hM.vc b1 bu
      rw [if_pos (by rw [hk]; rfl), if_neg (i3_id2 (by omega) (by omega)), if_neg f1, if_neg (i3_id2 (by omega) (by omega)), f2.2.2.2.2.1, i3_add, i3_64 (by omega), cW_add]
      have hkw : kWt vs k p = v.2.2.2.2.1 + u.2.2.2.2.1 := by
        unfold kWt
        rw [if_pos hk, vWt_some av, vWt_some bu]
      rw [hkw] at e1 ⊢
      exact (congrArg (fun x => xmo (fun a : Nat × Nat × Nat × Nat × xS => a.2.1) (fun a => a.2.2.1) wc wn x) e1).trans (xmo_some wEnd_ge.1 wEnd_ge.2)
    · have z0 : i3 v.2.2.2.2.1 + 0 = i3 v.2.2.2.2.1 := i3_add _ 0
      rw [if_neg (by rw [show (6 : Int32) = i3 6 from rfl, i3_eq (by omega) (by omega)]; exact hk), if_neg (i3_id2 (by omega) (by omega)), z0, i3_64 (by omega), cW_add]
      have hkw : kWt vs k p = v.2.2.2.2.1 := by
        unfold kWt
        rw [if_neg hk, vWt_some av]
      rw [hkw] at e1 ⊢
      exact (congrArg (fun x => xmo (fun a : Nat × Nat × Nat × Nat × xS => a.2.1) (fun a => a.2.2.1) wc wn x) e1).trans (xmo_some wEnd_ge.1 wEnd_ge.2)
/-- a list of all that waits behind W0 -/
theorem whole_w {k : Nat} {W0 W1 : List NP} (hM : MS st vs cs ks (W0 ++ W1)) (hk7 : k < 8) (hKP : ∀ p ∈ W1, KP vs k p) (hbv : vs.length + 1 ≤ bV) (hb : ks.length + W1.length ≤ bK) (hn : 20 * bC < n) : ∃ (cc s : Nat) (st1 st2 : xS), fM_whole n st (i3 k) (i3 W0.length) = some (if (W1.map (fun p => vDp vs p.1)).foldl max 0 < 60 ∧ 1 + (W1.map (kWt vs k)).sum ≤ 60000 then (0, cc, s, vs.length + 1, st1) else (1, cc + 1, s + 6, 0, st2)) ∧ MS st1 (vs ++ [(k, ks.length, W1.length, (W1.map (fun p => vDp vs p.1)).foldl max 0 + 1, 1 + (W1.map (kWt vs k)).sum, 0)]) cs (ks ++ W1) W0 ∧ (∃ v, MS st2 (vs ++ [v]) cs (ks ++ W1) W0) ∧ Cost st st1 cc s ∧ Fr0 st st1 ∧ SK st st1 ∧ Cost st st2 cc s ∧ Fr0 st st2 ∧ SK st st2 := by
  have hbk : bK = 32000 := rfl
  have hbV : bV = 32000 := rfl
  have hbc : bC = 100000 := rfl
  have hcl := hM.cl
  obtain ⟨cc, s, st1, e1, m1, m2, m3, m4⟩ := fresh_w (n := n) hM k hbv (by omega)
  have hct := m1.2.2.1.1
  rw [List.length_append, List.length_singleton] at hct
  have h7 := m1.1.1.2.2.1
  have h12 := m1.1.1.2.2.2
  rw [List.length_append] at h12 hcl
  have hv := m1.1.2.1 vs.length _ (by rw [List.getElem?_append_right (Nat.le_refl _), Nat.sub_self]; rfl)
  obtain ⟨l1, l2, l3, l4⟩ := set_last m1 (st' := xsP (xsP st1 2 (vs.length + 1 - 1) (i3 ks.length)) 3 (vs.length + 1 - 1) (i3 W1.length)) (v := (k, ks.length, W1.length, 0, 1, 0)) (by
    rw [Nat.add_sub_cancel]
    obtain ⟨a0, a1, a2, a3, a4, a5⟩ := hv
    exact ⟨a0, upd_eq, upd_eq, a3, a4, a5⟩) (fun i x hi hx => by
    rw [Nat.add_sub_cancel]
    obtain ⟨a0, a1, a2, a3, a4, a5⟩ := hx
    have hne : i ≠ vs.length := by omega
    exact ⟨a0, (upd_ne hne).trans a1, (upd_ne hne).trans a2, a3, a4, a5⟩) rfl rfl rfl rfl rfl
  have hlen : (vs ++ [((k, ks.length, W1.length, 0, 1, 0) : VR)]).length = vs.length + 1 := by rw [List.length_append]; rfl
  have hpre : ∀ i, i < vs.length → (vs ++ [((k, ks.length, W1.length, 0, 1, 0) : VR)])[i]? = vs[i]? := fun i hi => List.getElem?_append_left hi
  have hKP' : ∀ p ∈ W1, KP (vs ++ [((k, ks.length, W1.length, 0, 1, 0) : VR)]) k p := fun p hp => by
    obtain ⟨⟨a1, v, av, ad, aw⟩, bn, bl⟩ := hKP p hp
    refine ⟨⟨a1, v, ?_, ad, aw⟩, fun hk => ?_, by omega⟩
    · rw [hpre _ (List.getElem?_eq_some_iff.mp av).1]
      exact av
    · obtain ⟨b1, u, bu, bw⟩ := bn hk
      refine ⟨b1, u, ?_, bw⟩
      rw [hpre _ (List.getElem?_eq_some_iff.mp bu).1]
      exact bu
  have hD : W1.map (fun p => vDp (vs ++ [((k, ks.length, W1.length, 0, 1, 0) : VR)]) p.1) = W1.map (fun p => vDp vs p.1) := List.map_congr_left (fun p hp => by
    obtain ⟨⟨a1, v, av, ad, aw⟩, bn, bl⟩ := hKP p hp
    rw [vDp_some av, vDp_some (by rw [hpre _ (List.getElem?_eq_some_iff.mp av).1]; exact av)])
  have hW : W1.map (kWt (vs ++ [((k, ks.length, W1.length, 0, 1, 0) : VR)]) k) = W1.map (kWt vs k) := List.map_congr_left (fun p hp => by
    obtain ⟨⟨a1, v, av, ad, aw⟩, bn, bl⟩ := hKP p hp
    unfold kWt
    have hva : vWt (vs ++ [((k, ks.length, W1.length, 0, 1, 0) : VR)]) p.1 = vWt vs p.1 := by rw [vWt_some av, vWt_some (by rw [hpre _ (List.getElem?_eq_some_iff.mp av).1]; exact av)]
    split
    · rename_i hk
      obtain ⟨b1, u, bu, bw⟩ := bn hk
      have hvb : vWt (vs ++ [((k, ks.length, W1.length, 0, 1, 0) : VR)]) p.2 = vWt vs p.2 := by rw [vWt_some bu, vWt_some (c := p.2) (by rw [hpre _ (List.getElem?_eq_some_iff.mp bu).1]; exact bu)]
      rw [hva, hvb]
    · exact hva)
  have hlast : (vs ++ [((k, ks.length, W1.length, 0, 1, 0) : VR)])[vs.length + 1 - 1]? = some (k, ks.length, W1.length, 0, 1, 0) := by
    rw [Nat.add_sub_cancel, List.getElem?_append_right (Nat.le_refl _), Nat.sub_self]
    rfl
  obtain ⟨cc2, s2, st2, n2, w1, w0, w2, w3, w4, w5, w6⟩ := whole1 (ws := W0 ++ W1) (cs := cs) (ks := ks) (c := vs.length + 1) (by omega) hlast (y1 := i3 k) (y2 := i3 W0.length) hb 10 _ n cc s 0 l1 (by
    have := l1.2.2.2.2.1.2.2.1
    show ks.length + W1.length ≤ xln _ 5 * 1024
    omega) (by omega)
  obtain ⟨st3, t1, t2, t3, t4, t5⟩ := whole3 (cs := cs) (ks0 := ks) (W0 := W0) (W1 := W1) (c := vs.length + 1) (k := k) (vs0 := []) (by omega) (by omega) hk7 hKP' hb (by omega) (wc := cc + cc2) (wn := s + s2) W1 [] st2 n2 0 1 rfl (by rw [List.append_nil]; exact w2) w3 (by omega) (by simp) (by omega)
  rw [hD, hW] at t1
  have t1' := w1 _ wEnd_ge.1 wEnd_ge.2 t1
  obtain ⟨c1, c2, c3⟩ := cut_w t2
  have c1v := c1.1.2.1
  have key : ∀ (x : xS) (v : VR), VRat x vs.length v → (∀ i y, i < vs.length → VRat (xsI st3 12 (i3 W0.length)) i y → VRat x i y) → x.1 = (xsI st3 12 (i3 W0.length)).1 → x.2.1 = (xsI st3 12 (i3 W0.length)).2.1 → x.2.2.1 = (xsI st3 12 (i3 W0.length)).2.2.1 → x.2.2.2.1 = (xsI st3 12 (i3 W0.length)).2.2.2.1 → x.2.2.2.2.2.2 = (xsI st3 12 (i3 W0.length)).2.2.2.2.2.2 → MS x (vs ++ [v]) cs (ks ++ W1) W0 ∧ Cost st x (cc + cc2) (s + s2) ∧ Fr0 st x ∧ SK st x := fun x v a1 a2 a3 a4 a5 a6 a7 => by
    obtain ⟨z1, z2, z3, z4⟩ := set_last c1 a1 a2 a3 a4 a5 a6 a7
    have zp : pt (xsI st3 12 (i3 W0.length)) = pt st3 := rfl
    refine ⟨z1, ⟨by have := m2.1; have := w4.1; omega, ?_⟩, (((m3.trans l2).trans (w5.trans t3)).trans c2).trans z2, (((m4.trans l3).trans (w6.trans t4)).trans c3).trans z3⟩
    have h1 := m2.2
    have h2 := w4.2
    omega
  have hvn := c1v vs.length _ (by rw [Nat.add_sub_cancel] at hlast; exact hlast)
  obtain ⟨a0, a1, a2, a3, a4, a5⟩ := hvn
  obtain ⟨x1, x2, x3, x4⟩ := key (xsP (xsP (xsI st3 12 (i3 W0.length)) 4 (vs.length + 1 - 1) (i3 ((W1.map (fun p => vDp vs p.1)).foldl max 0 + 1))) 5 (vs.length + 1 - 1) (i3 (1 + (W1.map (kWt vs k)).sum))) (k, ks.length, W1.length, (W1.map (fun p => vDp vs p.1)).foldl max 0 + 1, 1 + (W1.map (kWt vs k)).sum, 0) (by
    rw [Nat.add_sub_cancel]
    exact ⟨a0, a1, a2, upd_eq, upd_eq, a5⟩) (fun i x hi hx => by
    rw [Nat.add_sub_cancel]
    obtain ⟨b0, b1, b2, b3, b4, b5⟩ := hx
    have hne : i ≠ vs.length := by omega
    exact ⟨b0, b1, b2, (upd_ne hne).trans b3, (upd_ne hne).trans b4, b5⟩) rfl rfl rfl rfl rfl
  obtain ⟨u1, u2, u3, u4⟩ := key (xsP (xsI st3 12 (i3 W0.length)) 4 (vs.length + 1 - 1) (i3 ((W1.map (fun p => vDp vs p.1)).foldl max 0 + 1))) (k, ks.length, W1.length, (W1.map (fun p => vDp vs p.1)).foldl max 0 + 1, 1, 0) (by
    rw [Nat.add_sub_cancel]
    exact ⟨a0, a1, a2, upd_eq, a4, a5⟩) (fun i x hi hx => by
    rw [Nat.add_sub_cancel]
    obtain ⟨b0, b1, b2, b3, b4, b5⟩ := hx
    have hne : i ≠ vs.length := by omega
    exact ⟨b0, b1, b2, (upd_ne hne).trans b3, b4, b5⟩) rfl rfl rfl rfl rfl
  refine ⟨cc + cc2, s + s2, _, _, ?_, x1, ⟨_, u1⟩, x2, x3, x4, u2, u3, u4⟩
  unfold fM_whole
  rw [e1, Option.bind_some]
  dsimp only
  rw [if_neg (by omega), h7, h12, i3_sub (by omega), show W0.length + W1.length - W0.length = W1.length by omega, Nat.zero_add, Nat.zero_add, t1']
  unfold wEnd
  by_cases hd : (W1.map (fun p => vDp vs p.1)).foldl max 0 < 60
  · rw [if_neg (show ¬ 60 < (W1.map (fun p => vDp vs p.1)).foldl max 0 + 1 by omega)]
    by_cases hw : 1 + (W1.map (kWt vs k)).sum ≤ 60000
    · rw [if_pos hw, if_pos ⟨hd, hw⟩]
      exact xmo_some (by show cc ≤ cc + cc2; omega) (by show s ≤ s + s2; omega)
    · rw [if_neg hw, if_neg (fun h => hw h.2)]
      exact xmo_some (by show cc ≤ cc + cc2 + 1; omega) (by show s ≤ s + s2 + 6; omega)
  · rw [if_pos (show 60 < (W1.map (fun p => vDp vs p.1)).foldl max 0 + 1 by omega), if_neg (fun h => hd h.1)]
    exact xmo_some (by show cc ≤ cc + cc2 + 1; omega) (by show s ≤ s + s2 + 6; omega)
end RD2
end ZRefd50
