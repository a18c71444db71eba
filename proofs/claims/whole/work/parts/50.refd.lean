/-! ===== the reference: lists are made whole ===== -/
def vDp (vs : List VR) (c : Nat) : Nat := match vs[c - 1]? with
  | some v => v.2.2.2.1
  | none => 0
def vWt (vs : List VR) (c : Nat) : Nat := match vs[c - 1]? with
  | some v => v.2.2.2.2.1
  | none => 0
def kWt (vs : List VR) (k : Nat) (p : NP) : Nat := if k = 6 then vWt vs p.1 + vWt vs p.2 else vWt vs p.1
/-- what waits is sound -/
def KP (vs : List VR) (k : Nat) (p : NP) : Prop := (1 ≤ p.1 ∧ ∃ v, vs[p.1 - 1]? = some v ∧ v.2.2.2.1 ≤ 60 ∧ v.2.2.2.2.1 ≤ 60000) ∧ (k = 6 → 1 ≤ p.2 ∧ ∃ v, vs[p.2 - 1]? = some v ∧ v.2.2.2.2.1 ≤ 60000) ∧ p.2 ≤ vs.length
section RD2
variable {st : xS} {vs : List VR} {cs : List Nat} {ks ws : List NP} {n : Nat}
theorem put_k (hM : MS st vs cs ks ws) {a b : Nat} (ha : a ≤ xct st) (hb : b ≤ xct st) (hr : ks.length < xln st 5) : MS (xsI (xsC (xsC st 5 ks.length a) 6 ks.length b) 7 (i3 (ks.length + 1))) vs cs (ks ++ [(a, b)]) ws ∧ Fr0 st (xsI (xsC (xsC st 5 ks.length a) 6 ks.length b) 7 (i3 (ks.length + 1))) ∧ SK st (xsI (xsC (xsC st 5 ks.length a) 6 ks.length b) 7 (i3 (ks.length + 1))) := by
  obtain ⟨⟨⟨h1, h2, h3, h4⟩, h5, h6, h7, h8⟩, r1, r2, r3, r4, r5, r6, r7⟩ := hM
  refine ⟨⟨⟨⟨h1, h2, ?_, h4⟩, h5, h6, fun i x hx => ?_, h8⟩, r1, r2, r3, ⟨?_, r4.2⟩, r5, fun i => ?_, r7⟩, ⟨fun k _ _ k3 _ => up_ne k3, fun k _ _ _ _ _ _ => ⟨rfl, rfl⟩⟩, SK.same rfl rfl rfl rfl (fun _ _ => ⟨rfl, rfl⟩) rfl⟩
  · rw [List.length_append]
    rfl
  · show va_up (xvc st 5) ks.length a i = x.1 ∧ va_up (xvc st 6) ks.length b i = x.2
    rcases get_snoc hx with ⟨h, hi⟩ | ⟨rfl, rfl⟩
    · rw [up_ne (by omega), up_ne (by omega)]
      exact h7 i x h
    · exact ⟨up_eq, up_eq⟩
  · rw [List.length_append]
    exact hr
  · obtain ⟨b1, b2, b3, b4, b5⟩ := r6 i
    refine ⟨b1, ?_, ?_, b4, b5⟩
    · show va_up (xvc st 5) ks.length a i ≤ xct st
      by_cases hi : i = ks.length
      · rw [hi, up_eq]; exact ha
      · rw [up_ne hi]; exact b2
    · show va_up (xvc st 6) ks.length b i ≤ xct st
      by_cases hi : i = ks.length
      · rw [hi, up_eq]; exact hb
      · rw [up_ne hi]; exact b3
theorem cut_w {W0 W1 : List NP} (hM : MS st vs cs ks (W0 ++ W1)) : MS (xsI st 12 (i3 W0.length)) vs cs ks W0 ∧ Fr0 st (xsI st 12 (i3 W0.length)) ∧ SK st (xsI st 12 (i3 W0.length)) := by
  obtain ⟨⟨⟨h1, h2, h3, h4⟩, h5, h6, h7, h8⟩, r1, r2, r3, r4, r5, r6, r7⟩ := hM
  refine ⟨⟨⟨⟨h1, h2, h3, rfl⟩, h5, h6, h7, fun i x hx => h8 i x ?_⟩, r1, r2, r3, r4, ⟨?_, r5.2⟩, r6, r7⟩, ⟨fun k _ _ _ k4 => up_ne k4, fun k _ _ _ _ _ _ => ⟨rfl, rfl⟩⟩, SK.same rfl rfl rfl rfl (fun _ _ => ⟨rfl, rfl⟩) rfl⟩
  · rw [List.getElem?_append_left (List.getElem?_eq_some_iff.mp hx).1]
    exact hx
  · have := r5.1
    rw [List.length_append] at this
    show W0.length ≤ xln st 10
    omega
theorem grow_k (hM : MS st vs cs ks ws) {m : Nat} {f g : Nat → Nat} (hm : xln st 5 ≤ m) (hm2 : m ≤ 2 * bK) (hf : ∀ i, i < ks.length → f i = xvc st 5 i ∧ g i = xvc st 6 i) (hf2 : ∀ i, f i ≤ xct st ∧ g i ≤ xct st) : MS (xsH (xsH st 5 m f) 6 m g) vs cs ks ws ∧ Fr0 st (xsH (xsH st 5 m f) 6 m g) ∧ SK st (xsH (xsH st 5 m f) 6 m g) ∧ pt (xsH (xsH st 5 m f) 6 m g) + 4 * xln st 5 = pt st + 4 * m := by
  obtain ⟨⟨⟨h1, h2, h3, h4⟩, h5, h6, h7, h8⟩, r1, r2, r3, r4, r5, r6, r7⟩ := hM
  refine ⟨⟨⟨⟨h1, h2, h3, h4⟩, h5, h6, fun i x hx => ?_, h8⟩, r1, r2, r3, ?_, r5, fun i => ?_, r7⟩, ⟨fun k k1 _ _ _ => rfl, fun k _ _ k3 k4 _ _ => ⟨(up_ne k4).trans (up_ne k3), rfl⟩⟩, SK.same rfl rfl rfl rfl (fun k hk => ⟨(up_ne (by omega)).trans (up_ne (by omega)), rfl⟩) rfl, ?_⟩
  · show f i = x.1 ∧ g i = x.2
    obtain ⟨f1, f2⟩ := hf i (List.getElem?_eq_some_iff.mp hx).1
    rw [f1, f2]
    exact h7 i x hx
  · show ks.length ≤ m ∧ m = m ∧ 64 ≤ m ∧ m ≤ 2 * bK
    omega
  · obtain ⟨b1, b2, b3, b4, b5⟩ := r6 i
    exact ⟨b1, (hf2 i).1, (hf2 i).2, b4, b5⟩
  · show 2 * (xln st 1 + xln st 3 + m + m + xln st 10 + xln st 11 + xln st 13 + xln st 14 + xln st 21) + 6 * xct st + 4 * xln st 5 = pt st + 4 * m
    unfold pt
    omega
theorem xmo_id {α : Type} {f g : α → Nat} {c s : Nat} {o : Option α} (h : ∀ a, o = some a → c ≤ f a ∧ s ≤ g a) : xmo f g c s o = o := by
  cases o with
  | none => rfl
  | some a => exact xmo_some (h a rfl).1 (h a rfl).2
/-- copying to longer rows -/
theorem whole2 (hM : MS st vs cs ks ws) {c : Nat} {y1 y2 : Int32} {m wc wn : Nat} (hm : ks.length < m) (hm2 : m ≤ 2 * bK) : ∀ (q n i : Nat) (f g : Nat → Nat), i + q = ks.length → q < n → (∀ k, k < i → f k = xvc st 5 k ∧ g k = xvc st 6 k) → (∀ k, f k ≤ xct st ∧ g k ≤ xct st) → ∃ (f' g' : Nat → Nat) (n' : Nat) (y : Int32), (∀ out : Nat × Nat × Nat × Nat × xS, wc ≤ out.2.1 → wn ≤ out.2.2.1 → fM_whole_b n' 1 c y1 y2 y 0 0 0 (fun _ => 0) 0 (fun _ => 0) (xsH (xsH st 5 m f') 6 m g') wc wn = some out → fM_whole_b n 2 c y1 y2 (i3 i) 0 0 m f m g st wc wn = some out) ∧ n = n' + q + 1 ∧ (∀ k, k < ks.length → f' k = xvc st 5 k ∧ g' k = xvc st 6 k) ∧ (∀ k, f' k ≤ xct st ∧ g' k ≤ xct st) := by
  have hcl := hM.cl.2.2.1
  have hbk : bK = 32000 := rfl
  have h7 := hM.1.1.2.2.1
  have r4 := hM.2.2.2.2.1
  have r6 := hM.2.2.2.2.2.2.1
  intro q
  induction q with
  | zero =>
    intro n i f g hi hn hfg hle
    obtain ⟨n, rfl⟩ : ∃ j, n = j + 1 := ⟨n - 1, by omega⟩
    obtain rfl : i = ks.length := by omega
    refine ⟨f, g, n, i3 ks.length, fun out o1 o2 ho => ?_, by omega, hfg, hle⟩
    rw [fM_whole_b, if_neg (by decide), if_pos rfl, h7, if_pos (by rw [i3_le (by omega) (by omega)]; omega), ho]
    exact xmo_some o1 o2
  | succ q ih =>
    intro n i f g hi hn hfg hle
    obtain ⟨n, rfl⟩ : ∃ j, n = j + 1 := ⟨n - 1, by omega⟩
    obtain ⟨_, b2, b3, _, _⟩ := r6 i
    obtain ⟨f', g', n', y, e1, e0, e2, e3⟩ := ih n (i + 1) (va_up f i (xvc st 5 i)) (va_up g i (xvc st 6 i)) (by omega) (by omega) (fun k hk => by
      by_cases hk' : k = i
      · rw [hk', up_eq, up_eq]
        exact ⟨rfl, rfl⟩
      · rw [up_ne hk', up_ne hk']
        exact hfg k (by omega)) (fun k => by
      by_cases hk' : k = i
      · rw [hk', up_eq, up_eq]
        exact ⟨b2, b3⟩
      · rw [up_ne hk', up_ne hk']
        exact hle k)
    refine ⟨f', g', n', y, fun out o1 o2 ho => ?_, by omega, e2, e3⟩
    rw [fM_whole_b, if_neg (by decide), if_pos rfl, h7, if_neg (by rw [i3_le (by omega) (by omega)]; omega), if_neg (i3_idx (by omega) (by omega)), i3_N (by omega), if_neg (by omega), if_neg (i3_id2 (by omega) (by omega)), if_neg (i3_id2 (by omega) (by omega)), if_neg (by omega), if_neg (i3_id2 (by omega) (by omega)), i3_one, e1 out o1 o2 ho]
    exact xmo_some o1 o2
/-- rows long enough for all that waits -/
theorem whole1 {c : Nat} {v : VR} (h1 : 1 ≤ c) (hv : vs[c - 1]? = some v) {y1 y2 : Int32} (hb : ks.length + v.2.2.1 ≤ bK) : ∀ (gd : Nat) (st : xS) (n wc wn : Nat) (y : Int32), MS st vs cs ks ws → ks.length + v.2.2.1 ≤ xln st 5 * 2 ^ gd → (gd + 1) * (ks.length + 2) < n → ∃ (cc s : Nat) (st' : xS) (n' : Nat), (∀ out : Nat × Nat × Nat × Nat × xS, wc + cc ≤ out.2.1 → wn + s ≤ out.2.2.1 → fM_whole_b n' 3 c y1 y2 0 y2 1 0 (fun _ => 0) 0 (fun _ => 0) st' (wc + cc) (wn + s) = some out → fM_whole_b n 1 c y1 y2 y 0 0 0 (fun _ => 0) 0 (fun _ => 0) st wc wn = some out) ∧ n ≤ n' + (gd + 1) * (ks.length + 2) ∧ MS st' vs cs ks ws ∧ ks.length + v.2.2.1 ≤ xln st' 5 ∧ Cost st st' cc s ∧ Fr0 st st' ∧ SK st st' := by
  have hbk : bK = 32000 := rfl
  intro gd
  induction gd with
  | zero =>
    intro st n wc wn y hM hln hn
    obtain ⟨n, rfl⟩ : ∃ j, n = j + 1 := ⟨n - 1, by omega⟩
    have h7 := hM.1.1.2.2.1
    have r4 := hM.2.2.2.2.1
    obtain ⟨g1, g2, _⟩ := hM.vc h1 hv
    rw [Nat.pow_zero, Nat.mul_one] at hln
    refine ⟨0, 0, st, n, fun out o1 o2 ho => ?_, by omega, hM, hln, Cost.refl, Fr0.refl, SK.refl⟩
    rw [fM_whole_b, if_pos rfl, if_neg g1, h7, g2.2.2.1, i3_add, if_pos (by rw [show Int32.ofNat (xln st 5) = i3 (xln st 5) from rfl, i3_le (by omega) (by omega)]; exact hln)]
    exact (congrArg (fun x => xmo (fun a : Nat × Nat × Nat × Nat × xS => a.2.1) (fun a => a.2.2.1) wc wn x) ho).trans (xmo_some (by omega) (by omega))
  | succ gd ih =>
    intro st n wc wn y hM hln hn
    obtain ⟨n, rfl⟩ : ∃ j, n = j + 1 := ⟨n - 1, by omega⟩
    have h7 := hM.1.1.2.2.1
    have r4 := hM.2.2.2.2.1
    obtain ⟨g1, g2, _⟩ := hM.vc h1 hv
    have hmul : (gd + 1 + 1) * (ks.length + 2) = (gd + 1) * (ks.length + 2) + (ks.length + 2) := Nat.succ_mul _ _
    by_cases hf : ks.length + v.2.2.1 ≤ xln st 5
    · refine ⟨0, 0, st, n, fun out o1 o2 ho => ?_, by omega, hM, hf, Cost.refl, Fr0.refl, SK.refl⟩
      rw [fM_whole_b, if_pos rfl, if_neg g1, h7, g2.2.2.1, i3_add, if_pos (by rw [show Int32.ofNat (xln st 5) = i3 (xln st 5) from rfl, i3_le (by omega) (by omega)]; exact hf)]
      exact (congrArg (fun x => xmo (fun a : Nat × Nat × Nat × Nat × xS => a.2.1) (fun a => a.2.2.1) wc wn x) ho).trans (xmo_some (by omega) (by omega))
    · have e2 : (2 : Int32) * Int32.ofNat (xln st 5) = i3 (2 * xln st 5) := i3_mul 2 (xln st 5)
      obtain ⟨f, g, n1, y', w1, w0, w2, w3⟩ := whole2 hM (c := c) (y1 := y1) (y2 := y2) (m := 2 * xln st 5) (wc := wc + 1 + 1) (wn := wn + 2 * xln st 5 + 2 * xln st 5) (by omega) (by omega) ks.length n 0 (fun _ => 0) (fun _ => 0) (by omega) (by omega) (fun k hk => absurd hk (by omega)) (fun k => ⟨Nat.zero_le _, Nat.zero_le _⟩)
      obtain ⟨m1, m2, m3, m4⟩ := grow_k hM (m := 2 * xln st 5) (f := f) (g := g) (by omega) (by omega) w2 w3
      obtain ⟨cc, s, st', n', q1, q0, q2, q3, q4, q5, q6⟩ := ih (xsH (xsH st 5 (2 * xln st 5) f) 6 (2 * xln st 5) g) n1 (wc + 1 + 1) (wn + 2 * xln st 5 + 2 * xln st 5) y' m1 (by
        show ks.length + v.2.2.1 ≤ 2 * xln st 5 * 2 ^ gd
        rw [Nat.pow_succ, Nat.mul_comm (2 ^ gd) 2, ← Nat.mul_assoc, Nat.mul_comm (xln st 5) 2] at hln
        exact hln) (by omega)
      refine ⟨2 + cc, 2 * xln st 5 + 2 * xln st 5 + s, st', n', fun out o1 o2 ho => ?_, by omega, q2, q3, ⟨by have := q4.1; omega, ?_⟩, m2.trans q5, m3.trans q6⟩
      · have ho' := q1 out (by omega) (by omega) (by
          rw [show wc + 1 + 1 + cc = wc + (2 + cc) by omega, show wn + 2 * xln st 5 + 2 * xln st 5 + s = wn + (2 * xln st 5 + 2 * xln st 5 + s) by omega]
          exact ho)
        have ho2 : fM_whole_b n 2 c y1 y2 0 0 0 (2 * xln st 5) (fun _ => 0) (2 * xln st 5) (fun _ => 0) st (wc + 1 + 1) (wn + 2 * xln st 5 + 2 * xln st 5) = some out := w1 out (by omega) (by omega) ho'
        rw [fM_whole_b, if_pos rfl, if_neg g1, h7, g2.2.2.1, i3_add, if_neg (by rw [show Int32.ofNat (xln st 5) = i3 (xln st 5) from rfl, i3_le (by omega) (by omega)]; exact hf), e2, if_neg (fun h => h.elim (i3_nn (by omega)) (by rw [i3_N (by omega)]; omega)), if_neg (fun h => h.elim (i3_nn (by omega)) (by rw [i3_N (by omega)]; omega)), i3_N (by omega), ho2]
        have x1 : xmo (fun a : Nat × Nat × Nat × Nat × xS => a.2.1) (fun a => a.2.2.1) (wc + 1 + 1) (wn + 2 * xln st 5 + 2 * xln st 5) (some out) = some out := xmo_some (by omega) (by omega)
        have x2 : xmo (fun a : Nat × Nat × Nat × Nat × xS => a.2.1) (fun a => a.2.2.1) (wc + 1) (wn + 2 * xln st 5) (some out) = some out := xmo_some (by omega) (by omega)
        rw [x1, x2]
        exact xmo_some (by omega) (by omega)
      · have := q4.2
        omega
theorem vDp_some {c : Nat} {v : VR} (h : vs[c - 1]? = some v) : vDp vs c = v.2.2.2.1 := by unfold vDp; rw [h]
theorem vWt_some {c : Nat} {v : VR} (h : vs[c - 1]? = some v) : vWt vs c = v.2.2.2.2.1 := by unfold vWt; rw [h]
theorem KP.wt {k : Nat} {p : NP} (h : KP vs k p) : vDp vs p.1 ≤ 60 ∧ kWt vs k p ≤ 120000 := by
  obtain ⟨⟨_, v, h1, h2, h3⟩, h4, _⟩ := h
  refine ⟨by rw [vDp_some h1]; exact h2, ?_⟩
  unfold kWt
  split
  · rename_i hk
    obtain ⟨_, u, u1, u2⟩ := h4 hk
    rw [vWt_some h1, vWt_some u1]
    omega
  · rw [vWt_some h1]
    omega
/-- how the making of a list ends -/
def wEnd (c x0 : Nat) (D W wc wn : Nat) (st : xS) : Nat × Nat × Nat × Nat × xS :=
  if 60 < D + 1 then (1, wc + 1, wn + 6, 0, xsP (xsI st 12 (i3 x0)) 4 (c - 1) (i3 (D + 1)))
  else if W ≤ 60000 then (0, wc, wn, c, xsP (xsP (xsI st 12 (i3 x0)) 4 (c - 1) (i3 (D + 1))) 5 (c - 1) (i3 W))
  else (1, wc + 1, wn + 6, 0, xsP (xsI st 12 (i3 x0)) 4 (c - 1) (i3 (D + 1)))
theorem wEnd_ge {c x0 D W wc wn : Nat} {st : xS} : wc ≤ (wEnd c x0 D W wc wn st).2.1 ∧ wn ≤ (wEnd c x0 D W wc wn st).2.2.1 := by
  unfold wEnd
  split
  · exact ⟨Nat.le_succ _, by show wn ≤ wn + 6; omega⟩
  · split
    · exact ⟨Nat.le_refl _, Nat.le_refl _⟩
    · exact ⟨Nat.le_succ _, by show wn ≤ wn + 6; omega⟩
theorem whole3 {c k : Nat} {W0 W1 : List NP} {vs0 : List VR} {ks0 : List NP} (hc1 : 1 ≤ c) (hcl : c ≤ vs.length) (hk7 : k < 8) (hKP : ∀ p ∈ W1, KP vs k p) (hb : ks0.length + W1.length ≤ bK) (hbw : W0.length + W1.length ≤ 2 * bK) {wc wn : Nat} : ∀ (W' U : List NP) (st : xS) (n D W : Nat), U ++ W' = W1 → MS st vs cs (ks0 ++ U) (W0 ++ W1) → ks0.length + W1.length ≤ xln st 5 → D ≤ 60 → W ≤ 1 + U.length * 120000 → W'.length < n → ∃ st' : xS, fM_whole_b n 3 c (i3 k) (i3 W0.length) (i3 D) (i3 (W0.length + U.length)) (cW (W : Nat)) 0 (fun _ => 0) 0 (fun _ => 0) st wc wn = some (wEnd c W0.length ((W'.map (fun p => vDp vs p.1)).foldl max D) (W + (W'.map (kWt vs k)).sum) wc wn st') ∧ MS st' vs cs (ks0 ++ W1) (W0 ++ W1) ∧ Fr0 st st' ∧ SK st st' ∧ pt st' = pt st := by
  have hbk : bK = 32000 := rfl
  intro W'
  induction W' with
  | nil =>
    intro U st n D W hU hM hln hD hW hn
    obtain ⟨n, rfl⟩ : ∃ j, n = j + 1 := ⟨n - 1, by omega⟩
    rw [List.append_nil] at hU
    subst hU
    have h12 := hM.1.1.2.2.2
    have r2 := hM.2.2.1
    refine ⟨st, ?_, hM, Fr0.refl, SK.refl, rfl⟩
    rw [List.map_nil, List.foldl_nil, List.map_nil, List.sum_nil, show W + 0 = W from rfl]
    have hW2 : U.length * 120000 ≤ 32000 * 120000 := Nat.mul_le_mul_right _ (by omega)
    rw [fM_whole_b, if_neg (by decide), if_neg (by decide), h12, List.length_append, if_pos (by rw [i3_le (by omega) (by omega)]; omega), if_neg (by omega), upd_eq, i3_one]
    have c60 : ((60 : Int32) < i3 (D + 1)) = (60 < D + 1) := by rw [show (60 : Int32) = i3 60 from rfl, i3_lt (by omega) (by omega)]
    have cW6 : (lg_cmp (cW (W : Nat)) 60000 ≤ 0) = (W ≤ 60000) := by
      rw [show (60000 : Int64) = cW 60000 from rfl, lg_cW (by omega) (by omega) (by omega) (by omega), izs_le0]
      exact propext (by omega)
    have lim : ∀ z : xS, ((fM_limit n z).bind fun o2 => (if o2.1 = 1 then xmo (fun a : Nat × Nat × Nat × Nat × xS => a.2.1) (fun a => a.2.2.1) (wc + o2.2.1) (wn + o2.2.2.1) (some (1, (wc + o2.2.1), (wn + o2.2.2.1), 0, z)) else none)) = some (1, wc + 1, wn + 6, 0, z) := fun z => by
      unfold fM_limit
      rw [Option.bind_some, if_pos rfl]
      exact xmo_some (Nat.le_refl _) (Nat.le_refl _)
    unfold wEnd
    by_cases hd : 60 < D + 1
    · rw [if_pos (c60 ▸ hd), if_pos hd, lim]
      exact xmo_some (Nat.le_succ _) (by show wn ≤ wn + 6; omega)
    · rw [if_neg (c60 ▸ hd), if_neg hd]
      by_cases hw : W ≤ 60000
      · rw [if_pos (cW6 ▸ hw), if_pos hw]
        have : (cW (W : Nat)).toInt32 = i3 W := cW_c
        rw [this]
        exact xmo_some (Nat.le_refl _) (Nat.le_refl _)
      · rw [if_neg (cW6 ▸ hw), if_neg hw, lim]
        exact xmo_some (Nat.le_succ _) (by show wn ≤ wn + 6; omega)
  | cons p W' ih =>
    intro U st n D W hU hM hln hD hW hn
    obtain ⟨n, rfl⟩ : ∃ j, n = j + 1 := ⟨n - 1, by omega⟩
    rw [List.length_cons] at hn
    have hUl : W1.length = U.length + (W'.length + 1) := by rw [← hU, List.length_append, List.length_cons]
    have hp := hKP p (by rw [← hU]; simp)
    obtain ⟨kd1, kw1⟩ := hp.wt
    have hp' := hp
    obtain ⟨⟨a1, v, av, ad, aw⟩, bn, bl⟩ := hp
    obtain ⟨g1, g2, g3⟩ := hM.vc a1 av
    have h12 := hM.1.1.2.2.2
    have h7 := hM.1.1.2.2.1
    have r2 := hM.2.2.1
    have r4 := hM.2.2.2.2.1
    have r5 := hM.2.2.2.2.2.1
    rw [List.length_append] at r4 r5 h7 h12
    obtain ⟨k10, k11⟩ := hM.1.2.2.2.2 (W0.length + U.length) p (by
      rw [List.getElem?_append_right (by omega), ← hU, List.getElem?_append_right (by omega), show W0.length + U.length - W0.length - U.length = 0 by omega]
      rfl)
    obtain ⟨m1, m2, m3⟩ := put_k hM (a := p.1) (b := p.2) (by omega) (by omega) (by rw [List.length_append]; omega)
    rw [List.append_assoc, List.length_append] at m1
    rw [List.length_append] at m2 m3
    have hW2 : U.length * 120000 ≤ 32000 * 120000 := Nat.mul_le_mul_right _ (by omega)
    obtain ⟨st', e1, q1, q2, q3, q4⟩ := ih (U ++ [p]) _ n (max D (vDp vs p.1)) (W + kWt vs k p) (by rw [← hU]; simp) m1 hln (by omega) (by rw [List.length_append, List.length_singleton, Nat.succ_mul]; omega) (by omega)
    refine ⟨st', ?_, q1, m2.trans q2, m3.trans q3, q4⟩
    have hmax : (if i3 D < i3 v.2.2.2.1 then i3 v.2.2.2.1 else i3 D) = i3 (max D (vDp vs p.1)) := by
      rw [vDp_some av]
      by_cases hh : D < v.2.2.2.1
      · rw [if_pos (by rw [i3_lt (by omega) (by omega)]; exact hh), Nat.max_eq_right (by omega)]
      · rw [if_neg (by rw [i3_lt (by omega) (by omega)]; exact hh), Nat.max_eq_left (by omega)]
    rw [List.length_append, List.length_singleton, ← Nat.add_assoc] at e1
    rw [List.map_cons, List.foldl_cons, List.map_cons, List.sum_cons, ← Nat.add_assoc]
    rw [fM_whole_b, if_neg (by decide), if_neg (by decide), h12, if_neg (by rw [i3_le (by omega) (by omega)]; omega), if_neg (i3_idx (by omega) (by omega)), i3_N (by omega), k10, k11, if_neg (by omega), h7, if_neg (i3_idx (by omega) (by omega)), if_neg (i3_id2 (by omega) (by omega)), if_neg (by omega), if_neg (i3_idx (by omega) (by omega)), if_neg (i3_id2 (by omega) (by omega)), if_neg g1, i3_N (by omega), g2.2.2.2.1, g2.2.2.2.2.1, hmax, i3_one, i3_one]
    by_cases hk : k = 6
    · obtain ⟨b1, u, bu, bw⟩ := bn hk
      obtain ⟨f1, f2, _⟩ := hM.vc b1 bu
      rw [if_pos (by rw [hk]; rfl), if_neg (i3_id2 (by omega) (by omega)), if_neg f1, if_neg (i3_id2 (by omega) (by omega)), f2.2.2.2.2.1, i3_add, i3_64 (by omega), cW_add]
      have hkw : kWt vs k p = v.2.2.2.2.1 + u.2.2.2.2.1 := by
        unfold kWt
        rw [if_pos hk, vWt_some av, vWt_some bu]
      rw [hkw] at e1 ⊢
      exact (congrArg (fun x => xmo (fun a : Nat × Nat × Nat × Nat × xS => a.2.1) (fun a => a.2.2.1) wc wn x) e1).trans (xmo_some wEnd_ge.1 wEnd_ge.2)
    · have z0 : i3 v.2.2.2.2.1 + 0 = i3 v.2.2.2.2.1 := i3_add _ 0
      rw [if_neg (by rw [show (6 : Int32) = i3 6 from rfl, i3_eq (by omega) (by omega)]; exact hk), if_neg (i3_id2 (by omega) (by omega)), z0, i3_64 (by omega), cW_add]
      have hkw : kWt vs k p = v.2.2.2.2.1 := by
        unfold kWt
        rw [if_neg hk, vWt_some av]
      rw [hkw] at e1 ⊢
      exact (congrArg (fun x => xmo (fun a : Nat × Nat × Nat × Nat × xS => a.2.1) (fun a => a.2.2.1) wc wn x) e1).trans (xmo_some wEnd_ge.1 wEnd_ge.2)
/-- a list of all that waits behind W0 -/
theorem whole_w {k : Nat} {W0 W1 : List NP} (hM : MS st vs cs ks (W0 ++ W1)) (hk7 : k < 8) (hKP : ∀ p ∈ W1, KP vs k p) (hbv : vs.length + 1 ≤ bV) (hb : ks.length + W1.length ≤ bK) (hn : 20 * bC < n) : ∃ (cc s : Nat) (st1 st2 : xS), fM_whole n st (i3 k) (i3 W0.length) = some (if (W1.map (fun p => vDp vs p.1)).foldl max 0 < 60 ∧ 1 + (W1.map (kWt vs k)).sum ≤ 60000 then (0, cc, s, vs.length + 1, st1) else (1, cc + 1, s + 6, 0, st2)) ∧ MS st1 (vs ++ [(k, ks.length, W1.length, (W1.map (fun p => vDp vs p.1)).foldl max 0 + 1, 1 + (W1.map (kWt vs k)).sum, 0)]) cs (ks ++ W1) W0 ∧ (∃ v, MS st2 (vs ++ [v]) cs (ks ++ W1) W0) ∧ Cost st st1 cc s ∧ Fr0 st st1 ∧ SK st st1 ∧ Cost st st2 cc s ∧ Fr0 st st2 ∧ SK st st2 := by
  have hbk : bK = 32000 := rfl
  have hbV : bV = 32000 := rfl
  have hbc : bC = 100000 := rfl
  have hcl := hM.cl
  obtain ⟨cc, s, st1, e1, m1, m2, m3, m4⟩ := fresh_w (n := n) hM k hbv (by omega)
  have hct := m1.2.2.1.1
  rw [List.length_append, List.length_singleton] at hct
  have h7 := m1.1.1.2.2.1
  have h12 := m1.1.1.2.2.2
  rw [List.length_append] at h12 hcl
  have hv := m1.1.2.1 vs.length _ (by rw [List.getElem?_append_right (Nat.le_refl _), Nat.sub_self]; rfl)
  obtain ⟨l1, l2, l3, l4⟩ := set_last m1 (st' := xsP (xsP st1 2 (vs.length + 1 - 1) (i3 ks.length)) 3 (vs.length + 1 - 1) (i3 W1.length)) (v := (k, ks.length, W1.length, 0, 1, 0)) (by
    rw [Nat.add_sub_cancel]
    obtain ⟨a0, a1, a2, a3, a4, a5⟩ := hv
    exact ⟨a0, upd_eq, upd_eq, a3, a4, a5⟩) (fun i x hi hx => by
    rw [Nat.add_sub_cancel]
    obtain ⟨a0, a1, a2, a3, a4, a5⟩ := hx
    have hne : i ≠ vs.length := by omega
    exact ⟨a0, (upd_ne hne).trans a1, (upd_ne hne).trans a2, a3, a4, a5⟩) rfl rfl rfl rfl rfl
  have hlen : (vs ++ [((k, ks.length, W1.length, 0, 1, 0) : VR)]).length = vs.length + 1 := by rw [List.length_append]; rfl
  have hpre : ∀ i, i < vs.length → (vs ++ [((k, ks.length, W1.length, 0, 1, 0) : VR)])[i]? = vs[i]? := fun i hi => List.getElem?_append_left hi
  have hKP' : ∀ p ∈ W1, KP (vs ++ [((k, ks.length, W1.length, 0, 1, 0) : VR)]) k p := fun p hp => by
    obtain ⟨⟨a1, v, av, ad, aw⟩, bn, bl⟩ := hKP p hp
    refine ⟨⟨a1, v, ?_, ad, aw⟩, fun hk => ?_, by omega⟩
    · rw [hpre _ (List.getElem?_eq_some_iff.mp av).1]
      exact av
    · obtain ⟨b1, u, bu, bw⟩ := bn hk
      refine ⟨b1, u, ?_, bw⟩
      rw [hpre _ (List.getElem?_eq_some_iff.mp bu).1]
      exact bu
  have hD : W1.map (fun p => vDp (vs ++ [((k, ks.length, W1.length, 0, 1, 0) : VR)]) p.1) = W1.map (fun p => vDp vs p.1) := List.map_congr_left (fun p hp => by
    obtain ⟨⟨a1, v, av, ad, aw⟩, bn, bl⟩ := hKP p hp
    rw [vDp_some av, vDp_some (by rw [hpre _ (List.getElem?_eq_some_iff.mp av).1]; exact av)])
  have hW : W1.map (kWt (vs ++ [((k, ks.length, W1.length, 0, 1, 0) : VR)]) k) = W1.map (kWt vs k) := List.map_congr_left (fun p hp => by
    obtain ⟨⟨a1, v, av, ad, aw⟩, bn, bl⟩ := hKP p hp
    unfold kWt
    have hva : vWt (vs ++ [((k, ks.length, W1.length, 0, 1, 0) : VR)]) p.1 = vWt vs p.1 := by rw [vWt_some av, vWt_some (by rw [hpre _ (List.getElem?_eq_some_iff.mp av).1]; exact av)]
    split
    · rename_i hk
      obtain ⟨b1, u, bu, bw⟩ := bn hk
      have hvb : vWt (vs ++ [((k, ks.length, W1.length, 0, 1, 0) : VR)]) p.2 = vWt vs p.2 := by rw [vWt_some bu, vWt_some (c := p.2) (by rw [hpre _ (List.getElem?_eq_some_iff.mp bu).1]; exact bu)]
      rw [hva, hvb]
    · exact hva)
  have hlast : (vs ++ [((k, ks.length, W1.length, 0, 1, 0) : VR)])[vs.length + 1 - 1]? = some (k, ks.length, W1.length, 0, 1, 0) := by
    rw [Nat.add_sub_cancel, List.getElem?_append_right (Nat.le_refl _), Nat.sub_self]
    rfl
  obtain ⟨cc2, s2, st2, n2, w1, w0, w2, w3, w4, w5, w6⟩ := whole1 (ws := W0 ++ W1) (cs := cs) (ks := ks) (c := vs.length + 1) (by omega) hlast (y1 := i3 k) (y2 := i3 W0.length) hb 10 _ n cc s 0 l1 (by
    have := l1.2.2.2.2.1.2.2.1
    show ks.length + W1.length ≤ xln _ 5 * 1024
    omega) (by omega)
  obtain ⟨st3, t1, t2, t3, t4, t5⟩ := whole3 (cs := cs) (ks0 := ks) (W0 := W0) (W1 := W1) (c := vs.length + 1) (k := k) (vs0 := []) (by omega) (by omega) hk7 hKP' hb (by omega) (wc := cc + cc2) (wn := s + s2) W1 [] st2 n2 0 1 rfl (by rw [List.append_nil]; exact w2) w3 (by omega) (by simp) (by omega)
  rw [hD, hW] at t1
  have t1' := w1 _ wEnd_ge.1 wEnd_ge.2 t1
  obtain ⟨c1, c2, c3⟩ := cut_w t2
  have c1v := c1.1.2.1
  have key : ∀ (x : xS) (v : VR), VRat x vs.length v → (∀ i y, i < vs.length → VRat (xsI st3 12 (i3 W0.length)) i y → VRat x i y) → x.1 = (xsI st3 12 (i3 W0.length)).1 → x.2.1 = (xsI st3 12 (i3 W0.length)).2.1 → x.2.2.1 = (xsI st3 12 (i3 W0.length)).2.2.1 → x.2.2.2.1 = (xsI st3 12 (i3 W0.length)).2.2.2.1 → x.2.2.2.2.2.2 = (xsI st3 12 (i3 W0.length)).2.2.2.2.2.2 → MS x (vs ++ [v]) cs (ks ++ W1) W0 ∧ Cost st x (cc + cc2) (s + s2) ∧ Fr0 st x ∧ SK st x := fun x v a1 a2 a3 a4 a5 a6 a7 => by
    obtain ⟨z1, z2, z3, z4⟩ := set_last c1 a1 a2 a3 a4 a5 a6 a7
    have zp : pt (xsI st3 12 (i3 W0.length)) = pt st3 := rfl
    refine ⟨z1, ⟨by have := m2.1; have := w4.1; omega, ?_⟩, (((m3.trans l2).trans (w5.trans t3)).trans c2).trans z2, (((m4.trans l3).trans (w6.trans t4)).trans c3).trans z3⟩
    have h1 := m2.2
    have h2 := w4.2
    omega
  have hvn := c1v vs.length _ (by rw [Nat.add_sub_cancel] at hlast; exact hlast)
  obtain ⟨a0, a1, a2, a3, a4, a5⟩ := hvn
  obtain ⟨x1, x2, x3, x4⟩ := key (xsP (xsP (xsI st3 12 (i3 W0.length)) 4 (vs.length + 1 - 1) (i3 ((W1.map (fun p => vDp vs p.1)).foldl max 0 + 1))) 5 (vs.length + 1 - 1) (i3 (1 + (W1.map (kWt vs k)).sum))) (k, ks.length, W1.length, (W1.map (fun p => vDp vs p.1)).foldl max 0 + 1, 1 + (W1.map (kWt vs k)).sum, 0) (by
    rw [Nat.add_sub_cancel]
    exact ⟨a0, a1, a2, upd_eq, upd_eq, a5⟩) (fun i x hi hx => by
    rw [Nat.add_sub_cancel]
    obtain ⟨b0, b1, b2, b3, b4, b5⟩ := hx
    have hne : i ≠ vs.length := by omega
    exact ⟨b0, b1, b2, (upd_ne hne).trans b3, (upd_ne hne).trans b4, b5⟩) rfl rfl rfl rfl rfl
  obtain ⟨u1, u2, u3, u4⟩ := key (xsP (xsI st3 12 (i3 W0.length)) 4 (vs.length + 1 - 1) (i3 ((W1.map (fun p => vDp vs p.1)).foldl max 0 + 1))) (k, ks.length, W1.length, (W1.map (fun p => vDp vs p.1)).foldl max 0 + 1, 1, 0) (by
    rw [Nat.add_sub_cancel]
    exact ⟨a0, a1, a2, upd_eq, a4, a5⟩) (fun i x hi hx => by
    rw [Nat.add_sub_cancel]
    obtain ⟨b0, b1, b2, b3, b4, b5⟩ := hx
    have hne : i ≠ vs.length := by omega
    exact ⟨b0, b1, b2, (upd_ne hne).trans b3, b4, b5⟩) rfl rfl rfl rfl rfl
  refine ⟨cc + cc2, s + s2, _, _, ?_, x1, ⟨_, u1⟩, x2, x3, x4, u2, u3, u4⟩
  unfold fM_whole
  rw [e1, Option.bind_some]
  dsimp only
  rw [if_neg (by omega), h7, h12, i3_sub (by omega), show W0.length + W1.length - W0.length = W1.length by omega, Nat.zero_add, Nat.zero_add, t1']
  unfold wEnd
  by_cases hd : (W1.map (fun p => vDp vs p.1)).foldl max 0 < 60
  · rw [if_neg (show ¬ 60 < (W1.map (fun p => vDp vs p.1)).foldl max 0 + 1 by omega)]
    by_cases hw : 1 + (W1.map (kWt vs k)).sum ≤ 60000
    · rw [if_pos hw, if_pos ⟨hd, hw⟩]
      exact xmo_some (by show cc ≤ cc + cc2; omega) (by show s ≤ s + s2; omega)
    · rw [if_neg hw, if_neg (fun h => hw h.2)]
      exact xmo_some (by show cc ≤ cc + cc2 + 1; omega) (by show s ≤ s + s2 + 6; omega)
  · rw [if_pos (show 60 < (W1.map (fun p => vDp vs p.1)).foldl max 0 + 1 by omega), if_neg (fun h => hd h.1)]
    exact xmo_some (by show cc ≤ cc + cc2 + 1; omega) (by show s ≤ s + s2 + 6; omega)
end RD2
