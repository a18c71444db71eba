section TIM
variable {st : xS} {vs : List VR} {cs : List Nat} {ks ws : List NP} {e n : Nat}
theorem fresh_o {k : Nat} {wc wn cR cL : Nat} (hM : MS st vs cs ks ws) (hb : vs.length + 1 ≤ bV) (hn : bV < n) : OpO st wc wn cR cL ((fM_fresh n st (i3 k)).bind fun o3 => (xmo (fun a => a.2.1) (fun a => a.2.2.1) (wc + o3.1) (wn + o3.2.1) (some (0, (wc + o3.1), (wn + o3.2.1), o3.2.2.1, o3.2.2.2)))) vs cs ks ws (.inr (jk k) : Nat ⊕ JT (e + 1)) := by
  obtain ⟨cc, s, st', e1, m1, m2, m3, _⟩ := fresh_w (n := n) hM k hb hn
  refine OpO.new (cc := cc) (s := s) (st' := st') ?_ m1 m2 m3.o rep_k
  rw [e1, Option.bind_some]
  exact xmo_some (Nat.le_refl _) (Nat.le_refl _)
theorem limit_o {wc wn cR q : Nat} {j : JT e} (hM : MS st vs cs ks ws) (hq : 1 ≤ q) (hj : 60 < jd e j ∨ 60000 < (jc e j).length) : OpO st wc wn cR q ((fM_limit n st).bind fun o4 => (if o4.1 = 1 then xmo (fun a => a.2.1) (fun a => a.2.2.1) (wc + o4.2.1) (wn + o4.2.2.1) (some (q, (wc + o4.2.1), (wn + o4.2.2.1), 0, st)) else none)) vs cs ks ws (.inr j) := by
  refine Or.inr ⟨hq, hj, 1, 6, st, ?_, ⟨by omega, by omega⟩, ⟨⟨_, _, _, _, hM⟩, FrO.refl⟩⟩
  unfold fM_limit
  rw [Option.bind_some, if_pos rfl]
  exact xmo_some (Nat.le_refl _) (Nat.le_refl _)
theorem rp_succ (s : Sx) (k : Nat) : (List.replicate (k + 1) s).flatten = (List.replicate k s).flatten ++ s := by
  rw [List.replicate_succ', List.flatten_append, List.flatten_singleton]
theorem rp_len (s : Sx) (k : Nat) : ((List.replicate k s).flatten).length = k * s.length := by
  induction k with
  | zero => simp
  | succ k ih => rw [rp_succ, List.length_append, ih, Nat.succ_mul]
theorem timL {rec : xS → Nat → Nat → Option (Nat × Nat × Nat × Nat × xS)} {d0 : Nat} {s : Sx} {a b Z : Nat} (ha : isStr vs cs a s) (hb : Rep vs cs ks (e + 1) (jn (Z : Int)) b) (hs : 1 ≤ s.length) (hZ : Z * s.length ≤ 60000) (hbc : cs.length + 60000 ≤ bC) (hbv : vs.length + 1 ≤ bV) : ∀ (q n k : Nat) (st : xS) (wc wn : Nat), k + q = Z → MS st vs (cs ++ (List.replicate k s).flatten) ks ws → 2 * bC + q < n → OpO st wc wn 1 2 (fM_times_b rec d0 n 1 (cW (k : Nat)) (i3 cs.length) a b st wc wn) vs (cs ++ (List.replicate k s).flatten) ks ws (.inr (js (List.replicate Z s).flatten) : Nat ⊕ JT (e + 1)) := by
  have hbc' : bC = 100000 := rfl
  have hbv' : bV = 32000 := rfl
  have hZ2 : Z ≤ 60000 := by
    have : Z * 1 ≤ Z * s.length := Nat.mul_le_mul_left Z hs
    omega
  intro q
  induction q with
  | zero =>
    intro n k st wc wn hk hM hn
    obtain ⟨n, rfl⟩ : ∃ j, n = j + 1 := ⟨n - 1, by omega⟩
    have hb' : Rep vs (cs ++ (List.replicate k s).flatten) ks (e + 1) (jn (Z : Int)) b := by
      have := hb.mono (vs' := []) (cs' := (List.replicate k s).flatten) (ks' := [])
      rw [List.append_nil, List.append_nil] at this
      exact this
    obtain ⟨b1, _, _, _⟩ := hb'.g hM
    obtain rfl : k = Z := by omega
    rw [fM_times_b, if_neg b1, hb'.num hM, if_pos (by rw [lg_cW (by omega) (by omega) (by omega) (by omega), izs_ge0]; omega)]
    exact OpO.wrap (OpO.l1 (cR := 1) (by omega) (string_o hM hbv (by omega)))
  | succ q ih =>
    intro n k st wc wn hk hM hn
    obtain ⟨n, rfl⟩ : ∃ j, n = j + 1 := ⟨n - 1, by omega⟩
    have hb' : Rep vs (cs ++ (List.replicate k s).flatten) ks (e + 1) (jn (Z : Int)) b := by
      have := hb.mono (vs' := []) (cs' := (List.replicate k s).flatten) (ks' := [])
      rw [List.append_nil, List.append_nil] at this
      exact this
    have ha' : isStr vs (cs ++ (List.replicate k s).flatten) a s := by
      have := ha.mono (vs' := []) (cs' := (List.replicate k s).flatten)
      rw [List.append_nil] at this
      exact this
    obtain ⟨b1, _, _, _⟩ := hb'.g hM
    have hk1 : (k + 1) * s.length ≤ Z * s.length := Nat.mul_le_mul_right _ (by omega)
    rw [Nat.succ_mul] at hk1
    obtain ⟨cc, w, st', e1, m1, m2, m3, _⟩ := letters_w (n := n) hM ha' (by rw [List.length_append, rp_len]; omega) (by omega)
    obtain ⟨a1, v, av, a4, asz, _, _, ag⟩ := ha'
    obtain ⟨g1, g2, _⟩ := hM.vc a1 av
    rw [fM_times_b, if_neg b1, hb'.num hM, if_neg (by rw [lg_cW (by omega) (by omega) (by omega) (by omega), izs_ge0]; omega), if_neg g1, g2.2.2.1, asz, if_neg (by rw [show (0 : Int32) = i3 0 from rfl, i3_le (by omega) (by omega)]; omega), e1, Option.bind_some]
    dsimp only
    rw [show (cW (k : Nat) : Int64) + 1 = cW ((k + 1 : Nat) : Int) by rw [show (1 : Int64) = cW 1 from rfl, cW_add]; rfl]
    rw [List.append_assoc, ← rp_succ] at m1
    have := ih n (k + 1) st' (wc + cc) (wn + w) (by omega) m1 (by omega)
    refine OpO.wrap (OpO.step (a := []) (b := s) (c := []) (cc := cc) (s := w) (OpO.wrap ?_) m2 m3.o)
    rw [List.append_nil, List.append_nil, List.append_assoc, ← rp_succ]
    exact this
end TIM
