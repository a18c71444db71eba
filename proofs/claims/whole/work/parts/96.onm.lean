section ONM
variable {cs : List Nat} {e d : Nat} {st : xS} {vs : List VR} {ks ws : List NP}
theorem truth_o {n wc wn cR cL : Nat} {b : Bool} {x : Int32} (hx : x = if b then 1 else 0) (hM : MS st vs cs ks ws) (hb : vs.length + 1 ≤ bV) (hn : bV < n) : OpO st wc wn cR cL ((fM_truth n st x).bind fun o5 => (xmo (fun a => a.2.1) (fun a => a.2.2.1) (wc + o5.1) (wn + o5.2.1) (some (0, (wc + o5.1), (wn + o5.2.1), o5.2.2.1, o5.2.2.2)))) vs cs ks ws (.inr (tru b) : Nat ⊕ JT (d + 1)) := by
  have key : ∀ k, ∃ (cc s : Nat) (st' : xS), ((fM_fresh n st (i3 k)).bind fun o1 => (xmo (fun a : Nat × Nat × Nat × xS => a.1) (fun a => a.2.1) (0 + o1.1) (0 + o1.2.1) (some ((0 + o1.1), (0 + o1.2.1), o1.2.2.1, o1.2.2.2)))) = some (cc, s, vs.length + 1, st') ∧ MS st' (vs ++ [(k, 0, 0, 0, 1, 0)]) cs ks ws ∧ Cost st st' cc s ∧ Fr0 st st' := by
    intro k
    obtain ⟨cc, s, st', e1, m1, m2, m3, _⟩ := fresh_w (n := n) hM k hb hn
    refine ⟨cc, s, st', ?_, m1, m2, m3⟩
    rw [e1, Option.bind_some]
    simp only [Nat.zero_add]
    exact xmo_some (Nat.le_refl _) (Nat.le_refl _)
  unfold fM_truth
  cases b with
  | false =>
    have hx0 : x = 0 := hx
    obtain ⟨cc, s, st', e1, m1, m2, m3⟩ := key 1
    rw [if_pos hx0, show fM_fresh n st 1 = fM_fresh n st (i3 1) from rfl, e1, Option.bind_some]
    exact OpO.new (xmo_some (Nat.le_refl _) (Nat.le_refl _)) m1 m2 m3.o (rep_k (k := 1))
  | true =>
    have hx1 : x = 1 := hx
    obtain ⟨cc, s, st', e1, m1, m2, m3⟩ := key 2
    rw [if_neg (by rw [hx1]; decide), show fM_fresh n st 2 = fM_fresh n st (i3 2) from rfl, e1, Option.bind_some]
    exact OpO.new (xmo_some (Nat.le_refl _) (Nat.le_refl _)) m1 m2 m3.o (rep_k (k := 2))
theorem one1M {fu n a k : Nat} {x : JT (e + 2)} (hk : k ≤ 13) (he : 40 ≤ e + 1) (hM : MS st vs cs ks ws) (hH : Hs st) (hP : PV st 1000000000 []) (hsr : 32 ≤ xsr st ∧ xsr st < 41) (ha : Arg vs cs ks (e + 2) x a) (hB : Bd vs cs ks ws) (hfu : e + 2 ≤ fu) (hn : 3000000000 < n) : OpO st 0 0 1 2 (fM_one1 fu n st (i3 k) a) vs cs ks ws (oOne k x) := by
  have hB1 := hB.1
  have hB3 := hB.2.2.1
  have hB4 := hB.2.2.2
  have hbv : bV = 32000 := rfl
  have hbk : bK = 32000 := rfl
  obtain ⟨a1, a2, a3, _⟩ := ha.g hM
  have ka := ha.k7
  have P : ∀ c : Nat, c < 8 → (i3 (kd (e + 2) x) = i3 c) = (kd (e + 2) x = c) := fun c hc => ke ka hc
  unfold fM_one1
  obtain rfl | rfl | rfl | rfl | rfl | rfl | rfl | rfl | rfl | rfl | rfl | rfl | rfl | rfl : k = 0 ∨ k = 1 ∨ k = 2 ∨ k = 3 ∨ k = 4 ∨ k = 5 ∨ k = 6 ∨ k = 7 ∨ k = 8 ∨ k = 9 ∨ k = 10 ∨ k = 11 ∨ k = 12 ∨ k = 13 := by omega
  · rw [if_pos (by decide)]
    show OpO _ _ _ _ _ _ _ _ _ _ (.inr (tru (decide (kd (e + 2) x < 2))))
    unfold fM_isTrue
    rw [if_neg a1, a3]
    by_cases h0 : kd (e + 2) x = 0
    · rw [if_pos (show i3 (kd (e + 2) x) = 0 by rw [h0]; rfl), Option.bind_some, if_pos rfl, decide_eq_true (by omega)]
      exact truth_o rfl hM (by omega) (by omega)
    · rw [if_neg (show ¬ i3 (kd (e + 2) x) = 0 from fun h => h0 ((P 0 (by omega)).mp h))]
      by_cases h1 : kd (e + 2) x = 1
      · rw [if_pos (show i3 (kd (e + 2) x) = 1 by rw [h1]; rfl), Option.bind_some, if_pos rfl, decide_eq_true (by omega)]
        exact truth_o rfl hM (by omega) (by omega)
      · rw [if_neg (show ¬ i3 (kd (e + 2) x) = 1 from fun h => h1 ((P 1 (by omega)).mp h)), Option.bind_some, if_neg (by decide), decide_eq_false (by omega)]
        exact truth_o rfl hM (by omega) (by omega)
  · rw [if_neg (by decide), if_pos (by decide)]
    exact OpO.r1 (lenM hM ha hB (by omega))
  · rw [if_neg (by decide), if_neg (by decide), if_pos (by decide)]
    exact OpO.t2r (by omega) (keysM (srt' := true) hM hH ha hB (by omega) hn)
  · rw [if_neg (by decide), if_neg (by decide), if_neg (by decide), if_pos (by decide)]
    exact OpO.t2r (by omega) (keysM (srt' := false) hM hH ha hB (by omega) hn)
  · rw [if_neg (by decide), if_neg (by decide), if_neg (by decide), if_neg (by decide), if_pos (by decide), if_neg a1, a3]
    show OpO _ _ _ _ _ _ _ _ _ _ (oStr x)
    by_cases h4 : kd (e + 2) x = 4
    · obtain ⟨_, x4, _, _⟩ := kdc ha.2.1 _ rfl
      obtain ⟨s, rfl⟩ := x4 h4
      rw [kd_s, if_pos (by decide)]
      exact OpO.old hM ha.1
    · have : oStr x = .inr (js (jt (e + 2) x)) := by
        rcases jcases x with ⟨k, rfl⟩ | ⟨z, rfl⟩ | ⟨s, rfl⟩ | ⟨l, rfl⟩ | ⟨l, rfl⟩ <;> first | rfl | exact absurd rfl h4
      rw [if_neg (show ¬ i3 (kd (e + 2) x) = 4 from fun h => h4 ((P 4 (by omega)).mp h)), this]
      exact OpO.l1 (cR := 1) (by omega) (toldM hM hP ha hB hfu hn)
  · rw [if_neg (by decide), if_neg (by decide), if_neg (by decide), if_neg (by decide), if_neg (by decide), if_pos (by decide)]
    exact OpO.r1 (tnM hM ha hB hn)
  · rw [if_neg (by decide), if_neg (by decide), if_neg (by decide), if_neg (by decide), if_neg (by decide), if_neg (by decide), if_pos (by decide)]
    exact OpO.l1 (cR := 1) (by omega) (toldM hM hP ha hB hfu hn)
  · rw [if_neg (by decide), if_neg (by decide), if_neg (by decide), if_neg (by decide), if_neg (by decide), if_neg (by decide), if_neg (by decide), if_pos (by decide)]
    exact OpO.r1 (fromM he hM hsr ha hB (by omega) hn)
  · rw [if_neg (by decide), if_neg (by decide), if_neg (by decide), if_neg (by decide), if_neg (by decide), if_neg (by decide), if_neg (by decide), if_neg (by decide), if_pos (by decide)]
    show OpO _ _ _ _ _ _ _ _ _ _ (oSort x)
    obtain ⟨_, _, x5, _⟩ := kdc ha.2.1 _ rfl
    by_cases h5 : kd (e + 2) x = 5
    · obtain ⟨l, rfl⟩ := x5 h5
      rw [array_s a1 (by rw [a3]; rfl), Option.bind_some, if_pos rfl, if_neg a2]
      have hl := ha.la
      exact OpO.wrap (OpO.l1 (cR := 1) (by omega) (sort0M hM hH ha.1 ha.1 ha.2.1 rfl hl (by omega) (by omega) (by omega) (by omega)))
    · have : oSort x = .inl 1 := by
        rcases jcases x with ⟨k, rfl⟩ | ⟨z, rfl⟩ | ⟨s, rfl⟩ | ⟨l, rfl⟩ | ⟨l, rfl⟩ <;> first | rfl | exact absurd rfl h5
      rw [array_f a1 (by rw [a3]; exact fun h => h5 ((P 5 (by omega)).mp h)), Option.bind_some, if_neg (show ¬ (1 : Nat) = 0 by decide), if_pos rfl, if_neg a2, this]
      exact OpO.xs (k := 1) hM
  · rw [if_neg (by decide), if_neg (by decide), if_neg (by decide), if_neg (by decide), if_neg (by decide), if_neg (by decide), if_neg (by decide), if_neg (by decide), if_neg (by decide), if_pos (by decide)]
    exact OpO.t2 (by omega) (revM hM ha hB hn)
  · rw [if_neg (by decide), if_neg (by decide), if_neg (by decide), if_neg (by decide), if_neg (by decide), if_neg (by decide), if_neg (by decide), if_neg (by decide), if_neg (by decide), if_neg (by decide), if_pos (by decide)]
    exact OpO.t2r (by omega) (expM hM ha hB hn)
  · rw [if_neg (by decide), if_neg (by decide), if_neg (by decide), if_neg (by decide), if_neg (by decide), if_neg (by decide), if_neg (by decide), if_neg (by decide), if_neg (by decide), if_neg (by decide), if_neg (by decide), if_pos (by decide)]
    exact OpO.t2 (by omega) (impM hM ha hB hn)
  · rw [if_neg (by decide), if_neg (by decide), if_neg (by decide), if_neg (by decide), if_neg (by decide), if_neg (by decide), if_neg (by decide), if_neg (by decide), if_neg (by decide), if_neg (by decide), if_neg (by decide), if_neg (by decide), if_pos (by decide)]
    exact OpO.t2r (by omega) (casM (cap := false) hM ha hB hn)
  · rw [if_neg (by decide), if_neg (by decide), if_neg (by decide), if_neg (by decide), if_neg (by decide), if_neg (by decide), if_neg (by decide), if_neg (by decide), if_neg (by decide), if_neg (by decide), if_neg (by decide), if_neg (by decide), if_neg (by decide)]
    exact OpO.t2r (by omega) (casM (cap := true) hM ha hB hn)
end ONM
