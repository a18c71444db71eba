section TWM
variable {cs : List Nat} {e d : Nat} {st : xS} {vs : List VR} {ks ws : List NP}
theorem endM {n a b : Nat} {s t : Sx} (hM : MS st vs cs ks ws) (ha : isStr vs cs a s) (hb : isStr vs cs b t) (hsl : s.length ≤ 4095) (htl : t.length ≤ 4095) (hn : 100000 < n) : fM_begins n st a b (i3 s.length - i3 t.length) = some (if endsS s t = true then 1 else 0) := by
  unfold endsS
  by_cases h : t.length ≤ s.length
  · rw [i3_sub' h, begM hM ha hb (by omega) (by omega) (by omega) hn, decide_eq_true h, Bool.true_and]
  · rw [decide_eq_false h, Bool.false_and, if_neg (by decide)]
    refine begM_n ?_
    rw [i3_iz, i3_iz, show iz ((s.length : Nat) : Int) - iz ((t.length : Nat) : Int) = iz ((s.length : Int) - t.length) from (Int32.ofInt_sub _ _).symm, show (0 : Int32) = iz 0 from rfl, iz_lt (by omega) (by omega) (by omega) (by omega)]
    omega
theorem pie_o {n a p q cR cL : Nat} {s : Sx} (hM : MS st vs cs ks ws) (ha : isStr vs cs a s) (hpq : p ≤ q) (hqs : q ≤ s.length) (hsl : s.length ≤ 4095) (hb : vs.length + 1 ≤ bV) (hn : bV < n) : OpO st 0 0 cR cL ((fM_piece n st a (i3 p) (i3 q)).bind fun o57 => (xmo (fun a => a.2.1) (fun a => a.2.2.1) (0 + o57.1) (0 + o57.2.1) (some (0, (0 + o57.1), (0 + o57.2.1), o57.2.2.1, o57.2.2.2)))) vs cs ks ws (.inr (js ((s.drop p).take (q - p))) : Nat ⊕ JT (d + 1)) := by
  obtain ⟨cc, k, st', v, e1, m1, m2, m3, m4⟩ := piece_w (e := d) (n := n) hM ha hpq hqs (by omega) hb hn
  refine OpO.new (cc := cc) (s := k) (st' := st') ?_ m1 m2 m3.o m4
  rw [e1, Option.bind_some]
  exact xmo_some (Nat.le_refl _) (Nat.le_refl _)
theorem two1M {fu n a b k : Nat} {x y : JT (e + 2)} (hk : k ≤ 9) (hM : MS st vs cs ks ws) (hP : PV st 1000000000 []) (ha : Arg vs cs ks (e + 2) x a) (hb : Arg vs cs ks (e + 2) y b) (hB : Bd vs cs ks ws) (hfu : e + 3 ≤ fu) (hn : 5000000000 < n) : OpO st 0 0 1 2 (fM_two1 fu n st (i3 k) a b) vs cs ks ws (oTwo k x y) := by
  have hB1 := hB.1
  have hbv : bV = 32000 := rfl
  obtain ⟨a1, a2, a3, _⟩ := ha.g hM
  obtain ⟨b1, b2, b3, _⟩ := hb.g hM
  have ka := ha.k7
  have kb := hb.k7
  obtain ⟨_, x4, _, _⟩ := kdc ha.2.1 _ rfl
  obtain ⟨_, y4, _, _⟩ := kdc hb.2.1 _ rfl
  have Pn : ∀ c : Nat, c < 8 → kd (e + 2) x ≠ c → ¬ i3 (kd (e + 2) x) = i3 c := fun c hc h hh => h ((ke ka hc).mp hh)
  have Qn : ∀ c : Nat, c < 8 → kd (e + 2) y ≠ c → ¬ i3 (kd (e + 2) y) = i3 c := fun c hc h hh => h ((ke kb hc).mp hh)
  have hne : ¬ (kd (e + 2) x = 4 ∧ kd (e + 2) y = 4) → oWB x y = .inr x ∧ oWE x y = .inr x ∧ oBeg x y = .inl 1 ∧ oEnds x y = .inl 1 := fun h1 => by
    rcases jcases x with ⟨k, rfl⟩ | ⟨z, rfl⟩ | ⟨s, rfl⟩ | ⟨l, rfl⟩ | ⟨l, rfl⟩ <;> rcases jcases y with ⟨k', rfl⟩ | ⟨z', rfl⟩ | ⟨s', rfl⟩ | ⟨l', rfl⟩ | ⟨l', rfl⟩ <;> first
      | exact ⟨rfl, rfl, rfl, rfl⟩
      | (exact absurd ⟨rfl, rfl⟩ h1)
  unfold fM_two1
  obtain rfl | rfl | rfl | rfl | rfl | rfl | rfl | rfl | rfl | rfl : k = 0 ∨ k = 1 ∨ k = 2 ∨ k = 3 ∨ k = 4 ∨ k = 5 ∨ k = 6 ∨ k = 7 ∨ k = 8 ∨ k = 9 := by omega
  · rw [if_pos (by decide)]
    exact OpO.r1 (hasM hM ha hb hB (by omega))
  · rw [if_neg (by decide), if_pos (by decide), alkM hM ha.1 hb.1 ha.2.1 hb.2.1, Option.bind_some]
    show OpO _ _ _ _ _ _ _ _ _ _ (oCont x y)
    unfold oCont
    by_cases hal : alike (kd (e + 2) x) (kd (e + 2) y) = true
    · rw [if_pos hal, if_neg (by decide), if_pos hal, cnM hM hn (e + 2) fu hfu x y a b ha.1 hb.1 ha.2.1 hb.2.1, Option.bind_some]
      exact truth_o rfl hM (by omega) (by omega)
    · rw [if_neg hal, if_pos rfl, if_neg hal]
      exact refuse_o (k := 1) hM
  · rw [if_neg (by decide), if_neg (by decide), if_pos (by decide)]
    exact OpO.t2 (by omega) (joinM hM hP ha hb hB (by omega) (by omega))
  · rw [if_neg (by decide), if_neg (by decide), if_neg (by decide), if_pos (by decide), if_neg a1, a3, b3]
    show OpO _ _ _ _ _ _ _ _ _ _ (oWB x y)
    by_cases h4 : kd (e + 2) x = 4
    · rw [if_pos (show i3 (kd (e + 2) x) = 4 by rw [h4]; rfl), if_neg b1]
      by_cases g4 : kd (e + 2) y = 4
      · obtain ⟨s, rfl⟩ := x4 h4
        obtain ⟨t, rfl⟩ := y4 g4
        have hl := ha.ls
        have hl' := hb.ls
        rw [kd_s, if_pos (by decide), show (0 : Int32) = i3 0 from rfl, begM hM (isStr_rep ha.1) (isStr_rep hb.1) (by omega) (by omega) (by omega) (by omega), Option.bind_some, (ha.1.szs hM).1, (hb.1.szs hM).1, List.drop_zero]
        show OpO _ _ _ _ _ _ _ _ _ _ (.inr (if pf t s then js (s.drop t.length) else js s))
        cases hp : pf t s with
        | true =>
          have hlen := pf_len hp
          rw [if_neg (show ¬ (if true = true then (1 : Int32) else 0) = i3 0 by decide), if_pos rfl]
          have := pie_o (d := e + 1) (cR := 1) (cL := 2) (n := n) hM (isStr_rep ha.1) (p := t.length) (q := s.length) hlen (Nat.le_refl _) hl (by omega) (by omega)
          rw [List.take_of_length_le (by rw [List.length_drop]; omega)] at this
          exact this
        | false =>
          rw [if_pos (show (if false = true then (1 : Int32) else 0) = i3 0 from rfl), if_neg (by decide)]
          exact OpO.old hM ha.1
      · rw [if_neg (show ¬ i3 (kd (e + 2) y) = 4 from Qn 4 (by omega) g4), (hne (fun h => g4 h.2)).1]
        exact OpO.old hM ha.1
    · rw [if_neg (show ¬ i3 (kd (e + 2) x) = 4 from Pn 4 (by omega) h4), (hne (fun h => h4 h.1)).1]
      exact OpO.old hM ha.1
  · rw [if_neg (by decide), if_neg (by decide), if_neg (by decide), if_neg (by decide), if_pos (by decide), if_neg a1, a3, b3]
    show OpO _ _ _ _ _ _ _ _ _ _ (oWE x y)
    by_cases h4 : kd (e + 2) x = 4
    · rw [if_pos (show i3 (kd (e + 2) x) = 4 by rw [h4]; rfl), if_neg b1]
      by_cases g4 : kd (e + 2) y = 4
      · obtain ⟨s, rfl⟩ := x4 h4
        obtain ⟨t, rfl⟩ := y4 g4
        have hl := ha.ls
        have hl' := hb.ls
        rw [kd_s, if_pos (by decide), (ha.1.szs hM).1, (hb.1.szs hM).1, endM hM (isStr_rep ha.1) (isStr_rep hb.1) hl hl' (by omega), Option.bind_some]
        show OpO _ _ _ _ _ _ _ _ _ _ (.inr (if endsS s t then js (s.take (s.length - t.length)) else js s))
        cases hp : endsS s t with
        | true =>
          have hlen : t.length ≤ s.length := by
            unfold endsS at hp
            rw [Bool.and_eq_true] at hp
            exact of_decide_eq_true hp.1
          rw [if_neg (show ¬ (if true = true then (1 : Int32) else 0) = 0 by decide), if_pos rfl, i3_sub' hlen]
          exact pie_o (d := e + 1) (cR := 1) (cL := 2) (n := n) hM (isStr_rep ha.1) (p := 0) (q := s.length - t.length) (by omega) (by omega) hl (by omega) (by omega)
        | false =>
          rw [if_pos (show (if false = true then (1 : Int32) else 0) = 0 from rfl), if_neg (by decide)]
          exact OpO.old hM ha.1
      · rw [if_neg (show ¬ i3 (kd (e + 2) y) = 4 from Qn 4 (by omega) g4), (hne (fun h => g4 h.2)).2.1]
        exact OpO.old hM ha.1
    · rw [if_neg (show ¬ i3 (kd (e + 2) x) = 4 from Pn 4 (by omega) h4), (hne (fun h => h4 h.1)).2.1]
      exact OpO.old hM ha.1
  · rw [if_neg (by decide), if_neg (by decide), if_neg (by decide), if_neg (by decide), if_neg (by decide), if_pos (by decide)]
    show OpO _ _ _ _ _ _ _ _ _ _ (oBeg x y)
    by_cases h4 : kd (e + 2) x = 4
    · rw [text_s a1 (by rw [a3, h4]; rfl), Option.bind_some, if_pos rfl, if_neg b2]
      dsimp only
      refine OpO.wrap ?_
      by_cases g4 : kd (e + 2) y = 4
      · obtain ⟨s, rfl⟩ := x4 h4
        obtain ⟨t, rfl⟩ := y4 g4
        have hl := ha.ls
        have hl' := hb.ls
        rw [text_s b1 (by rw [b3]; rfl), Option.bind_some, if_pos rfl, if_neg a2]
        dsimp only
        rw [show (0 : Int32) = i3 0 from rfl, begM hM (isStr_rep ha.1) (isStr_rep hb.1) (by omega) (by omega) (by omega) (by omega), Option.bind_some, List.drop_zero]
        exact OpO.wrap (truth_o (b := pf t s) rfl hM (by omega) (by omega))
      · rw [text_f b1 (by rw [b3]; exact Qn 4 (by omega) g4), Option.bind_some, if_neg (show ¬ (1 : Nat) = 0 by decide), if_pos rfl, (hne (fun h => g4 h.2)).2.2.1]
        exact OpO.xs (k := 1) hM
    · rw [text_f a1 (by rw [a3]; exact Pn 4 (by omega) h4), Option.bind_some, if_neg (show ¬ (1 : Nat) = 0 by decide), if_pos rfl, if_neg b2, (hne (fun h => h4 h.1)).2.2.1]
      exact OpO.xs (k := 1) hM
  · rw [if_neg (by decide), if_neg (by decide), if_neg (by decide), if_neg (by decide), if_neg (by decide), if_neg (by decide), if_pos (by decide)]
    show OpO _ _ _ _ _ _ _ _ _ _ (oEnds x y)
    by_cases h4 : kd (e + 2) x = 4
    · rw [text_s a1 (by rw [a3, h4]; rfl), Option.bind_some, if_pos rfl, if_neg a2, if_neg b2]
      dsimp only
      refine OpO.wrap ?_
      by_cases g4 : kd (e + 2) y = 4
      · obtain ⟨s, rfl⟩ := x4 h4
        obtain ⟨t, rfl⟩ := y4 g4
        have hl := ha.ls
        have hl' := hb.ls
        rw [text_s b1 (by rw [b3]; rfl), Option.bind_some, if_pos rfl, if_neg a2, if_neg b2, if_neg a2]
        dsimp only
        rw [if_neg a1, if_neg b1, (ha.1.szs hM).1, (hb.1.szs hM).1, endM hM (isStr_rep ha.1) (isStr_rep hb.1) hl hl' (by omega), Option.bind_some]
        exact OpO.wrap (truth_o (b := endsS s t) rfl hM (by omega) (by omega))
      · rw [text_f b1 (by rw [b3]; exact Qn 4 (by omega) g4), Option.bind_some, if_neg (show ¬ (1 : Nat) = 0 by decide), if_pos rfl, if_neg a2, if_neg b2, (hne (fun h => g4 h.2)).2.2.2]
        exact OpO.xs (k := 1) hM
    · rw [text_f a1 (by rw [a3]; exact Pn 4 (by omega) h4), Option.bind_some, if_neg (show ¬ (1 : Nat) = 0 by decide), if_pos rfl, if_neg a2, if_neg b2, (hne (fun h => h4 h.1)).2.2.2]
      exact OpO.xs (k := 1) hM
  · rw [if_neg (by decide), if_neg (by decide), if_neg (by decide), if_neg (by decide), if_neg (by decide), if_neg (by decide), if_neg (by decide), if_pos (by decide)]
    exact OpO.t2 (by omega) (indM hM ha hb hB (by omega) (by omega))
  · rw [if_neg (by decide), if_neg (by decide), if_neg (by decide), if_neg (by decide), if_neg (by decide), if_neg (by decide), if_neg (by decide), if_neg (by decide), if_pos (by decide)]
    exact OpO.t2 (by omega) (flattenM hM ha hb hB (by omega) (by omega))
  · rw [if_neg (by decide), if_neg (by decide), if_neg (by decide), if_neg (by decide), if_neg (by decide), if_neg (by decide), if_neg (by decide), if_neg (by decide), if_neg (by decide)]
    exact OpO.t2 (by omega) (atM hM ha hb hB (by omega) (by omega))
end TWM
