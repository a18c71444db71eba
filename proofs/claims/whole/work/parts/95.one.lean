section ONE
variable {cs : List Nat} {e d : Nat} {st : xS} {vs : List VR} {ks ws : List NP}
theorem tnM {n a : Nat} {x : JT (e + 1)} (hM : MS st vs cs ks ws) (ha : Arg vs cs ks (e + 1) x a) (hB : Bd vs cs ks ws) (hn : 3000000000 < n) : OpO st 0 0 1 0 (fM_toNumber n st a) vs cs ks ws (oNumb x) := by
  have hB1 := hB.1
  have hbv : bV = 32000 := rfl
  obtain ⟨a1, a2, a3, _⟩ := ha.g hM
  have ka := ha.k7
  obtain ⟨x3, x4, _, _⟩ := kdc ha.2.1 _ rfl
  unfold fM_toNumber
  rw [if_neg a1, a3]
  by_cases h3 : kd (e + 1) x = 3
  · obtain ⟨z, rfl⟩ := x3 h3
    rw [kd_n, if_pos (by decide)]
    exact OpO.old hM ha.1
  rw [if_neg (show ¬ i3 (kd (e + 1) x) = 3 from fun h => h3 ((ke (c := 3) ka (by omega)).mp h))]
  by_cases h4 : kd (e + 1) x = 4
  · obtain ⟨s, rfl⟩ := x4 h4
    have hs := isStr_rep ha.1
    obtain ⟨g1, g2, g3⟩ := hs.gsz hM
    have hl := ha.ls
    have hres : oNumb (js s : JT (e + 1)) = (match pTN s with | none => .inl 4 | some z => .inr (jn z)) := rfl
    have loop : ∀ (sgn : Int) (y3 : Int32) (i : Nat), ((sgn = 1 ∧ y3 = 0) ∨ (sgn = -1 ∧ y3 = 1)) → i ≤ s.length → OpO st 0 0 1 0 (fM_toNumber_b n 1 0 y3 (i3 i) a st 0 0) vs cs ks ws (if (dv 0 (s.drop i)).2 = [] ∧ (dv 0 (s.drop i)).1 ≤ 9007199254740991 then .inr (jn (sgn * ((dv 0 (s.drop i)).1 : Int))) else .inl 4 : Nat ⊕ JT (e + 1)) := fun sgn y3 i hsg hi => tnL hM hs (by omega) hsg (by omega) (s.length - i) n i 0 (by omega) (by omega)
    have tail : ∀ (sgn : Int) (y3 : Int32) (i : Nat), ((sgn = 1 ∧ y3 = 0) ∨ (sgn = -1 ∧ y3 = 1)) → i < s.length → i ≤ 1 → OpO st 0 0 1 0 (if ((xpi st 2 (a - 1)) + i3 i) < 0 ∨ (xln st 3) ≤ ((xpi st 2 (a - 1)) + i3 i).toNatClampNeg then none else (if (xba st 3 ((xpi st 2 (a - 1)) + i3 i).toNatClampNeg) = 48 then (if i3 s.length ≤ i3 (i + 1) then fM_toNumber_b n 1 0 y3 (i3 i) a st 0 0 else ((fM_refuse n st 4).bind fun o15 => ((if o15.1 = 1 then xmo (fun a => a.2.1) (fun a => a.2.2.1) (0 + o15.2.1) (0 + o15.2.2.1) (some (1, (0 + o15.2.1), (0 + o15.2.2.1), 0, o15.2.2.2.2)) else none)))) else fM_toNumber_b n 1 0 y3 (i3 i) a st 0 0)) vs cs ks ws (match tnR sgn (s.drop i) with | none => .inl 4 | some z => .inr (jn z) : Nat ⊕ JT (e + 1)) := by
      intro sgn y3 i hsg hi hi1
      obtain ⟨c1, c2, c3⟩ := hs.chr hM (i := i) hi
      have hcons := List.drop_eq_getElem_cons hi
      have hL := loop sgn y3 i hsg (by omega)
      have hne : s.drop i ≠ [] := by rw [hcons]; exact List.cons_ne_nil _ _
      have hfin : ¬ ((s.drop i).head? = some 48 ∧ 1 < (s.drop i).length) → (match tnR sgn (s.drop i) with | none => .inl 4 | some z => .inr (jn z) : Nat ⊕ JT (e + 1)) = (if (dv 0 (s.drop i)).2 = [] ∧ (dv 0 (s.drop i)).1 ≤ 9007199254740991 then .inr (jn (sgn * ((dv 0 (s.drop i)).1 : Int))) else .inl 4) := by
        intro hh
        unfold tnR
        rw [if_neg hne, if_neg hh]
        by_cases hc : (dv 0 (s.drop i)).2 = [] ∧ (dv 0 (s.drop i)).1 ≤ 9007199254740991
        · rw [if_pos hc, if_pos hc]
        · rw [if_neg hc, if_neg hc]
      have h48 : (i3 s[i] = 48) = (s[i] = 48) := i3_eq (b := 48) (by omega) (by omega)
      rw [if_neg c1, c2]
      by_cases h0 : s[i] = 48
      · rw [if_pos (by rw [h48]; exact h0)]
        by_cases hl1 : s.length ≤ i + 1
        · rw [if_pos (by rw [i3_le (by omega) (by omega)]; exact hl1), hfin (fun hh => by rw [List.length_drop] at hh; omega)]
          exact hL
        · rw [if_neg (by rw [i3_le (by omega) (by omega)]; exact hl1)]
          have : tnR sgn (s.drop i) = none := by
            unfold tnR
            rw [if_neg hne, if_pos ⟨by rw [hcons, h0]; rfl, by rw [List.length_drop]; omega⟩]
          rw [this]
          exact refuse_o (k := 4) hM
      · rw [if_neg (by rw [h48]; exact h0), hfin (fun hh => by rw [hcons] at hh; exact h0 (Option.some.inj hh.1))]
        exact hL
    rw [text_s g1 g3, Option.bind_some, if_pos rfl]
    dsimp only
    rw [if_neg g1, g2, hres, pTN_eq]
    refine OpO.wrap ?_
    by_cases hz : s.length = 0
    · obtain rfl : s = [] := List.length_eq_zero_iff.mp hz
      rw [if_pos (by decide), if_pos (by decide), if_neg (by simp)]
      exact refuse_o (k := 4) hM
    · rw [if_neg (by rw [show (0 : Int32) = i3 0 from rfl, i3_le (by omega) (by omega)]; omega)]
      obtain ⟨c1, c2, c3⟩ := hs.chr hM (i := 0) (by omega)
      have hz0 : xpi st 2 (a - 1) + i3 0 = xpi st 2 (a - 1) := Int32.add_zero _
      rw [hz0] at c1 c2
      have hcons := List.drop_eq_getElem_cons (show 0 < s.length by omega)
      rw [List.drop_zero] at hcons
      have hh : (s.head? = some 45) = (s[0] = 45) := by
        have : s.head? = some s[0] := by
          conv => lhs; rw [hcons]
          rfl
        rw [this]
        exact propext ⟨fun h => by injection h, fun h => by rw [h]⟩
      have h45 : (i3 s[0] = 45) = (s[0] = 45) := i3_eq (b := 45) (by omega) (by omega)
      rw [if_neg c1, c2]
      by_cases hm : s[0] = 45
      · rw [if_pos (show i3 s[0] = 45 by rw [h45]; exact hm), if_pos (show s.head? = some 45 by rw [hh]; exact hm)]
        by_cases h1 : s.length = 1
        · have : tnR (-1) s.tail = none := by
            have : s.tail = [] := List.length_eq_zero_iff.mp (by rw [List.length_tail]; omega)
            rw [this]
            rfl
          rw [if_pos (show (1 : Int32) = i3 s.length by rw [h1]; rfl), this]
          exact refuse_o (k := 4) hM
        · rw [if_neg (show ¬ (1 : Int32) = i3 s.length by rw [show (1 : Int32) = i3 1 from rfl, i3_eq (by omega) (by omega)]; omega), ← List.drop_one]
          exact tail (-1) 1 1 (Or.inr ⟨rfl, rfl⟩) (by omega) (by omega)
      · rw [if_neg (show ¬ i3 s[0] = 45 by rw [h45]; exact hm), if_neg (show ¬ s.head? = some 45 by rw [hh]; exact hm), if_neg (show ¬ (0 : Int32) = i3 s.length by rw [show (0 : Int32) = i3 0 from rfl, i3_eq (by omega) (by omega)]; omega)]
        exact tail 1 0 0 (Or.inl ⟨rfl, rfl⟩) (by omega) (by omega)
  · have hk : oNumb x = .inl 1 := by
      rcases jcases x with ⟨k, rfl⟩ | ⟨z, rfl⟩ | ⟨s, rfl⟩ | ⟨l, rfl⟩ | ⟨l, rfl⟩ <;> first | rfl | exact absurd rfl h3 | exact absurd rfl h4
    rw [hk, text_f a1 (by rw [a3]; exact fun h => h4 ((ke (c := 4) ka (by omega)).mp h)), Option.bind_some, if_neg (show ¬ (1 : Nat) = 0 by decide), if_pos rfl]
    exact OpO.xs (k := 1) hM
theorem MS.cut {m : Nat} (hM : MS st vs cs ks ws) (hm : m ≤ 60) : ∃ ws', MS (xsI st 12 (i3 m)) vs cs ks ws' := by
  obtain ⟨⟨⟨h1, h2, h3, h4⟩, h5, h6, h7, h8⟩, r1, r2, r3, r4, r5, r6, r7⟩ := hM
  refine ⟨(List.range m).map (fun i => (xvc st 10 i, xvc st 11 i)), ⟨⟨?_, ?_, ?_, ?_⟩, h5, h6, h7, fun i p hp => ?_⟩, r1, r2, r3, r4, ⟨?_, r5.2⟩, r6, r7⟩
  · exact (up_ne (by decide) : va_up st.1 12 (i3 m) 2 = st.1 2).trans h1
  · exact (up_ne (by decide) : va_up st.1 12 (i3 m) 4 = st.1 4).trans h2
  · exact (up_ne (by decide) : va_up st.1 12 (i3 m) 7 = st.1 7).trans h3
  · rw [List.length_map, List.length_range]
    exact (up_eq : va_up st.1 12 (i3 m) 12 = i3 m)
  · rw [List.getElem?_map] at hp
    obtain ⟨j, hj, rfl⟩ := Option.map_eq_some_iff.mp hp
    obtain ⟨hl, hj'⟩ := List.getElem?_eq_some_iff.mp hj
    rw [List.getElem_range] at hj'
    subst hj'
    exact ⟨rfl, rfl⟩
  · rw [List.length_map, List.length_range]
    show m ≤ xln st 10
    have := r5.2.2.1
    omega
theorem emptyV {fu n : Nat} (h : xsi st 17 ≤ xsi st 16) (hn : 1 < n) : fM_value (fu + 1) n st = some (1, 1, 6, 0, xsI st 20 (xsi st 16)) := by
  obtain ⟨n, rfl⟩ : ∃ j, n = j + 1 := ⟨n - 1, by omega⟩
  have hp : ∀ m, fM_peek m st = some (-1) := fun m => by unfold fM_peek; rw [if_pos h]
  have hb : fM_blanks (n + 1) st = some st := by
    unfold fM_blanks
    rw [fM_blanks_b, hp, Option.bind_some, if_neg (by decide), Option.bind_some, if_pos (by decide)]
  have hd : fM_digit (n + 1) (-1) = some 0 := by unfold fM_digit; rw [if_pos (by decide)]
  rw [fM_value, hb, Option.bind_some, hp, Option.bind_some, if_neg (by decide), if_neg (by decide), if_neg (by decide), if_neg (by decide), if_neg (by decide), hd, Option.bind_some, if_pos rfl, if_neg (by decide), if_neg (by decide)]
  unfold fM_bad
  rw [Option.bind_some, if_pos rfl]
  exact xmo_some (Nat.le_refl _) (Nat.le_refl _)
end ONE
