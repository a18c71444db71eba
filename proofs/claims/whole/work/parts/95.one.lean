section ONE
variable {cs : List Nat} {e d : Nat} {st : xS} {vs : List VR} {ks ws : List NP}
theorem tnM {n a : Nat} {x : JT (e + 1)} (hM : MS st vs cs ks ws) (ha : Arg vs cs ks (e + 1) x a) (hB : Bd vs cs ks ws) (hn : 3000000000 < n) : OpO st 0 0 1 0 (fM_toNumber n st a) vs cs ks ws (oNumb x) := by
  have hB1 := hB.1
  have hbv : bV = 32000 := rfl
  obtain ⟨a1, a2, a3, _⟩ := ha.g hM
  have ka := ha.k7
  obtain ⟨x3, x4, _, _⟩ := kdc ha.2.1 _ rfl
  unfold fM_toNumber
  rw [if_neg a1, a3]
  by_cases h3 : kd (e + 1) x = 3
  · obtain ⟨z, rfl⟩ := x3 h3
    rw [kd_n, if_pos (by decide)]
    exact OpO.old hM ha.1
  rw [if_neg (show ¬ i3 (kd (e + 1) x) = 3 from fun h => h3 ((ke (c := 3) ka (by omega)).mp h))]
  by_cases h4 : kd (e + 1) x = 4
  · obtain ⟨s, rfl⟩ := x4 h4
    have hs := isStr_rep ha.1
    obtain ⟨g1, g2, g3⟩ := hs.gsz hM
    have hl := ha.ls
    have hres : oNumb (js s : JT (e + 1)) = (match pTN s with | none => .inl 4 | some z => .inr (jn z)) := rfl
    have loop : ∀ (sgn : Int) (y3 : Int32) (i : Nat), ((sgn = 1 ∧ y3 = 0) ∨ (sgn = -1 ∧ y3 = 1)) → i ≤ s.length → OpO st 0 0 1 0 (fM_toNumber_b n 1 0 y3 (i3 i) a st 0 0) vs cs ks ws (if (dv 0 (s.drop i)).2 = [] ∧ (dv 0 (s.drop i)).1 ≤ 9007199254740991 then .inr (jn (sgn * ((dv 0 (s.drop i)).1 : Int))) else .inl 4 : Nat ⊕ JT (e + 1)) := fun sgn y3 i hsg hi => tnL hM hs (by omega) hsg (by omega) (s.length - i) n i 0 (by omega) (by omega)
    have tail : ∀ (sgn : Int) (y3 : Int32) (i : Nat), ((sgn = 1 ∧ y3 = 0) ∨ (sgn = -1 ∧ y3 = 1)) → i < s.length → i ≤ 1 → OpO st 0 0 1 0 (if ((xpi st 2 (a - 1)) + i3 i) < 0 ∨ (xln st 3) ≤ ((xpi st 2 (a - 1)) + i3 i).toNatClampNeg then none else (if (xba st 3 ((xpi st 2 (a - 1)) + i3 i).toNatClampNeg) = 48 then (if i3 s.length ≤ i3 (i + 1) then fM_toNumber_b n 1 0 y3 (i3 i) a st 0 0 else ((fM_refuse n st 4).bind fun o15 => ((if o15.1 = 1 then xmo (fun a => a.2.1) (fun a => a.2.2.1) (0 + o15.2.1) (0 + o15.2.2.1) (some (1, (0 + o15.2.1), (0 + o15.2.2.1), 0, o15.2.2.2.2)) else none)))) else fM_toNumber_b n 1 0 y3 (i3 i) a st 0 0)) vs cs ks ws (match tnR sgn (s.drop i) with | none => .inl 4 | some z => .inr (jn z) : Nat ⊕ JT (e + 1)) := by
      intro sgn y3 i hsg hi hi1
      obtain ⟨c1, c2, c3⟩ := hs.chr hM (i := i) hi
      have hcons := List.drop_eq_getElem_cons hi
      have hL := loop sgn y3 i hsg (by omega)
      have hne : s.drop i ≠ [] := by rw [hcons]; exact List.cons_ne_nil _ _
      have hfin : ¬ ((s.drop i).head? = some 48 ∧ 1 < (s.drop i).length) → (match tnR sgn (s.drop i) with | none => .inl 4 | some z => .inr (jn z) : Nat ⊕ JT (e + 1)) = (if (dv 0 (s.drop i)).2 = [] ∧ (dv 0 (s.drop i)).1 ≤ 9007199254740991 then .inr (jn (sgn * ((dv 0 (s.drop i)).1 : Int))) else .inl 4) := by
        intro hh
        unfold tnR
        rw [if_neg hne, if_neg hh]
        by_cases hc : (dv 0 (s.drop i)).2 = [] ∧ (dv 0 (s.drop i)).1 ≤ 9007199254740991
        · rw [if_pos hc, if_pos hc]
        · rw [if_neg hc, if_neg hc]
      have h48 : (i3 s[i] = 48) = (s[i] = 48) := i3_eq (b := 48) (by omega) (by omega)
      rw [if_neg c1, c2]
      by_cases h0 : s[i] = 48
      · rw [if_pos (by rw [h48]; exact h0)]
        by_cases hl1 : s.length ≤ i + 1
        · rw [if_pos (by rw [i3_le (by omega) (by omega)]; exact hl1), hfin (fun hh => by rw [List.length_drop] at hh; omega)]
          exact hL
        · rw [if_neg (by rw [i3_le (by omega) (by omega)]; exact hl1)]
          have : tnR sgn (s.drop i) = none := by
            unfold tnR
            rw [if_neg hne, if_pos ⟨by rw [hcons, h0]; rfl, by rw [List.length_drop]; omega⟩]
          rw [this]
          exact refuse_o (k := 4) hM
      · rw [if_neg (by rw [h48]; exact h0), hfin (fun hh => by rw [hcons] at hh; exact h0 (Option.some.inj hh.1))]
        exact hL
    rw [text_s g1 g3, Option.bind_some, if_pos rfl]
    dsimp only
    rw [if_neg g1, g2, hres, pTN_eq]
    refine OpO.wrap ?_
    by_cases hz : s.length = 0
    · obtain rfl : s = [] := List.length_eq_zero_iff.mp hz
      rw [if_pos (by decide), if_pos (by decide), if_neg (by simp)]
      exact refuse_o (k := 4) hM
    · rw [if_neg (by rw [show (0 : Int32) = i3 0 from rfl, i3_le (by omega) (by omega)]; omega)]
      obtain ⟨c1, c2, c3⟩ := hs.chr hM (i := 0) (by omega)
      have hz0 : xpi st 2 (a - 1) + i3 0 = xpi st 2 (a - 1) := Int32.add_zero _
      rw [hz0] at c1 c2
      have hcons := List.drop_eq_getElem_cons (show 0 < s.length by omega)
      rw [List.drop_zero] at hcons
      have hh : (s.head? = some 45) = (s[0] = 45) := by
        have : s.head? = some s[0] := by
          conv => lhs; rw [hcons]
          rfl
        rw [this]
        exact propext ⟨fun h => by injection h, fun h => by rw [h]⟩
      have h45 : (i3 s[0] = 45) = (s[0] = 45) := i3_eq (b := 45) (by omega) (by omega)
      rw [if_neg c1, c2]
      by_cases hm : s[0] = 45
      · rw [if_pos (show i3 s[0] = 45 by rw [h45]; exact hm), if_pos (show s.head? = some 45 by rw [hh]; exact hm)]
        by_cases h1 : s.length = 1
        · have : tnR (-1) s.tail = none := by
            have : s.tail = [] := List.length_eq_zero_iff.mp (by rw [List.length_tail]; omega)
            rw [this]
            rfl
          rw [if_pos (show (1 : Int32) = i3 s.length by rw [h1]; rfl), this]
          exact refuse_o (k := 4) hM
        · rw [if_neg (show ¬ (1 : Int32) = i3 s.length by rw [show (1 : Int32) = i3 1 from rfl, i3_eq (by omega) (by omega)]; omega), ← List.drop_one]
          exact tail (-1) 1 1 (Or.inr ⟨rfl, rfl⟩) (by omega) (by omega)
      · rw [if_neg (show ¬ i3 s[0] = 45 by rw [h45]; exact hm), if_neg (show ¬ s.head? = some 45 by rw [hh]; exact hm), if_neg (show ¬ (0 : Int32) = i3 s.length by rw [show (0 : Int32) = i3 0 from rfl, i3_eq (by omega) (by omega)]; omega)]
        exact tail 1 0 0 (Or.inl ⟨rfl, rfl⟩) (by omega) (by omega)
  · have hk : oNumb x = .inl 1 := by
      rcases jcases x with ⟨k, rfl⟩ | ⟨z, rfl⟩ | ⟨s, rfl⟩ | ⟨l, rfl⟩ | ⟨l, rfl⟩ <;> first | rfl | exact absurd rfl h3 | exact absurd rfl h4
    rw [hk, text_f a1 (by rw [a3]; exact fun h => h4 ((ke (c := 4) ka (by omega)).mp h)), Option.bind_some, if_neg (show ¬ (1 : Nat) = 0 by decide), if_pos rfl]
    exact OpO.xs (k := 1) hM
theorem MS.cut {m : Nat} (hM : MS st vs cs ks ws) (hm : m ≤ 60) : ∃ ws', MS (xsI st 12 (i3 m)) vs cs ks ws' := by
  obtain ⟨⟨⟨h1, h2, h3, h4⟩, h5, h6, h7, h8⟩, r1, r2, r3, r4, r5, r6, r7⟩ := hM
  refine ⟨(List.range m).map (fun i => (xvc st 10 i, xvc st 11 i)), ⟨⟨?_, ?_, ?_, ?_⟩, h5, h6, h7, fun i p hp => ?_⟩, r1, r2, r3, r4, ⟨?_, r5.2⟩, r6, r7⟩
  · exact (up_ne (by decide) : va_up st.1 12 (i3 m) 2 = st.1 2).trans h1
  · exact (up_ne (by decide) : va_up st.1 12 (i3 m) 4 = st.1 4).trans h2
  · exact (up_ne (by decide) : va_up st.1 12 (i3 m) 7 = st.1 7).trans h3
  · rw [List.length_map, List.length_range]
    exact (up_eq : va_up st.1 12 (i3 m) 12 = i3 m)
  · rw [List.getElem?_map] at hp
    obtain ⟨j, hj, rfl⟩ := Option.map_eq_some_iff.mp hp
    obtain ⟨hl, hj'⟩ := List.getElem?_eq_some_iff.mp hj
    rw [List.getElem_range] at hj'
    subst hj'
    exact ⟨rfl, rfl⟩
  · rw [List.length_map, List.length_range]
    show m ≤ xln st 10
    have := r5.2.2.1
    omega
theorem emptyV {fu n : Nat} (h : xsi st 17 ≤ xsi st 16) (hn : 1 < n) : fM_value (fu + 1) n st = some (1, 1, 6, 0, xsI st 20 (xsi st 16)) := by
  obtain ⟨n, rfl⟩ : ∃ j, n = j + 1 := ⟨n - 1, by omega⟩
  have hp : ∀ m, fM_peek m st = some (-1) := fun m => by unfold fM_peek; rw [if_pos h]
  have hb : fM_blanks (n + 1) st = some st := by
    unfold fM_blanks
    rw [fM_blanks_b, hp, Option.bind_some, if_neg (by decide), Option.bind_some, if_pos (by decide)]
  have hd : fM_digit (n + 1) (-1) = some 0 := by unfold fM_digit; rw [if_pos (by decide)]
  rw [fM_value, hb, Option.bind_some, hp, Option.bind_some, if_neg (by decide), if_neg (by decide), if_neg (by decide), if_neg (by decide), if_neg (by decide), hd, Option.bind_some, if_pos rfl, if_neg (by decide), if_neg (by decide)]
  unfold fM_bad
  rw [Option.bind_some, if_pos rfl]
  exact xmo_some (Nat.le_refl _) (Nat.le_refl _)
theorem FrO.sx {st : xS} {c : Nat} : FrO st (xsX st c) := ⟨fun _ _ => rfl, fun _ _ => ⟨rfl, rfl⟩, id⟩
def backS (st st' : xS) : xS := xsI (xsI (xsI (xsI (xsI (xsX st' (xsr st)) 16 (xsi st 16)) 17 (xsi st 17)) 20 (xsi st 20)) 12 (xsi st 12)) 19 (xsi st 19)
theorem backS_fr {st' : xS} : FrO st' (backS st st') := FrO.sx.trans ((FrO.at (k := 16) _ (by decide)).trans ((FrO.at (k := 17) _ (by decide)).trans ((FrO.at (k := 20) _ (by decide)).trans ((FrO.at (k := 12) _ (by decide)).trans (FrO.at (k := 19) _ (by decide))))))
theorem backS_ms {st' : xS} {vs' : List VR} {cs' : List Nat} {ks' : List NP} (hsr : xsr st < 41) (h12 : xsi st 12 = i3 ws.length) (hM : MS st' vs' cs' ks' ws) : MS (backS st st') vs' cs' ks' ws := by
  have h1 : MS (xsI (xsI (xsI (xsX st' (xsr st)) 16 (xsi st 16)) 17 (xsi st 17)) 20 (xsi st 20)) vs' cs' ks' ws := (((hM.sx (show xsr st < 41 + xgl st' by omega)).si (by decide) (by decide) (by decide) (by decide)).si (by decide) (by decide) (by decide) (by decide)).si (by decide) (by decide) (by decide) (by decide)
  have h2 : xsI (xsI (xsI (xsI (xsX st' (xsr st)) 16 (xsi st 16)) 17 (xsi st 17)) 20 (xsi st 20)) 12 (xsi st 12) = xsI (xsI (xsI (xsX st' (xsr st)) 16 (xsi st 16)) 17 (xsi st 17)) 20 (xsi st 20) := xsI_id (h1.1.1.2.2.2.trans h12.symm)
  unfold backS
  rw [h2]
  exact h1.si (by decide) (by decide) (by decide) (by decide)
theorem backS_ms' {st' : xS} {vs' : List VR} {cs' : List Nat} {ks' ws' : List NP} {m : Nat} (hsr : xsr st < 41) (h12 : xsi st 12 = i3 m) (hm : m ≤ 60) (hM : MS st' vs' cs' ks' ws') : ∃ w, MS (backS st st') vs' cs' ks' w := by
  have h1 : MS (xsI (xsI (xsI (xsX st' (xsr st)) 16 (xsi st 16)) 17 (xsi st 17)) 20 (xsi st 20)) vs' cs' ks' ws' := (((hM.sx (show xsr st < 41 + xgl st' by omega)).si (by decide) (by decide) (by decide) (by decide)).si (by decide) (by decide) (by decide) (by decide)).si (by decide) (by decide) (by decide) (by decide)
  obtain ⟨w, hw⟩ := h1.cut hm
  refine ⟨w, ?_⟩
  unfold backS
  rw [h12]
  exact hw.si (by decide) (by decide) (by decide) (by decide)
theorem fromM {fu n a : Nat} {x : JT (e + 1)} (he : 40 ≤ e) (hM : MS st vs cs ks ws) (hsr : 32 ≤ xsr st ∧ xsr st < 41) (ha : Arg vs cs ks (e + 1) x a) (hB : Bd vs cs ks ws) (hfu : e < fu) (hn : 3000000000 < n) : OpO st 0 0 1 0 (fM_fromJson fu n st a) vs cs ks ws (oFrom x) := by
  obtain ⟨B1, B2, B3, B4⟩ := hB
  have hbv : bV = 32000 := rfl
  have hbk : bK = 32000 := rfl
  have hbc : bC = 100000 := rfl
  obtain ⟨a1, a2, a3, _⟩ := ha.g hM
  have ka := ha.k7
  obtain ⟨_, x4, _, _⟩ := kdc ha.2.1 _ rfl
  unfold fM_fromJson
  by_cases h4 : kd (e + 1) x = 4
  · obtain ⟨s, rfl⟩ := x4 h4
    have hs := isStr_rep ha.1
    obtain ⟨g1, g2, g3⟩ := hs.gsz hM
    have hl := ha.ls
    have hres : oFrom (js s : JT (e + 1)) = (match pT e 40 s with | .inl _ => .inl 5 | .inr j => .inr j) := rfl
    have hg : ¬ ¬ (xsr st = 0 ∨ (32 ≤ xsr st ∧ xsr st < 41)) := fun h => h (Or.inr hsr)
    have bad : ∀ (cc k : Nat) (st' : xS), CostE st st' cc k 1 → FrO st st' → (∃ vs' cs' ks' ws', MS st' vs' cs' ks' ws') → OpO st 0 0 1 0 (xmo (fun a => a.2.1) (fun a => a.2.2.1) (0 + cc) (0 + k) ((fM_refuse n (backS st st') 5).bind fun o36 => ((if o36.1 = 1 then xmo (fun a => a.2.1) (fun a => a.2.2.1) ((0 + cc) + o36.2.1) ((0 + k) + o36.2.2.1) (some (1, ((0 + cc) + o36.2.1), ((0 + k) + o36.2.2.1), 0, o36.2.2.2.2)) else none)))) vs cs ks ws (.inl 5 : Nat ⊕ JT (e + 1)) := by
      intro cc k st' h1 h2 ⟨v', c', k', w', h3⟩
      obtain ⟨w, hw⟩ := backS_ms' hsr.2 hM.1.1.2.2.2 B4 h3
      refine ⟨cc + 1, k + 6, xsI (backS st st') 8 5, ?_, ⟨by have := h1.1; omega, ?_⟩, ⟨⟨v', c', k', w, hw.si (by decide) (by decide) (by decide) (by decide)⟩, (h2.trans backS_fr).trans (FrO.at (k := 8) _ (by decide))⟩, (up_eq : va_up (backS st st').1 8 5 8 = 5)⟩
      · have hin : ∀ (c1 s1 c2 s2 : Nat) (z : xS), c1 ≤ c2 → s1 ≤ s2 → xmo (fun a : Nat × Nat × Nat × Nat × xS => a.2.1) (fun a => a.2.2.1) c1 s1 (some (1, c2, s2, 0, z)) = some (1, c2, s2, 0, z) := fun _ _ _ _ _ h1 h2 => xmo_some h1 h2
        unfold fM_refuse
        rw [Option.bind_some, if_pos rfl]
        dsimp only
        rw [hin _ _ _ _ _ (Nat.le_refl _) (Nat.le_refl _), hin _ _ _ _ _ (by omega) (by omega)]
        simp only [Nat.zero_add]
      · have := h1.2
        show k + 6 + pt st ≤ pt st' + 6 * 2
        omega
    rw [text_s g1 g3, Option.bind_some, if_pos rfl, if_neg (fun h => g1 (Or.inr h))]
    dsimp only
    rw [if_neg g1, g2, hres]
    refine OpO.wrap ?_
    by_cases h0 : s = []
    · subst h0
      obtain ⟨fu, rfl⟩ : ∃ f, fu = f + 1 := ⟨fu - 1, by omega⟩
      have hpT : ∃ r, pT e 40 ([] : List Nat) = .inl r := by
        cases e with
        | zero => omega
        | succ e => exact ⟨[], rfl⟩
      obtain ⟨r, hr⟩ := hpT
      have hz : xpi st 2 (a - 1) + i3 ([] : Sx).length = xpi st 2 (a - 1) := Int32.add_zero _
      have hjs : fM_json (fu + 1) n (xsI st 19 40) 3 (xpi st 2 (a - 1)) (xpi st 2 (a - 1) + i3 ([] : Sx).length) = some (1, 1, 6, 0, xsI (xsI (xsI (xsI (xsX (xsI st 19 40) 3) 16 (xpi st 2 (a - 1))) 17 (xpi st 2 (a - 1))) 18 0) 20 (xpi st 2 (a - 1))) := by
        unfold fM_json
        have h17 : xsi (xsI (xsI (xsI (xsX (xsI st 19 40) 3) 16 (xpi st 2 (a - 1))) 17 (xpi st 2 (a - 1))) 18 0) 17 = xpi st 2 (a - 1) := by
          show va_up (va_up (va_up (va_up st.1 19 40) 16 (xpi st 2 (a - 1))) 17 (xpi st 2 (a - 1))) 18 0 17 = _
          rw [up_ne (by decide), up_eq]
        have h16 : xsi (xsI (xsI (xsI (xsX (xsI st 19 40) 3) 16 (xpi st 2 (a - 1))) 17 (xpi st 2 (a - 1))) 18 0) 16 = xpi st 2 (a - 1) := by
          show va_up (va_up (va_up (va_up st.1 19 40) 16 (xpi st 2 (a - 1))) 17 (xpi st 2 (a - 1))) 18 0 16 = _
          rw [up_ne (by decide), up_ne (by decide), up_eq]
        rw [hz, emptyV (by rw [h16, h17]; exact Int32.le_refl _) (by omega), Option.bind_some, if_neg (show ¬ (1 : Nat) = 0 by decide), if_pos rfl, h16]
        exact xmo_some (Nat.le_refl _) (Nat.le_refl _)
      rw [hjs, Option.bind_some, if_neg (show ¬ (1 : Nat) = 0 by decide), if_pos rfl, if_neg hg, hr]
      have hM' : MS (xsI (xsI (xsI (xsI (xsX (xsI st 19 40) 3) 16 (xpi st 2 (a - 1))) 17 (xpi st 2 (a - 1))) 18 0) 20 (xpi st 2 (a - 1))) vs cs ks ws := (((((hM.si (k := 19) (by decide) (by decide) (by decide) (by decide)).sx (show 3 < 41 + xgl st by omega)).si (by decide) (by decide) (by decide) (by decide)).si (by decide) (by decide) (by decide) (by decide)).si (by decide) (by decide) (by decide) (by decide)).si (by decide) (by decide) (by decide) (by decide)
      exact bad 1 6 _ ⟨by omega, by show 6 + pt st ≤ pt st + 6 * 1; omega⟩ ((FrO.at (k := 19) _ (by decide)).trans (FrO.sx.trans ((FrO.at (k := 16) _ (by decide)).trans ((FrO.at (k := 17) _ (by decide)).trans ((FrO.at (k := 18) _ (by decide)).trans (FrO.at (k := 20) _ (by decide))))))) ⟨vs, cs, ks, ws, hM'⟩
    · have hpos : 0 < s.length := List.length_pos_iff.mpr h0
      have hsok : ∀ c ∈ s, c < 128 := ha.2.1
      obtain ⟨q1, v, qv, q4, qsz, _, _, qg⟩ := hs
      obtain ⟨_, w2, _⟩ := hM.vc q1 qv
      have hlast := (List.getElem?_eq_some_iff.mp (qg (s.length - 1) s[s.length - 1] (List.getElem?_eq_getElem (by omega)))).1
      have hcl := hM.cl.2.1
      have hln := hM.2.2.2.1.1
      rw [w2.2.1, i3_add]
      have hM0 : MS (xsI (xsI (xsI (xsX (xsI st 19 40) 3) 16 (i3 v.2.1)) 17 (i3 (v.2.1 + s.length))) 18 0) vs cs ks ws := (((MS.sx (hM.si (k := 19) (v := 40) (by decide) (by decide) (by decide) (by decide)) (show 3 < 41 + xgl st by omega)).si (by decide) (by decide) (by decide) (by decide)).si (by decide) (by decide) (by decide) (by decide)).si (by decide) (by decide) (by decide) (by decide)
      have hP0 : PR v.2.1 s (xsI (xsI (xsI (xsX (xsI st 19 40) 3) 16 (i3 v.2.1)) 17 (i3 (v.2.1 + s.length))) 18 0) s := by
        refine ⟨⟨fun c hc => by have := hsok c hc; omega, ⟨xba st 3, ⟨Or.inl rfl, ?_, fun i hi => ?_, fun hh => ⟨cs.length, by omega, ?_, by omega⟩⟩, ?_⟩, rfl, by omega⟩, List.suffix_refl _, ?_⟩
        · show v.2.1 + s.length ≤ xln st 3
          omega
        · rfl
        · show va_up (va_up (va_up (va_up st.1 19 40) 16 (i3 v.2.1)) 17 (i3 (v.2.1 + s.length))) 18 0 4 = _
          rw [up_ne (by decide), up_ne (by decide), up_ne (by decide), up_ne (by decide)]
          exact hM.1.1.2.1
        · intro i y hy
          rw [List.getElem?_map] at hy
          obtain ⟨c, hc, rfl⟩ := Option.map_eq_some_iff.mp hy
          have hcc := hM.1.2.2.1 _ _ (qg i c hc)
          rw [hcc.1, sb_lt hcc.2]
        · show i3 v.2.1 = rp v.2.1 s s
          unfold rp
          rw [Nat.sub_self]
          rfl
      have hJ := jsonM (st := xsI st 19 40) (c0 := 3) (x1 := i3 v.2.1) (x2 := i3 (v.2.1 + s.length)) (k := e) (m0 := 40) (fu := fu) (n := n) (by omega) hn (by omega) he hfu hM0 hP0 rfl (Or.inl (by omega)) (by omega) (by omega) (by omega) (by omega)
      rw [pW_pT] at hJ
      have f0 : FrO st (xsI (xsI (xsI (xsX (xsI st 19 40) 3) 16 (i3 v.2.1)) 17 (i3 (v.2.1 + s.length))) 18 0) := (FrO.at (k := 19) _ (by decide)).trans (FrO.sx.trans ((FrO.at (k := 16) _ (by decide)).trans ((FrO.at (k := 17) _ (by decide)).trans (FrO.at (k := 18) _ (by decide)))))
      cases hp : pT e 40 s with
      | inl r =>
        rw [hp] at hJ
        obtain ⟨cc, k, st', e1, m1, m2⟩ := hJ
        rw [e1, Option.bind_some, if_neg (show ¬ (1 : Nat) = 0 by decide), if_pos rfl, if_neg hg]
        have := bad cc k st' ⟨m1.1, m1.2⟩ (f0.trans m2.2.2.1.o) m2.1
        simp only [Nat.zero_add] at this ⊢
        exact this
      | inr j =>
        rw [hp] at hJ
        obtain ⟨cc, k, c, st', v', c', k', e1, m1, m2, m3, m4, m5, m6, _⟩ := hJ
        have hc0 := m6.le.1
        rw [e1, Option.bind_some, if_pos rfl, if_neg hg]
        dsimp only
        rw [if_neg (show ¬ c = 0 by omega)]
        simp only [Nat.zero_add]
        refine Or.inl ⟨cc, k, c, backS st st', v', c', k', ?_, backS_ms hsr.2 hM.1.1.2.2.2 m1, ⟨m3.1, m3.2⟩, (f0.trans m4.p.o).trans backS_fr, m6⟩
        rw [Nat.zero_add, Nat.zero_add]
        exact xmo_some (Nat.le_refl _) (Nat.le_refl _)
  · have hk : oFrom x = .inl 1 := by
      rcases jcases x with ⟨k, rfl⟩ | ⟨z, rfl⟩ | ⟨s, rfl⟩ | ⟨l, rfl⟩ | ⟨l, rfl⟩ <;> first | rfl | exact absurd rfl h4
    rw [hk, text_f a1 (by rw [a3]; exact fun h => h4 ((ke (c := 4) ka (by omega)).mp h)), Option.bind_some, if_neg (show ¬ (1 : Nat) = 0 by decide), if_pos rfl, if_neg a2]
    exact OpO.xs (k := 1) hM
end ONE
