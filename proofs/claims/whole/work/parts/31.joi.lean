section JOI
variable {cs : List Nat} {e d : Nat} {vs : List VR} {ks ws : List NP}
theorem Rep.mc {vs : List VR} {cs cs' : List Nat} {ks : List NP} {d : Nat} {j : JT d} {c : Nat} (h : Rep vs cs ks d j c) : Rep vs (cs ++ cs') ks d j c := by
  have := h.mono (vs' := []) (cs' := cs') (ks' := [])
  rw [List.append_nil, List.append_nil] at this
  exact this
theorem joi1 {st : xS} {fu a b N wc wn : Nat} {l : List (JT e)} {R : Nat ⊕ JT (d + 1)} (hM : MS st vs cs ks ws) (ha : Rep vs cs ks (e + 1) (ja l) a) (hol : ∀ x ∈ l, jok e x) (hl : l.length ≤ 4096) (hK : l.all (fun x => decide (kd e x < 5)) = true → ∀ n', N ≤ n' → OpO st wc wn 1 2 (fM_joined_b fu n' 2 (xsi st 4) a b 0 0 0 0 st wc wn) vs cs ks ws R) : ∀ (q n i : Nat), i + q = l.length → (l.take i).all (fun x => decide (kd e x < 5)) = true → N + q + 1 ≤ n → OpO st wc wn 1 2 (fM_joined_b fu n 1 (i3 i) a b 0 0 0 0 st wc wn) vs cs ks ws (if (l.drop i).all (fun x => decide (kd e x < 5)) = true then R else .inl 1) := by
  obtain ⟨a1, _, _, _⟩ := ha.g hM
  obtain ⟨as, _⟩ := ha.sza hM
  intro q
  induction q with
  | zero =>
    intro n i hi hall hn
    obtain ⟨n, rfl⟩ : ∃ j, n = j + 1 := ⟨n - 1, by omega⟩
    rw [List.take_of_length_le (by omega)] at hall
    rw [fM_joined_b, if_pos rfl, if_neg a1, as, if_pos (by rw [i3_le (by omega) (by omega)]; omega), List.drop_eq_nil_of_le (by omega), List.all_nil, if_pos rfl]
    exact OpO.wrap (hK hall n (by omega))
  | succ q ih =>
    intro n i hi hall hn
    obtain ⟨n, rfl⟩ : ∃ j, n = j + 1 := ⟨n - 1, by omega⟩
    obtain ⟨k, e1, r1⟩ := ha.kid (n := n) hM (List.getElem?_eq_getElem (show i < l.length by omega))
    have hoi := hol l[i] (List.getElem_mem _)
    obtain ⟨k1, k2, k3⟩ := r1.ge hM hoi
    have hc4 : (i3 (kd e l[i]) ≤ 4) = (kd e l[i] ≤ 4) := i3_le (b := 4) (by omega) (by omega)
    rw [fM_joined_b, if_pos rfl, if_neg a1, as, if_neg (by rw [i3_le (by omega) (by omega)]; omega), e1, Option.bind_some, if_neg k1, k2, List.drop_eq_getElem_cons (show i < l.length by omega), List.all_cons]
    refine OpO.wrap ?_
    by_cases h4 : kd e l[i] ≤ 4
    · rw [if_pos (by rw [hc4]; exact h4), decide_eq_true (by omega), Bool.true_and, i3_one]
      exact ih n (i + 1) (by omega) (by rw [List.take_succ_eq_append_getElem (show i < l.length by omega), List.all_append, hall, List.all_cons, decide_eq_true (by omega)]; rfl) (by omega)
    · rw [if_neg (by rw [hc4]; exact h4), decide_eq_false (by omega), Bool.false_and, if_neg (by decide)]
      exact refuse_o (k := 1) hM
theorem shown_k {x : JT e} (h : jok e x) : (kd e x = 4 → ∀ vs cs ks c, Rep vs cs ks e x c → isStr vs cs c (shown e x)) ∧ (kd e x = 0 → shown e x = []) ∧ (kd e x < 4 → kd e x ≠ 0 → shown e x = jt e x) := by
  cases e with
  | zero => exact (j0 x).elim
  | succ e =>
    rcases jcases x with ⟨k, rfl⟩ | ⟨z, rfl⟩ | ⟨s, rfl⟩ | ⟨l, rfl⟩ | ⟨l, rfl⟩
    · have h3 : k < 3 := h
      refine ⟨fun h => by rw [kd_k] at h; omega, fun h => ?_, fun _ h => ?_⟩
      · rw [kd_k] at h
        subst h
        rfl
      · rw [kd_k] at h
        exact if_neg h
    · exact ⟨fun h => by rw [kd_n] at h; omega, fun h => by rw [kd_n] at h; omega, fun _ _ => rfl⟩
    · exact ⟨fun _ vs cs ks c hr => isStr_rep hr, fun h => by rw [kd_s] at h; omega, fun h => by rw [kd_s] at h; omega⟩
    · exact ⟨fun h => by rw [kd_a] at h; omega, fun h => by rw [kd_a] at h; omega, fun h => by rw [kd_a] at h; omega⟩
    · exact ⟨fun h => by rw [kd_o] at h; omega, fun h => by rw [kd_o] at h; omega, fun h => by rw [kd_o] at h; omega⟩
theorem shown_w {x : JT e} : (shown e x).length ≤ (jt e x).length ∨ kd e x = 4 := by
  cases e with
  | zero => exact (j0 x).elim
  | succ e =>
    rcases jcases x with ⟨k, rfl⟩ | ⟨z, rfl⟩ | ⟨s, rfl⟩ | ⟨l, rfl⟩ | ⟨l, rfl⟩
    · left
      show (if k = 0 then [] else wd k).length ≤ (wd k).length
      split
      · exact Nat.zero_le _
      · exact Nat.le_refl _
    · exact Or.inl (Nat.le_refl _)
    · exact Or.inr rfl
    · exact Or.inl (Nat.zero_le _)
    · exact Or.inl (Nat.zero_le _)
def NxJ (fu n : Nat) (base a b i : Nat) (vs : List VR) (cs : List Nat) (ks ws : List NP) (Y : List Nat) {d : Nat} (R : Nat ⊕ JT d) : Prop := ∀ (st' : xS) (wc' wn' : Nat) (y7 y6 : Int32) (y5 : Nat), MS st' vs (cs ++ Y) ks ws → PV st' 1000000000 [] → Y.length ≤ 60000 → OpO st' wc' wn' 1 2 (fM_joined_b fu n 2 (i3 base) a b (i3 (i + 1)) y7 y6 y5 st' wc' wn') vs (cs ++ Y) ks ws R
theorem chkJ {st : xS} {fu n a b i wc wn y5 : Nat} {y7 y6 : Int32} {Y : List Nat} {R : JT d} (hM : MS st vs (cs ++ Y) ks ws) (hP : PV st 1000000000 []) (hY : Y.length ≤ 90000) (hi : i ≤ 4096) (hK : NxJ fu n cs.length a b i vs cs ks ws Y (.inr R)) (hB : 60000 < Y.length → 60000 < (jc d R).length) : OpO st wc wn 1 2 (if ((xsi st 4) - i3 cs.length) ≤ 60000 then fM_joined_b fu n 2 (i3 cs.length) a b (i3 i + 1) y7 y6 y5 st wc wn else (fM_limit n st).bind fun o19 => ((if o19.1 = 1 then xmo (fun a => a.2.1) (fun a => a.2.2.1) (wc + o19.2.1) (wn + o19.2.2.1) (some (2, (wc + o19.2.1), (wn + o19.2.2.1), 0, st)) else none))) vs (cs ++ Y) ks ws (.inr R) := by
  have h4 : xsi st 4 - i3 cs.length = i3 Y.length := by
    rw [hM.1.1.2.1, List.length_append, i3_sub' (by omega), Nat.add_sub_cancel_left]
  have hc : (i3 Y.length ≤ 60000) = (Y.length ≤ 60000) := i3_le (b := 60000) (by omega) (by omega)
  rw [h4, i3_one]
  by_cases h : Y.length ≤ 60000
  · rw [if_pos (by rw [hc]; exact h)]
    exact hK st wc wn y7 y6 y5 hM hP h
  · rw [if_neg (by rw [hc]; exact h)]
    exact limit_o hM (by omega) (Or.inr (hB (by omega)))
theorem joi3 {fu a b c i N : Nat} {X w : List Nat} {R : JT d} (hc : c ≤ vs.length) (ha : a ≤ vs.length) (hb : b ≤ vs.length) (hX : cs.length + X.length + w.length ≤ bC) (hXl : X.length ≤ 70000) (hw : w.length ≤ 5000) (hi : i ≤ 4096) (hN : 300000 ≤ N) (hB : 60000 < (X ++ w).length → 60000 < (jc d R).length) (hK : ∀ n', N ≤ n' → NxJ fu n' cs.length a b i vs cs ks ws (X ++ w) (.inr R)) : ∀ (q n j : Nat) (st : xS) (wc wn : Nat), j + q = w.length → MS st vs (cs ++ (X ++ w.take j)) ks ws → PV st 1000000000 w → N + q + 1 ≤ n → OpO st wc wn 1 2 (fM_joined_b fu n 3 (i3 cs.length) a b (i3 i) (i3 j) 0 c st wc wn) vs (cs ++ (X ++ w.take j)) ks ws (.inr R) := by
  have hbc : bC = 100000 := rfl
  have hbv : bV = 32000 := rfl
  intro q
  induction q with
  | zero =>
    intro n j st wc wn hj hM hP hn
    obtain ⟨n, rfl⟩ : ∃ k, n = k + 1 := ⟨n - 1, by omega⟩
    rw [List.take_of_length_le (by omega)] at hM ⊢
    rw [fM_joined_b, if_neg (by decide), if_neg (by decide), hP.1, if_pos (by rw [i3_le (by omega) (by omega)]; omega)]
    have hM2 : MS (xsI st 22 0) vs (cs ++ (X ++ w)) ks ws := hM.si (by decide) (by decide) (by decide) (by decide)
    have hP2 : PV (xsI st 22 0) 1000000000 [] := by
      obtain ⟨h1, h2, h3, h4, h5, h6, h7⟩ := hP
      refine ⟨(up_eq : va_up st.1 22 0 22 = 0), ?_, h3, fun i c hh => by simp at hh, Nat.zero_le _, h6, h7⟩
      show va_up st.1 22 0 23 = _
      rw [up_ne (by decide)]
      exact h2
    have := chkJ (wc := wc) (wn := wn) (y7 := i3 j) (y6 := 0) (y5 := c) hM2 hP2 (by rw [List.length_append]; omega) hi (hK n (by omega)) hB
    have h4 : xsi (xsI st 22 0) 4 = xsi st 4 := by
      show va_up st.1 22 0 4 = _
      rw [up_ne (by decide)]
    rw [h4] at this
    exact OpO.wrap (OpO.step0 (cc := 0) (s := 0) (st1 := xsI st 22 0) this ⟨Nat.le_refl _, Nat.le_of_eq (Nat.zero_add _)⟩ (FrO.at (k := 22) _ (by decide)))
  | succ q ih =>
    intro n j st wc wn hj hM hP hn
    obtain ⟨n, rfl⟩ : ∃ k, n = k + 1 := ⟨n - 1, by omega⟩
    have hPi := hP.2.2.2.1 j w[j] (List.getElem?_eq_getElem (by omega))
    have hPl := hP.2.2.2.2.1
    have hx0 := hM.2.2.1.1
    obtain ⟨cc, s, st', e1, m1, m2, m3, _⟩ := letter_w (n := n) hM hPi.2 (by rw [List.length_append, List.length_append, List.length_take]; omega) (by omega)
    rw [fM_joined_b, if_neg (by decide), if_neg (by decide), hP.1, if_neg (by rw [i3_le (by omega) (by omega)]; omega), if_neg (i3_idx (by omega) (by omega)), i3_N (by omega), hPi.1, e1, Option.bind_some, if_neg (show ¬ xct st < c by omega), if_neg (show ¬ xct st < a by omega), if_neg (show ¬ xct st < b by omega), i3_one]
    refine OpO.wrap (OpO.stepc (b := [w[j]]) (OpO.wrap ?_) m2 m3.o)
    rw [List.append_assoc, List.append_assoc, ← List.take_succ_eq_append_getElem (show j < w.length by omega)] at m1 ⊢
    exact ih n (j + 1) st' (wc + cc) (wn + s) (by omega) m1 (hP.fr0 m3) (by omega)
theorem joi2 {fu a b : Nat} {l : List (JT e)} {t : Sx} (hfu : 1 ≤ fu) (ha : Rep vs cs ks (e + 1) (ja l) a) (hb : isStr vs cs b t) (hol : ∀ x ∈ l, jok e x) (hsz : ∀ x ∈ l, (shown e x).length ≤ 4096) (hk5 : ∀ x ∈ l, kd e x < 5) (hl : l.length ≤ 4096) (ht : t.length ≤ 4095) (hbc : cs.length ≤ 8200) (hbv : vs.length + 1 ≤ bV) : ∀ (q n i : Nat) (st : xS) (X : List Nat) (wc wn : Nat) (y7 y6 : Int32) (y5 : Nat), i + q = l.length → (i = 0 → X = []) → X.length ≤ 60000 → MS st vs (cs ++ X) ks ws → PV st 1000000000 [] → 500000 + q * 20000 < n → OpO st wc wn 1 2 (fM_joined_b fu n 2 (i3 cs.length) a b (i3 i) y7 y6 y5 st wc wn) vs (cs ++ X) ks ws (.inr (js (X ++ (if i = 0 then jn' t l else (l.drop i).flatMap (fun y => t ++ shown e y)))) : Nat ⊕ JT (d + 1)) := by
  have hbc' : bC = 100000 := rfl
  have hbv' : bV = 32000 := rfl
  have hbp : bP = 200000 := rfl
  intro q
  induction q with
  | zero =>
    intro n i st X wc wn y7 y6 y5 hi h0 hX hM hP hn
    obtain ⟨n, rfl⟩ : ∃ j, n = j + 1 := ⟨n - 1, by omega⟩
    have ha' : Rep vs (cs ++ X) ks (e + 1) (ja l) a := ha.mc
    obtain ⟨a1, _, _, _⟩ := ha'.g hM
    have hnil : (if i = 0 then jn' t l else (l.drop i).flatMap (fun y => t ++ shown e y)) = [] := by
      by_cases hi0 : i = 0
      · have : l = [] := List.length_eq_zero_iff.mp (by omega)
        rw [if_pos hi0, this]
        rfl
      · rw [if_neg hi0, List.drop_eq_nil_of_le (by omega)]
        rfl
    rw [fM_joined_b, if_neg (by decide), if_pos rfl, if_neg a1, (ha'.sza hM).1, if_pos (by rw [i3_le (by omega) (by omega)]; omega), hnil, List.append_nil]
    exact OpO.wrap (OpO.l1 (cR := 1) (by omega) (string_o hM hbv (by omega)))
  | succ q ih =>
    intro n i st X wc wn y7 y6 y5 hi h0 hX hM hP hn
    have hmul : (q + 1) * 20000 = q * 20000 + 20000 := Nat.succ_mul _ _
    obtain ⟨n, rfl⟩ : ∃ j, n = j + 1 := ⟨n - 1, by omega⟩
    have ha' : Rep vs (cs ++ X) ks (e + 1) (ja l) a := ha.mc
    have hb' : isStr vs (cs ++ X) b t := hb.mc
    obtain ⟨a1, a2, _, _⟩ := ha'.g hM
    obtain ⟨c, e1, r1⟩ := ha'.kid (n := n) hM (List.getElem?_eq_getElem (show i < l.length by omega))
    have hmem : l[i] ∈ l := List.getElem_mem _
    have hoi := hol _ hmem
    have hk := hk5 _ hmem
    have hsi := hsz _ hmem
    obtain ⟨sh4, sh0, shp⟩ := shown_k hoi
    have hcle := r1.lev
    have hale := ha'.lev
    have hble := hb'.le.2.1
    generalize hT : (X ++ (if i = 0 then jn' t l else (l.drop i).flatMap (fun y => t ++ shown e y))) = T
    have fin : ∀ (X1 : List Nat), X1 = (if i = 0 then X else X ++ t) → X1.length ≤ 64095 ∧ T = (X1 ++ shown e l[i]) ++ (l.drop (i + 1)).flatMap (fun y => t ++ shown e y) := by
      intro X1 h1
      by_cases hi0 : i = 0
      · subst hi0
        rw [if_pos rfl] at h1 hT
        refine ⟨by rw [h1]; omega, ?_⟩
        have hl2 : l = l[0] :: l.drop 1 := by
          have := List.drop_eq_getElem_cons (show 0 < l.length by omega)
          rw [List.drop_zero] at this
          exact this
        rw [← hT, h1, List.append_assoc]
        congr 1
        conv => lhs; rw [hl2]
        rfl
      · rw [if_neg hi0] at h1 hT
        refine ⟨by rw [h1, List.length_append]; omega, ?_⟩
        rw [← hT, h1, List.drop_eq_getElem_cons (show i < l.length by omega), List.flatMap_cons, List.append_assoc, List.append_assoc, List.append_assoc]
    have nxt : ∀ (X1 : List Nat), X1 = (if i = 0 then X else X ++ t) → ∀ n', 500000 + q * 20000 + 1 ≤ n' → NxJ fu n' cs.length a b i vs cs ks ws (X1 ++ shown e l[i]) (.inr (js T) : Nat ⊕ JT (d + 1)) := by
      intro X1 h1 n' hn' st' wc' wn' z7 z6 z5 hM' hP' hY'
      have := ih n' (i + 1) st' (X1 ++ shown e l[i]) wc' wn' z7 z6 z5 (by omega) (fun h => by omega) hY' hM' hP' hn'
      rw [if_neg (by omega), ← (fin X1 h1).2] at this
      exact this
    have big : ∀ (X1 : List Nat), X1 = (if i = 0 then X else X ++ t) → 60000 < (X1 ++ shown e l[i]).length → 60000 < (jc (d + 1) (js T : JT (d + 1))).length := by
      intro X1 h1 h2
      rw [jc_s, strc_ln, (fin X1 h1).2, List.length_append]
      omega
    have lets : ∀ (st1 : xS) (X1 : List Nat), X1 = (if i = 0 then X else X ++ t) → MS st1 vs (cs ++ X1) ks ws → Rep vs (cs ++ X1) ks e l[i] c → kd e l[i] = 4 → ∃ (cc s : Nat) (st2 : xS), fM_letters n st1 c = some (cc, s, st2) ∧ MS st2 vs (cs ++ (X1 ++ shown e l[i])) ks ws ∧ Cost st1 st2 cc s ∧ Fr0 st1 st2 := by
      intro st1 X1 h1 hM1 hr1 hk4
      obtain ⟨cc, s, st2, g1, g2, g3, g4, _⟩ := letters_w (n := n) hM1 (sh4 hk4 _ _ _ _ hr1) (by rw [List.length_append]; have := (fin X1 h1).1; omega) (by omega)
      rw [List.append_assoc] at g2
      exact ⟨cc, s, st2, g1, g2, g3, g4⟩
    have prin : ∀ (st1 : xS) (X1 : List Nat), X1 = (if i = 0 then X else X ++ t) → MS st1 vs (cs ++ X1) ks ws → PV st1 1000000000 [] → Rep vs (cs ++ X1) ks e l[i] c → kd e l[i] < 4 → kd e l[i] ≠ 0 → ∃ (cc s : Nat) (st2 : xS), fM_print1 fu n st1 c = some (0, cc, s, st2) ∧ PV st2 1000000000 (shown e l[i]) ∧ MS st2 vs (cs ++ X1) ks ws ∧ Cost st1 st2 cc s ∧ FrO st1 st2 := by
      intro st1 X1 h1 hM1 hP1 hr1 hk4 hk0
      have hsh := shp hk4 hk0
      obtain ⟨fu, rfl⟩ : ∃ f, fu = f + 1 := ⟨fu - 1, by omega⟩
      have key : PutO st1 1000000000 [] 0 0 (fM_print1 (fu + 1) n st1 c) (jt e l[i]) := by
        revert hoi hr1 hk4 hk0
        generalize l[i] = y
        intro hoi hr1 hk4 hk0
        cases e with
        | zero => exact (j0 y).elim
        | succ e =>
          refine pScal ?_ hr1 hoi hM1 hP1 (by simp) (by simp; omega) (by omega)
          rcases jcases y with ⟨k, rfl⟩ | ⟨z, rfl⟩ | ⟨s, rfl⟩ | ⟨l, rfl⟩ | ⟨l, rfl⟩
          · exact Or.inl ⟨k, rfl⟩
          · exact Or.inr ⟨z, rfl⟩
          · rw [kd_s] at hk4; omega
          · rw [kd_a] at hk4; omega
          · rw [kd_o] at hk4; omega
      rw [← hsh] at key
      rcases key with ⟨_, cc, s, st2, g1, g2, g3, g4⟩ | ⟨hb2, _⟩
      · rw [List.nil_append] at g2
        simp only [Nat.zero_add] at g1
        exact ⟨cc, s, st2, g1, g2, hM1.fr2 g4, g3, g4.o g2⟩
      · exfalso
        rw [List.length_nil] at hb2
        omega
    have copy : ∀ (st2 : xS) (X1 : List Nat) (wc2 wn2 : Nat), X1 = (if i = 0 then X else X ++ t) → MS st2 vs (cs ++ X1) ks ws → PV st2 1000000000 (shown e l[i]) → OpO st2 wc2 wn2 1 2 (fM_joined_b fu n 3 (i3 cs.length) a b (i3 i) 0 0 c st2 wc2 wn2) vs (cs ++ X1) ks ws (.inr (js T) : Nat ⊕ JT (d + 1)) := by
      intro st2 X1 wc2 wn2 h1 hM2 hP2
      have hf1 := (fin X1 h1).1
      have := joi3 (N := 500000 + q * 20000 + 1) (fu := fu) (i := i) hcle hale hble (by omega) (by omega) (by omega) (by omega) (by omega) (big X1 h1) (fun n' hn' => nxt X1 h1 n' hn') (shown e l[i]).length n 0 st2 wc2 wn2 (by omega) (by rw [List.take_zero, List.append_nil]; exact hM2) hP2 (by omega)
      rw [List.take_zero, List.append_nil] at this
      exact this
    obtain ⟨k1, k2, k3⟩ := r1.ge hM hoi
    have hKn : ∀ c' : Nat, c' < 8 → kd e l[i] ≠ c' → ¬ i3 (kd e l[i]) = i3 c' := fun c' hc' h hh => h ((ke k3 hc').mp hh)
    have h22 : xsi st 22 = 0 := hP.1
    have hx0 := hM.2.2.1.1
    rw [fM_joined_b, if_neg (by decide), if_pos rfl, if_neg a1, (ha'.sza hM).1, if_neg (by rw [i3_le (by omega) (by omega)]; omega), e1, Option.bind_some]
    refine OpO.wrap ?_
    by_cases hi0 : i = 0
    · have hX1 : X = (if i = 0 then X else X ++ t) := by rw [if_pos hi0]
      rw [if_pos (show i3 i ≤ 0 by rw [hi0]; decide), if_neg k1, k2]
      by_cases g4 : kd e l[i] = 4
      · obtain ⟨cc, s, st2, f1, f2, f3, f4⟩ := lets st X hX1 hM r1 g4
        rw [if_pos (show i3 (kd e l[i]) = 4 by rw [g4]; rfl), f1, Option.bind_some, if_neg (show ¬ xct st < b by omega)]
        refine OpO.stepc (b := shown e l[i]) (cc := cc) (s := s) (st1 := st2) (OpO.wrap ?_) f3 f4.o
        rw [List.append_assoc]
        exact chkJ f2 (hP.fr0 f4) (by rw [List.length_append]; omega) (by omega) (nxt X hX1 n (by omega)) (big X hX1)
      · rw [if_neg (show ¬ i3 (kd e l[i]) = 4 from hKn 4 (by omega) g4)]
        by_cases g0 : kd e l[i] = 0
        · have hs0 := sh0 g0
          have hn1 := nxt X hX1 n (by omega)
          have hb1 := big X hX1
          rw [hs0, List.append_nil] at hn1 hb1
          rw [if_pos (show i3 (kd e l[i]) = 0 by rw [g0]; rfl)]
          exact chkJ hM hP (by omega) (by omega) hn1 hb1
        · obtain ⟨cc, s, st2, f1, f2, f3, f4, f5⟩ := prin st X hX1 hM hP r1 (by omega) g0
          rw [if_neg (show ¬ i3 (kd e l[i]) = 0 from hKn 0 (by omega) g0), f1, Option.bind_some, if_pos rfl, if_neg (show ¬ xct st < b by omega), h22]
          exact OpO.step0 (cc := cc) (s := s) (st1 := st2) (OpO.wrap (copy st2 X _ _ hX1 f3 f2)) f4 f5
    · have hX1 : X ++ t = (if i = 0 then X else X ++ t) := by rw [if_neg hi0]
      obtain ⟨cc0, s0, st1, q1, q2, q3, q4, _⟩ := letters_w (n := n) hM hb' (by rw [List.length_append]; omega) (by omega)
      rw [if_neg (show ¬ i3 i ≤ 0 by rw [show (0 : Int32) = i3 0 from rfl, i3_le (by omega) (by omega)]; omega), q1, Option.bind_some, if_neg (show ¬ xct st < c by omega), if_neg (show ¬ xct st < b by omega)]
      dsimp only
      refine OpO.stepc (b := t) (cc := cc0) (s := s0) (st1 := st1) (OpO.wrap ?_) q3 q4.o
      have r2 : Rep vs (cs ++ (X ++ t)) ks e l[i] c := by rw [← List.append_assoc]; exact r1.mc
      rw [List.append_assoc] at q2 ⊢
      obtain ⟨m1, m2, _⟩ := r2.ge q2 hoi
      have hP1 := hP.fr0 q4
      have h221 : xsi st1 22 = 0 := hP1.1
      have hx1 := q2.2.2.1.1
      rw [if_neg m1, m2]
      by_cases g4 : kd e l[i] = 4
      · obtain ⟨cc, s, st2, f1, f2, f3, f4⟩ := lets st1 (X ++ t) hX1 q2 r2 g4
        rw [if_pos (show i3 (kd e l[i]) = 4 by rw [g4]; rfl), f1, Option.bind_some, if_neg (show ¬ xct st1 < a by omega), if_neg (show ¬ xct st1 < b by omega)]
        refine OpO.stepc (b := shown e l[i]) (cc := cc) (s := s) (st1 := st2) (OpO.wrap ?_) f3 f4.o
        rw [List.append_assoc]
        exact chkJ f2 (hP1.fr0 f4) (by rw [List.length_append, List.length_append]; omega) (by omega) (nxt (X ++ t) hX1 n (by omega)) (big (X ++ t) hX1)
      · rw [if_neg (show ¬ i3 (kd e l[i]) = 4 from hKn 4 (by omega) g4)]
        by_cases g0 : kd e l[i] = 0
        · have hs0 := sh0 g0
          have hn1 := nxt (X ++ t) hX1 n (by omega)
          have hb1 := big (X ++ t) hX1
          rw [hs0, List.append_nil] at hn1 hb1
          rw [if_pos (show i3 (kd e l[i]) = 0 by rw [g0]; rfl)]
          exact chkJ q2 hP1 (by rw [List.length_append]; omega) (by omega) hn1 hb1
        · obtain ⟨cc, s, st2, f1, f2, f3, f4, f5⟩ := prin st1 (X ++ t) hX1 q2 hP1 r2 (by omega) g0
          rw [if_neg (show ¬ i3 (kd e l[i]) = 0 from hKn 0 (by omega) g0), f1, Option.bind_some, if_pos rfl, if_neg (show ¬ xct st1 < a by omega), if_neg (show ¬ xct st1 < b by omega), h221]
          exact OpO.step0 (cc := cc) (s := s) (st1 := st2) (OpO.wrap (copy st2 (X ++ t) _ _ hX1 f3 f2)) f4 f5
theorem joinM {st : xS} {fu n a b : Nat} {x y : JT (e + 1)} (hM : MS st vs cs ks ws) (hP : PV st 1000000000 []) (ha : Arg vs cs ks (e + 1) x a) (hb : Arg vs cs ks (e + 1) y b) (hB : Bd vs cs ks ws) (hfu : 1 ≤ fu) (hn : 3000000000 < n) : OpO st 0 0 1 2 (fM_joined fu n st a b) vs cs ks ws (oJoin x y) := by
  obtain ⟨B1, B2, B3, B4⟩ := hB
  have hbv : bV = 32000 := rfl
  obtain ⟨a1, a2, a3, _⟩ := ha.g hM
  obtain ⟨b1, b2, b3, _⟩ := hb.g hM
  have ka := ha.k7
  have kb := hb.k7
  obtain ⟨_, _, x5, _⟩ := kdc ha.2.1 _ rfl
  obtain ⟨_, y4, _, _⟩ := kdc hb.2.1 _ rfl
  have hne : ¬ (kd (e + 1) x = 5 ∧ kd (e + 1) y = 4) → oJoin x y = .inl 1 := fun h1 => by
    rcases jcases x with ⟨k, rfl⟩ | ⟨z, rfl⟩ | ⟨s, rfl⟩ | ⟨l, rfl⟩ | ⟨l, rfl⟩ <;> rcases jcases y with ⟨k', rfl⟩ | ⟨z', rfl⟩ | ⟨s', rfl⟩ | ⟨l', rfl⟩ | ⟨l', rfl⟩ <;> first
      | rfl
      | (exact absurd ⟨rfl, rfl⟩ h1)
  unfold fM_joined
  by_cases h5 : kd (e + 1) x = 5
  · rw [array_s a1 (by rw [a3, h5]; rfl), Option.bind_some, if_pos rfl, if_neg a2, if_neg b2]
    dsimp only
    refine OpO.wrap ?_
    by_cases h4 : kd (e + 1) y = 4
    · obtain ⟨l, rfl⟩ := x5 h5
      obtain ⟨t, rfl⟩ := y4 h4
      have hl := ha.la
      have ht := hb.ls
      rw [text_s b1 (by rw [b3]; rfl), Option.bind_some, if_pos rfl, if_neg a2, if_neg b2]
      dsimp only
      refine OpO.wrap ?_
      show OpO _ _ _ _ _ _ _ _ _ _ (if l.all (fun x => decide (kd e x < 5)) = true then .inr (js (jn' t l)) else .inl 1)
      refine joi1 (N := 200000000) hM ha.1 ha.2.1 hl (fun hall n' hn' => ?_) l.length n 0 (by omega) rfl (by omega)
      have hk5 : ∀ x ∈ l, kd e x < 5 := fun x hx => of_decide_eq_true (List.all_eq_true.mp hall x hx)
      have hsz : ∀ x ∈ l, (shown e x).length ≤ 4096 := fun x hx => by
        have hjt := ha.2.2.2.1
        have hjc := ha.2.2.2.2
        rcases shown_w (x := x) with h | h
        · refine Nat.le_trans h (Nat.le_trans ?_ hjt)
          rw [jt_a]
          obtain ⟨l1, l2, rfl⟩ := List.append_of_mem hx
          clear hM ha hl hall hk5 hjt hjc hne h5 a3 ka x5 hx h
          rw [List.map_append, List.map_cons, List.length_cons, List.length_append]
          have : ∀ (A B : List (List Nat)) (w : List Nat), w.length ≤ (cj (A ++ w :: B)).length := fun A B w => by
            cases A with
            | nil => show w.length ≤ (w ++ _).length; rw [List.length_append]; omega
            | cons z A =>
              show w.length ≤ (z ++ (A ++ w :: B).flatMap (fun y => 44 :: y)).length
              rw [List.flatMap_append, List.flatMap_cons]
              simp
              omega
          have h2 := this (l1.map (jt e)) (l2.map (jt e)) (jt e x)
          omega
        · obtain ⟨i, hi⟩ := List.getElem?_of_mem hx
          obtain ⟨c, _, r1⟩ := ha.1.kid (n := n) hM hi
          have hs := (shown_k (ha.2.1 x hx)).1 h _ _ _ _ r1
          have h3 : (jc e x).length ≤ (jc (e + 1) (ja l)).length := by
            rw [jc_a, lst_len]
            obtain ⟨l1, l2, rfl⟩ := List.append_of_mem hx
            simp
            omega
          have h4 := hs.le.2.2
          have h5' := r1.dw.2.1
          omega
      have := joi2 (d := e) (ws := ws) (fu := fu) hfu ha.1 (isStr_rep hb.1) ha.2.1 hsz hk5 hl ht (by omega) (by omega) l.length n' 0 st [] 0 0 0 0 0 (by omega) (fun _ => rfl) (Nat.zero_le _) (by rw [List.append_nil]; exact hM) hP (by omega)
      rw [if_pos rfl, List.append_nil] at this
      rw [hM.1.1.2.1]
      exact this
    · rw [text_f b1 (by rw [b3]; exact fun h => h4 ((ke (c := 4) kb (by omega)).mp h)), Option.bind_some, if_neg (show ¬ (1 : Nat) = 0 by decide), if_pos rfl, if_neg a2, if_neg b2, hne (fun h => h4 h.2)]
      exact OpO.xs (k := 1) hM
  · rw [array_f a1 (by rw [a3]; exact fun h => h5 ((ke (c := 5) ka (by omega)).mp h)), Option.bind_some, if_neg (show ¬ (1 : Nat) = 0 by decide), if_pos rfl, if_neg a2, if_neg b2, hne (fun h => h5 h.1)]
    exact OpO.xs (k := 1) hM
end JOI
