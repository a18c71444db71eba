section ZOnc93
section ONC
variable {cs : List Nat} {W0 : List NP} {e d : Nat}
theorem Rep.ge {st : xS} {vs : List VR} {ks ws : List NP} (hM : MS st vs cs ks ws) : ∀ {e : Nat} {j : JT e} {c : Nat}, Rep vs cs ks e j c → jok e j → ¬ (c = 0 ∨ xct st < c) ∧ xpi st 0 (c - 1) = i3 (kd e j) ∧ kd e j < 7
  | 0, j, _, _, _ => (j0 j).elim
  | _ + 1, _, _, h, hj => by
    obtain ⟨a1, _, a3, _⟩ := h.g hM
    exact ⟨a1, a3, kd7 hj⟩
theorem numOf_kd : ∀ {e : Nat} {j : JT e}, jok e j → ((numOf e j).isSome = true ↔ kd e j = 3)
  | 0, j, _ => (j0 j).elim
  | e + 1, j, hj => by
    rcases jcases j with ⟨k, rfl⟩ | ⟨z, rfl⟩ | ⟨s, rfl⟩ | ⟨l, rfl⟩ | ⟨l, rfl⟩
    · have h3 : k < 3 := hj
      refine ⟨fun h => (by cases h), fun h => ?_⟩
      rw [kd_k] at h
      omega
    · exact ⟨fun _ => rfl, fun _ => rfl⟩
    · exact ⟨fun h => (by cases h), fun h => (by cases h)⟩
    · exact ⟨fun h => (by cases h), fun h => (by cases h)⟩
    · exact ⟨fun h => (by cases h), fun h => (by cases h)⟩
theorem numOf_r {st : xS} {vs : List VR} {ks ws : List NP} (hM : MS st vs cs ks ws) : ∀ {e : Nat} {j : JT e} {c : Nat} {z : Int}, Rep vs cs ks e j c → numOf e j = some z → j = (match e, j with | 0, j => j | _ + 1, _ => jn z) ∧ xpl st (c - 1) = cW z
  | 0, j, _, _, _, _ => (j0 j).elim
  | e + 1, j, c, z, h, hz => by
    rcases jcases j with ⟨k, rfl⟩ | ⟨w, rfl⟩ | ⟨s, rfl⟩ | ⟨l, rfl⟩ | ⟨l, rfl⟩
    · cases hz
    · have : w = z := by injection hz
      subst this
      exact ⟨rfl, h.num hM⟩
    · cases hz
    · cases hz
    · cases hz
theorem numOf_ok : ∀ {e : Nat} {j : JT e} {z : Int}, jok e j → numOf e j = some z → -9007199254740991 ≤ z ∧ z ≤ 9007199254740991
  | 0, j, _, _, _ => (j0 j).elim
  | e + 1, j, z, hj, hz => by
    rcases jcases j with ⟨k, rfl⟩ | ⟨w, rfl⟩ | ⟨s, rfl⟩ | ⟨l, rfl⟩ | ⟨l, rfl⟩
    · cases hz
    · have : w = z := by injection hz
      subst this
      exact hj
    · cases hz
    · cases hz
    · cases hz
theorem imp1 {st : xS} {vs : List VR} {ks ws : List NP} {a N wc wn : Nat} {l : List (JT e)} {R : Nat ⊕ JT (d + 1)} (hM : MS st vs cs ks ws) (ha : Rep vs cs ks (e + 1) (ja l) a) (hol : ∀ x ∈ l, jok e x) (hl : l.length ≤ 4096) (hK : l.all (fun x => (numOf e x).isSome) = true → ∀ n', N ≤ n' → OpO st wc wn 1 2 (fM_implode_b n' 2 0 a 0 st wc wn) vs cs ks ws R) : ∀ (q n i : Nat), i + q = l.length → (l.take i).all (fun x => (numOf e x).isSome) = true → N + q + 1 ≤ n → OpO st wc wn 1 2 (fM_implode_b n 1 (i3 i) a 0 st wc wn) vs cs ks ws (if (l.drop i).all (fun x => (numOf e x).isSome) = true then R else .inl 1) := by
  obtain ⟨a1, a2, a3, _⟩ := ha.g hM
  obtain ⟨as, _⟩ := ha.sza hM
  intro q
  induction q with
  | zero =>
    intro n i hi hall hn
    obtain ⟨n, rfl⟩ : ∃ j, n = j + 1 := ⟨n - 1, by omega⟩
    rw [List.take_of_length_le (by omega)] at hall
    rw [fM_implode_b, if_pos rfl, array_s a1 a3, Option.bind_some, if_pos rfl, if_neg a2]
    dsimp only
    rw [if_neg a1, as, if_pos (by rw [i3_le (by omega) (by omega)]; omega), List.drop_eq_nil_of_le (by omega), List.all_nil, if_pos rfl]
    exact OpO.wrap (OpO.wrap (hK hall n (by omega)))
  | succ q ih =>
    intro n i hi hall hn
    obtain ⟨n, rfl⟩ : ∃ j, n = j + 1 := ⟨n - 1, by omega⟩
    obtain ⟨k, e1, r1⟩ := ha.kid (n := n) hM (List.getElem?_eq_getElem (show i < l.length by omega))
    have hoi := hol l[i] (List.getElem_mem _)
    obtain ⟨k1, k2, k3⟩ := r1.ge hM hoi
    rw [fM_implode_b, if_pos rfl, array_s a1 a3, Option.bind_some, if_pos rfl, if_neg a2]
    dsimp only
    rw [if_neg a1, as, if_neg (by rw [i3_le (by omega) (by omega)]; omega), e1, Option.bind_some, if_neg k1, k2, List.drop_eq_getElem_cons (show i < l.length by omega), List.all_cons]
    by_cases h3 : kd e l[i] = 3
    · rw [if_pos (by rw [h3]; rfl), (numOf_kd hoi).mpr h3, Bool.true_and, i3_one]
      exact OpO.wrap (OpO.wrap (ih n (i + 1) (by omega) (by rw [List.take_succ_eq_append_getElem (show i < l.length by omega), List.all_append, hall, List.all_cons, (numOf_kd hoi).mpr h3]; rfl) (by omega)))
    · have hf : (numOf e l[i]).isSome = false := by
        cases hb : (numOf e l[i]).isSome with
        | false => rfl
        | true => exact absurd ((numOf_kd hoi).mp hb) h3
      rw [if_neg (show ¬ i3 (kd e l[i]) = 3 from fun h => h3 ((ke (c := 3) k3 (by omega)).mp h)), hf, Bool.false_and, if_neg (by decide)]
      exact OpO.wrap (OpO.wrap (refuse_o (k := 1) hM))
theorem imp2 {st : xS} {vs : List VR} {ks ws : List NP} {a N wc wn : Nat} {l : List (JT e)} {R : Nat ⊕ JT (d + 1)} (hM : MS st vs cs ks ws) (ha : Rep vs cs ks (e + 1) (ja l) a) (hol : ∀ x ∈ l, jok e x) (hl : l.length ≤ 4096) (hnum : ∀ x ∈ l, (numOf e x).isSome = true) (hK : (l.filterMap (numOf e)).all (fun z => decide (0 ≤ z ∧ z ≤ 127)) = true → ∀ n', N ≤ n' → OpO st wc wn 1 2 (fM_implode_b n' 3 (xsi st 4) a 0 st wc wn) vs cs ks ws R) : ∀ (q n i : Nat), i + q = l.length → ((l.take i).filterMap (numOf e)).all (fun z => decide (0 ≤ z ∧ z ≤ 127)) = true → N + q + 1 ≤ n → OpO st wc wn 1 2 (fM_implode_b n 2 (i3 i) a 0 st wc wn) vs cs ks ws (if ((l.drop i).filterMap (numOf e)).all (fun z => decide (0 ≤ z ∧ z ≤ 127)) = true then R else .inl 2) := by
  obtain ⟨a1, a2, a3, _⟩ := ha.g hM
  obtain ⟨as, _⟩ := ha.sza hM
  intro q
  induction q with
  | zero =>
    intro n i hi hall hn
    obtain ⟨n, rfl⟩ : ∃ j, n = j + 1 := ⟨n - 1, by omega⟩
    rw [List.take_of_length_le (by omega)] at hall
    rw [fM_implode_b, if_neg (by decide), if_pos rfl, if_neg a1, as, if_pos (by rw [i3_le (by omega) (by omega)]; omega), List.drop_eq_nil_of_le (by omega), List.filterMap_nil, List.all_nil, if_pos rfl]
    exact OpO.wrap (hK hall n (by omega))
  | succ q ih =>
    intro n i hi hall hn
    obtain ⟨n, rfl⟩ : ∃ j, n = j + 1 := ⟨n - 1, by omega⟩
    obtain ⟨k, e1, r1⟩ := ha.kid (n := n) hM (List.getElem?_eq_getElem (show i < l.length by omega))
    have hmem : l[i] ∈ l := List.getElem_mem _
    have hoi := hol l[i] hmem
    obtain ⟨k1, k2, k3⟩ := r1.ge hM hoi
    obtain ⟨z, hz⟩ := Option.isSome_iff_exists.mp (hnum _ hmem)
    have hzl := (numOf_r hM r1 hz).2
    have hzr := numOf_ok hoi hz
    have hc0 : (lg_cmp (cW z) 0 < 0) = (z < 0) := by
      rw [show (0 : Int64) = cW 0 from rfl, lg_cW (by omega) (by omega) (by omega) (by omega), izs_lt0, Int.sub_zero]
    have hc1 : (lg_cmp (cW z) 127 ≤ 0) = (z ≤ 127) := by
      rw [show (127 : Int64) = cW 127 from rfl, lg_cW (by omega) (by omega) (by omega) (by omega), izs_le0]
      exact propext (by omega)
    rw [fM_implode_b, if_neg (by decide), if_pos rfl, if_neg a1, as, if_neg (by rw [i3_le (by omega) (by omega)]; omega), e1, Option.bind_some, if_neg k1, hzl, List.drop_eq_getElem_cons (show i < l.length by omega), List.filterMap_cons, hz, List.all_cons]
    refine OpO.wrap ?_
    by_cases h0 : z < 0
    · rw [if_pos (by rw [hc0]; exact h0), decide_eq_false (by omega), Bool.false_and, if_neg (by decide)]
      exact refuse_o (k := 2) hM
    · rw [if_neg (by rw [hc0]; exact h0), Option.bind_some, if_neg k1, hzl]
      by_cases h1 : z ≤ 127
      · rw [if_pos (by rw [hc1]; exact h1), decide_eq_true ⟨by omega, h1⟩, Bool.true_and, i3_one]
        exact ih n (i + 1) (by omega) (by rw [List.take_succ_eq_append_getElem (show i < l.length by omega), List.filterMap_append, List.all_append, hall, List.filterMap_cons, hz, List.filterMap_nil, List.all_cons, decide_eq_true ⟨by omega, h1⟩]; rfl) (by omega)
      · rw [if_neg (by rw [hc1]; exact h1), decide_eq_false (by omega), Bool.false_and, if_neg (by decide)]
        exact refuse_o (k := 2) hM
theorem imp3 {vs : List VR} {ks ws : List NP} {a : Nat} {l : List (JT e)} (ha : Rep vs cs ks (e + 1) (ja l) a) (hol : ∀ x ∈ l, jok e x) (hl : l.length ≤ 4096) (hnum : ∀ x ∈ l, ∃ z, numOf e x = some z ∧ 0 ≤ z ∧ z ≤ 127) (hbv : vs.length + 1 ≤ bV) (hbc : cs.length + l.length ≤ bC) : ∀ (q n i : Nat) (st : xS) (X : List Nat) (wc wn : Nat), i + q = l.length → X.length = i → MS st vs (cs ++ X) ks ws → 300000 + q < n → OpO st wc wn 1 2 (fM_implode_b n 3 (i3 cs.length) a (i3 i) st wc wn) vs (cs ++ X) ks ws (.inr (js (X ++ ((l.drop i).filterMap (numOf e)).map Int.toNat)) : Nat ⊕ JT (d + 1)) := by
  have hbc' : bC = 100000 := rfl
  have hbv' : bV = 32000 := rfl
  intro q
  induction q with
  | zero =>
    intro n i st X wc wn hi hX hM hn
    obtain ⟨n, rfl⟩ : ∃ j, n = j + 1 := ⟨n - 1, by omega⟩
    have ha' : Rep vs (cs ++ X) ks (e + 1) (ja l) a := by
      have := ha.mono (vs' := []) (cs' := X) (ks' := [])
      rw [List.append_nil, List.append_nil] at this
      exact this
    obtain ⟨a1, _, _, _⟩ := ha'.g hM
    rw [fM_implode_b, if_neg (by decide), if_neg (by decide), if_neg a1, (ha'.sza hM).1, if_pos (by rw [i3_le (by omega) (by omega)]; omega), List.drop_eq_nil_of_le (by omega), List.filterMap_nil, List.map_nil, List.append_nil]
    exact OpO.wrap (OpO.l1 (cR := 1) (by omega) (string_o hM hbv (by omega)))
  | succ q ih =>
    intro n i st X wc wn hi hX hM hn
    obtain ⟨n, rfl⟩ : ∃ j, n = j + 1 := ⟨n - 1, by omega⟩
    have ha' : Rep vs (cs ++ X) ks (e + 1) (ja l) a := by
      have := ha.mono (vs' := []) (cs' := X) (ks' := [])
      rw [List.append_nil, List.append_nil] at this
      exact this
    obtain ⟨a1, _, _, _⟩ := ha'.g hM
    obtain ⟨k, e1, r1⟩ := ha'.kid (n := n) hM (List.getElem?_eq_getElem (show i < l.length by omega))
    have hmem : l[i] ∈ l := List.getElem_mem _
    obtain ⟨k1, k2, k3⟩ := r1.ge hM (hol _ hmem)
    obtain ⟨z, hz, z0, z1⟩ := hnum _ hmem
    have hzl := (numOf_r hM r1 hz).2
    have hzc : (cW z).toInt32 = i3 z.toNat := by
      rw [cW_32, i3_iz, show ((z.toNat : Nat) : Int) = z by omega]
    obtain ⟨cc, w, st', e2, m1, m2, m3, _⟩ := letter_w (n := n) hM (c := z.toNat) (by omega) (by rw [List.length_append]; omega) (by omega)
    rw [fM_implode_b, if_neg (by decide), if_neg (by decide), if_neg a1, (ha'.sza hM).1, if_neg (by rw [i3_le (by omega) (by omega)]; omega), e1, Option.bind_some, if_neg k1, hzl, hzc, e2, Option.bind_some, i3_one, List.drop_eq_getElem_cons (show i < l.length by omega), List.filterMap_cons, hz, List.map_cons]
    refine OpO.wrap (OpO.stepc (b := [z.toNat]) (OpO.wrap ?_) m2 m3.o)
    rw [List.append_assoc] at m1 ⊢
    have := ih n (i + 1) st' (X ++ [z.toNat]) (wc + cc) (wn + w) (by omega) (by rw [List.length_append, hX]; rfl) m1 (by omega)
    rw [List.append_assoc] at this
    exact this
theorem impM {st : xS} {vs : List VR} {ks ws : List NP} {n a : Nat} {x : JT (e + 1)} (hM : MS st vs cs ks ws) (ha : Arg vs cs ks (e + 1) x a) (hB : Bd vs cs ks ws) (hn : 3000000000 < n) : OpO st 0 0 1 2 (fM_implode n st a) vs cs ks ws (oImp x) := by
  obtain ⟨B1, B2, B3, B4⟩ := hB
  have hbv : bV = 32000 := rfl
  have hbc : bC = 100000 := rfl
  obtain ⟨a1, a2, a3, _⟩ := ha.g hM
  have ka := ha.k7
  obtain ⟨_, _, x5, _⟩ := kdc ha.2.1 _ rfl
  unfold fM_implode
  by_cases h5 : kd (e + 1) x = 5
  · obtain ⟨l, rfl⟩ := x5 h5
    have hl := ha.la
    show OpO _ _ _ _ _ _ _ _ _ _ (if l.all (fun x => (numOf e x).isSome) = true then (if (l.filterMap (numOf e)).all (fun z => decide (0 ≤ z ∧ z ≤ 127)) = true then .inr (js ((l.filterMap (numOf e)).map Int.toNat)) else .inl 2) else .inl 1)
    refine imp1 (N := 2000000) hM ha.1 ha.2.1 hl (fun hall n' hn' => ?_) l.length n 0 (by omega) rfl (by omega)
    have hnum : ∀ x ∈ l, (numOf e x).isSome = true := fun x hx => List.all_eq_true.mp hall x hx
    refine imp2 (N := 1000000) hM ha.1 ha.2.1 hl hnum (fun hr n2 hn2 => ?_) l.length n' 0 (by omega) rfl (by omega)
    have := imp3 (d := e) (ws := ws) (cs := cs) ha.1 ha.2.1 hl (fun x hx => by
      obtain ⟨z, hz⟩ := Option.isSome_iff_exists.mp (hnum x hx)
      have := of_decide_eq_true (List.all_eq_true.mp hr z (List.mem_filterMap.mpr ⟨x, hx, hz⟩))
      exact ⟨z, hz, this.1, this.2⟩) (by omega) (by omega) l.length n2 0 st [] 0 0 (by omega) rfl (by rw [List.append_nil]; exact hM) (by omega)
    rw [List.append_nil] at this
    rw [hM.1.1.2.1]
    exact this
  · have hk : oImp x = .inl 1 := by
      rcases jcases x with ⟨k, rfl⟩ | ⟨z, rfl⟩ | ⟨s, rfl⟩ | ⟨l, rfl⟩ | ⟨l, rfl⟩ <;> first | rfl | exact absurd rfl h5
    rw [hk]
    obtain ⟨n, rfl⟩ : ∃ j, n = j + 1 := ⟨n - 1, by omega⟩
    rw [fM_implode_b, if_pos rfl, array_f a1 (by rw [a3]; exact fun h => h5 ((ke (c := 5) ka (by omega)).mp h)), Option.bind_some, if_neg (show ¬ (1 : Nat) = 0 by decide), if_pos rfl, if_neg a2]
    exact OpO.wrap (OpO.xs (k := 1) hM)
end ONC
end ZOnc93
section ZOnd94
section OND
variable {cs : List Nat} {e d : Nat}
theorem PV.fr0 {st st' : xS} {mx : Nat} {ps : List Nat} (h : PV st mx ps) (hf : Fr0 st st') : PV st' mx ps := by
  obtain ⟨h1, h2, h3, h4, h5, h6, h7⟩ := h
  have hb := hf.2 21 (by decide) (by decide) (by decide) (by decide) (by decide) (by decide)
  exact ⟨by rw [hf.1 22 (by decide) (by decide) (by decide) (by decide)]; exact h1, by rw [hf.1 23 (by decide) (by decide) (by decide) (by decide)]; exact h2, h3, by rw [hb.2]; exact h4, by rw [hb.1]; exact h5, by rw [hb.1]; exact h6, by rw [hb.1]; exact h7⟩
theorem Fr2.o {st st' : xS} {mx : Nat} {ps : List Nat} (h : Fr2 st st') (hp : PV st' mx ps) : FrO st st' := by
  obtain ⟨h1, h2, h3⟩ := h
  refine ⟨fun k hk => h1 k (by omega), fun k hk => h2 k (by omega), fun x => ?_⟩
  obtain ⟨x1, x2, x3, x4, x5⟩ := x
  exact ⟨hp.2.2.2.2.2.1, hp.2.2.2.2.2.2, by rw [(h2 13 (by decide)).1]; exact x3, by rw [(h2 13 (by decide)).1, (h2 14 (by decide)).1]; exact x4, by rw [(h2 13 (by decide)).1]; exact x5⟩
theorem PV.most {st : xS} {mx mx' : Nat} {ps : List Nat} (h : PV st mx ps) (hm : mx' ≤ 1000000000) : PV (xsI st 23 (i3 mx')) mx' ps := by
  obtain ⟨h1, h2, h3, h4, h5, h6, h7⟩ := h
  refine ⟨?_, (up_eq : va_up st.1 23 (i3 mx') 23 = i3 mx'), hm, h4, h5, h6, h7⟩
  show va_up st.1 23 (i3 mx') 22 = _
  rw [up_ne (by decide)]
  exact h1
theorem tolL {vs : List VR} {ks ws : List NP} {fu mx cR : Nat} {w : List Nat} {y3 : Int32} (hbv : vs.length + 1 ≤ bV) (hbc : cs.length + w.length ≤ bC) : ∀ (q n i : Nat) (st : xS) (wc wn : Nat), i + q = w.length → MS st vs (cs ++ w.take i) ks ws → PV st mx w → 300000 + q < n → OpO st wc wn cR 1 (fM_told_b fu n 1 (i3 i) (i3 cs.length) y3 0 st wc wn) vs (cs ++ w.take i) ks ws (.inr (js w) : Nat ⊕ JT (d + 1)) := by
  have hbc' : bC = 100000 := rfl
  have hbv' : bV = 32000 := rfl
  intro q
  induction q with
  | zero =>
    intro n i st wc wn hi hM hP hn
    obtain ⟨n, rfl⟩ : ∃ j, n = j + 1 := ⟨n - 1, by omega⟩
    rw [fM_told_b, hP.1, if_pos (by rw [i3_le (by omega) (by omega)]; omega)]
    rw [List.take_of_length_le (by omega)] at hM ⊢
    have hM2 : MS (xsI (xsI st 22 0) 23 y3) vs (cs ++ w) ks ws := (hM.si (k := 22) (by decide) (by decide) (by decide) (by decide)).si (k := 23) (by decide) (by decide) (by decide) (by decide)
    refine OpO.wrap (OpO.step0 (cc := 0) (s := 0) (st1 := xsI (xsI st 22 0) 23 y3) ?_ ⟨Nat.le_refl _, Nat.le_of_eq (Nat.zero_add _)⟩ ((FrO.at (k := 22) _ (by decide)).trans (FrO.at (k := 23) _ (by decide))))
    exact OpO.l1 (cR := cR) (by omega) (string_o hM2 hbv (by omega))
  | succ q ih =>
    intro n i st wc wn hi hM hP hn
    obtain ⟨n, rfl⟩ : ∃ j, n = j + 1 := ⟨n - 1, by omega⟩
    have hPi := hP.2.2.2.1 i w[i] (List.getElem?_eq_getElem (by omega))
    have hPl := hP.2.2.2.2.1
    obtain ⟨cc, s, st', e1, m1, m2, m3, _⟩ := letter_w (n := n) hM hPi.2 (by rw [List.length_append, List.length_take]; omega) (by omega)
    rw [fM_told_b, hP.1, if_neg (by rw [i3_le (by omega) (by omega)]; omega), if_neg (i3_idx (by omega) (by omega)), i3_N (by omega), hPi.1, e1, Option.bind_some, i3_one]
    refine OpO.wrap (OpO.stepc (b := [w[i]]) (OpO.wrap ?_) m2 m3.o)
    rw [List.append_assoc, ← List.take_succ_eq_append_getElem (show i < w.length by omega)] at m1 ⊢
    exact ih n (i + 1) st' (wc + cc) (wn + s) (by omega) m1 (hP.fr0 m3) (by omega)
theorem toldM {st : xS} {vs : List VR} {ks ws : List NP} {fu n a cR : Nat} {x : JT (e + 1)} (hM : MS st vs cs ks ws) (hP : PV st 1000000000 []) (ha : Arg vs cs ks (e + 1) x a) (hB : Bd vs cs ks ws) (hfu : e + 1 ≤ fu) (hn : 3000000000 < n) : OpO st 0 0 cR 1 (fM_told fu n st a) vs cs ks ws (.inr (js (jt (e + 1) x)) : Nat ⊕ JT (d + 1)) := by
  obtain ⟨B1, B2, B3, B4⟩ := hB
  have hbv : bV = 32000 := rfl
  have hbc : bC = 100000 := rfl
  have hbp : bP = 200000 := rfl
  have h22 : xsi st 22 = 0 := hP.1
  have hP1 : PV (xsI st 23 (i3 60000)) 60000 [] := hP.most (by omega)
  have hM1 : MS (xsI st 23 (i3 60000)) vs cs ks ws := hM.si (by decide) (by decide) (by decide) (by decide)
  have hpr := print_w (mx := 60000) (vs := vs) (cs := cs) (ks := ks) (ws := ws) (by omega) (n := n) (by omega) (e + 1) fu hfu _ [] x a ha.1 ha.2.1 hM1 hP1 (by simp)
  have hjt := ha.2.2.2.1
  unfold fM_told
  rw [h22, show (0 : Int32) + 60000 = i3 60000 from rfl]
  rcases hpr with ⟨_, cc, s, st1, e1, p1, p2, p3⟩ | ⟨hbig, _⟩
  · rw [List.nil_append] at p1
    rw [e1, Option.bind_some, if_pos rfl, hM.1.1.2.1]
    dsimp only
    have := tolL (d := d) (cs := cs) (ks := ks) (ws := ws) (vs := vs) (fu := fu) (cR := cR) (y3 := xsi st 23) (w := jt (e + 1) x) (mx := 60000) (by omega) (by omega) (jt (e + 1) x).length n 0 st1 cc s (by omega) (by rw [List.take_zero, List.append_nil]; exact hM1.fr2 p3) p1 (by omega)
    rw [List.take_zero, List.append_nil] at this
    refine OpO.step0 (cc := cc) (s := s) (st1 := st1) ?_ ⟨p2.1, p2.2⟩ ((FrO.at (k := 23) _ (by decide)).trans (p3.o p1))
    simp only [Nat.zero_add]
    exact OpO.wrap this
  · simp at hbig
    omega
def tnR (sgn : Int) (r : List Nat) : Option Int := if r = [] then none else if r.head? = some 48 ∧ 1 < r.length then none else if (dv 0 r).2 = [] ∧ (dv 0 r).1 ≤ 9007199254740991 then some (sgn * ((dv 0 r).1 : Int)) else none
theorem tnR_eq (start r : List Nat) (sgn : Int) : (match pNd start r sgn with | .inl _ => none | .inr (z, r2) => if r2 = [] then some z else none) = tnR sgn r := by
  unfold pNd tnR
  cases r with
  | nil => rfl
  | cons c r =>
    rw [if_neg (by simp)]
    show (match (match (if isD c then (if c = 48 then some (0, r) else some (dv (c - 48) r)) else none : Option (Nat × List Nat)) with | none => Sum.inl (c :: r) | some (v, r2) => if 9007199254740991 < v then .inl start else .inr (sgn * (v : Int), r2)) with | .inl _ => none | .inr (z, r2) => if r2 = [] then some z else none) = _
    have hdv : dv 0 (c :: r) = if isD c then dv (10 * 0 + (c - 48)) r else (0, c :: r) := rfl
    rw [hdv]
    by_cases hd : isD c = true
    · rw [if_pos hd, if_pos hd, Nat.mul_zero, Nat.zero_add]
      by_cases h48 : c = 48
      · rw [if_pos h48, h48]
        dsimp only
        rw [if_neg (by omega)]
        dsimp only
        by_cases hr : r = []
        · subst hr
          rw [if_pos rfl, if_neg (fun h => by simp at h), if_pos ⟨rfl, by decide⟩]
          rfl
        · have : 0 < r.length := List.length_pos_iff.mpr hr
          rw [if_neg hr, if_pos ⟨rfl, by rw [List.length_cons]; omega⟩]
      · rw [if_neg h48, if_neg (fun h => by simp at h; exact h48 h.1)]
        cases hp : dv (c - 48) r with
        | mk v r2 =>
          dsimp only
          by_cases hb : 9007199254740991 < v
          · rw [if_pos hb, if_neg (fun h => by omega)]
          · rw [if_neg hb]
            dsimp only
            by_cases hr : r2 = []
            · rw [if_pos hr, if_pos ⟨hr, by omega⟩]
            · rw [if_neg hr, if_neg (fun h => hr h.1)]
    · rw [if_neg hd, if_neg hd, if_neg (fun h => by
        simp at h
        apply hd
        rw [h.1]
        decide), if_neg (fun h => by simp at h)]
theorem pTN_eq (s : Sx) : pTN s = if s.head? = some 45 then tnR (-1) s.tail else tnR 1 s := by
  unfold pTN pN
  by_cases h : s.head? = some 45
  · rw [if_pos h, if_pos h]
    exact tnR_eq s s.tail (-1)
  · rw [if_neg h, if_neg h]
    exact tnR_eq s s 1
theorem tnL {st : xS} {vs : List VR} {ks ws : List NP} {a wc wn : Nat} {s : Sx} {y3 : Int32} {sgn : Int} (hM : MS st vs cs ks ws) (ha : isStr vs cs a s) (hs : s.length ≤ 4095) (hsg : (sgn = 1 ∧ y3 = 0) ∨ (sgn = -1 ∧ y3 = 1)) (hbv : vs.length + 1 ≤ bV) : ∀ (q n i v : Nat), i + q = s.length → 300000 + q < n → OpO st wc wn 1 0 (fM_toNumber_b n 1 (cW ((min v 100000000000000000 : Nat) : Int)) y3 (i3 i) a st wc wn) vs cs ks ws (if (dv v (s.drop i)).2 = [] ∧ (dv v (s.drop i)).1 ≤ 9007199254740991 then .inr (jn (sgn * ((dv v (s.drop i)).1 : Int))) else .inl 4 : Nat ⊕ JT (d + 1)) := by
  have hbv' : bV = 32000 := rfl
  obtain ⟨g1, g2, g3⟩ := ha.gsz hM
  intro q
  induction q with
  | zero =>
    intro n i v hi hn
    obtain ⟨n, rfl⟩ : ∃ j, n = j + 1 := ⟨n - 1, by omega⟩
    rw [fM_toNumber_b, if_neg g1, g2, if_pos (by rw [i3_le (by omega) (by omega)]; omega), List.drop_eq_nil_of_le (by omega)]
    have hdv : dv v [] = (v, []) := rfl
    rw [hdv]
    have hc : (lg_cmp (cW ((min v 100000000000000000 : Nat) : Int)) 9007199254740991 ≤ 0) = (v ≤ 9007199254740991) := by
      rw [show (9007199254740991 : Int64) = cW 9007199254740991 from rfl, lg_cW (by omega) (by omega) (by omega) (by omega), izs_le0]
      exact propext (by omega)
    refine OpO.wrap ?_
    by_cases hv : v ≤ 9007199254740991
    · rw [if_pos (by rw [hc]; exact hv), if_pos (show ((v, []) : Nat × List Nat).2 = [] ∧ ((v, []) : Nat × List Nat).1 ≤ 9007199254740991 from ⟨rfl, hv⟩), show min v 100000000000000000 = v by omega]
      have nr : ∀ z : Int, -9007199254740991 ≤ z ∧ z ≤ 9007199254740991 → (numR z : Nat ⊕ JT (d + 1)) = .inr (jn z) := fun z hz => if_pos hz
      rcases hsg with ⟨rfl, rfl⟩ | ⟨rfl, rfl⟩
      · rw [if_pos (show (0 : Int32) = 0 from rfl)]
        have := OpO.r1 (wc := wc) (wn := wn) (q := 1) (cL := 0) (number_o (d := d) (n := n) (z := (v : Nat)) hM (by omega) (by omega) hbv (by omega))
        rw [nr _ (by omega)] at this
        rw [Int.one_mul]
        exact this
      · rw [if_neg (show ¬ (1 : Int32) = 0 by decide), cW_neg]
        have := OpO.r1 (wc := wc) (wn := wn) (q := 1) (cL := 0) (number_o (d := d) (n := n) (z := -((v : Nat) : Int)) hM (by omega) (by omega) hbv (by omega))
        rw [nr _ (by omega)] at this
        rw [show (-1 : Int) * ((v : Nat) : Int) = -((v : Nat) : Int) by omega]
        exact this
    · rw [if_neg (by rw [hc]; exact hv), if_neg (fun h => hv h.2)]
      exact refuse_o (k := 4) hM
  | succ q ih =>
    intro n i v hi hn
    obtain ⟨n, rfl⟩ : ∃ j, n = j + 1 := ⟨n - 1, by omega⟩
    obtain ⟨c1, c2, c3⟩ := ha.chr hM (i := i) (by omega)
    have hdig : fM_digit n (i3 s[i]) = some (if isD s[i] = true then 1 else 0) := by
      unfold fM_digit isD
      by_cases h1 : s[i] < 48
      · rw [if_pos (show i3 s[i] < 48 by rw [show (48 : Int32) = i3 48 from rfl, i3_lt (by omega) (by omega)]; exact h1), decide_eq_false (by omega), Bool.false_and, if_neg (by decide)]
      · rw [if_neg (show ¬ i3 s[i] < 48 by rw [show (48 : Int32) = i3 48 from rfl, i3_lt (by omega) (by omega)]; exact h1)]
        by_cases h2 : 57 < s[i]
        · rw [if_pos (show (57 : Int32) < i3 s[i] by rw [show (57 : Int32) = i3 57 from rfl, i3_lt (by omega) (by omega)]; exact h2), decide_eq_true (by omega), Bool.true_and, decide_eq_false (by omega), if_neg (by decide)]
        · rw [if_neg (show ¬ (57 : Int32) < i3 s[i] by rw [show (57 : Int32) = i3 57 from rfl, i3_lt (by omega) (by omega)]; exact h2), decide_eq_true (by omega), Bool.true_and, decide_eq_true (by omega), if_pos rfl]
    rw [fM_toNumber_b, if_neg g1, g2, if_neg (by rw [i3_le (by omega) (by omega)]; omega), if_neg c1, c2, hdig, Option.bind_some, List.drop_eq_getElem_cons (show i < s.length by omega)]
    have hdv : dv v (s[i] :: s.drop (i + 1)) = if isD s[i] then dv (10 * v + (s[i] - 48)) (s.drop (i + 1)) else (v, s[i] :: s.drop (i + 1)) := rfl
    rw [hdv]
    refine OpO.wrap ?_
    by_cases hd : isD s[i] = true
    · have h48 : 48 ≤ s[i] ∧ s[i] < 58 := by
        unfold isD at hd
        rw [Bool.and_eq_true] at hd
        exact ⟨of_decide_eq_true hd.1, of_decide_eq_true hd.2⟩
      have hcap : (if (100000000000000000 : Int64) < 10 * cW ((min v 100000000000000000 : Nat) : Int) + (i3 s[i]).toInt64 - 48 then (100000000000000000 : Int64) else 10 * cW ((min v 100000000000000000 : Nat) : Int) + (i3 s[i]).toInt64 - 48) = cW ((min (10 * v + (s[i] - 48)) 100000000000000000 : Nat) : Int) := by
        have hx : 10 * cW ((min v 100000000000000000 : Nat) : Int) + (i3 s[i]).toInt64 - 48 = cW ((10 * min v 100000000000000000 + (s[i] - 48) : Nat) : Int) := by
          rw [i3_64 (by omega), show (10 : Int64) = cW 10 from rfl, show (48 : Int64) = cW 48 from rfl, cW_mul, cW_add, cW_sub]
          congr 1
          omega
        rw [hx, show (100000000000000000 : Int64) = cW ((100000000000000000 : Nat) : Int) from rfl]
        have hlt : (cW ((100000000000000000 : Nat) : Int) < cW ((10 * min v 100000000000000000 + (s[i] - 48) : Nat) : Int)) = (100000000000000000 < 10 * min v 100000000000000000 + (s[i] - 48)) := by
          rw [cW_lt (by omega) (by omega) (by omega) (by omega)]
          exact propext (by omega)
        by_cases hb : 100000000000000000 < 10 * min v 100000000000000000 + (s[i] - 48)
        · rw [if_pos (by rw [hlt]; exact hb)]
          congr 2
          omega
        · rw [if_neg (by rw [hlt]; exact hb)]
          congr 2
          omega
      rw [if_pos hd, if_pos hd, if_neg (by decide), hcap, i3_one]
      exact ih n (i + 1) (10 * v + (s[i] - 48)) (by omega) (by omega)
    · rw [if_neg hd, if_neg hd, if_pos rfl, if_neg (fun h => by exact List.cons_ne_nil _ _ h.1)]
      exact refuse_o (k := 4) hM
end OND
end ZOnd94
section ZOne95
section ONE
variable {cs : List Nat} {e d : Nat} {st : xS} {vs : List VR} {ks ws : List NP}
theorem tnM {n a : Nat} {x : JT (e + 1)} (hM : MS st vs cs ks ws) (ha : Arg vs cs ks (e + 1) x a) (hB : Bd vs cs ks ws) (hn : 3000000000 < n) : OpO st 0 0 1 0 (fM_toNumber n st a) vs cs ks ws (oNumb x) := by
  have hB1 := hB.1
  have hbv : bV = 32000 := rfl
  obtain ⟨a1, a2, a3, _⟩ := ha.g hM
  have ka := ha.k7
  obtain ⟨x3, x4, _, _⟩ := kdc ha.2.1 _ rfl
  unfold fM_toNumber
  rw [if_neg a1, a3]
  by_cases h3 : kd (e + 1) x = 3
  · obtain ⟨z, rfl⟩ := x3 h3
    rw [kd_n, if_pos (by decide)]
    exact OpO.old hM ha.1
  rw [if_neg (show ¬ i3 (kd (e + 1) x) = 3 from fun h => h3 ((ke (c := 3) ka (by omega)).mp h))]
  by_cases h4 : kd (e + 1) x = 4
  · obtain ⟨s, rfl⟩ := x4 h4
    have hs := isStr_rep ha.1
    obtain ⟨g1, g2, g3⟩ := hs.gsz hM
    have hl := ha.ls
    have hres : oNumb (js s : JT (e + 1)) = (match pTN s with | none => .inl 4 | some z => .inr (jn z)) := rfl
    have loop : ∀ (sgn : Int) (y3 : Int32) (i : Nat), ((sgn = 1 ∧ y3 = 0) ∨ (sgn = -1 ∧ y3 = 1)) → i ≤ s.length → OpO st 0 0 1 0 (fM_toNumber_b n 1 0 y3 (i3 i) a st 0 0) vs cs ks ws (if (dv 0 (s.drop i)).2 = [] ∧ (dv 0 (s.drop i)).1 ≤ 9007199254740991 then .inr (jn (sgn * ((dv 0 (s.drop i)).1 : Int))) else .inl 4 : Nat ⊕ JT (e + 1)) := fun sgn y3 i hsg hi => tnL hM hs (by omega) hsg (by omega) (s.length - i) n i 0 (by omega) (by omega)
    have tail : ∀ (sgn : Int) (y3 : Int32) (i : Nat), ((sgn = 1 ∧ y3 = 0) ∨ (sgn = -1 ∧ y3 = 1)) → i < s.length → i ≤ 1 → OpO st 0 0 1 0 (if ((xpi st 2 (a - 1)) + i3 i) < 0 ∨ (xln st 3) ≤ ((xpi st 2 (a - 1)) + i3 i).toNatClampNeg then none else (if (xba st 3 ((xpi st 2 (a - 1)) + i3 i).toNatClampNeg) = 48 then (if i3 s.length ≤ i3 (i + 1) then fM_toNumber_b n 1 0 y3 (i3 i) a st 0 0 else ((fM_refuse n st 4).bind fun o15 => ((if o15.1 = 1 then xmo (fun a => a.2.1) (fun a => a.2.2.1) (0 + o15.2.1) (0 + o15.2.2.1) (some (1, (0 + o15.2.1), (0 + o15.2.2.1), 0, o15.2.2.2.2)) else none)))) else fM_toNumber_b n 1 0 y3 (i3 i) a st 0 0)) vs cs ks ws (match tnR sgn (s.drop i) with | none => .inl 4 | some z => .inr (jn z) : Nat ⊕ JT (e + 1)) := by
      intro sgn y3 i hsg hi hi1
      obtain ⟨c1, c2, c3⟩ := hs.chr hM (i := i) hi
      have hcons := List.drop_eq_getElem_cons hi
      have hL := loop sgn y3 i hsg (by omega)
      have hne : s.drop i ≠ [] := by rw [hcons]; exact List.cons_ne_nil _ _
      have hfin : ¬ ((s.drop i).head? = some 48 ∧ 1 < (s.drop i).length) → (match tnR sgn (s.drop i) with | none => .inl 4 | some z => .inr (jn z) : Nat ⊕ JT (e + 1)) = (if (dv 0 (s.drop i)).2 = [] ∧ (dv 0 (s.drop i)).1 ≤ 9007199254740991 then .inr (jn (sgn * ((dv 0 (s.drop i)).1 : Int))) else .inl 4) := by
        intro hh
        unfold tnR
        rw [if_neg hne, if_neg hh]
        by_cases hc : (dv 0 (s.drop i)).2 = [] ∧ (dv 0 (s.drop i)).1 ≤ 9007199254740991
        · rw [if_pos hc, if_pos hc]
        · rw [if_neg hc, if_neg hc]
      have h48 : (i3 s[i] = 48) = (s[i] = 48) := i3_eq (b := 48) (by omega) (by omega)
      rw [if_neg c1, c2]
      by_cases h0 : s[i] = 48
      · rw [if_pos (by rw [h48]; exact h0)]
        by_cases hl1 : s.length ≤ i + 1
        · rw [if_pos (by rw [i3_le (by omega) (by omega)]; exact hl1), hfin (fun hh => by rw [List.length_drop] at hh; omega)]
          exact hL
        · rw [if_neg (by rw [i3_le (by omega) (by omega)]; exact hl1)]
          have : tnR sgn (s.drop i) = none := by
            unfold tnR
            rw [if_neg hne, if_pos ⟨by rw [hcons, h0]; rfl, by rw [List.length_drop]; omega⟩]
          rw [this]
          exact refuse_o (k := 4) hM
      · rw [if_neg (by rw [h48]; exact h0), hfin (fun hh => by rw [hcons] at hh; exact h0 (Option.some.inj hh.1))]
        exact hL
    rw [text_s g1 g3, Option.bind_some, if_pos rfl]
    dsimp only
    rw [if_neg g1, g2, hres, pTN_eq]
    refine OpO.wrap ?_
    by_cases hz : s.length = 0
    · obtain rfl : s = [] := List.length_eq_zero_iff.mp hz
      rw [if_pos (by decide), if_pos (by decide), if_neg (by simp)]
      exact refuse_o (k := 4) hM
    · rw [if_neg (by rw [show (0 : Int32) = i3 0 from rfl, i3_le (by omega) (by omega)]; omega)]
      obtain ⟨c1, c2, c3⟩ := hs.chr hM (i := 0) (by omega)
      have hz0 : xpi st 2 (a - 1) + i3 0 = xpi st 2 (a - 1) := Int32.add_zero _
      rw [hz0] at c1 c2
      have hcons := List.drop_eq_getElem_cons (show 0 < s.length by omega)
      rw [List.drop_zero] at hcons
      have hh : (s.head? = some 45) = (s[0] = 45) := by
        have : s.head? = some s[0] := by
          conv => lhs; rw [hcons]
          rfl
        rw [this]
        exact propext ⟨fun h => by injection h, fun h => by rw [h]⟩
      have h45 : (i3 s[0] = 45) = (s[0] = 45) := i3_eq (b := 45) (by omega) (by omega)
      rw [if_neg c1, c2]
      by_cases hm : s[0] = 45
      · rw [if_pos (show i3 s[0] = 45 by rw [h45]; exact hm), if_pos (show s.head? = some 45 by rw [hh]; exact hm)]
        by_cases h1 : s.length = 1
        · have : tnR (-1) s.tail = none := by
            have : s.tail = [] := List.length_eq_zero_iff.mp (by rw [List.length_tail]; omega)
            rw [this]
            rfl
          rw [if_pos (show (1 : Int32) = i3 s.length by rw [h1]; rfl), this]
          exact refuse_o (k := 4) hM
        · rw [if_neg (show ¬ (1 : Int32) = i3 s.length by rw [show (1 : Int32) = i3 1 from rfl, i3_eq (by omega) (by omega)]; omega), ← List.drop_one]
          exact tail (-1) 1 1 (Or.inr ⟨rfl, rfl⟩) (by omega) (by omega)
      · rw [if_neg (show ¬ i3 s[0] = 45 by rw [h45]; exact hm), if_neg (show ¬ s.head? = some 45 by rw [hh]; exact hm), if_neg (show ¬ (0 : Int32) = i3 s.length by rw [show (0 : Int32) = i3 0 from rfl, i3_eq (by omega) (by omega)]; omega)]
        exact tail 1 0 0 (Or.inl ⟨rfl, rfl⟩) (by omega) (by omega)
  · have hk : oNumb x = .inl 1 := by
      rcases jcases x with ⟨k, rfl⟩ | ⟨z, rfl⟩ | ⟨s, rfl⟩ | ⟨l, rfl⟩ | ⟨l, rfl⟩ <;> first | rfl | exact absurd rfl h3 | exact absurd rfl h4
    rw [hk, text_f a1 (by rw [a3]; exact fun h => h4 ((ke (c := 4) ka (by omega)).mp h)), Option.bind_some, if_neg (show ¬ (1 : Nat) = 0 by decide), if_pos rfl]
    exact OpO.xs (k := 1) hM
theorem MS.cut {m : Nat} (hM : MS st vs cs ks ws) (hm : m ≤ 60) : ∃ ws', MS (xsI st 12 (i3 m)) vs cs ks ws' := by
  obtain ⟨⟨⟨h1, h2, h3, h4⟩, h5, h6, h7, h8⟩, r1, r2, r3, r4, r5, r6, r7⟩ := hM
  refine ⟨(List.range m).map (fun i => (xvc st 10 i, xvc st 11 i)), ⟨⟨?_, ?_, ?_, ?_⟩, h5, h6, h7, fun i p hp => ?_⟩, r1, r2, r3, r4, ⟨?_, r5.2⟩, r6, r7⟩
  · exact (up_ne (by decide) : va_up st.1 12 (i3 m) 2 = st.1 2).trans h1
  · exact (up_ne (by decide) : va_up st.1 12 (i3 m) 4 = st.1 4).trans h2
  · exact (up_ne (by decide) : va_up st.1 12 (i3 m) 7 = st.1 7).trans h3
  · rw [List.length_map, List.length_range]
    exact (up_eq : va_up st.1 12 (i3 m) 12 = i3 m)
  · rw [List.getElem?_map] at hp
    obtain ⟨j, hj, rfl⟩ := Option.map_eq_some_iff.mp hp
    obtain ⟨hl, hj'⟩ := List.getElem?_eq_some_iff.mp hj
    rw [List.getElem_range] at hj'
    subst hj'
    exact ⟨rfl, rfl⟩
  · rw [List.length_map, List.length_range]
    show m ≤ xln st 10
    have := r5.2.2.1
    omega
theorem emptyV {fu n : Nat} (h : xsi st 17 ≤ xsi st 16) (hn : 1 < n) : fM_value (fu + 1) n st = some (1, 1, 6, 0, xsI st 20 (xsi st 16)) := by
  obtain ⟨n, rfl⟩ : ∃ j, n = j + 1 := ⟨n - 1, by omega⟩
  have hp : ∀ m, fM_peek m st = some (-1) := fun m => by unfold fM_peek; rw [if_pos h]
  have hb : fM_blanks (n + 1) st = some st := by
    unfold fM_blanks
    rw [fM_blanks_b, hp, Option.bind_some, if_neg (by decide), Option.bind_some, if_pos (by decide)]
  have hd : fM_digit (n + 1) (-1) = some 0 := by unfold fM_digit; rw [if_pos (by decide)]
  rw [fM_value, hb, Option.bind_some, hp, Option.bind_some, if_neg (by decide), if_neg (by decide), if_neg (by decide), if_neg (by decide), if_neg (by decide), hd, Option.bind_some, if_pos rfl, if_neg (by decide), if_neg (by decide)]
  unfold fM_bad
  rw [Option.bind_some, if_pos rfl]
  exact xmo_some (Nat.le_refl _) (Nat.le_refl _)
theorem FrO.sx {st : xS} {c : Nat} : FrO st (xsX st c) := ⟨fun _ _ => rfl, fun _ _ => ⟨rfl, rfl⟩, id⟩
def backS (st st' : xS) : xS := xsI (xsI (xsI (xsI (xsI (xsX st' (xsr st)) 16 (xsi st 16)) 17 (xsi st 17)) 20 (xsi st 20)) 12 (xsi st 12)) 19 (xsi st 19)
theorem backS_fr {st' : xS} : FrO st' (backS st st') := FrO.sx.trans ((FrO.at (k := 16) _ (by decide)).trans ((FrO.at (k := 17) _ (by decide)).trans ((FrO.at (k := 20) _ (by decide)).trans ((FrO.at (k := 12) _ (by decide)).trans (FrO.at (k := 19) _ (by decide))))))
theorem backS_ms {st' : xS} {vs' : List VR} {cs' : List Nat} {ks' : List NP} (hsr : xsr st < 41) (h12 : xsi st 12 = i3 ws.length) (hM : MS st' vs' cs' ks' ws) : MS (backS st st') vs' cs' ks' ws := by
  have h1 : MS (xsI (xsI (xsI (xsX st' (xsr st)) 16 (xsi st 16)) 17 (xsi st 17)) 20 (xsi st 20)) vs' cs' ks' ws := (((hM.sx (show xsr st < 41 + xgl st' by omega)).si (by decide) (by decide) (by decide) (by decide)).si (by decide) (by decide) (by decide) (by decide)).si (by decide) (by decide) (by decide) (by decide)
  have h2 : xsI (xsI (xsI (xsI (xsX st' (xsr st)) 16 (xsi st 16)) 17 (xsi st 17)) 20 (xsi st 20)) 12 (xsi st 12) = xsI (xsI (xsI (xsX st' (xsr st)) 16 (xsi st 16)) 17 (xsi st 17)) 20 (xsi st 20) := xsI_id (h1.1.1.2.2.2.trans h12.symm)
  unfold backS
  rw [h2]
  exact h1.si (by decide) (by decide) (by decide) (by decide)
theorem backS_ms' {st' : xS} {vs' : List VR} {cs' : List Nat} {ks' ws' : List NP} {m : Nat} (hsr : xsr st < 41) (h12 : xsi st 12 = i3 m) (hm : m ≤ 60) (hM : MS st' vs' cs' ks' ws') : ∃ w, MS (backS st st') vs' cs' ks' w := by
  have h1 : MS (xsI (xsI (xsI (xsX st' (xsr st)) 16 (xsi st 16)) 17 (xsi st 17)) 20 (xsi st 20)) vs' cs' ks' ws' := (((hM.sx (show xsr st < 41 + xgl st' by omega)).si (by decide) (by decide) (by decide) (by decide)).si (by decide) (by decide) (by decide) (by decide)).si (by decide) (by decide) (by decide) (by decide)
  obtain ⟨w, hw⟩ := h1.cut hm
  refine ⟨w, ?_⟩
  unfold backS
  rw [h12]
  exact hw.si (by decide) (by decide) (by decide) (by decide)
theorem fromM {fu n a : Nat} {x : JT (e + 1)} (he : 40 ≤ e) (hM : MS st vs cs ks ws) (hsr : 32 ≤ xsr st ∧ xsr st < 41) (ha : Arg vs cs ks (e + 1) x a) (hB : Bd vs cs ks ws) (hfu : e < fu) (hn : 3000000000 < n) : OpO st 0 0 1 0 (fM_fromJson fu n st a) vs cs ks ws (oFrom x) := by
  obtain ⟨B1, B2, B3, B4⟩ := hB
  have hbv : bV = 32000 := rfl
  have hbk : bK = 32000 := rfl
  have hbc : bC = 100000 := rfl
  obtain ⟨a1, a2, a3, _⟩ := ha.g hM
  have ka := ha.k7
  obtain ⟨_, x4, _, _⟩ := kdc ha.2.1 _ rfl
  unfold fM_fromJson
  by_cases h4 : kd (e + 1) x = 4
  · obtain ⟨s, rfl⟩ := x4 h4
    have hs := isStr_rep ha.1
    obtain ⟨g1, g2, g3⟩ := hs.gsz hM
    have hl := ha.ls
    have hres : oFrom (js s : JT (e + 1)) = (match pT e 40 s with | .inl _ => .inl 5 | .inr j => .inr j) := rfl
    have hg : ¬ ¬ (xsr st = 0 ∨ (32 ≤ xsr st ∧ xsr st < 41)) := fun h => h (Or.inr hsr)
    have bad : ∀ (cc k : Nat) (st' : xS), CostE st st' cc k 1 → FrO st st' → (∃ vs' cs' ks' ws', MS st' vs' cs' ks' ws') → OpO st 0 0 1 0 (xmo (fun a => a.2.1) (fun a => a.2.2.1) (0 + cc) (0 + k) ((fM_refuse n (backS st st') 5).bind fun o36 => ((if o36.1 = 1 then xmo (fun a => a.2.1) (fun a => a.2.2.1) ((0 + cc) + o36.2.1) ((0 + k) + o36.2.2.1) (some (1, ((0 + cc) + o36.2.1), ((0 + k) + o36.2.2.1), 0, o36.2.2.2.2)) else none)))) vs cs ks ws (.inl 5 : Nat ⊕ JT (e + 1)) := by
      intro cc k st' h1 h2 ⟨v', c', k', w', h3⟩
      obtain ⟨w, hw⟩ := backS_ms' hsr.2 hM.1.1.2.2.2 B4 h3
      refine ⟨cc + 1, k + 6, xsI (backS st st') 8 5, ?_, ⟨by have := h1.1; omega, ?_⟩, ⟨⟨v', c', k', w, hw.si (by decide) (by decide) (by decide) (by decide)⟩, (h2.trans backS_fr).trans (FrO.at (k := 8) _ (by decide))⟩, (up_eq : va_up (backS st st').1 8 5 8 = 5)⟩
      · have hin : ∀ (c1 s1 c2 s2 : Nat) (z : xS), c1 ≤ c2 → s1 ≤ s2 → xmo (fun a : Nat × Nat × Nat × Nat × xS => a.2.1) (fun a => a.2.2.1) c1 s1 (some (1, c2, s2, 0, z)) = some (1, c2, s2, 0, z) := fun _ _ _ _ _ h1 h2 => xmo_some h1 h2
        unfold fM_refuse
        rw [Option.bind_some, if_pos rfl]
        dsimp only
        rw [hin _ _ _ _ _ (Nat.le_refl _) (Nat.le_refl _), hin _ _ _ _ _ (by omega) (by omega)]
        simp only [Nat.zero_add]
      · have := h1.2
        show k + 6 + pt st ≤ pt st' + 6 * 2
        omega
    rw [text_s g1 g3, Option.bind_some, if_pos rfl, if_neg (fun h => g1 (Or.inr h))]
    dsimp only
    rw [if_neg g1, g2, hres]
    refine OpO.wrap ?_
    by_cases h0 : s = []
    · subst h0
      obtain ⟨fu, rfl⟩ : ∃ f, fu = f + 1 := ⟨fu - 1, by omega⟩
      have hpT : ∃ r, pT e 40 ([] : List Nat) = .inl r := by
        cases e with
        | zero => omega
        | succ e => exact ⟨[], rfl⟩
      obtain ⟨r, hr⟩ := hpT
      have hz : xpi st 2 (a - 1) + i3 ([] : Sx).length = xpi st 2 (a - 1) := Int32.add_zero _
      have hjs : fM_json (fu + 1) n (xsI st 19 40) 3 (xpi st 2 (a - 1)) (xpi st 2 (a - 1) + i3 ([] : Sx).length) = some (1, 1, 6, 0, xsI (xsI (xsI (xsI (xsX (xsI st 19 40) 3) 16 (xpi st 2 (a - 1))) 17 (xpi st 2 (a - 1))) 18 0) 20 (xpi st 2 (a - 1))) := by
        unfold fM_json
        have h17 : xsi (xsI (xsI (xsI (xsX (xsI st 19 40) 3) 16 (xpi st 2 (a - 1))) 17 (xpi st 2 (a - 1))) 18 0) 17 = xpi st 2 (a - 1) := by
          show va_up (va_up (va_up (va_up st.1 19 40) 16 (xpi st 2 (a - 1))) 17 (xpi st 2 (a - 1))) 18 0 17 = _
          rw [up_ne (by decide), up_eq]
        have h16 : xsi (xsI (xsI (xsI (xsX (xsI st 19 40) 3) 16 (xpi st 2 (a - 1))) 17 (xpi st 2 (a - 1))) 18 0) 16 = xpi st 2 (a - 1) := by
          show va_up (va_up (va_up (va_up st.1 19 40) 16 (xpi st 2 (a - 1))) 17 (xpi st 2 (a - 1))) 18 0 16 = _
          rw [up_ne (by decide), up_ne (by decide), up_eq]
        rw [hz, emptyV (by rw [h16, h17]; exact Int32.le_refl _) (by omega), Option.bind_some, if_neg (show ¬ (1 : Nat) = 0 by decide), if_pos rfl, h16]
        exact xmo_some (Nat.le_refl _) (Nat.le_refl _)
      rw [hjs, Option.bind_some, if_neg (show ¬ (1 : Nat) = 0 by decide), if_pos rfl, if_neg hg, hr]
      have hM' : MS (xsI (xsI (xsI (xsI (xsX (xsI st 19 40) 3) 16 (xpi st 2 (a - 1))) 17 (xpi st 2 (a - 1))) 18 0) 20 (xpi st 2 (a - 1))) vs cs ks ws := (((((hM.si (k := 19) (by decide) (by decide) (by decide) (by decide)).sx (show 3 < 41 + xgl st by omega)).si (by decide) (by decide) (by decide) (by decide)).si (by decide) (by decide) (by decide) (by decide)).si (by decide) (by decide) (by decide) (by decide)).si (by decide) (by decide) (by decide) (by decide)
      exact bad 1 6 _ ⟨by omega, by show 6 + pt st ≤ pt st + 6 * 1; omega⟩ ((FrO.at (k := 19) _ (by decide)).trans (FrO.sx.trans ((FrO.at (k := 16) _ (by decide)).trans ((FrO.at (k := 17) _ (by decide)).trans ((FrO.at (k := 18) _ (by decide)).trans (FrO.at (k := 20) _ (by decide))))))) ⟨vs, cs, ks, ws, hM'⟩
    · have hpos : 0 < s.length := List.length_pos_iff.mpr h0
      have hsok : ∀ c ∈ s, c < 128 := ha.2.1
      obtain ⟨q1, v, qv, q4, qsz, _, _, qg⟩ := hs
      obtain ⟨_, w2, _⟩ := hM.vc q1 qv
      have hlast := (List.getElem?_eq_some_iff.mp (qg (s.length - 1) s[s.length - 1] (List.getElem?_eq_getElem (by omega)))).1
      have hcl := hM.cl.2.1
      have hln := hM.2.2.2.1.1
      rw [w2.2.1, i3_add]
      have hM0 : MS (xsI (xsI (xsI (xsX (xsI st 19 40) 3) 16 (i3 v.2.1)) 17 (i3 (v.2.1 + s.length))) 18 0) vs cs ks ws := (((MS.sx (hM.si (k := 19) (v := 40) (by decide) (by decide) (by decide) (by decide)) (show 3 < 41 + xgl st by omega)).si (by decide) (by decide) (by decide) (by decide)).si (by decide) (by decide) (by decide) (by decide)).si (by decide) (by decide) (by decide) (by decide)
      have hP0 : PR v.2.1 s (xsI (xsI (xsI (xsX (xsI st 19 40) 3) 16 (i3 v.2.1)) 17 (i3 (v.2.1 + s.length))) 18 0) s := by
        refine ⟨⟨fun c hc => by have := hsok c hc; omega, ⟨xba st 3, ⟨Or.inl rfl, ?_, fun i hi => ?_, fun hh => ⟨cs.length, by omega, ?_, by omega⟩⟩, ?_⟩, rfl, by omega⟩, List.suffix_refl _, ?_⟩
        · show v.2.1 + s.length ≤ xln st 3
          omega
        · rfl
        · show va_up (va_up (va_up (va_up st.1 19 40) 16 (i3 v.2.1)) 17 (i3 (v.2.1 + s.length))) 18 0 4 = _
          rw [up_ne (by decide), up_ne (by decide), up_ne (by decide), up_ne (by decide)]
          exact hM.1.1.2.1
        · intro i y hy
          rw [List.getElem?_map] at hy
          obtain ⟨c, hc, rfl⟩ := Option.map_eq_some_iff.mp hy
          have hcc := hM.1.2.2.1 _ _ (qg i c hc)
          rw [hcc.1, sb_lt hcc.2]
        · show i3 v.2.1 = rp v.2.1 s s
          unfold rp
          rw [Nat.sub_self]
          rfl
      have hJ := jsonM (st := xsI st 19 40) (c0 := 3) (x1 := i3 v.2.1) (x2 := i3 (v.2.1 + s.length)) (k := e) (m0 := 40) (fu := fu) (n := n) (by omega) hn (by omega) he hfu hM0 hP0 rfl (Or.inl (by omega)) (by omega) (by omega) (by omega) (by omega)
      rw [pW_pT] at hJ
      have f0 : FrO st (xsI (xsI (xsI (xsX (xsI st 19 40) 3) 16 (i3 v.2.1)) 17 (i3 (v.2.1 + s.length))) 18 0) := (FrO.at (k := 19) _ (by decide)).trans (FrO.sx.trans ((FrO.at (k := 16) _ (by decide)).trans ((FrO.at (k := 17) _ (by decide)).trans (FrO.at (k := 18) _ (by decide)))))
      cases hp : pT e 40 s with
      | inl r =>
        rw [hp] at hJ
        obtain ⟨cc, k, st', e1, m1, m2⟩ := hJ
        rw [e1, Option.bind_some, if_neg (show ¬ (1 : Nat) = 0 by decide), if_pos rfl, if_neg hg]
        have := bad cc k st' ⟨m1.1, m1.2⟩ (f0.trans m2.2.2.1.o) m2.1
        simp only [Nat.zero_add] at this ⊢
        exact this
      | inr j =>
        rw [hp] at hJ
        obtain ⟨cc, k, c, st', v', c', k', e1, m1, m2, m3, m4, m5, m6, _⟩ := hJ
        have hc0 := m6.le.1
        rw [e1, Option.bind_some, if_pos rfl, if_neg hg]
        dsimp only
        rw [if_neg (show ¬ c = 0 by omega)]
        simp only [Nat.zero_add]
        refine Or.inl ⟨cc, k, c, backS st st', v', c', k', ?_, backS_ms hsr.2 hM.1.1.2.2.2 m1, ⟨m3.1, m3.2⟩, (f0.trans m4.p.o).trans backS_fr, m6⟩
        rw [Nat.zero_add, Nat.zero_add]
        exact xmo_some (Nat.le_refl _) (Nat.le_refl _)
  · have hk : oFrom x = .inl 1 := by
      rcases jcases x with ⟨k, rfl⟩ | ⟨z, rfl⟩ | ⟨s, rfl⟩ | ⟨l, rfl⟩ | ⟨l, rfl⟩ <;> first | rfl | exact absurd rfl h4
    rw [hk, text_f a1 (by rw [a3]; exact fun h => h4 ((ke (c := 4) ka (by omega)).mp h)), Option.bind_some, if_neg (show ¬ (1 : Nat) = 0 by decide), if_pos rfl, if_neg a2]
    exact OpO.xs (k := 1) hM
end ONE
end ZOne95
section ZOnm96
section ONM
variable {cs : List Nat} {e d : Nat} {st : xS} {vs : List VR} {ks ws : List NP}
theorem truth_o {n wc wn cR cL : Nat} {b : Bool} {x : Int32} (hx : x = if b then 1 else 0) (hM : MS st vs cs ks ws) (hb : vs.length + 1 ≤ bV) (hn : bV < n) : OpO st wc wn cR cL ((fM_truth n st x).bind fun o5 => (xmo (fun a => a.2.1) (fun a => a.2.2.1) (wc + o5.1) (wn + o5.2.1) (some (0, (wc + o5.1), (wn + o5.2.1), o5.2.2.1, o5.2.2.2)))) vs cs ks ws (.inr (tru b) : Nat ⊕ JT (d + 1)) := by
  have key : ∀ k, ∃ (cc s : Nat) (st' : xS), ((fM_fresh n st (i3 k)).bind fun o1 => (xmo (fun a : Nat × Nat × Nat × xS => a.1) (fun a => a.2.1) (0 + o1.1) (0 + o1.2.1) (some ((0 + o1.1), (0 + o1.2.1), o1.2.2.1, o1.2.2.2)))) = some (cc, s, vs.length + 1, st') ∧ MS st' (vs ++ [(k, 0, 0, 0, 1, 0)]) cs ks ws ∧ Cost st st' cc s ∧ Fr0 st st' := by
    intro k
    obtain ⟨cc, s, st', e1, m1, m2, m3, _⟩ := fresh_w (n := n) hM k hb hn
    refine ⟨cc, s, st', ?_, m1, m2, m3⟩
    rw [e1, Option.bind_some]
    simp only [Nat.zero_add]
    exact xmo_some (Nat.le_refl _) (Nat.le_refl _)
  unfold fM_truth
  cases b with
  | false =>
    have hx0 : x = 0 := hx
    obtain ⟨cc, s, st', e1, m1, m2, m3⟩ := key 1
    rw [if_pos hx0, show fM_fresh n st 1 = fM_fresh n st (i3 1) from rfl, e1, Option.bind_some]
    exact OpO.new (xmo_some (Nat.le_refl _) (Nat.le_refl _)) m1 m2 m3.o (rep_k (k := 1))
  | true =>
    have hx1 : x = 1 := hx
    obtain ⟨cc, s, st', e1, m1, m2, m3⟩ := key 2
    rw [if_neg (by rw [hx1]; decide), show fM_fresh n st 2 = fM_fresh n st (i3 2) from rfl, e1, Option.bind_some]
    exact OpO.new (xmo_some (Nat.le_refl _) (Nat.le_refl _)) m1 m2 m3.o (rep_k (k := 2))
theorem one1M {fu n a k : Nat} {x : JT (e + 2)} (hk : k ≤ 13) (he : 40 ≤ e + 1) (hM : MS st vs cs ks ws) (hH : Hs st) (hP : PV st 1000000000 []) (hsr : 32 ≤ xsr st ∧ xsr st < 41) (ha : Arg vs cs ks (e + 2) x a) (hB : Bd vs cs ks ws) (hfu : e + 2 ≤ fu) (hn : 3000000000 < n) : OpO st 0 0 1 2 (fM_one1 fu n st (i3 k) a) vs cs ks ws (oOne k x) := by
  have hB1 := hB.1
  have hB3 := hB.2.2.1
  have hB4 := hB.2.2.2
  have hbv : bV = 32000 := rfl
  have hbk : bK = 32000 := rfl
  obtain ⟨a1, a2, a3, _⟩ := ha.g hM
  have ka := ha.k7
  have P : ∀ c : Nat, c < 8 → (i3 (kd (e + 2) x) = i3 c) = (kd (e + 2) x = c) := fun c hc => ke ka hc
  unfold fM_one1
  obtain rfl | rfl | rfl | rfl | rfl | rfl | rfl | rfl | rfl | rfl | rfl | rfl | rfl | rfl : k = 0 ∨ k = 1 ∨ k = 2 ∨ k = 3 ∨ k = 4 ∨ k = 5 ∨ k = 6 ∨ k = 7 ∨ k = 8 ∨ k = 9 ∨ k = 10 ∨ k = 11 ∨ k = 12 ∨ k = 13 := by omega
  · rw [if_pos (by decide)]
    show OpO _ _ _ _ _ _ _ _ _ _ (.inr (tru (decide (kd (e + 2) x < 2))))
    unfold fM_isTrue
    rw [if_neg a1, a3]
    by_cases h0 : kd (e + 2) x = 0
    · rw [if_pos (show i3 (kd (e + 2) x) = 0 by rw [h0]; rfl), Option.bind_some, if_pos rfl, decide_eq_true (by omega)]
      exact truth_o rfl hM (by omega) (by omega)
    · rw [if_neg (show ¬ i3 (kd (e + 2) x) = 0 from fun h => h0 ((P 0 (by omega)).mp h))]
      by_cases h1 : kd (e + 2) x = 1
      · rw [if_pos (show i3 (kd (e + 2) x) = 1 by rw [h1]; rfl), Option.bind_some, if_pos rfl, decide_eq_true (by omega)]
        exact truth_o rfl hM (by omega) (by omega)
      · rw [if_neg (show ¬ i3 (kd (e + 2) x) = 1 from fun h => h1 ((P 1 (by omega)).mp h)), Option.bind_some, if_neg (by decide), decide_eq_false (by omega)]
        exact truth_o rfl hM (by omega) (by omega)
  · rw [if_neg (by decide), if_pos (by decide)]
    exact OpO.r1 (lenM hM ha hB (by omega))
  · rw [if_neg (by decide), if_neg (by decide), if_pos (by decide)]
    exact OpO.t2r (by omega) (keysM (srt' := true) hM hH ha hB (by omega) hn)
  · rw [if_neg (by decide), if_neg (by decide), if_neg (by decide), if_pos (by decide)]
    exact OpO.t2r (by omega) (keysM (srt' := false) hM hH ha hB (by omega) hn)
  · rw [if_neg (by decide), if_neg (by decide), if_neg (by decide), if_neg (by decide), if_pos (by decide), if_neg a1, a3]
    show OpO _ _ _ _ _ _ _ _ _ _ (oStr x)
    by_cases h4 : kd (e + 2) x = 4
    · obtain ⟨_, x4, _, _⟩ := kdc ha.2.1 _ rfl
      obtain ⟨s, rfl⟩ := x4 h4
      rw [kd_s, if_pos (by decide)]
      exact OpO.old hM ha.1
    · have : oStr x = .inr (js (jt (e + 2) x)) := by
        rcases jcases x with ⟨k, rfl⟩ | ⟨z, rfl⟩ | ⟨s, rfl⟩ | ⟨l, rfl⟩ | ⟨l, rfl⟩ <;> first | rfl | exact absurd rfl h4
      rw [if_neg (show ¬ i3 (kd (e + 2) x) = 4 from fun h => h4 ((P 4 (by omega)).mp h)), this]
      exact OpO.l1 (cR := 1) (by omega) (toldM hM hP ha hB hfu hn)
  · rw [if_neg (by decide), if_neg (by decide), if_neg (by decide), if_neg (by decide), if_neg (by decide), if_pos (by decide)]
    exact OpO.r1 (tnM hM ha hB hn)
  · rw [if_neg (by decide), if_neg (by decide), if_neg (by decide), if_neg (by decide), if_neg (by decide), if_neg (by decide), if_pos (by decide)]
    exact OpO.l1 (cR := 1) (by omega) (toldM hM hP ha hB hfu hn)
  · rw [if_neg (by decide), if_neg (by decide), if_neg (by decide), if_neg (by decide), if_neg (by decide), if_neg (by decide), if_neg (by decide), if_pos (by decide)]
    exact OpO.r1 (fromM he hM hsr ha hB (by omega) hn)
  · rw [if_neg (by decide), if_neg (by decide), if_neg (by decide), if_neg (by decide), if_neg (by decide), if_neg (by decide), if_neg (by decide), if_neg (by decide), if_pos (by decide)]
    show OpO _ _ _ _ _ _ _ _ _ _ (oSort x)
    obtain ⟨_, _, x5, _⟩ := kdc ha.2.1 _ rfl
    by_cases h5 : kd (e + 2) x = 5
    · obtain ⟨l, rfl⟩ := x5 h5
      rw [array_s a1 (by rw [a3]; rfl), Option.bind_some, if_pos rfl, if_neg a2]
      have hl := ha.la
      exact OpO.wrap (OpO.l1 (cR := 1) (by omega) (sort0M hM hH ha.1 ha.1 ha.2.1 rfl hl (by omega) (by omega) (by omega) (by omega)))
    · have : oSort x = .inl 1 := by
        rcases jcases x with ⟨k, rfl⟩ | ⟨z, rfl⟩ | ⟨s, rfl⟩ | ⟨l, rfl⟩ | ⟨l, rfl⟩ <;> first | rfl | exact absurd rfl h5
      rw [array_f a1 (by rw [a3]; exact fun h => h5 ((P 5 (by omega)).mp h)), Option.bind_some, if_neg (show ¬ (1 : Nat) = 0 by decide), if_pos rfl, if_neg a2, this]
      exact OpO.xs (k := 1) hM
  · rw [if_neg (by decide), if_neg (by decide), if_neg (by decide), if_neg (by decide), if_neg (by decide), if_neg (by decide), if_neg (by decide), if_neg (by decide), if_neg (by decide), if_pos (by decide)]
    exact OpO.t2 (by omega) (revM hM ha hB hn)
  · rw [if_neg (by decide), if_neg (by decide), if_neg (by decide), if_neg (by decide), if_neg (by decide), if_neg (by decide), if_neg (by decide), if_neg (by decide), if_neg (by decide), if_neg (by decide), if_pos (by decide)]
    exact OpO.t2r (by omega) (expM hM ha hB hn)
  · rw [if_neg (by decide), if_neg (by decide), if_neg (by decide), if_neg (by decide), if_neg (by decide), if_neg (by decide), if_neg (by decide), if_neg (by decide), if_neg (by decide), if_neg (by decide), if_neg (by decide), if_pos (by decide)]
    exact OpO.t2 (by omega) (impM hM ha hB hn)
  · rw [if_neg (by decide), if_neg (by decide), if_neg (by decide), if_neg (by decide), if_neg (by decide), if_neg (by decide), if_neg (by decide), if_neg (by decide), if_neg (by decide), if_neg (by decide), if_neg (by decide), if_neg (by decide), if_pos (by decide)]
    exact OpO.t2r (by omega) (casM (cap := false) hM ha hB hn)
  · rw [if_neg (by decide), if_neg (by decide), if_neg (by decide), if_neg (by decide), if_neg (by decide), if_neg (by decide), if_neg (by decide), if_neg (by decide), if_neg (by decide), if_neg (by decide), if_neg (by decide), if_neg (by decide), if_neg (by decide)]
    exact OpO.t2r (by omega) (casM (cap := true) hM ha hB hn)
end ONM
end ZOnm96
