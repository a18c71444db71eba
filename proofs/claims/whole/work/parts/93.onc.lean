section ONC
variable {cs : List Nat} {W0 : List NP} {e d : Nat}
theorem Rep.ge {st : xS} {vs : List VR} {ks ws : List NP} (hM : MS st vs cs ks ws) : ∀ {e : Nat} {j : JT e} {c : Nat}, Rep vs cs ks e j c → jok e j → ¬ (c = 0 ∨ xct st < c) ∧ xpi st 0 (c - 1) = i3 (kd e j) ∧ kd e j < 7
  | 0, j, _, _, _ => (j0 j).elim
  | _ + 1, _, _, h, hj => by
    obtain ⟨a1, _, a3, _⟩ := h.g hM
    exact ⟨a1, a3, kd7 hj⟩
theorem numOf_kd : ∀ {e : Nat} {j : JT e}, jok e j → ((numOf e j).isSome = true ↔ kd e j = 3)
  | 0, j, _ => (j0 j).elim
  | e + 1, j, hj => by
    rcases jcases j with ⟨k, rfl⟩ | ⟨z, rfl⟩ | ⟨s, rfl⟩ | ⟨l, rfl⟩ | ⟨l, rfl⟩
    · have h3 : k < 3 := hj
      refine ⟨fun h => (by cases h), fun h => ?_⟩
      rw [kd_k] at h
      omega
    · exact ⟨fun _ => rfl, fun _ => rfl⟩
    · exact ⟨fun h => (by cases h), fun h => (by cases h)⟩
    · exact ⟨fun h => (by cases h), fun h => (by cases h)⟩
    · exact ⟨fun h => (by cases h), fun h => (by cases h)⟩
theorem numOf_r {st : xS} {vs : List VR} {ks ws : List NP} (hM : MS st vs cs ks ws) : ∀ {e : Nat} {j : JT e} {c : Nat} {z : Int}, Rep vs cs ks e j c → numOf e j = some z → j = (match e, j with | 0, j => j | _ + 1, _ => jn z) ∧ xpl st (c - 1) = cW z
  | 0, j, _, _, _, _ => (j0 j).elim
  | e + 1, j, c, z, h, hz => by
    rcases jcases j with ⟨k, rfl⟩ | ⟨w, rfl⟩ | ⟨s, rfl⟩ | ⟨l, rfl⟩ | ⟨l, rfl⟩
    · cases hz
    · have : w = z := by injection hz
      subst this
      exact ⟨rfl, h.num hM⟩
    · cases hz
    · cases hz
    · cases hz
theorem numOf_ok : ∀ {e : Nat} {j : JT e} {z : Int}, jok e j → numOf e j = some z → -9007199254740991 ≤ z ∧ z ≤ 9007199254740991
  | 0, j, _, _, _ => (j0 j).elim
  | e + 1, j, z, hj, hz => by
    rcases jcases j with ⟨k, rfl⟩ | ⟨w, rfl⟩ | ⟨s, rfl⟩ | ⟨l, rfl⟩ | ⟨l, rfl⟩
    · cases hz
    · have : w = z := by injection hz
      subst this
      exact hj
    · cases hz
    · cases hz
    · cases hz
theorem imp1 {st : xS} {vs : List VR} {ks ws : List NP} {a N wc wn : Nat} {l : List (JT e)} {R : Nat ⊕ JT (d + 1)} (hM : MS st vs cs ks ws) (ha : Rep vs cs ks (e + 1) (ja l) a) (hol : ∀ x ∈ l, jok e x) (hl : l.length ≤ 4096) (hK : l.all (fun x => (numOf e x).isSome) = true → ∀ n', N ≤ n' → OpO st wc wn 1 2 (fM_implode_b n' 2 0 a 0 st wc wn) vs cs ks ws R) : ∀ (q n i : Nat), i + q = l.length → (l.take i).all (fun x => (numOf e x).isSome) = true → N + q + 1 ≤ n → OpO st wc wn 1 2 (fM_implode_b n 1 (i3 i) a 0 st wc wn) vs cs ks ws (if (l.drop i).all (fun x => (numOf e x).isSome) = true then R else .inl 1) := by
  obtain ⟨a1, a2, a3, _⟩ := ha.g hM
  obtain ⟨as, _⟩ := ha.sza hM
  intro q
  induction q with
  | zero =>
    intro n i hi hall hn
    obtain ⟨n, rfl⟩ : ∃ j, n = j + 1 := ⟨n - 1, by omega⟩
    rw [List.take_of_length_le (by omega)] at hall
    rw [fM_implode_b, if_pos rfl, array_s a1 a3, Option.bind_some, if_pos rfl, if_neg a2]
    dsimp only
    rw [if_neg a1, as, if_pos (by rw [i3_le (by omega) (by omega)]; omega), List.drop_eq_nil_of_le (by omega), List.all_nil, if_pos rfl]
    exact OpO.wrap (OpO.wrap (hK hall n (by omega)))
  | succ q ih =>
    intro n i hi hall hn
    obtain ⟨n, rfl⟩ : ∃ j, n = j + 1 := ⟨n - 1, by omega⟩
    obtain ⟨k, e1, r1⟩ := ha.kid (n := n) hM (List.getElem?_eq_getElem (show i < l.length by omega))
    have hoi := hol l[i] (List.getElem_mem _)
    obtain ⟨k1, k2, k3⟩ := r1.ge hM hoi
    rw [fM_implode_b, if_pos rfl, array_s a1 a3, Option.bind_some, if_pos rfl, if_neg a2]
    dsimp only
    rw [if_neg a1, as, if_neg (by rw [i3_le (by omega) (by omega)]; omega), e1, Option.bind_some, if_neg k1, k2, List.drop_eq_getElem_cons (show i < l.length by omega), List.all_cons]
    by_cases h3 : kd e l[i] = 3
    · rw [if_pos (by rw [h3]; rfl), (numOf_kd hoi).mpr h3, Bool.true_and, i3_one]
      exact OpO.wrap (OpO.wrap (ih n (i + 1) (by omega) (by rw [List.take_succ_eq_append_getElem (show i < l.length by omega), List.all_append, hall, List.all_cons, (numOf_kd hoi).mpr h3]; rfl) (by omega)))
    · have hf : (numOf e l[i]).isSome = false := by
        cases hb : (numOf e l[i]).isSome with
        | false => rfl
        | true => exact absurd ((numOf_kd hoi).mp hb) h3
      rw [if_neg (show ¬ i3 (kd e l[i]) = 3 from fun h => h3 ((ke (c := 3) k3 (by omega)).mp h)), hf, Bool.false_and, if_neg (by decide)]
      exact OpO.wrap (OpO.wrap (refuse_o (k := 1) hM))
theorem imp2 {st : xS} {vs : List VR} {ks ws : List NP} {a N wc wn : Nat} {l : List (JT e)} {R : Nat ⊕ JT (d + 1)} (hM : MS st vs cs ks ws) (ha : Rep vs cs ks (e + 1) (ja l) a) (hol : ∀ x ∈ l, jok e x) (hl : l.length ≤ 4096) (hnum : ∀ x ∈ l, (numOf e x).isSome = true) (hK : (l.filterMap (numOf e)).all (fun z => decide (0 ≤ z ∧ z ≤ 127)) = true → ∀ n', N ≤ n' → OpO st wc wn 1 2 (fM_implode_b n' 3 (xsi st 4) a 0 st wc wn) vs cs ks ws R) : ∀ (q n i : Nat), i + q = l.length → ((l.take i).filterMap (numOf e)).all (fun z => decide (0 ≤ z ∧ z ≤ 127)) = true → N + q + 1 ≤ n → OpO st wc wn 1 2 (fM_implode_b n 2 (i3 i) a 0 st wc wn) vs cs ks ws (if ((l.drop i).filterMap (numOf e)).all (fun z => decide (0 ≤ z ∧ z ≤ 127)) = true then R else .inl 2) := by
  obtain ⟨a1, a2, a3, _⟩ := ha.g hM
  obtain ⟨as, _⟩ := ha.sza hM
  intro q
  induction q with
  | zero =>
    intro n i hi hall hn
    obtain ⟨n, rfl⟩ : ∃ j, n = j + 1 := ⟨n - 1, by omega⟩
    rw [List.take_of_length_le (by omega)] at hall
    rw [fM_implode_b, if_neg (by decide), if_pos rfl, if_neg a1, as, if_pos (by rw [i3_le (by omega) (by omega)]; omega), List.drop_eq_nil_of_le (by omega), List.filterMap_nil, List.all_nil, if_pos rfl]
    exact OpO.wrap (hK hall n (by omega))
  | succ q ih =>
    intro n i hi hall hn
    obtain ⟨n, rfl⟩ : ∃ j, n = j + 1 := ⟨n - 1, by omega⟩
    obtain ⟨k, e1, r1⟩ := ha.kid (n := n) hM (List.getElem?_eq_getElem (show i < l.length by omega))
    have hmem : l[i] ∈ l := List.getElem_mem _
    have hoi := hol l[i] hmem
    obtain ⟨k1, k2, k3⟩ := r1.ge hM hoi
    obtain ⟨z, hz⟩ := Option.isSome_iff_exists.mp (hnum _ hmem)
    have hzl := (numOf_r hM r1 hz).2
    have hzr := numOf_ok hoi hz
    have hc0 : (lg_cmp (cW z) 0 < 0) = (z < 0) := by
      rw [show (0 : Int64) = cW 0 from rfl, lg_cW (by omega) (by omega) (by omega) (by omega), izs_lt0, Int.sub_zero]
    have hc1 : (lg_cmp (cW z) 127 ≤ 0) = (z ≤ 127) := by
      rw [show (127 : Int64) = cW 127 from rfl, lg_cW (by omega) (by omega) (by omega) (by omega), izs_le0]
      exact propext (by omega)
    rw [fM_implode_b, if_neg (by decide), if_pos rfl, if_neg a1, as, if_neg (by rw [i3_le (by omega) (by omega)]; omega), e1, Option.bind_some, if_neg k1, hzl, List.drop_eq_getElem_cons (show i < l.length by omega), List.filterMap_cons, hz, List.all_cons]
    refine OpO.wrap ?_
    by_cases h0 : z < 0
    · rw [if_pos (by rw [hc0]; exact h0), decide_eq_false (by omega), Bool.false_and, if_neg (by decide)]
      exact refuse_o (k := 2) hM
    · rw [if_neg (by rw [hc0]; exact h0), Option.bind_some, if_neg k1, hzl]
      by_cases h1 : z ≤ 127
      · rw [if_pos (by rw [hc1]; exact h1), decide_eq_true ⟨by omega, h1⟩, Bool.true_and, i3_one]
        exact ih n (i + 1) (by omega) (by rw [List.take_succ_eq_append_getElem (show i < l.length by omega), List.filterMap_append, List.all_append, hall, List.filterMap_cons, hz, List.filterMap_nil, List.all_cons, decide_eq_true ⟨by omega, h1⟩]; rfl) (by omega)
      · rw [if_neg (by rw [hc1]; exact h1), decide_eq_false (by omega), Bool.false_and, if_neg (by decide)]
        exact refuse_o (k := 2) hM
theorem imp3 {vs : List VR} {ks ws : List NP} {a : Nat} {l : List (JT e)} (ha : Rep vs cs ks (e + 1) (ja l) a) (hol : ∀ x ∈ l, jok e x) (hl : l.length ≤ 4096) (hnum : ∀ x ∈ l, ∃ z, numOf e x = some z ∧ 0 ≤ z ∧ z ≤ 127) (hbv : vs.length + 1 ≤ bV) (hbc : cs.length + l.length ≤ bC) : ∀ (q n i : Nat) (st : xS) (X : List Nat) (wc wn : Nat), i + q = l.length → X.length = i → MS st vs (cs ++ X) ks ws → 300000 + q < n → OpO st wc wn 1 2 (fM_implode_b n 3 (i3 cs.length) a (i3 i) st wc wn) vs (cs ++ X) ks ws (.inr (js (X ++ ((l.drop i).filterMap (numOf e)).map Int.toNat)) : Nat ⊕ JT (d + 1)) := by
  have hbc' : bC = 100000 := rfl
  have hbv' : bV = 32000 := rfl
  intro q
  induction q with
  | zero =>
    intro n i st X wc wn hi hX hM hn
    obtain ⟨n, rfl⟩ : ∃ j, n = j + 1 := ⟨n - 1, by omega⟩
    have ha' : Rep vs (cs ++ X) ks (e + 1) (ja l) a := by
      have := ha.mono (vs' := []) (cs' := X) (ks' := [])
      rw [List.append_nil, List.append_nil] at this
      exact this
    obtain ⟨a1, _, _, _⟩ := ha'.g hM
    rw [fM_implode_b, if_neg (by decide), if_neg (by decide), if_neg a1, (ha'.sza hM).1, if_pos (by rw [i3_le (by omega) (by omega)]; omega), List.drop_eq_nil_of_le (by omega), List.filterMap_nil, List.map_nil, List.append_nil]
    exact OpO.wrap (OpO.l1 (cR := 1) (by omega) (string_o hM hbv (by omega)))
  | succ q ih =>
    intro n i st X wc wn hi hX hM hn
    obtain ⟨n, rfl⟩ : ∃ j, n = j + 1 := ⟨n - 1, by omega⟩
    have ha' : Rep vs (cs ++ X) ks (e + 1) (ja l) a := by
      have := ha.mono (vs' := []) (cs' := X) (ks' := [])
      rw [List.append_nil, List.append_nil] at this
      exact this
    obtain ⟨a1, _, _, _⟩ := ha'.g hM
    obtain ⟨k, e1, r1⟩ := ha'.kid (n := n) hM (List.getElem?_eq_getElem (show i < l.length by omega))
    have hmem : l[i] ∈ l := List.getElem_mem _
    obtain ⟨k1, k2, k3⟩ := r1.ge hM (hol _ hmem)
    obtain ⟨z, hz, z0, z1⟩ := hnum _ hmem
    have hzl := (numOf_r hM r1 hz).2
    have hzc : (cW z).toInt32 = i3 z.toNat := by
      rw [cW_32, i3_iz, show ((z.toNat : Nat) : Int) = z by omega]
    obtain ⟨cc, w, st', e2, m1, m2, m3, _⟩ := letter_w (n := n) hM (c := z.toNat) (by omega) (by rw [List.length_append]; omega) (by omega)
    rw [fM_implode_b, if_neg (by decide), if_neg (by decide), if_neg a1, (ha'.sza hM).1, if_neg (by rw [i3_le (by omega) (by omega)]; omega), e1, Option.bind_some, if_neg k1, hzl, hzc, e2, Option.bind_some, i3_one, List.drop_eq_getElem_cons (show i < l.length by omega), List.filterMap_cons, hz, List.map_cons]
    refine OpO.wrap (OpO.stepc (b := [z.toNat]) (OpO.wrap ?_) m2 m3.o)
    rw [List.append_assoc] at m1 ⊢
    have := ih n (i + 1) st' (X ++ [z.toNat]) (wc + cc) (wn + w) (by omega) (by rw [List.length_append, hX]; rfl) m1 (by omega)
    rw [List.append_assoc] at this
    exact this
theorem impM {st : xS} {vs : List VR} {ks ws : List NP} {n a : Nat} {x : JT (e + 1)} (hM : MS st vs cs ks ws) (ha : Arg vs cs ks (e + 1) x a) (hB : Bd vs cs ks ws) (hn : 3000000000 < n) : OpO st 0 0 1 2 (fM_implode n st a) vs cs ks ws (oImp x) := by
  obtain ⟨B1, B2, B3, B4⟩ := hB
  have hbv : bV = 32000 := rfl
  have hbc : bC = 100000 := rfl
  obtain ⟨a1, a2, a3, _⟩ := ha.g hM
  have ka := ha.k7
  obtain ⟨_, _, x5, _⟩ := kdc ha.2.1 _ rfl
  unfold fM_implode
  by_cases h5 : kd (e + 1) x = 5
  · obtain ⟨l, rfl⟩ := x5 h5
    have hl := ha.la
    show OpO _ _ _ _ _ _ _ _ _ _ (if l.all (fun x => (numOf e x).isSome) = true then (if (l.filterMap (numOf e)).all (fun z => decide (0 ≤ z ∧ z ≤ 127)) = true then .inr (js ((l.filterMap (numOf e)).map Int.toNat)) else .inl 2) else .inl 1)
    refine imp1 (N := 2000000) hM ha.1 ha.2.1 hl (fun hall n' hn' => ?_) l.length n 0 (by omega) rfl (by omega)
    have hnum : ∀ x ∈ l, (numOf e x).isSome = true := fun x hx => List.all_eq_true.mp hall x hx
    refine imp2 (N := 1000000) hM ha.1 ha.2.1 hl hnum (fun hr n2 hn2 => ?_) l.length n' 0 (by omega) rfl (by omega)
    have := imp3 (d := e) (ws := ws) (cs := cs) ha.1 ha.2.1 hl (fun x hx => by
      obtain ⟨z, hz⟩ := Option.isSome_iff_exists.mp (hnum x hx)
      have := of_decide_eq_true (List.all_eq_true.mp hr z (List.mem_filterMap.mpr ⟨x, hx, hz⟩))
      exact ⟨z, hz, this.1, this.2⟩) (by omega) (by omega) l.length n2 0 st [] 0 0 (by omega) rfl (by rw [List.append_nil]; exact hM) (by omega)
    rw [List.append_nil] at this
    rw [hM.1.1.2.1]
    exact this
  · have hk : oImp x = .inl 1 := by
      rcases jcases x with ⟨k, rfl⟩ | ⟨z, rfl⟩ | ⟨s, rfl⟩ | ⟨l, rfl⟩ | ⟨l, rfl⟩ <;> first | rfl | exact absurd rfl h5
    rw [hk]
    obtain ⟨n, rfl⟩ : ∃ j, n = j + 1 := ⟨n - 1, by omega⟩
    rw [fM_implode_b, if_pos rfl, array_f a1 (by rw [a3]; exact fun h => h5 ((ke (c := 5) ka (by omega)).mp h)), Option.bind_some, if_neg (show ¬ (1 : Nat) = 0 by decide), if_pos rfl, if_neg a2]
    exact OpO.wrap (OpO.xs (k := 1) hM)
end ONC
