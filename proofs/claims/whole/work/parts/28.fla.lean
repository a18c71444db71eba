section FLA
variable {cs : List Nat} {e d : Nat} {vs : List VR} {ks : List NP}
theorem RL.lfm : ∀ {W : List NP} {l : List (JT d)}, RL vs cs ks d W l → RL vs cs ks (d + 1) W (l.map (lf d)) := by
  intro W
  induction W with
  | nil => intro l h; cases l with
    | nil => trivial
    | cons x l => exact h.elim
  | cons p W ih => intro l h; cases l with
    | nil => exact h.elim
    | cons x l => exact ⟨h.1.lf, h.2.1, ih h.2.2⟩
theorem RL.app : ∀ {W W' : List NP} {l l' : List (JT d)}, RL vs cs ks d W l → RL vs cs ks d W' l' → RL vs cs ks d (W ++ W') (l ++ l') := by
  intro W
  induction W with
  | nil => intro W' l l' h h'; cases l with
    | nil => exact h'
    | cons x l => exact h.elim
  | cons p W ih => intro W' l l' h h'; cases l with
    | nil => exact h.elim
    | cons x l => exact ⟨h.1, h.2.1, ih h.2.2 h'⟩
def FlO (st : xS) (wc wn : Nat) (X : Option (Nat × Nat × xS)) (vs : List VR) (cs : List Nat) (ks ws : List NP) (d : Nat) (l : List (JT d)) (m : Nat) : Prop := ∃ (cc s : Nat) (st' : xS) (W : List NP), X = some (wc + cc, wn + s, st') ∧ MS st' vs cs ks (ws ++ W) ∧ Cost st st' cc s ∧ Fr0 st st' ∧ RL vs cs ks d W l ∧ W.length ≤ m
theorem FlO.wrap {st : xS} {wc wn : Nat} {X : Option (Nat × Nat × xS)} {ws : List NP} {l : List (JT d)} {m : Nat} (h : FlO st wc wn X vs cs ks ws d l m) : FlO st wc wn (xmo (fun a => a.1) (fun a => a.2.1) wc wn X) vs cs ks ws d l m := by
  obtain ⟨cc, s, st', W, h1, h2⟩ := h
  refine ⟨cc, s, st', W, ?_, h2⟩
  rw [h1]
  exact xmo_some (Nat.le_add_right _ _) (Nat.le_add_right _ _)
theorem FlO.step {st st1 : xS} {wc wn c1 s1 : Nat} {X : Option (Nat × Nat × xS)} {ws W1 : List NP} {l1 l : List (JT d)} {m m1 : Nat} (h : FlO st1 (wc + c1) (wn + s1) X vs cs ks (ws ++ W1) d l m) (hc : Cost st st1 c1 s1) (hf : Fr0 st st1) (hR : RL vs cs ks d W1 l1) (hm : W1.length ≤ m1) : FlO st wc wn X vs cs ks ws d (l1 ++ l) (m1 + m) := by
  obtain ⟨cc, s, st', W, h1, h2, h3, h4, h5, h6⟩ := h
  refine ⟨c1 + cc, s1 + s, st', W1 ++ W, by rw [h1, Nat.add_assoc, Nat.add_assoc], by rw [← List.append_assoc]; exact h2, hc.trans h3, hf.trans h4, hR.app h5, by rw [List.length_append]; omega⟩
def RcFl (vs : List VR) (cs : List Nat) (ks : List NP) (d : Nat) (rec : xS → Nat → Int64 → Option (Nat × Nat × xS)) : Prop := ∀ (st : xS) (ws : List NP) (l : List (JT d)) (a z : Nat), Rep vs cs ks (d + 1) (ja l) a → (∀ x ∈ l, jok d x) → MS st vs cs ks ws → z ≤ 9007199254740991 → ws.length + cl (ja l) ≤ bK → FlO st 0 0 (rec st a (cW (z : Nat))) vs cs ks ws d (flt d z l) (cl (ja l))
def fl1 (d z : Nat) (x : JT (d + 1)) : List (JT (d + 1)) := match x with
  | .inr (.inl l') => if 0 < z then (flt d (z - 1) l').map (lf d) else [.inr (.inl l')]
  | x => [x]
theorem flt_s (z : Nat) (l : List (JT (d + 1))) : flt (d + 1) z l = l.flatMap (fl1 d z) := rfl
theorem fl1_n {z : Nat} {x : JT (d + 1)} (h : kd (d + 1) x ≠ 5) : fl1 d z x = [x] := by
  rcases jcases x with ⟨k, rfl⟩ | ⟨z, rfl⟩ | ⟨s, rfl⟩ | ⟨l, rfl⟩ | ⟨l, rfl⟩ <;> first | rfl | exact absurd rfl h
theorem flaL {rec : xS → Nat → Int64 → Option (Nat × Nat × xS)} (hrec : RcFl vs cs ks d rec) {l : List (JT (d + 1))} {a z : Nat} (ha : Rep vs cs ks (d + 2) (ja l) a) (hol : ∀ x ∈ l, jok (d + 1) x) (hz : z ≤ 9007199254740991) : ∀ (q n i : Nat) (st : xS) (ws : List NP) (wc wn : Nat), i + q = l.length → MS st vs cs ks ws → ws.length + ((l.drop i).map (fun x => cl x)).sum + 1 ≤ bK → 100000 + q < n → FlO st wc wn (fM_flat_b rec n 1 (i3 i) a (cW (z : Nat)) st wc wn) vs cs ks ws (d + 1) ((l.drop i).flatMap (fl1 d z)) ((l.drop i).map (fun x => cl x)).sum := by
  have hbk : bK = 32000 := rfl
  intro q
  induction q with
  | zero =>
    intro n i st ws wc wn hi hM hb hn
    obtain ⟨n, rfl⟩ : ∃ j, n = j + 1 := ⟨n - 1, by omega⟩
    obtain ⟨a1, _, _, _⟩ := ha.g hM
    obtain ⟨as, al⟩ := ha.sza hM
    rw [fM_flat_b, if_neg a1, as, if_pos (by rw [i3_le (by omega) (by omega)]; omega), List.drop_eq_nil_of_le (by omega)]
    exact FlO.wrap ⟨0, 0, st, [], rfl, by rw [List.append_nil]; exact hM, Cost.refl, Fr0.refl, trivial, Nat.le_refl _⟩
  | succ q ih =>
    intro n i st ws wc wn hi hM hb hn
    obtain ⟨n, rfl⟩ : ∃ j, n = j + 1 := ⟨n - 1, by omega⟩
    obtain ⟨a1, _, _, _⟩ := ha.g hM
    obtain ⟨as, al⟩ := ha.sza hM
    obtain ⟨k, e1, r1⟩ := ha.kid (n := n) hM (List.getElem?_eq_getElem (show i < l.length by omega))
    have hoi := hol l[i] (List.getElem_mem _)
    obtain ⟨k1, _, k3, _⟩ := r1.g hM
    have k7 := kd7 hoi
    have hpos : 1 ≤ cl l[i] := jc_pos _ _
    rw [List.drop_eq_getElem_cons (show i < l.length by omega), List.map_cons, List.sum_cons] at hb ⊢
    rw [fM_flat_b, if_neg a1, as, if_neg (by rw [i3_le (by omega) (by omega)]; omega), e1, Option.bind_some, if_neg k1, k3, List.flatMap_cons, i3_one]
    have one : FlO st wc wn ((fM_wait n st 0 k).bind fun o6 => (xmo (fun a => a.1) (fun a => a.2.1) (wc + o6.1) (wn + o6.2.1) (fM_flat_b rec n 1 (i3 (i + 1)) a (cW (z : Nat)) o6.2.2 (wc + o6.1) (wn + o6.2.1)))) vs cs ks ws (d + 1) ([l[i]] ++ (l.drop (i + 1)).flatMap (fl1 d z)) (cl l[i] + ((l.drop (i + 1)).map (fun x => cl x)).sum) := by
      obtain ⟨cc, s, st', e2, m1, m2, m3, _⟩ := wait_w (n := n) hM (a := k) (b := 0) r1.lev (by omega) (by omega) (by omega)
      rw [e2, Option.bind_some]
      have := ih n (i + 1) st' (ws ++ [(k, 0)]) (wc + cc) (wn + s) (by omega) m1 (by rw [List.length_append, List.length_singleton]; omega) (by omega)
      exact FlO.step (FlO.wrap this) m2 m3 (⟨r1, by omega, trivial⟩ : RL vs cs ks (d + 1) [(k, 0)] [l[i]]) (by simpa using hpos)
    by_cases h5 : kd (d + 1) l[i] = 5
    · obtain ⟨l', hl'⟩ := (kdc hoi _ rfl).2.2.1 h5
      rw [if_pos (show i3 (kd (d + 1) l[i]) = 5 by rw [h5]; rfl)]
      have hcz : (lg_cmp (cW (z : Nat)) 0 ≤ 0) = (z = 0) := by
        rw [show (0 : Int64) = cW 0 from rfl, lg_cW (by omega) (by omega) (by omega) (by omega), izs_le0]
        exact propext (by omega)
      by_cases h0 : z = 0
      · have : fl1 d z l[i] = [l[i]] := by
          rw [hl', h0]
          rfl
        rw [if_pos (by rw [hcz]; exact h0), this]
        exact FlO.wrap one
      · have : fl1 d z l[i] = (flt d (z - 1) l').map (lf d) := by
          rw [hl']
          exact if_pos (by omega)
        rw [hl'] at r1 hoi
        have hcl : cl l[i] = cl (ja l') := by rw [hl']
        obtain ⟨cc, s, st', W, g1, g2, g3, g4, g5, g6⟩ := hrec st ws l' k (z - 1) r1 hoi hM (by omega) (by omega)
        rw [if_neg (by rw [hcz]; exact h0), show cW (z : Nat) - 1 = cW ((z - 1 : Nat) : Int) by rw [show (1 : Int64) = cW 1 from rfl, cW_sub]; congr 1; omega, g1, Option.bind_some, this, Nat.zero_add, Nat.zero_add]
        have hn1 := ih n (i + 1) st' (ws ++ W) (wc + cc) (wn + s) (by omega) g2 (by rw [List.length_append]; omega) (by omega)
        exact FlO.wrap (FlO.step (FlO.wrap hn1) g3 g4 g5.lfm (by omega))
    · rw [if_neg (show ¬ i3 (kd (d + 1) l[i]) = 5 from fun h => h5 ((ke (c := 5) k7 (by omega)).mp h)), fl1_n h5]
      exact FlO.wrap one
theorem cl_a {l : List (JT d)} : cl (ja l) = (l.map (fun x => cl x)).sum + 1 := by
  unfold cl
  rw [jc_a, lst_len, sm_flat]
  rfl
theorem flatM {n : Nat} (hn : 200000 < n) : ∀ (d fu : Nat), d + 1 ≤ fu → RcFl vs cs ks d (fM_flat fu n) := by
  have hbk : bK = 32000 := rfl
  intro d
  induction d with
  | zero =>
    intro fu hfu st ws l a z ha hol hM hz hb
    obtain ⟨fu, rfl⟩ : ∃ f, fu = f + 1 := ⟨fu - 1, by omega⟩
    obtain ⟨n, rfl⟩ : ∃ j, n = j + 1 := ⟨n - 1, by omega⟩
    cases l with
    | cons x l => exact (j0 x).elim
    | nil =>
      obtain ⟨a1, _, _, _⟩ := ha.g hM
      obtain ⟨as, al⟩ := ha.sza hM
      rw [fM_flat, fM_flat_b, if_neg a1, as, if_pos (by decide)]
      exact FlO.wrap ⟨0, 0, st, [], rfl, by rw [List.append_nil]; exact hM, Cost.refl, Fr0.refl, trivial, Nat.zero_le _⟩
  | succ d ih =>
    intro fu hfu st ws l a z ha hol hM hz hb
    obtain ⟨fu, rfl⟩ : ∃ f, fu = f + 1 := ⟨fu - 1, by omega⟩
    rw [fM_flat, flt_s]
    have hc := cl_a (l := l)
    have al := (ha.sza hM).2
    obtain ⟨cc, s, st', W, g1, g2, g3, g4, g5, g6⟩ := flaL (ih fu (by omega)) ha hol hz l.length n 0 st ws 0 0 (by omega) hM (by rw [List.drop_zero]; omega) (by omega)
    rw [List.drop_zero] at g5 g6
    exact ⟨cc, s, st', W, g1, g2, g3, g4, g5, by omega⟩
theorem flattenM {st : xS} {ws : List NP} {fu n a b : Nat} {x y : JT (e + 1)} (hM : MS st vs cs ks ws) (ha : Arg vs cs ks (e + 1) x a) (hb : Arg vs cs ks (e + 1) y b) (hB : Bd vs cs ks ws) (hfu : e + 1 ≤ fu) (hn : 3000000000 < n) : OpO st 0 0 1 2 (fM_flatten fu n st a b) vs cs ks ws (oFlat x y) := by
  obtain ⟨B1, B2, B3, B4⟩ := hB
  have hbv : bV = 32000 := rfl
  have hbk : bK = 32000 := rfl
  have hbc : bC = 100000 := rfl
  obtain ⟨a1, a2, a3, _⟩ := ha.g hM
  obtain ⟨b1, b2, b3, _⟩ := hb.g hM
  have ka := ha.k7
  have kb := hb.k7
  obtain ⟨_, _, x5, _⟩ := kdc ha.2.1 _ rfl
  obtain ⟨y3, _, _, _⟩ := kdc hb.2.1 _ rfl
  have hne : ¬ (kd (e + 1) x = 5 ∧ kd (e + 1) y = 3) → oFlat x y = .inl 1 := fun h1 => by
    rcases jcases x with ⟨k, rfl⟩ | ⟨z, rfl⟩ | ⟨s, rfl⟩ | ⟨l, rfl⟩ | ⟨l, rfl⟩ <;> rcases jcases y with ⟨k', rfl⟩ | ⟨z', rfl⟩ | ⟨s', rfl⟩ | ⟨l', rfl⟩ | ⟨l', rfl⟩ <;> first
      | rfl
      | (exact absurd ⟨rfl, rfl⟩ h1)
  unfold fM_flatten
  by_cases h5 : kd (e + 1) x = 5
  · rw [array_s a1 (by rw [a3, h5]; rfl), Option.bind_some, if_pos rfl, if_neg a2, if_neg b2]
    dsimp only
    rw [if_neg a1, if_pos (by rw [a3, h5]; rfl), if_neg b1, b3]
    refine OpO.wrap ?_
    by_cases h3 : kd (e + 1) y = 3
    · obtain ⟨l, rfl⟩ := x5 h5
      obtain ⟨z, rfl⟩ := y3 h3
      have hz : -9007199254740991 ≤ z ∧ z ≤ 9007199254740991 := hb.2.1
      have hc0 : (0 ≤ lg_cmp (cW z) 0) = (0 ≤ z) := by
        rw [show (0 : Int64) = cW 0 from rfl, lg_cW (by omega) (by omega) (by omega) (by omega), izs_ge0, Int.sub_zero]
      rw [kd_n, if_pos (by decide), hb.1.num hM]
      show OpO _ _ _ _ _ _ _ _ _ _ (if z < 0 then .inl 2 else .inr (ja (flt e z.toNat l)))
      by_cases h0 : 0 ≤ z
      · rw [if_pos (by rw [hc0]; exact h0), if_neg (by omega)]
        obtain ⟨Z, rfl⟩ : ∃ Z : Nat, z = (Z : Int) := ⟨z.toNat, by omega⟩
        have hcl : cl (ja l) ≤ 4096 := ha.2.2.2.2
        obtain ⟨cc, s, st', W, g1, g2, g3, g4, g5, g6⟩ := flatM (n := n) (by omega) e fu hfu st ws l a Z ha.1 ha.2.1 hM (by omega) (by omega)
        rw [g1, Option.bind_some, hM.1.1.2.2.2]
        simp only [Nat.zero_add]
        refine OpO.step0 (cc := cc) (s := s) (st1 := st') ?_ g3 g4.o
        simp only [Nat.zero_add]
        exact OpO.wrap (OpO.l1 (cR := 1) (by omega) (whole_ao g2 g5 (by omega) (by omega) (by omega)))
      · rw [if_neg (by rw [hc0]; exact h0), if_pos (by omega)]
        exact refuse_o (k := 2) hM
    · rw [if_neg (show ¬ i3 (kd (e + 1) y) = 3 from fun h => h3 ((ke (c := 3) kb (by omega)).mp h)), hne (fun h => h3 h.2)]
      exact refuse_o (k := 1) hM
  · rw [array_f a1 (by rw [a3]; exact fun h => h5 ((ke (c := 5) ka (by omega)).mp h)), Option.bind_some, if_neg (show ¬ (1 : Nat) = 0 by decide), if_pos rfl, if_neg a2, if_neg b2, hne (fun h => h5 h.1)]
    exact OpO.xs (k := 1) hM
end FLA
