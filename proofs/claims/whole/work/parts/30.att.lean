section ATT
variable {cs : List Nat} {e d : Nat} {st : xS} {vs : List VR} {ks ws : List NP}
theorem indM {fu n a b : Nat} {x y : JT (e + 2)} (hM : MS st vs cs ks ws) (ha : Arg vs cs ks (e + 2) x a) (hb : Arg vs cs ks (e + 2) y b) (hB : Bd vs cs ks ws) (hfu : e + 2 ≤ fu) (hn : 3000000000 < n) : OpO st 0 0 1 2 (fM_indices fu n st a b) vs cs ks ws (oInd x y) := by
  obtain ⟨B1, B2, B3, B4⟩ := hB
  have hbv : bV = 32000 := rfl
  have hbk : bK = 32000 := rfl
  obtain ⟨a1, a2, a3, _⟩ := ha.g hM
  obtain ⟨b1, b2, b3, _⟩ := hb.g hM
  have ka := ha.k7
  have kb := hb.k7
  obtain ⟨_, x4, x5, _⟩ := kdc ha.2.1 _ rfl
  obtain ⟨_, y4, y5, _⟩ := kdc hb.2.1 _ rfl
  have P : ∀ c : Nat, c < 8 → (i3 (kd (e + 2) x) = i3 c) = (kd (e + 2) x = c) := fun c hc => ke ka hc
  have Q : ∀ c : Nat, c < 8 → (i3 (kd (e + 2) y) = i3 c) = (kd (e + 2) y = c) := fun c hc => ke kb hc
  have hne : kd (e + 2) x ≠ 0 → ¬ (kd (e + 2) x = 4 ∧ kd (e + 2) y = 4) → kd (e + 2) x ≠ 5 → oInd x y = .inl 1 := fun h0 h1 h2 => by
    rcases jcases x with ⟨k, rfl⟩ | ⟨z, rfl⟩ | ⟨s, rfl⟩ | ⟨l, rfl⟩ | ⟨l, rfl⟩
    · rw [kd_k] at h0
      obtain ⟨k, rfl⟩ : ∃ j, k = j + 1 := ⟨k - 1, by omega⟩
      rcases jcases y with ⟨k', rfl⟩ | ⟨z', rfl⟩ | ⟨s', rfl⟩ | ⟨l', rfl⟩ | ⟨l', rfl⟩ <;> rfl
    · rcases jcases y with ⟨k', rfl⟩ | ⟨z', rfl⟩ | ⟨s', rfl⟩ | ⟨l', rfl⟩ | ⟨l', rfl⟩ <;> rfl
    · rcases jcases y with ⟨k', rfl⟩ | ⟨z', rfl⟩ | ⟨s', rfl⟩ | ⟨l', rfl⟩ | ⟨l', rfl⟩ <;> first | rfl | exact absurd ⟨rfl, rfl⟩ h1
    · exact absurd rfl h2
    · rcases jcases y with ⟨k', rfl⟩ | ⟨z', rfl⟩ | ⟨s', rfl⟩ | ⟨l', rfl⟩ | ⟨l', rfl⟩ <;> rfl
  unfold fM_indices
  rw [if_neg a1, a3, b3]
  by_cases h0 : kd (e + 2) x = 0
  · rw [if_pos (show i3 (kd (e + 2) x) = 0 by rw [h0]; rfl)]
    have hx := kd_0 h0
    subst hx
    have : oInd (jk 0) y = .inr (jk 0) := by
      rcases jcases y with ⟨k', rfl⟩ | ⟨z', rfl⟩ | ⟨s', rfl⟩ | ⟨l', rfl⟩ | ⟨l', rfl⟩ <;> rfl
    rw [this]
    exact OpO.old hM ha.1
  rw [if_neg (show ¬ i3 (kd (e + 2) x) = 0 from fun h => h0 ((P 0 (by omega)).mp h))]
  by_cases h4 : kd (e + 2) x = 4
  · rw [if_pos (show i3 (kd (e + 2) x) = 4 by rw [h4]; rfl), if_neg b1]
    by_cases g4 : kd (e + 2) y = 4
    · obtain ⟨s, rfl⟩ := x4 h4
      obtain ⟨t, rfl⟩ := y4 g4
      have hl := ha.ls
      have hl' := hb.ls
      rw [kd_s, if_pos (by decide), if_neg (by decide), (hb.1.szs hM).1]
      show OpO _ _ _ _ _ _ _ _ _ _ (.inr (if t = [] then jk 0 else numsOf (ixS s t)))
      by_cases ht : t = []
      · subst ht
        rw [if_pos (by decide), if_pos rfl]
        exact fresh_o (k := 0) hM (by omega) (by omega)
      · have hp : 0 < t.length := List.length_pos_iff.mpr ht
        rw [if_neg (by rw [show (0 : Int32) = i3 0 from rfl, i3_eq (by omega) (by omega)]; omega), if_neg ht, hM.1.1.2.2.2]
        have := ixT (W0 := ws) (ks := ks) (cs := cs) (d := e) (fu := fu) (a := a) (b := b) hl hl' (by omega) (by omega) s.length n 0 st vs [] [] 0 0 0 0 (isStr_rep ha.1) (isStr_rep hb.1) (by omega) (Nat.le_refl _) (by rw [List.append_nil]; exact hM) trivial (by omega) (by omega)
        rw [← List.range_eq_range'] at this
        exact this
    · rw [if_neg (show ¬ i3 (kd (e + 2) y) = 4 from fun h => g4 ((Q 4 (by omega)).mp h)), if_neg (show ¬ i3 (kd (e + 2) x) = 5 from fun h => by have := (P 5 (by omega)).mp h; omega), hne h0 (fun h => g4 h.2) (by omega)]
      exact refuse_o (k := 1) hM
  · rw [if_neg (show ¬ i3 (kd (e + 2) x) = 4 from fun h => h4 ((P 4 (by omega)).mp h))]
    by_cases h5 : kd (e + 2) x = 5
    · rw [if_pos (show i3 (kd (e + 2) x) = 5 by rw [h5]; rfl), if_neg b1]
      obtain ⟨l, rfl⟩ := x5 h5
      have hl := ha.la
      by_cases g5 : kd (e + 2) y = 5
      · obtain ⟨m, rfl⟩ := y5 g5
        have hm := hb.la
        rw [kd_a, if_pos (by decide), (hb.1.sza hM).1]
        show OpO _ _ _ _ _ _ _ _ _ _ (.inr (if m = [] then jk 0 else numsOf (ixA l m)))
        by_cases ht : m = []
        · subst ht
          rw [if_pos (show i3 ([] : List (JT (e + 1))).length = 0 from rfl), if_pos rfl]
          exact fresh_o (k := 0) hM (by omega) (by omega)
        · have hp : 0 < m.length := List.length_pos_iff.mpr ht
          rw [if_neg (by rw [show (0 : Int32) = i3 0 from rfl, i3_eq (by omega) (by omega)]; omega), if_neg ht, hM.1.1.2.2.2]
          have := ixRL (W0 := ws) (ks := ks) (cs := cs) (d := e) (fu := fu) (a := a) (b := b) ha.2.1 hb.2.1 (by omega) hl hm (by omega) (by omega) l.length n 0 st vs [] [] 0 0 0 0 ha.1 hb.1 (by omega) (Nat.le_refl _) (by rw [List.append_nil]; exact hM) trivial (by omega) (by omega)
          rw [← List.range_eq_range'] at this
          exact this
      · have hres : oInd (ja l) y = .inr (numsOf (ixO l y)) := by
          rcases jcases y with ⟨k', rfl⟩ | ⟨z', rfl⟩ | ⟨s', rfl⟩ | ⟨l', rfl⟩ | ⟨l', rfl⟩ <;> first | rfl | exact absurd rfl g5
        rw [if_neg (show ¬ i3 (kd (e + 2) y) = 5 from fun h => g5 ((Q 5 (by omega)).mp h)), hM.1.1.2.2.2, hres]
        have := ixOL (W0 := ws) (ks := ks) (cs := cs) (d := e) (fu := fu) (a := a) (b := b) (x := y) ha.2.1 hb.2.1 (by omega) hl (by omega) (by omega) l.length n 0 st vs [] [] 0 0 0 0 ha.1 hb.1 (by omega) (Nat.le_refl _) (by rw [List.append_nil]; exact hM) trivial (by omega) (by omega)
        rw [← List.range_eq_range'] at this
        exact this
    · rw [if_neg (show ¬ i3 (kd (e + 2) x) = 5 from fun h => h5 ((P 5 (by omega)).mp h)), hne h0 (fun h => h4 h.1) h5]
      exact refuse_o (k := 1) hM
theorem oA_ne {x y : JT (e + 1)} (h0 : ¬ (kd (e + 1) x = 0 ∧ (kd (e + 1) y = 0 ∨ kd (e + 1) y = 3 ∨ kd (e + 1) y = 4))) (h1 : ¬ (kd (e + 1) x = 6 ∧ kd (e + 1) y = 4)) (h2 : ¬ (kd (e + 1) x = 5 ∧ kd (e + 1) y = 3)) : oAt1 x y = .inl 1 := by
  rcases jcases x with ⟨k, rfl⟩ | ⟨z, rfl⟩ | ⟨s, rfl⟩ | ⟨l, rfl⟩ | ⟨l, rfl⟩
  · cases k with
    | zero =>
      rcases jcases y with ⟨k', rfl⟩ | ⟨z', rfl⟩ | ⟨s', rfl⟩ | ⟨l', rfl⟩ | ⟨l', rfl⟩
      · cases k' with
        | zero => exact absurd ⟨rfl, Or.inl rfl⟩ h0
        | succ k' => rfl
      · exact absurd ⟨rfl, Or.inr (Or.inl rfl)⟩ h0
      · exact absurd ⟨rfl, Or.inr (Or.inr rfl)⟩ h0
      · rfl
      · rfl
    | succ k => rcases jcases y with ⟨k', rfl⟩ | ⟨z', rfl⟩ | ⟨s', rfl⟩ | ⟨l', rfl⟩ | ⟨l', rfl⟩ <;> rfl
  · rcases jcases y with ⟨k', rfl⟩ | ⟨z', rfl⟩ | ⟨s', rfl⟩ | ⟨l', rfl⟩ | ⟨l', rfl⟩ <;> rfl
  · rcases jcases y with ⟨k', rfl⟩ | ⟨z', rfl⟩ | ⟨s', rfl⟩ | ⟨l', rfl⟩ | ⟨l', rfl⟩ <;> rfl
  · rcases jcases y with ⟨k', rfl⟩ | ⟨z', rfl⟩ | ⟨s', rfl⟩ | ⟨l', rfl⟩ | ⟨l', rfl⟩ <;> first | rfl | exact absurd ⟨rfl, rfl⟩ h2
  · rcases jcases y with ⟨k', rfl⟩ | ⟨z', rfl⟩ | ⟨s', rfl⟩ | ⟨l', rfl⟩ | ⟨l', rfl⟩ <;> first | rfl | exact absurd ⟨rfl, rfl⟩ h1
theorem oAt1_o {l : List (Sx × JT e)} {s : Sx} : oAt1 (jo l : JT (e + 1)) (js s) = .inr ((lu s l).elim (jk 0) (lf e)) := by
  unfold oAt1 jo js
  dsimp only
  cases lu s l <;> rfl
theorem oAt1_a {l : List (JT e)} {z : Int} : oAt1 (ja l : JT (e + 1)) (jn z) = .inr (((atI l.length z).bind (fun k => l[k]?)).elim (jk 0) (lf e)) := by
  unfold oAt1 ja jn
  dsimp only
  cases (atI l.length z).bind (fun k => l[k]?) <;> rfl
theorem atM {fu n a b : Nat} {x y : JT (e + 2)} (hM : MS st vs cs ks ws) (ha : Arg vs cs ks (e + 2) x a) (hb : Arg vs cs ks (e + 2) y b) (hB : Bd vs cs ks ws) (hfu : e + 2 ≤ fu) (hn : 3000000000 < n) : OpO st 0 0 1 2 (fM_at fu n st a b) vs cs ks ws (oAt x y) := by
  have hB' := hB
  obtain ⟨B1, B2, B3, B4⟩ := hB
  have hbv : bV = 32000 := rfl
  obtain ⟨a1, a2, a3, _⟩ := ha.g hM
  obtain ⟨b1, b2, b3, _⟩ := hb.g hM
  have ka := ha.k7
  have kb := hb.k7
  obtain ⟨_, _, x5, x6⟩ := kdc ha.2.1 _ rfl
  obtain ⟨y3, y4, y5, _⟩ := kdc hb.2.1 _ rfl
  have P : ∀ c : Nat, c < 8 → (i3 (kd (e + 2) x) = i3 c) = (kd (e + 2) x = c) := fun c hc => ke ka hc
  have Q : ∀ c : Nat, c < 8 → (i3 (kd (e + 2) y) = i3 c) = (kd (e + 2) y = c) := fun c hc => ke kb hc
  have Pn : ∀ c : Nat, c < 8 → kd (e + 2) x ≠ c → ¬ i3 (kd (e + 2) x) = i3 c := fun c hc h hh => h ((P c hc).mp hh)
  have Qn : ∀ c : Nat, c < 8 → kd (e + 2) y ≠ c → ¬ i3 (kd (e + 2) y) = i3 c := fun c hc h hh => h ((Q c hc).mp hh)
  have hA1 : ¬ (kd (e + 2) x = 5 ∧ kd (e + 2) y = 5) → oAt x y = oAt1 x y := fun h => if_neg h
  unfold fM_at
  rw [if_neg a1, a3, b3]
  by_cases h0 : kd (e + 2) x = 0
  · have hx := kd_0 h0
    rw [if_pos (show i3 (kd (e + 2) x) = 0 by rw [h0]; rfl), if_neg b1, hA1 (fun h => by omega)]
    have nul : kd (e + 2) y = 0 ∨ kd (e + 2) y = 3 ∨ kd (e + 2) y = 4 → oAt1 x y = .inr x := fun h => by
      subst hx
      rcases h with h | h | h
      · rw [kd_0 h]; rfl
      · obtain ⟨z, rfl⟩ := y3 h; rfl
      · obtain ⟨z, rfl⟩ := y4 h; rfl
    by_cases g0 : kd (e + 2) y = 0
    · rw [if_pos (show i3 (kd (e + 2) y) = 0 by rw [g0]; rfl), nul (Or.inl g0)]
      exact OpO.old hM ha.1
    rw [if_neg (show ¬ i3 (kd (e + 2) y) = 0 from Qn 0 (by omega) g0)]
    by_cases g3 : kd (e + 2) y = 3
    · rw [if_pos (show i3 (kd (e + 2) y) = 3 by rw [g3]; rfl), nul (Or.inr (Or.inl g3))]
      exact OpO.old hM ha.1
    rw [if_neg (show ¬ i3 (kd (e + 2) y) = 3 from Qn 3 (by omega) g3)]
    by_cases g4 : kd (e + 2) y = 4
    · rw [if_pos (show i3 (kd (e + 2) y) = 4 by rw [g4]; rfl), nul (Or.inr (Or.inr g4))]
      exact OpO.old hM ha.1
    rw [if_neg (show ¬ i3 (kd (e + 2) y) = 4 from Qn 4 (by omega) g4), if_neg (show ¬ i3 (kd (e + 2) x) = 6 from Pn 6 (by omega) (by omega)), if_neg (show ¬ i3 (kd (e + 2) x) = 5 from Pn 5 (by omega) (by omega))]
    have hne : oAt1 x y = .inl 1 := oA_ne (fun h => (h.2.elim g0 (fun h => h.elim g3 g4))) (fun h => g4 h.2) (fun h => g3 h.2)
    rw [hne]
    exact refuse_o (k := 1) hM
  rw [if_neg (show ¬ i3 (kd (e + 2) x) = 0 from Pn 0 (by omega) h0)]
  by_cases h6 : kd (e + 2) x = 6
  · rw [if_pos (show i3 (kd (e + 2) x) = 6 by rw [h6]; rfl), if_neg b1, hA1 (fun h => by omega)]
    by_cases g4 : kd (e + 2) y = 4
    · obtain ⟨l, rfl⟩ := x6 h6
      obtain ⟨s, rfl⟩ := y4 g4
      have hl := ha.lo
      have hs := hb.ls
      obtain ⟨p1, p2⟩ := placeM (n := n) hM ha.1 (isStr_rep hb.1) (by omega) (by omega)
      rw [kd_s, if_pos (by decide)]
      rw [oAt1_o]
      cases hlu : lu s l with
      | none =>
        rw [p1 hlu, Option.bind_some, if_neg (by decide)]
        exact fresh_o (k := 0) hM (by omega) (by omega)
      | some w =>
        obtain ⟨j, c, hj, _, f1, f2, f3⟩ := p2 w hlu
        rw [f1, Option.bind_some, if_pos (show (0 : Int32) ≤ i3 j by rw [show (0 : Int32) = i3 0 from rfl, i3_le (by omega) (by omega)]; omega), f2, Option.bind_some]
        exact OpO.old hM f3.lf
    · have hne : oAt1 x y = .inl 1 := oA_ne (fun h => h0 h.1) (fun h => g4 h.2) (fun h => by have h1 : kd (e + 2) x = 5 := h.1; omega)
      rw [if_neg (show ¬ i3 (kd (e + 2) y) = 4 from Qn 4 (by omega) g4), if_neg (show ¬ i3 (kd (e + 2) x) = 5 from Pn 5 (by omega) (by omega)), hne]
      exact refuse_o (k := 1) hM
  rw [if_neg (show ¬ i3 (kd (e + 2) x) = 6 from Pn 6 (by omega) h6)]
  by_cases h5 : kd (e + 2) x = 5
  · rw [if_pos (show i3 (kd (e + 2) x) = 5 by rw [h5]; rfl), if_neg b1]
    by_cases g5 : kd (e + 2) y = 5
    · have : oAt x y = oInd x y := if_pos ⟨h5, g5⟩
      rw [if_pos (show i3 (kd (e + 2) y) = 5 by rw [g5]; rfl), this]
      exact OpO.t2 (by omega) (indM hM ha hb hB' hfu hn)
    rw [if_neg (show ¬ i3 (kd (e + 2) y) = 5 from Qn 5 (by omega) g5), hA1 (fun h => g5 h.2)]
    by_cases g3 : kd (e + 2) y = 3
    · obtain ⟨l, rfl⟩ := x5 h5
      obtain ⟨z, rfl⟩ := y3 g3
      have hl := ha.la
      have hz : -9007199254740991 ≤ z ∧ z ≤ 9007199254740991 := hb.2.1
      rw [kd_n, if_pos (by decide), hb.1.num hM, (ha.1.sza hM).1, i3_64 (by omega), cW_add]
      rw [oAt1_a]
      have hc0 : (0 ≤ lg_cmp (cW z) 0) = (0 ≤ z) := by
        rw [show (0 : Int64) = cW 0 from rfl, lg_cW (by omega) (by omega) (by omega) (by omega), izs_ge0, Int.sub_zero]
      have hclt : ∀ w : Int, -9007199254740991 ≤ w → w ≤ 9007199254745991 → (lg_cmp (cW w) 0 < 0) = (w < 0) := fun w h1 h2 => by
        rw [show (0 : Int64) = cW 0 from rfl, lg_cW (by omega) (by omega) (by omega) (by omega), izs_lt0, Int.sub_zero]
      have hcl : ∀ w : Int, -9007199254740991 ≤ w → w ≤ 9007199254745991 → (lg_cmp (cW w) (cW ((l.length : Nat) : Int)) < 0) = (w < l.length) := fun w h1 h2 => by
        rw [lg_cW (by omega) (by omega) (by omega) (by omega), izs_lt0]
        exact propext (by omega)
      have pick : ∀ w : Int, 0 ≤ w → w < l.length → ∃ c y, fM_kid n st a (cW w).toInt32 = some c ∧ l[w.toNat]? = some y ∧ Rep vs cs ks (e + 1) y c := fun w h1 h2 => by
        have hy : l[w.toNat]? = some l[w.toNat] := List.getElem?_eq_getElem (by omega)
        obtain ⟨c, e1, r1⟩ := ha.1.kid (n := n) hM hy
        refine ⟨c, _, ?_, hy, r1⟩
        rw [cW_32, show iz w = i3 w.toNat by rw [i3_iz]; congr 1; omega]
        exact e1
      have hat : ∀ w : Int, (w = if z < 0 then z + l.length else z) → (0 ≤ w ∧ w < l.length → ∃ c, fM_kid n st a (cW w).toInt32 = some c ∧ OpO st 0 0 1 2 (some (0, 0, 0, c, st)) vs cs ks ws (.inr (((atI l.length z).bind (fun k => l[k]?)).elim (jk 0) (lf (e + 1))))) ∧ (¬ (0 ≤ w ∧ w < l.length) → ((atI l.length z).bind (fun k => l[k]?)).elim (jk 0 : JT (e + 2)) (lf (e + 1)) = jk 0) := by
        intro w hw
        have hatI : atI l.length z = if 0 ≤ w ∧ w < l.length then some w.toNat else none := by rw [hw]; rfl
        refine ⟨fun h => ?_, fun h => ?_⟩
        · obtain ⟨c, y, e1, e2, r1⟩ := pick w h.1 h.2
          refine ⟨c, e1, ?_⟩
          rw [hatI, if_pos h, Option.bind_some, e2]
          exact OpO.old hM r1.lf
        · rw [hatI, if_neg h]
          rfl
      by_cases hz0 : 0 ≤ z
      · obtain ⟨k1, k2⟩ := hat z (by rw [if_neg (by omega)])
        rw [if_pos (by rw [hc0]; exact hz0), if_neg (by rw [hclt z (by omega) (by omega)]; omega)]
        by_cases hzl : z < l.length
        · obtain ⟨c, e1, e2⟩ := k1 ⟨hz0, hzl⟩
          rw [if_pos (by rw [hcl z (by omega) (by omega)]; exact hzl), e1, Option.bind_some]
          exact e2
        · rw [if_neg (by rw [hcl z (by omega) (by omega)]; exact hzl), k2 (fun h => hzl h.2)]
          exact fresh_o (k := 0) hM (by omega) (by omega)
      · obtain ⟨k1, k2⟩ := hat (z + l.length) (by rw [if_pos (by omega)])
        rw [if_neg (by rw [hc0]; exact hz0)]
        by_cases hzn : z + (l.length : Int) < 0
        · rw [if_pos (by rw [hclt (z + l.length) (by omega) (by omega)]; exact hzn), k2 (fun h => by omega)]
          exact fresh_o (k := 0) hM (by omega) (by omega)
        · obtain ⟨c, e1, e2⟩ := k1 ⟨by omega, by omega⟩
          rw [if_neg (by rw [hclt (z + l.length) (by omega) (by omega)]; exact hzn), if_pos (by rw [hcl (z + l.length) (by omega) (by omega)]; omega), e1, Option.bind_some]
          exact e2
    · have hne : oAt1 x y = .inl 1 := oA_ne (fun h => h0 h.1) (fun h => h6 h.1) (fun h => g3 h.2)
      rw [if_neg (show ¬ i3 (kd (e + 2) y) = 3 from Qn 3 (by omega) g3), hne]
      exact refuse_o (k := 1) hM
  · have hne : oAt1 x y = .inl 1 := oA_ne (fun h => h0 h.1) (fun h => h6 h.1) (fun h => h5 h.1)
    rw [if_neg (show ¬ i3 (kd (e + 2) x) = 5 from Pn 5 (by omega) h5), hA1 (fun h => h5 h.1), hne]
    exact refuse_o (k := 1) hM
end ATT
