section TWA
variable {cs : List Nat} {e d : Nat} {st : xS} {vs : List VR} {ks ws : List NP}
theorem begL {a b p : Nat} {s t : Sx} (hM : MS st vs cs ks ws) (ha : isStr vs cs a s) (hb : isStr vs cs b t) (hsl : s.length ≤ 59999) (htl : t.length ≤ 59999) (hp : p + t.length ≤ s.length) : ∀ (q n j : Nat), j + q = t.length → q < n → fM_begins_b st n 1 (i3 j) a b (i3 p) = some (if pf (t.drop j) (s.drop (p + j)) = true then 1 else 0) := by
  obtain ⟨a1, v, av, a4, asz, _, _, ag⟩ := ha
  obtain ⟨b1, u, bu, b4, bsz, _, _, bg⟩ := hb
  obtain ⟨g1, g2, _⟩ := hM.vc a1 av
  obtain ⟨f1, f2, _⟩ := hM.vc b1 bu
  have hcc := hM.cl.2.1
  have hbc : bC = 100000 := rfl
  have hln := hM.2.2.2.1.1
  intro q
  induction q with
  | zero =>
    intro n j hj hn
    obtain ⟨n, rfl⟩ : ∃ i, n = i + 1 := ⟨n - 1, by omega⟩
    rw [fM_begins_b, if_neg f1, f2.2.2.1, bsz, if_pos (by rw [i3_le (by omega) (by omega)]; omega), List.drop_eq_nil_of_le (show t.length ≤ j by omega), pf_nil, if_pos rfl]
  | succ q ih =>
    intro n j hj hn
    obtain ⟨n, rfl⟩ : ∃ i, n = i + 1 := ⟨n - 1, by omega⟩
    have hxa := ag (p + j) s[p + j] (List.getElem?_eq_getElem (by omega))
    have hxb := bg j t[j] (List.getElem?_eq_getElem (by omega))
    have la := (List.getElem?_eq_some_iff.mp hxa).1
    have lb := (List.getElem?_eq_some_iff.mp hxb).1
    obtain ⟨y1, y2⟩ := hM.1.2.2.1 _ _ hxa
    obtain ⟨z1, z2⟩ := hM.1.2.2.1 _ _ hxb
    rw [fM_begins_b, if_neg f1, f2.2.2.1, bsz, if_neg (by rw [i3_le (by omega) (by omega)]; omega), if_neg g1, g2.2.1, f2.2.1, i3_add, i3_add, i3_add, Nat.add_assoc, if_neg (i3_idx (by omega) (by omega)), if_neg (i3_idx (by omega) (by omega)), i3_N (by omega), i3_N (by omega), y1, z1, i3_one, List.drop_eq_getElem_cons (show j < t.length by omega), List.drop_eq_getElem_cons (show p + j < s.length by omega), pf_cons]
    by_cases ez : s[p + j] = t[j]
    · rw [if_pos (by rw [ez]), decide_eq_true ez.symm, Bool.true_and]
      exact ih n (j + 1) (by omega) (by omega)
    · rw [if_neg (by rw [i3_eq (by omega) (by omega)]; exact ez), decide_eq_false (fun h => ez h.symm), Bool.false_and, if_neg (by decide)]
theorem begM {n a b p : Nat} {s t : Sx} (hM : MS st vs cs ks ws) (ha : isStr vs cs a s) (hb : isStr vs cs b t) (hsl : s.length ≤ 59999) (htl : t.length ≤ 59999) (hp : p ≤ s.length) (hn : 100000 < n) : fM_begins n st a b (i3 p) = some (if pf t (s.drop p) = true then 1 else 0) := by
  obtain ⟨g1, g2, _⟩ := ha.gsz hM
  obtain ⟨f1, f2, _⟩ := hb.gsz hM
  unfold fM_begins
  rw [if_neg (i3_nn (by omega)), if_neg f1, if_neg g1, g2, f2, i3_add]
  by_cases h : p + t.length ≤ s.length
  · rw [if_pos (by rw [i3_le (by omega) (by omega)]; exact h)]
    exact begL hM ha hb hsl htl h t.length n 0 (by omega) (by omega)
  · rw [if_neg (by rw [i3_le (by omega) (by omega)]; exact h), pf_short (by rw [List.length_drop]; omega), if_neg (by decide)]
theorem begM_n {n a b : Nat} {x : Int32} (h : x < 0) : fM_begins n st a b x = some 0 := by
  unfold fM_begins
  rw [if_pos h]
theorem hasM {n a b : Nat} {x y : JT (e + 1)} (hM : MS st vs cs ks ws) (ha : Arg vs cs ks (e + 1) x a) (hb : Arg vs cs ks (e + 1) y b) (hB : Bd vs cs ks ws) (hn : 3000000000 < n) : OpO st 0 0 1 0 (fM_has n st a b) vs cs ks ws (oHas x y) := by
  have hB1 := hB.1
  have hbv : bV = 32000 := rfl
  obtain ⟨a1, a2, a3, _⟩ := ha.g hM
  obtain ⟨b1, b2, b3, _⟩ := hb.g hM
  have ka := ha.k7
  have kb := hb.k7
  obtain ⟨_, _, x5, x6⟩ := kdc ha.2.1 _ rfl
  obtain ⟨y3, y4, _, _⟩ := kdc hb.2.1 _ rfl
  have P : ∀ c : Nat, c < 8 → (i3 (kd (e + 1) x) = i3 c) = (kd (e + 1) x = c) := fun c hc => ke ka hc
  have Q : ∀ c : Nat, c < 8 → (i3 (kd (e + 1) y) = i3 c) = (kd (e + 1) y = c) := fun c hc => ke kb hc
  have hne : ¬ (kd (e + 1) x = 6 ∧ kd (e + 1) y = 4) → ¬ (kd (e + 1) x = 5 ∧ kd (e + 1) y = 3) → oHas x y = .inl 1 := fun h1 h2 => by
    rcases jcases x with ⟨k, rfl⟩ | ⟨z, rfl⟩ | ⟨s, rfl⟩ | ⟨l, rfl⟩ | ⟨l, rfl⟩ <;> rcases jcases y with ⟨k', rfl⟩ | ⟨z', rfl⟩ | ⟨s', rfl⟩ | ⟨l', rfl⟩ | ⟨l', rfl⟩ <;> first
      | rfl
      | (exact absurd ⟨rfl, rfl⟩ h1)
      | (exact absurd ⟨rfl, rfl⟩ h2)
  unfold fM_has
  rw [if_neg a1, a3, b3]
  by_cases h6 : kd (e + 1) x = 6
  · rw [if_pos (show i3 (kd (e + 1) x) = 6 by rw [h6]; rfl), if_neg b1]
    by_cases h4 : kd (e + 1) y = 4
    · obtain ⟨l, rfl⟩ := x6 h6
      obtain ⟨s, rfl⟩ := y4 h4
      have hl := ha.lo
      have hs := hb.ls
      obtain ⟨p1, p2⟩ := placeM (n := n) hM ha.1 (isStr_rep hb.1) (by omega) (by omega)
      rw [kd_s, if_pos (by decide)]
      show OpO _ _ _ _ _ _ _ _ _ _ (.inr (tru (lu s l).isSome))
      cases hlu : lu s l with
      | none =>
        rw [p1 hlu, Option.bind_some, if_pos (by decide)]
        exact truth_o (b := false) rfl hM (by omega) (by omega)
      | some w =>
        obtain ⟨j, _, hj, _, f1, _⟩ := p2 w hlu
        rw [f1, Option.bind_some, if_neg (i3_nn (by omega))]
        exact truth_o (b := true) rfl hM (by omega) (by omega)
    · rw [if_neg (show ¬ i3 (kd (e + 1) y) = 4 from fun h => h4 ((Q 4 (by omega)).mp h)), if_neg (show ¬ i3 (kd (e + 1) x) = 5 from fun h => by have := (P 5 (by omega)).mp h; omega), hne (fun h => h4 h.2) (fun h => by omega)]
      exact refuse_o (k := 1) hM
  · rw [if_neg (show ¬ i3 (kd (e + 1) x) = 6 from fun h => h6 ((P 6 (by omega)).mp h))]
    by_cases h5 : kd (e + 1) x = 5
    · rw [if_pos (show i3 (kd (e + 1) x) = 5 by rw [h5]; rfl), if_neg b1]
      by_cases h3 : kd (e + 1) y = 3
      · obtain ⟨l, rfl⟩ := x5 h5
        obtain ⟨z, rfl⟩ := y3 h3
        have hl := ha.la
        have hz : -9007199254740991 ≤ z ∧ z ≤ 9007199254740991 := hb.2.1
        rw [kd_n, if_pos (by decide), hb.1.num hM, (ha.1.sza hM).1, i3_64 (by omega)]
        show OpO _ _ _ _ _ _ _ _ _ _ (.inr (tru (decide (0 ≤ z ∧ z < l.length))))
        have hc0 : (lg_cmp (cW z) 0 < 0) = (z < 0) := by
          rw [show (0 : Int64) = cW 0 from rfl, lg_cW (by omega) (by omega) (by omega) (by omega), izs_lt0, Int.sub_zero]
        have hc1 : (0 ≤ lg_cmp (cW z) (cW ((l.length : Nat) : Int))) = ((l.length : Int) ≤ z) := by
          rw [lg_cW (by omega) (by omega) (by omega) (by omega), izs_ge0]
          exact propext (by omega)
        by_cases h0 : z < 0
        · rw [if_pos (by rw [hc0]; exact h0), decide_eq_false (by omega)]
          exact truth_o (b := false) rfl hM (by omega) (by omega)
        · rw [if_neg (by rw [hc0]; exact h0)]
          by_cases h1 : (l.length : Int) ≤ z
          · rw [if_pos (by rw [hc1]; exact h1), decide_eq_false (by omega)]
            exact truth_o (b := false) rfl hM (by omega) (by omega)
          · rw [if_neg (by rw [hc1]; exact h1), decide_eq_true (by omega)]
            exact truth_o (b := true) rfl hM (by omega) (by omega)
      · rw [if_neg (show ¬ i3 (kd (e + 1) y) = 3 from fun h => h3 ((Q 3 (by omega)).mp h)), hne (fun h => by omega) (fun h => h3 h.2)]
        exact refuse_o (k := 1) hM
    · rw [if_neg (show ¬ i3 (kd (e + 1) x) = 5 from fun h => h5 ((P 5 (by omega)).mp h)), hne (fun h => h6 h.1) (fun h => h5 h.1)]
      exact refuse_o (k := 1) hM
theorem alkM {n a b : Nat} {x y : JT (e + 1)} (hM : MS st vs cs ks ws) (ha : Rep vs cs ks (e + 1) x a) (hb : Rep vs cs ks (e + 1) y b) (hx : jok (e + 1) x) (hy : jok (e + 1) y) : fM_alike n st a b = some (if alike (kd (e + 1) x) (kd (e + 1) y) = true then 1 else 0) := by
  obtain ⟨a1, _, a3, _⟩ := ha.g hM
  obtain ⟨b1, _, b3, _⟩ := hb.g hM
  have ka := kd7 hx
  have kb := kd7 hy
  unfold fM_alike
  rw [if_neg a1, if_neg b1, a3, b3]
  generalize kd (e + 1) x = p at ka
  generalize kd (e + 1) y = q at kb
  revert p q
  decide
def CnP (vs : List VR) (cs : List Nat) (ks : List NP) (st : xS) (d : Nat) (rec : xS → Nat → Nat → Option Int32) : Prop := ∀ (x y : JT d) (a b : Nat), Rep vs cs ks d x a → Rep vs cs ks d y b → jok d x → jok d y → rec st a b = some (if jin d x y = true then 1 else 0)
theorem cnS {rec : xS → Nat → Nat → Option Int32} {d0 a b : Nat} {s t : Sx} {y5 y4 : Int32} (hM : MS st vs cs ks ws) (ha : isStr vs cs a s) (hb : isStr vs cs b t) (hsl : s.length ≤ 59999) (htl : t.length ≤ 59999) : ∀ (q n k : Nat) (y5 y4 : Int32), k + q = s.length + 1 → 200000 + q < n → fM_contains_b rec d0 st n 1 (i3 k) a b y5 y4 = some (if (List.range' k q).any (fun k => pf t (s.drop k)) = true then 1 else 0) := by
  obtain ⟨g1, g2, _⟩ := ha.gsz hM
  obtain ⟨f1, f2, _⟩ := hb.gsz hM
  intro q
  induction q with
  | zero =>
    intro n k y5 y4 hk hn
    obtain ⟨n, rfl⟩ : ∃ i, n = i + 1 := ⟨n - 1, by omega⟩
    rw [fM_contains_b, if_pos rfl, if_neg f1, if_neg g1, g2, f2, i3_add, if_pos (by rw [i3_lt (by omega) (by omega)]; omega), List.range'_zero, List.any_nil, if_neg (by decide)]
  | succ q ih =>
    intro n k y5 y4 hk hn
    obtain ⟨n, rfl⟩ : ∃ i, n = i + 1 := ⟨n - 1, by omega⟩
    rw [fM_contains_b, if_pos rfl, if_neg f1, if_neg g1, g2, f2, i3_add]
    by_cases h : s.length < k + t.length
    · rw [if_pos (by rw [i3_lt (by omega) (by omega)]; exact h)]
      have : (List.range' k (q + 1)).any (fun k => pf t (s.drop k)) = false := by
        rw [List.any_eq_false]
        intro j hj
        rw [List.mem_range'_1] at hj
        rw [pf_short (by rw [List.length_drop]; omega)]
        decide
      rw [this, if_neg (by decide)]
    · rw [if_neg (by rw [i3_lt (by omega) (by omega)]; exact h), begM hM ha hb hsl htl (by omega) (by omega), Option.bind_some, List.range'_succ, List.any_cons]
      cases hp : pf t (s.drop k) with
      | true => rw [if_neg (show ¬ (if true = true then (1 : Int32) else 0) = 0 by decide), Bool.true_or, if_pos rfl]
      | false =>
        rw [if_pos (show (if false = true then (1 : Int32) else 0) = 0 from rfl), Bool.false_or, i3_one]
        exact ih n (k + 1) 0 0 (by omega) (by omega)
theorem cnA3 {rec : xS → Nat → Nat → Option Int32} {d0 a b i : Nat} {l m : List (JT d)} {N : Nat} {R : Option Int32} (hM : MS st vs cs ks ws) (hrec : CnP vs cs ks st d rec) (ha : Rep vs cs ks (d + 1) (ja l) a) (hb : Rep vs cs ks (d + 1) (ja m) b) (hol : ∀ x ∈ l, jok d x) (hom : ∀ x ∈ m, jok d x) (hi : i < m.length) (hN : 1 ≤ N)
    (hT : l.any (fun x => jin d x m[i]) = true → ∀ (n' : Nat) (y5 y4 : Int32), N ≤ n' → fM_contains_b rec d0 st n' 2 (i3 (i + 1)) a b y5 y4 = R) (hF : l.any (fun x => jin d x m[i]) = false → some 0 = R) : ∀ (q n j : Nat), j + q = l.length → (l.take j).any (fun x => jin d x m[i]) = false → N + q + 2 ≤ n → fM_contains_b rec d0 st n 3 (i3 i) a b (i3 j) 0 = R := by
  obtain ⟨a1, _, _, _⟩ := ha.g hM
  obtain ⟨as, al⟩ := ha.sza hM
  obtain ⟨bs, bl⟩ := hb.sza hM
  intro q
  induction q with
  | zero =>
    intro n j hj hany hn
    obtain ⟨n, rfl⟩ : ∃ k, n = k + 1 := ⟨n - 1, by omega⟩
    rw [List.take_of_length_le (by omega)] at hany
    rw [fM_contains_b, if_neg (by decide), if_neg (by decide), if_neg a1, as, if_pos (by rw [i3_le (by omega) (by omega)]; omega), if_pos rfl]
    exact hF hany
  | succ q ih =>
    intro n j hj hany hn
    obtain ⟨n, rfl⟩ : ∃ k, n = k + 1 := ⟨n - 1, by omega⟩
    obtain ⟨k1, e1, r1⟩ := ha.kid (n := n) hM (List.getElem?_eq_getElem (show j < l.length by omega))
    obtain ⟨k2, e2, r2⟩ := hb.kid (n := n) hM (List.getElem?_eq_getElem hi)
    rw [fM_contains_b, if_neg (by decide), if_neg (by decide), if_neg a1, as, if_neg (by rw [i3_le (by omega) (by omega)]; omega), if_pos rfl, e1, Option.bind_some, e2, Option.bind_some, hrec _ _ _ _ r1 r2 (hol _ (List.getElem_mem _)) (hom _ (List.getElem_mem _)), Option.bind_some, i3_one]
    cases hp : jin d l[j] m[i] with
    | true =>
      have hT' : l.any (fun x => jin d x m[i]) = true := List.any_eq_true.mpr ⟨l[j], List.getElem_mem _, hp⟩
      obtain ⟨n, rfl⟩ : ∃ k, n = k + 1 := ⟨n - 1, by omega⟩
      rw [if_pos rfl, fM_contains_b, if_neg (by decide), if_neg (by decide), if_neg a1, as, if_neg (show ¬ (1 : Int32) = 0 by decide), if_neg (show ¬ (1 : Int32) = 0 by decide), ite_self, i3_one]
      exact hT hT' n _ _ (by omega)
    | false =>
      rw [if_neg (by decide)]
      refine ih n (j + 1) (by omega) ?_ (by omega)
      rw [List.take_succ_eq_append_getElem (show j < l.length by omega), List.any_append, hany, List.any_cons, hp, List.any_nil]
      rfl
theorem cnA {rec : xS → Nat → Nat → Option Int32} {d0 a b : Nat} {l m : List (JT d)} (hM : MS st vs cs ks ws) (hrec : CnP vs cs ks st d rec) (ha : Rep vs cs ks (d + 1) (ja l) a) (hb : Rep vs cs ks (d + 1) (ja m) b) (hol : ∀ x ∈ l, jok d x) (hom : ∀ x ∈ m, jok d x) : ∀ (q n i : Nat) (y5 y4 : Int32), i + q = m.length → 10 + q * 70000 < n → fM_contains_b rec d0 st n 2 (i3 i) a b y5 y4 = some (if (m.drop i).all (fun y => l.any (fun x => jin d x y)) = true then 1 else 0) := by
  obtain ⟨a1, _, a3, _⟩ := ha.g hM
  obtain ⟨b1, _, _, _⟩ := hb.g hM
  obtain ⟨as, al⟩ := ha.sza hM
  obtain ⟨bs, bl⟩ := hb.sza hM
  intro q
  induction q with
  | zero =>
    intro n i y5 y4 hi hn
    obtain ⟨n, rfl⟩ : ∃ k, n = k + 1 := ⟨n - 1, by omega⟩
    rw [fM_contains_b, if_neg (by decide), if_pos rfl, if_neg b1, bs, if_pos (by rw [i3_le (by omega) (by omega)]; omega), List.drop_eq_nil_of_le (by omega), List.all_nil, if_pos rfl]
  | succ q ih =>
    intro n i y5 y4 hi hn
    obtain ⟨n, rfl⟩ : ∃ k, n = k + 1 := ⟨n - 1, by omega⟩
    rw [fM_contains_b, if_neg (by decide), if_pos rfl, if_neg b1, bs, if_neg (by rw [i3_le (by omega) (by omega)]; omega), if_neg a1, a3, kd_a, if_neg (by decide), List.drop_eq_getElem_cons (show i < m.length by omega), List.all_cons]
    refine cnA3 (N := 10 + q * 70000 + 1) hM hrec ha hb hol hom (by omega) (by omega) (fun hT n' y5 y4 hn' => ?_) (fun hF => ?_) l.length n 0 (by omega) rfl (by omega)
    · rw [hT, Bool.true_and]
      exact ih n' (i + 1) y5 y4 (by omega) hn'
    · rw [hF, Bool.false_and, if_neg (by decide)]
theorem cnO {rec : xS → Nat → Nat → Option Int32} {d0 a b : Nat} {l m : List (Sx × JT d)} (hM : MS st vs cs ks ws) (hrec : CnP vs cs ks st d rec) (ha : Rep vs cs ks (d + 1) (jo l) a) (hb : Rep vs cs ks (d + 1) (jo m) b) (hol : ∀ x ∈ l, jok d x.2) (hom : ∀ x ∈ m, jok d x.2) : ∀ (q n i : Nat) (y5 y4 : Int32), i + q = m.length → 2000001 + q < n → fM_contains_b rec d0 st n 2 (i3 i) a b y5 y4 = some (if (m.drop i).all (fun p => luB l p.1 (fun x => jin d x p.2)) = true then 1 else 0) := by
  obtain ⟨a1, _, a3, _⟩ := ha.g hM
  obtain ⟨b1, _, _, _⟩ := hb.g hM
  obtain ⟨as, al⟩ := ha.szo hM
  obtain ⟨bs, bl⟩ := hb.szo hM
  intro q
  induction q with
  | zero =>
    intro n i y5 y4 hi hn
    obtain ⟨n, rfl⟩ : ∃ k, n = k + 1 := ⟨n - 1, by omega⟩
    rw [fM_contains_b, if_neg (by decide), if_pos rfl, if_neg b1, bs, if_pos (by rw [i3_le (by omega) (by omega)]; omega), List.drop_eq_nil_of_le (by omega), List.all_nil, if_pos rfl]
  | succ q ih =>
    intro n i y5 y4 hi hn
    obtain ⟨n, rfl⟩ : ∃ k, n = k + 1 := ⟨n - 1, by omega⟩
    obtain ⟨k1, m1, e1, e2, r1, s1, sl⟩ := hb.okid (n := n) hM (List.getElem?_eq_getElem (show i < m.length by omega))
    obtain ⟨p1, p2⟩ := placeM (n := n) hM ha s1 sl (by omega)
    rw [fM_contains_b, if_neg (by decide), if_pos rfl, if_neg b1, bs, if_neg (by rw [i3_le (by omega) (by omega)]; omega), if_neg a1, a3, kd_o, if_pos (by decide), e2, Option.bind_some, List.drop_eq_getElem_cons (show i < m.length by omega), List.all_cons]
    cases hlu : lu m[i].1 l with
    | none =>
      have : luB l m[i].1 (fun x => jin d x m[i].2) = false := by unfold luB; rw [hlu]
      rw [p1 hlu, Option.bind_some, if_pos (by decide), this, Bool.false_and, if_neg (by decide)]
    | some w =>
      obtain ⟨j, k, hj, hjm, f1, f2, f3⟩ := p2 w hlu
      have : luB l m[i].1 (fun x => jin d x m[i].2) = jin d w m[i].2 := by unfold luB; rw [hlu]
      rw [f1, Option.bind_some, if_neg (i3_nn (by omega)), f2, Option.bind_some, e1, Option.bind_some, hrec _ _ _ _ f3 r1 (hol _ (List.mem_of_getElem? hjm)) (hom _ (List.getElem_mem _)), Option.bind_some, this]
      cases hp : jin d w m[i].2 with
      | true =>
        rw [if_neg (show ¬ (if true = true then (1 : Int32) else 0) = 0 by decide), Bool.true_and, i3_one]
        exact ih n (i + 1) _ _ (by omega) (by omega)
      | false => rw [if_pos (show (if false = true then (1 : Int32) else 0) = 0 from rfl), Bool.false_and, if_neg (by decide)]
theorem jin_ne {x y : JT (d + 1)} (h : kd (d + 1) x ≠ kd (d + 1) y) : jin (d + 1) x y = false := by
  rcases jcases x with ⟨k, rfl⟩ | ⟨z, rfl⟩ | ⟨s, rfl⟩ | ⟨l, rfl⟩ | ⟨l, rfl⟩ <;> rcases jcases y with ⟨k', rfl⟩ | ⟨z', rfl⟩ | ⟨s', rfl⟩ | ⟨l', rfl⟩ | ⟨l', rfl⟩ <;> first
    | rfl
    | exact decide_eq_false h
    | exact absurd rfl h
theorem cnM {n : Nat} (hM : MS st vs cs ks ws) (hn : 5000000000 < n) : ∀ (d fu : Nat), d + 1 ≤ fu → CnP vs cs ks st d (fM_contains fu n) := by
  intro d
  induction d with
  | zero => intro fu _ x; exact (j0 x).elim
  | succ d ih =>
    intro fu hfu x y a b ha hb hx hy
    obtain ⟨fu, rfl⟩ : ∃ f, fu = f + 1 := ⟨fu - 1, by omega⟩
    obtain ⟨a1, _, a3, _⟩ := ha.g hM
    have ka := kd7 hx
    have kb := kd7 hy
    rw [fM_contains, alkM hM ha hb hx hy, Option.bind_some]
    by_cases hal : alike (kd (d + 1) x) (kd (d + 1) y) = true
    · rw [if_pos hal, if_neg (by decide), if_neg a1, a3]
      have hsm := same1M (n := n) hM (by omega) (d + 1) fu (by omega) x y a b ha hb hx hy
      by_cases hk : kd (d + 1) x = kd (d + 1) y
      · have hr : rk (d + 1) x = rk (d + 1) y := by rw [rk_ok hx, rk_ok hy, hk]
        rcases rk_same hr with ⟨p, q, rfl, rfl, hpq⟩ | ⟨p, q, rfl, rfl⟩ | ⟨p, q, rfl, rfl⟩ | ⟨p, q, rfl, rfl⟩ | ⟨p, q, rfl, rfl⟩
        · have h3 : p < 3 := hx
          rw [kd_k, kd_k] at hk
          subst hk
          rw [kd_k, if_neg (show ¬ i3 p = 4 from fun h => by have := (ke (k := p) (c := 4) (by omega) (by omega)).mp h; omega), if_neg (show ¬ (5 : Int32) ≤ i3 p by rw [show (5 : Int32) = i3 5 from rfl, i3_le (by omega) (by omega)]; omega), hsm, Option.bind_some]
          have : jin (d + 1) (jk p) (jk p) = true := decide_eq_true rfl
          have hv : (if jcmp (d + 1) (jk p) (jk p) = 0 then (1 : Int32) else 0) = 1 := if_pos (by rw [jcmp_k, Int.sub_self]; rfl)
          rw [this, hv, if_neg (by decide), if_pos rfl]
        · rw [kd_n, if_neg (by decide), if_neg (by decide), hsm, Option.bind_some]
          have : jin (d + 1) (jn p) (jn q) = decide (p = q) := rfl
          rw [this]
          by_cases e : p = q
          · have hv : (if jcmp (d + 1) (jn p) (jn q) = 0 then (1 : Int32) else 0) = 1 := if_pos (by rw [jcmp_n, e, Int.sub_self]; rfl)
            rw [hv, decide_eq_true e, if_neg (by decide), if_pos rfl]
          · have hv : (if jcmp (d + 1) (jn p) (jn q) = 0 then (1 : Int32) else 0) = 0 := if_neg (fun h => e (by rw [jcmp_n] at h; have := sg_0.mp h; omega))
            rw [hv, decide_eq_false e, if_neg (by decide), if_neg (by decide)]
        · rw [kd_s, if_pos (by decide)]
          have : jin (d + 1) (js p) (js q) = (List.range' 0 (p.length + 1)).any (fun k => pf q (p.drop k)) := by
            rw [← List.range_eq_range']
            rfl
          rw [this]
          have hp := (ha.szs hM).2
          exact cnS (y5 := 0) (y4 := 0) hM (isStr_rep ha) (isStr_rep hb) hp (hb.szs hM).2 (p.length + 1) n 0 0 0 (by omega) (by omega)
        · rw [kd_a, if_neg (by decide), if_pos (by decide)]
          have hq := (hb.sza hM).2
          exact cnA hM (ih fu (by omega)) ha hb hx hy q.length n 0 0 0 (by omega) (by omega)
        · rw [kd_o, if_neg (by decide), if_pos (by decide)]
          have hq := (hb.szo hM).2
          exact cnO hM (ih fu (by omega)) ha hb (fun p hp => (hx.1 p hp).2) (fun p hp => (hy.1 p hp).2) q.length n 0 0 0 (by omega) (by omega)
      · have hlt : kd (d + 1) x < 3 ∧ 0 < kd (d + 1) x := by
          unfold alike at hal
          rw [Bool.or_eq_true, decide_eq_true_eq] at hal
          rcases hal with h | h
          · exact absurd h hk
          · simp at h
            omega
        have hne : ¬ jcmp (d + 1) x y = 0 := by
          intro h
          rw [jcmp_ne (by rw [rk_ok hx, rk_ok hy]; exact hk), rk_ok hx, rk_ok hy] at h
          have := sg_0.mp h
          omega
        rw [if_neg (show ¬ i3 (kd (d + 1) x) = 4 from fun h => by have := (ke (c := 4) ka (by omega)).mp h; omega), if_neg (show ¬ (5 : Int32) ≤ i3 (kd (d + 1) x) by rw [show (5 : Int32) = i3 5 from rfl, i3_le (by omega) (by omega)]; omega), hsm, Option.bind_some, show (if jcmp (d + 1) x y = 0 then (1 : Int32) else 0) = 0 from if_neg hne, if_neg (by decide), jin_ne hk, if_neg (by decide)]
    · have hk : kd (d + 1) x ≠ kd (d + 1) y := fun h => hal (by unfold alike; rw [h]; simp)
      rw [if_neg hal, if_pos rfl, jin_ne hk, if_neg (by decide)]
end TWA
