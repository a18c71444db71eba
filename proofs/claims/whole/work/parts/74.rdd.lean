section RDD
variable {st : xS} {vs : List VR} {cs : List Nat} {ks ws : List NP} {d n : Nat}
theorem nx_step {α : Type} {l : List (Sx × α)} (hnd : (l.map (fun p => p.1)).Nodup) {n : Nat} {last : Option Sx} (h : l.countP (fun p => bh last p.1) = n + 1) : ∃ p, nx l last = some p ∧ p ∈ l ∧ l.countP (fun y => bh (some p.1) y.1) = n ∧ sq l (n + 1) last = p :: sq l n (some p.1) := by
  obtain ⟨s1, s2⟩ := nxA_spec last l none
  cases hx : nx l last with
  | none =>
    have := (s2 hx).2
    have h0 : l.countP (fun p => bh last p.1) = 0 := List.countP_eq_zero.mpr (fun q hq => by rw [this q hq]; decide)
    omega
  | some p =>
    obtain ⟨j1, j2, _⟩ := s1 p hx
    have hp : p ∈ l ∧ bh last p.1 = true := by
      rcases j1 with h | h
      · exact h
      · exact absurd h (by simp)
    have hb : ∀ y ∈ l, y.1 ≠ p.1 → bh (some p.1) y.1 = bh last y.1 := fun y hy hne => by
      have h3 : bh (some p.1) y.1 = true ↔ bh last y.1 = true := by
        have h7 : bh (some p.1) y.1 = decide (0 < cS y.1 p.1) := by simp [bh]
        rw [h7, decide_eq_true_iff]
        have h6 := cS_good.1 y.1 p.1
        constructor
        · intro h4
          cases last with
          | none => rfl
          | some t =>
            have h5 : 0 < cS p.1 t := by simpa [bh] using hp.2
            have h8 := cS_good.1 p.1 t
            have h9 := cS_good.1 y.1 t
            have := cS_good.lt_trans' (a := t) (b := p.1) (e := y.1) (by omega) (by omega)
            simp only [bh, Option.all_some, decide_eq_true_eq]
            omega
        · intro h4
          have h5 := j2 y hy h4
          have h8 : cS y.1 p.1 ≠ 0 := fun h => hne (cS_eq h)
          omega
      exact Bool.eq_iff_iff.mpr h3
    have hself : bh (some p.1) p.1 = false := by
      simp [bh, cS_refl]
    have hc := cnt1 (P := fun y => bh (some p.1) y.1) (Q := fun y => bh last y.1) l p hp.1 hnd hp.2 hself hb
    refine ⟨p, rfl, hp.1, by omega, ?_⟩
    rw [sq, hx]
def OrZ (out : Option Int32) (r : Int) : Prop := ∃ z : Int, out = some (iz z) ∧ sg z = r ∧ -100000 ≤ z ∧ z ≤ 100000
def Or (vs : List VR) (cs : List Nat) (ks : List NP) (st : xS) (d : Nat) (rec : xS → Nat → Nat → Option Int32) : Prop := ∀ (x y : JT d) (a b : Nat), Rep vs cs ks d x a → Rep vs cs ks d y b → jok d x → jok d y → OrZ (rec st a b) (jcmp d x y)
def OrS (vs : List VR) (cs : List Nat) (st : xS) (rec : xS → Nat → Nat → Option Int32) : Prop := ∀ (s t : Sx) (a b : Nat), isStr vs cs a s → isStr vs cs b t → s.length ≤ 59999 → t.length ≤ 59999 → OrZ (rec st a b) (cS s t)
theorem sg_sg (z : Int) : sg (sg z) = sg z := by
  unfold sg
  split
  · rfl
  · split
    · rfl
    · rfl
theorem sg_0 {z : Int} : sg z = 0 ↔ z = 0 := by
  unfold sg
  split
  · omega
  · split <;> omega
theorem sg_lt {z : Int} : sg z < 0 ↔ z < 0 := by
  unfold sg
  split
  · omega
  · split <;> omega
theorem sg_gt {z : Int} : 0 < sg z ↔ 0 < z := by
  unfold sg
  split
  · omega
  · split <;> omega
theorem i3_dif {a b : Nat} (ha : a ≤ 100000) (hb : b ≤ 100000) : OrZ (some (i3 a - i3 b)) (sg ((a : Int) - b)) := by
  refine ⟨(a : Int) - b, ?_, rfl, by omega, by omega⟩
  rw [i3_iz, i3_iz]
  congr 1
  exact (Int32.ofInt_sub _ _).symm
theorem orderS (hM : MS st vs cs ks ws) {rec : xS → Nat → Nat → Option Int32} {s t : Sx} {a b : Nat} (ha : isStr vs cs a s) (hb : isStr vs cs b t) (hsl : s.length ≤ 59999) (htl : t.length ≤ 59999) : ∀ (q n i : Nat), i + q = s.length → i ≤ t.length → q < n → OrZ (fM_order_b rec st n 1 (i3 i) a b) (cS (s.drop i) (t.drop i)) := by
  obtain ⟨a1, v, av, a4, asz, _, _, ag⟩ := ha
  obtain ⟨b1, u, bu, b4, bsz, _, _, bg⟩ := hb
  obtain ⟨g1, g2, _⟩ := hM.vc a1 av
  obtain ⟨f1, f2, _⟩ := hM.vc b1 bu
  have hcc := hM.cl.2.1
  have hbc : bC = 100000 := rfl
  intro q
  induction q with
  | zero =>
    intro n i hi hit hn
    obtain ⟨n, rfl⟩ : ∃ j, n = j + 1 := ⟨n - 1, by omega⟩
    rw [fM_order_b, if_pos rfl, if_neg g1, g2.2.2.1, asz, if_pos (by rw [i3_le (by omega) (by omega)]; omega), if_neg f1, f2.2.2.1, bsz, List.drop_eq_nil_of_le (show s.length ≤ i by omega)]
    have := sg_len (c := fun x y : Nat => sg ((x : Int) - y)) (a := []) (b := t.drop i) (Or.inl rfl)
    have h2 : cS [] (t.drop i) = sg ((s.length : Int) - t.length) := by
      unfold cS
      rw [this, List.length_drop]
      congr 1
      simp
      omega
    rw [h2]
    exact i3_dif (by omega) (by omega)
  | succ q ih =>
    intro n i hi hit hn
    obtain ⟨n, rfl⟩ : ∃ j, n = j + 1 := ⟨n - 1, by omega⟩
    rw [fM_order_b, if_pos rfl, if_neg g1, g2.2.2.1, asz, if_neg (by rw [i3_le (by omega) (by omega)]; omega), if_neg f1, f2.2.2.1, bsz]
    by_cases e : t.length ≤ i
    · rw [if_pos (by rw [i3_le (by omega) (by omega)]; exact e), List.drop_eq_nil_of_le e]
      have := sg_len (c := fun x y : Nat => sg ((x : Int) - y)) (a := s.drop i) (b := []) (Or.inr rfl)
      have h2 : cS (s.drop i) [] = sg ((s.length : Int) - t.length) := by
        unfold cS
        rw [this, List.length_drop]
        congr 1
        simp
        omega
      rw [h2]
      exact i3_dif (by omega) (by omega)
    · have hxa := ag i s[i] (List.getElem?_eq_getElem (by omega))
      have hxb := bg i t[i] (List.getElem?_eq_getElem (by omega))
      have la := (List.getElem?_eq_some_iff.mp hxa).1
      have lb := (List.getElem?_eq_some_iff.mp hxb).1
      obtain ⟨y1, y2⟩ := hM.1.2.2.1 _ _ hxa
      obtain ⟨z1, z2⟩ := hM.1.2.2.1 _ _ hxb
      have hln := hM.2.2.2.1.1
      rw [if_neg (by rw [i3_le (by omega) (by omega)]; exact e), g2.2.1, f2.2.1, i3_add, i3_add, if_neg (i3_idx (by omega) (by omega)), if_neg (i3_idx (by omega) (by omega)), i3_N (by omega), i3_N (by omega), y1, z1, List.drop_eq_getElem_cons (show i < s.length by omega), List.drop_eq_getElem_cons (show i < t.length by omega)]
      by_cases e2 : s[i] = t[i]
      · rw [if_pos (by rw [e2]), i3_one]
        have h3 : cS (s[i] :: s.drop (i + 1)) (t[i] :: t.drop (i + 1)) = cS (s.drop (i + 1)) (t.drop (i + 1)) := by
          show lexC _ _ _ = _
          unfold lexC
          rw [if_pos (by rw [e2, Int.sub_self]; rfl)]
          rfl
        rw [h3]
        exact ih n (i + 1) (by omega) (by omega) (by omega)
      · have h3 : cS (s[i] :: s.drop (i + 1)) (t[i] :: t.drop (i + 1)) = sg ((s[i] : Int) - t[i]) := by
          show lexC _ _ _ = _
          unfold lexC
          rw [if_neg (fun h => e2 (by have := sg_0.mp h; omega))]
        rw [if_neg (by rw [i3_eq (by omega) (by omega)]; exact e2), if_neg (i3_id2 (by omega) (by omega)), if_neg (i3_id2 (by omega) (by omega)), h3]
        exact i3_dif (by omega) (by omega)
theorem orderS' (hM : MS st vs cs ks ws) {fu : Nat} (hn : 100000 < n) : OrS vs cs st (fM_order (fu + 1) n) := by
  intro s t a b ha hb hsl htl
  have ha' := ha
  have hb' := hb
  obtain ⟨a1, v, av, a4, asz, _, _, ag⟩ := ha'
  obtain ⟨b1, u, bu, b4, bsz, _, _, bg⟩ := hb'
  obtain ⟨g1, g2, _⟩ := hM.vc a1 av
  obtain ⟨f1, f2, _⟩ := hM.vc b1 bu
  rw [fM_order, if_neg g1, if_neg f1, g2.1, f2.1, a4, b4, if_pos rfl, if_neg (by decide), if_pos (by decide)]
  exact orderS hM ha hb hsl htl s.length n 0 (by omega) (by omega) (by omega)
theorem orderA (hM : MS st vs cs ks ws) {rec : xS → Nat → Nat → Option Int32} (hrec : Or vs cs ks st d rec) {l m : List (JT d)} {a b : Nat} (ha : Rep vs cs ks (d + 1) (ja l) a) (hb : Rep vs cs ks (d + 1) (ja m) b) (hol : ∀ x ∈ l, jok d x) (hom : ∀ x ∈ m, jok d x) : ∀ (q n i : Nat), i + q = l.length → i ≤ m.length → q < n → OrZ (fM_order_b rec st n 2 (i3 i) a b) (lexC (jcmp d) (l.drop i) (m.drop i)) := by
  obtain ⟨hsz, hll⟩ := ha.sza hM
  obtain ⟨hsz', hmm⟩ := hb.sza hM
  obtain ⟨g1, _, _, _⟩ := ha.g hM
  obtain ⟨f1, _, _, _⟩ := hb.g hM
  intro q
  induction q with
  | zero =>
    intro n i hi hit hn
    obtain ⟨n, rfl⟩ : ∃ j, n = j + 1 := ⟨n - 1, by omega⟩
    rw [fM_order_b, if_neg (by decide), if_neg g1, hsz, if_pos (by rw [i3_le (by omega) (by omega)]; omega), if_neg f1, hsz', List.drop_eq_nil_of_le (show l.length ≤ i by omega)]
    have h2 : lexC (jcmp d) [] (m.drop i) = sg ((l.length : Int) - m.length) := by
      rw [sg_len (Or.inl rfl), List.length_drop]
      congr 1
      simp
      omega
    rw [h2]
    exact i3_dif (by omega) (by omega)
  | succ q ih =>
    intro n i hi hit hn
    obtain ⟨n, rfl⟩ : ∃ j, n = j + 1 := ⟨n - 1, by omega⟩
    rw [fM_order_b, if_neg (by decide), if_neg g1, hsz, if_neg (by rw [i3_le (by omega) (by omega)]; omega), if_neg f1, hsz']
    by_cases e : m.length ≤ i
    · rw [if_pos (by rw [i3_le (by omega) (by omega)]; exact e), List.drop_eq_nil_of_le e]
      have h2 : lexC (jcmp d) (l.drop i) [] = sg ((l.length : Int) - m.length) := by
        rw [sg_len (Or.inr rfl), List.length_drop]
        congr 1
        simp
        omega
      rw [h2]
      exact i3_dif (by omega) (by omega)
    · obtain ⟨k1, e1, r1⟩ := ha.kid (n := n) hM (List.getElem?_eq_getElem (show i < l.length by omega))
      obtain ⟨k2, e2, r2⟩ := hb.kid (n := n) hM (List.getElem?_eq_getElem (show i < m.length by omega))
      obtain ⟨z, hz, hsz, z1, z2⟩ := hrec _ _ _ _ r1 r2 (hol _ (List.getElem_mem _)) (hom _ (List.getElem_mem _))
      rw [if_neg (by rw [i3_le (by omega) (by omega)]; exact e), e1, Option.bind_some, e2, Option.bind_some, hz, Option.bind_some, List.drop_eq_getElem_cons (show i < l.length by omega), List.drop_eq_getElem_cons (show i < m.length by omega)]
      unfold lexC
      have hz0 : (iz z = 0) = (z = 0) := iz_eq (b := 0) (by omega) (by omega) (by omega) (by omega)
      by_cases ez : z = 0
      · rw [if_pos (by rw [hz0]; exact ez), if_pos (by rw [← hsz, ez]; rfl), i3_one]
        exact ih n (i + 1) (by omega) (by omega) (by omega)
      · rw [if_neg (by rw [hz0]; exact ez), if_neg (by rw [← hsz]; exact fun h => ez (sg_0.mp h))]
        exact ⟨z, rfl, hsz, z1, z2⟩
end RDD
