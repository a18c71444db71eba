section RDA
variable {st : xS} {vs : List VR} {cs : List Nat} {ks ws : List NP} {d n : Nat}
theorem Rep.g (hM : MS st vs cs ks ws) {j : JT (d + 1)} {c : Nat} (h : Rep vs cs ks (d + 1) j c) : ¬ (c = 0 ∨ xct st < c) ∧ ¬ xct st < c ∧ xpi st 0 (c - 1) = i3 (kd (d + 1) j) ∧ c ≤ vs.length := by
  obtain ⟨h1, v, hv, _, _, _, _, hb⟩ := h
  obtain ⟨g1, g2, g3⟩ := hM.vc h1 hv
  refine ⟨g1, fun hh => g1 (Or.inr hh), ?_, g3⟩
  rw [g2.1]
  congr 1
  rcases jcases j with ⟨k, rfl⟩ | ⟨z, rfl⟩ | ⟨s, rfl⟩ | ⟨l, rfl⟩ | ⟨l, rfl⟩
  · exact hb
  · exact hb.1
  · exact hb.1
  · exact hb.1
  · exact hb.1
theorem Rep.num (hM : MS st vs cs ks ws) {z : Int} {c : Nat} (h : Rep vs cs ks (d + 1) (jn z) c) : xpl st (c - 1) = cW z := by
  obtain ⟨h1, v, hv, _, _, _, _, _, hz⟩ := h
  obtain ⟨_, g2, _⟩ := hM.vc h1 hv
  rw [g2.2.2.2.2.2, hz]
theorem Rep.szs (hM : MS st vs cs ks ws) {s : Sx} {c : Nat} (h : Rep vs cs ks (d + 1) (js s) c) : xpi st 3 (c - 1) = i3 s.length ∧ s.length ≤ 59999 := by
  obtain ⟨h1, v, hv, _, _, _, hw, _, hz, _⟩ := h
  obtain ⟨_, g2, _⟩ := hM.vc h1 hv
  rw [jc_s] at hw
  unfold strc at hw
  rw [List.length_cons, List.length_map] at hw
  exact ⟨by rw [g2.2.2.1, hz], by omega⟩
theorem Rep.sza (hM : MS st vs cs ks ws) {l : List (JT d)} {c : Nat} (h : Rep vs cs ks (d + 1) (ja l) c) : xpi st 3 (c - 1) = i3 l.length ∧ l.length ≤ 59999 := by
  obtain ⟨h1, v, hv, _, _, _, hw, _, hz, _⟩ := h
  obtain ⟨_, g2, _⟩ := hM.vc h1 hv
  have := len_a l
  exact ⟨by rw [g2.2.2.1, hz], by omega⟩
theorem Rep.szo (hM : MS st vs cs ks ws) {l : List (Sx × JT d)} {c : Nat} (h : Rep vs cs ks (d + 1) (jo l) c) : xpi st 3 (c - 1) = i3 l.length ∧ l.length ≤ 59999 := by
  obtain ⟨h1, v, hv, _, _, _, hw, _, hz, _⟩ := h
  obtain ⟨_, g2, _⟩ := hM.vc h1 hv
  have := len_o l
  exact ⟨by rw [g2.2.2.1, hz], by omega⟩
theorem Rep.kid (hM : MS st vs cs ks ws) {l : List (JT d)} {c i : Nat} {x : JT d} (h : Rep vs cs ks (d + 1) (ja l) c) (hi : l[i]? = some x) : ∃ k, fM_kid n st c (i3 i) = some k ∧ Rep vs cs ks d x k := by
  obtain ⟨h1, v, hv, _, _, _, _, _, _, hk⟩ := h
  obtain ⟨p, hp, hr⟩ := hk i x hi
  exact ⟨p.1, (kid_w hM h1 hv hp).1, hr⟩
theorem Rep.okid (hM : MS st vs cs ks ws) {l : List (Sx × JT d)} {c i : Nat} {x : Sx × JT d} (h : Rep vs cs ks (d + 1) (jo l) c) (hi : l[i]? = some x) : ∃ k m, fM_kid n st c (i3 i) = some k ∧ fM_name n st c (i3 i) = some m ∧ Rep vs cs ks d x.2 k ∧ isStr vs cs m x.1 ∧ x.1.length ≤ 59999 := by
  obtain ⟨h1, v, hv, _, _, _, hw6, _, _, hk⟩ := h
  obtain ⟨p, hp, hr, hs⟩ := hk i x hi
  refine ⟨p.1, p.2, (kid_w hM h1 hv hp).1, (kid_w hM h1 hv hp).2, hr, hs, ?_⟩
  have hx := List.mem_of_getElem? hi
  have h2 : (strc x.1 ++ jc d x.2).length ≤ (l.flatMap (fun p => strc p.1 ++ jc d p.2)).length := by
    obtain ⟨a, b, rfl⟩ := List.append_of_mem hx
    simp
    omega
  rw [jc_o] at hw6
  unfold lst at hw6
  rw [List.length_cons] at hw6
  rw [List.length_append] at h2
  have h3 : (strc x.1).length = x.1.length + 1 := by unfold strc; simp
  omega
theorem lu_split {α : Type} {s : Sx} : ∀ (l : List (Sx × α)), (lu s l = none → s ∉ l.map (fun p => p.1)) ∧ (∀ y, lu s l = some y → ∃ i : Nat, l[i]? = some (s, y))
  | [] => ⟨fun _ => by simp, fun y h => by cases h⟩
  | p :: l => by
    unfold lu
    by_cases h : p.1 = s
    · rw [if_pos h]
      refine ⟨fun hh => (by cases hh), fun y hy => ⟨0, ?_⟩⟩
      injection hy with hy
      rw [← hy, ← h]
      rfl
    · rw [if_neg h]
      obtain ⟨a, b⟩ := lu_split l
      refine ⟨fun hh => ?_, fun y hy => ?_⟩
      · rw [List.map_cons, List.mem_cons]
        exact fun h2 => h2.elim (fun e => h e.symm) (a hh)
      · obtain ⟨i, hi⟩ := b y hy
        exact ⟨i + 1, hi⟩
theorem placeL (hM : MS st vs cs ks ws) {l : List (Sx × JT d)} {c m : Nat} {s : Sx} (h : Rep vs cs ks (d + 1) (jo l) c) (hs : isStr vs cs m s) (hsl : s.length ≤ 59999) : ∀ (q n i : Nat), i + q = l.length → 1000002 + q < n → (lu s (l.drop i) = none → fM_place_b st n 1 (i3 i) c m = some (-1)) ∧ (∀ y, lu s (l.drop i) = some y → ∃ j, i ≤ j ∧ l[j]? = some (s, y) ∧ fM_place_b st n 1 (i3 i) c m = some (i3 j)) := by
  obtain ⟨hsz, hll⟩ := h.szo hM
  obtain ⟨g1, _, _, _⟩ := h.g hM
  intro q
  induction q with
  | zero =>
    intro n i hi hn
    obtain ⟨n, rfl⟩ : ∃ j, n = j + 1 := ⟨n - 1, by omega⟩
    rw [List.drop_eq_nil_of_le (by omega), fM_place_b, if_neg g1, hsz, if_pos (by rw [i3_le (by omega) (by omega)]; omega)]
    exact ⟨fun _ => rfl, fun y hy => by cases hy⟩
  | succ q ih =>
    intro n i hi hn
    obtain ⟨n, rfl⟩ : ∃ j, n = j + 1 := ⟨n - 1, by omega⟩
    obtain ⟨k, m', _, e2, _, hs', hl'⟩ := h.okid (n := n) hM (List.getElem?_eq_getElem (show i < l.length by omega))
    rw [List.drop_eq_getElem_cons (show i < l.length by omega), fM_place_b, if_neg g1, hsz, if_neg (by rw [i3_le (by omega) (by omega)]; omega), e2, Option.bind_some, sameTextM hM hs' hs (by omega) (by omega) (by omega), Option.bind_some]
    unfold lu
    by_cases e : l[i].1 = s
    · rw [if_pos e, if_pos e, if_neg (by decide)]
      refine ⟨fun hh => (by cases hh), fun y hy => ⟨i, Nat.le_refl _, ?_, rfl⟩⟩
      injection hy with hy
      rw [List.getElem?_eq_getElem (by omega), ← hy, ← e]
    · rw [if_neg e, if_neg e, if_pos rfl, i3_one]
      obtain ⟨a, b⟩ := ih n (i + 1) (by omega) (by omega)
      exact ⟨a, fun y hy => by obtain ⟨j, h1, h2, h3⟩ := b y hy; exact ⟨j, by omega, h2, h3⟩⟩
theorem placeM (hM : MS st vs cs ks ws) {l : List (Sx × JT d)} {c m : Nat} {s : Sx} (h : Rep vs cs ks (d + 1) (jo l) c) (hs : isStr vs cs m s) (hsl : s.length ≤ 59999) (hn : 2000000 < n) : (lu s l = none → fM_place n st c m = some (-1)) ∧ (∀ y, lu s l = some y → ∃ (j k : Nat), j < l.length ∧ l[j]? = some (s, y) ∧ fM_place n st c m = some (i3 j) ∧ fM_kid n st c (i3 j) = some k ∧ Rep vs cs ks d y k) := by
  have hll := (h.szo hM).2
  obtain ⟨a, b⟩ := placeL hM h hs hsl l.length n 0 (by omega) (by omega)
  refine ⟨a, fun y hy => ?_⟩
  obtain ⟨j, _, h2, h3⟩ := b y hy
  obtain ⟨k, m', e1, _, e3, _⟩ := h.okid (n := n) hM h2
  exact ⟨j, k, (List.getElem?_eq_some_iff.mp h2).1, h2, h3, e1, e3⟩
end RDA
