section STB
variable {d : Nat} {K : List (JT d)}
def Ls (K : List (JT d)) (x y : Nat) : Prop := kc K x y < 0 ∨ (kc K x y = 0 ∧ x < y)
theorem kc_lt {x y : Nat} (hx : x < K.length) (hy : y < K.length) : kc K x y = jcmp d K[x] K[y] := by
  unfold kc
  rw [List.getElem?_eq_getElem hx, List.getElem?_eq_getElem hy]
theorem Ls.trans {x y z : Nat} (hx : x < K.length) (hy : y < K.length) (hz : z < K.length) (h1 : Ls K x y) (h2 : Ls K y z) : Ls K x z := by
  unfold Ls at *
  rw [kc_lt hx hy] at h1
  rw [kc_lt hy hz] at h2
  rw [kc_lt hx hz]
  have g := jcmp_good d
  rcases h1 with h1 | ⟨h1, h1'⟩
  · left
    exact g.lt_trans' h1 (by omega)
  · rcases h2 with h2 | ⟨h2, h2'⟩
    · left
      exact g.lt_trans (by omega) h2
    · right
      exact ⟨by rw [g.cong h1]; exact h2, by omega⟩
theorem Ls.irr {x y : Nat} (h1 : Ls K x y) (h2 : Ls K y x) : False := by
  unfold Ls at *
  have := kc_anti (K := K) x y
  omega
theorem mrgP : ∀ (m : Nat) (A B : List Nat), A.length + B.length ≤ m → A.Pairwise (Ls K) → B.Pairwise (Ls K) → (∀ a ∈ A, ∀ b ∈ B, a < b) → (∀ a ∈ A, a < K.length) → (∀ b ∈ B, b < K.length) → (List.merge A B (kle K)).Pairwise (Ls K) := by
  intro m
  induction m with
  | zero =>
    intro A B hl hA hB _ _ _
    obtain rfl : A = [] := List.length_eq_zero_iff.mp (by omega)
    simpa using hB
  | succ m ih =>
    intro A B hl hA hB hAB hAK hBK
    cases A with
    | nil => simpa using hB
    | cons x A =>
      cases B with
      | nil => simpa using hA
      | cons y B =>
        rw [List.length_cons, List.length_cons] at hl
        have hA' := List.pairwise_cons.mp hA
        have hB' := List.pairwise_cons.mp hB
        have hx := hAK x List.mem_cons_self
        have hy := hBK y List.mem_cons_self
        have hxy := hAB x List.mem_cons_self y List.mem_cons_self
        have han := kc_anti (K := K) x y
        rw [List.cons_merge_cons]
        by_cases h : kle K x y = true
        · rw [if_pos h]
          have hk : kc K x y ≤ 0 := of_decide_eq_true h
          have hL : Ls K x y := by unfold Ls; omega
          refine List.pairwise_cons.mpr ⟨fun z hz => ?_, ih A (y :: B) (by rw [List.length_cons]; omega) hA'.2 hB (fun a ha b hb => hAB a (List.mem_cons_of_mem _ ha) b hb) (fun a ha => hAK a (List.mem_cons_of_mem _ ha)) hBK⟩
          rcases List.mem_merge.mp hz with hz | hz
          · exact hA'.1 z hz
          · rcases List.mem_cons.mp hz with rfl | hz
            · exact hL
            · exact hL.trans hx hy (hBK z (List.mem_cons_of_mem _ hz)) (hB'.1 z hz)
        · rw [if_neg h]
          have hk : ¬ kc K x y ≤ 0 := fun hh => h (decide_eq_true hh)
          have hL : Ls K y x := by unfold Ls; omega
          refine List.pairwise_cons.mpr ⟨fun z hz => ?_, ih (x :: A) B (by rw [List.length_cons]; omega) hA hB'.2 (fun a ha b hb => hAB a ha b (List.mem_cons_of_mem _ hb)) hAK (fun b hb => hBK b (List.mem_cons_of_mem _ hb))⟩
          rcases List.mem_merge.mp hz with hz | hz
          · rcases List.mem_cons.mp hz with rfl | hz
            · exact hL
            · exact hL.trans hy hx (hAK z (List.mem_cons_of_mem _ hz)) (hA'.1 z hz)
          · exact hB'.1 z hz
def SBk (K : List (JT d)) (w : Nat) : Nat → List Nat → Prop
  | 0, T => T = []
  | f + 1, T => T = [] ∨ ((T.take w).Pairwise (Ls K) ∧ (∀ a ∈ T.take w, ∀ b ∈ T.drop w, a < b) ∧ SBk K w f (T.drop w))
theorem SBk.nil {w : Nat} : ∀ f, SBk K w f []
  | 0 => rfl
  | _ + 1 => Or.inl rfl
theorem ps_SB {w : Nat} (hw : 1 ≤ w) : ∀ (m f g : Nat) (T : List Nat), T.length ≤ m → T.length ≤ f → T.length ≤ g → (∀ x ∈ T, x < K.length) → SBk K w f T → SBk K (2 * w) g (ps K w m T) := by
  intro m
  induction m with
  | zero =>
    intro f g T hT _ _ _ _
    obtain rfl : T = [] := List.length_eq_zero_iff.mp (by omega)
    rw [ps_nil]
    exact SBk.nil g
  | succ m ih =>
    intro f g T hT hf hg hK hS
    by_cases h0 : T = []
    · subst h0
      rw [ps_nil]
      exact SBk.nil g
    · have hpos : 0 < T.length := List.length_pos_iff.mpr h0
      obtain ⟨f, rfl⟩ : ∃ k, f = k + 1 := ⟨f - 1, by omega⟩
      obtain ⟨g, rfl⟩ : ∃ k, g = k + 1 := ⟨g - 1, by omega⟩
      rcases hS with hS | ⟨s1, s2, s3⟩
      · exact absurd hS h0
      have lm : (List.merge (T.take w) ((T.drop w).take w) (kle K)).length = min (2 * w) T.length := by
        rw [(List.merge_perm_append (kle K)).length_eq]
        simp only [List.length_append, List.length_take, List.length_drop]
        omega
      have hT2 : (T.drop w).drop w = T.drop (2 * w) := by rw [List.drop_drop]; congr 1; omega
      have sB : ((T.drop w).take w).Pairwise (Ls K) ∧ (∀ a ∈ (T.drop w).take w, ∀ b ∈ T.drop (2 * w), a < b) ∧ ∃ f', (T.drop (2 * w)).length ≤ f' ∧ SBk K w f' (T.drop (2 * w)) := by
        by_cases h1 : T.drop w = []
        · rw [← hT2, h1, List.take_nil, List.drop_nil]
          exact ⟨List.Pairwise.nil, fun a ha => by simp at ha, 0, Nat.le_refl _, rfl⟩
        · have hp1 : 0 < (T.drop w).length := List.length_pos_iff.mpr h1
          rw [List.length_drop] at hp1
          obtain ⟨f, rfl⟩ : ∃ k, f = k + 1 := ⟨f - 1, by omega⟩
          rcases s3 with s3 | ⟨u1, u2, u3⟩
          · exact absurd s3 h1
          · rw [hT2] at u2 u3
            exact ⟨u1, u2, f, by rw [List.length_drop]; omega, u3⟩
      obtain ⟨b1, b2, f', b3, b4⟩ := sB
      have hM := mrgP (K := K) _ (T.take w) ((T.drop w).take w) (Nat.le_refl _) s1 b1 (fun a ha b hb => s2 a ha b (List.mem_of_mem_take hb)) (fun a ha => hK a (List.mem_of_mem_take ha)) (fun b hb => hK b (List.mem_of_mem_drop (List.mem_of_mem_take hb)))
      have hR := ih f' g (T.drop (2 * w)) (by rw [List.length_drop]; omega) b3 (by rw [List.length_drop]; omega) (fun x hx => hK x (List.mem_of_mem_drop hx)) b4
      have hlt : ∀ a ∈ List.merge (T.take w) ((T.drop w).take w) (kle K), ∀ b ∈ ps K w m (T.drop (2 * w)), a < b := fun a ha b hb => by
        have hb' := (ps_perm _ _).mem_iff.mp hb
        rcases List.mem_merge.mp ha with ha | ha
        · exact s2 a ha b (by rw [← hT2] at hb'; exact List.mem_of_mem_drop hb')
        · exact b2 a ha b hb'
      rw [ps]
      right
      have htk : (List.merge (T.take w) ((T.drop w).take w) (kle K) ++ ps K w m (T.drop (2 * w))).take (2 * w) = List.merge (T.take w) ((T.drop w).take w) (kle K) ∧ (List.merge (T.take w) ((T.drop w).take w) (kle K) ++ ps K w m (T.drop (2 * w))).drop (2 * w) = ps K w m (T.drop (2 * w)) := by
        generalize List.merge (T.take w) ((T.drop w).take w) (kle K) = M at lm
        by_cases hbig : 2 * w ≤ T.length
        · have hM2 : M.length = 2 * w := by omega
          rw [List.take_append_of_le_length (by omega), List.take_of_length_le (by omega), List.drop_append_of_le_length (by omega), List.drop_eq_nil_of_le (show M.length ≤ 2 * w by omega), List.nil_append]
          exact ⟨rfl, rfl⟩
        · rw [List.drop_eq_nil_of_le (show T.length ≤ 2 * w by omega), ps_nil, List.append_nil, List.take_of_length_le (by omega), List.drop_eq_nil_of_le (show M.length ≤ 2 * w by omega)]
          exact ⟨rfl, rfl⟩
      rw [htk.1, htk.2]
      exact ⟨hM, hlt, hR⟩
theorem ms_P : ∀ (f w : Nat) (T : List Nat), 1 ≤ w → (∀ x ∈ T, x < K.length) → SBk K w T.length T → T.length ≤ w * 2 ^ f → (ms K f w T).Pairwise (Ls K) := by
  have base : ∀ (w : Nat) (T : List Nat), SBk K w T.length T → T.length ≤ w → T.Pairwise (Ls K) := fun w T hS hl => by
    cases T with
    | nil => exact List.Pairwise.nil
    | cons x T =>
      rcases hS with hS | ⟨s1, _⟩
      · cases hS
      · rw [List.take_of_length_le hl] at s1
        exact s1
  intro f
  induction f with
  | zero =>
    intro w T hw hK hS hl
    exact base w T hS (by simpa using hl)
  | succ f ih =>
    intro w T hw hK hS hl
    rw [ms]
    by_cases h : T.length ≤ w
    · rw [if_pos h]
      exact base w T hS h
    · rw [if_neg h]
      refine ih (2 * w) (ps K w T.length T) (by omega) (fun x hx => hK x ((ps_perm _ _).mem_iff.mp hx)) ?_ ?_
      · rw [ps_len]
        exact ps_SB hw T.length T.length T.length T (Nat.le_refl _) (Nat.le_refl _) (Nat.le_refl _) hK hS
      · rw [ps_len, show 2 * w * 2 ^ f = w * 2 ^ (f + 1) by rw [Nat.pow_succ, Nat.mul_comm 2 w, Nat.mul_assoc, Nat.mul_comm 2 (2 ^ f)]]
        exact hl
theorem rng_SB : ∀ (m k : Nat), SBk K 1 m (List.range' k m)
  | 0, _ => rfl
  | m + 1, k => by
    right
    rw [List.range'_succ]
    refine ⟨List.pairwise_singleton _ _, fun a ha b hb => ?_, rng_SB m (k + 1)⟩
    have ha' : a = k := by simpa using ha
    have hb' : b ∈ List.range' (k + 1) m := hb
    rw [List.mem_range'_1] at hb'
    omega
theorem tn_P (h : K.length ≤ 4096) : (tn K).Pairwise (Ls K) := by
  unfold tn
  refine ms_P 12 1 _ (by omega) (fun x hx => List.mem_range.mp hx) ?_ (by rw [List.length_range]; omega)
  rw [List.length_range, List.range_eq_range']
  exact rng_SB K.length 0
theorem tn_head (h : K.length ≤ 4096) {t : Nat} (ht : (tn K).head? = some t) : t < K.length ∧ ∀ x, x < K.length → x ≠ t → Ls K t x := by
  have hP := tn_P h
  have hm := tn_perm K
  cases hT : tn K with
  | nil => rw [hT] at ht; cases ht
  | cons u T =>
    rw [hT] at ht hP hm
    injection ht with ht
    subst ht
    rw [List.pairwise_cons] at hP
    refine ⟨List.mem_range.mp (hm.mem_iff.mp List.mem_cons_self), fun x hx hne => ?_⟩
    rcases List.mem_cons.mp (hm.mem_iff.mpr (List.mem_range.mpr hx)) with h1 | h1
    · exact absurd h1 hne
    · exact hP.1 x h1
theorem tn_last (h : K.length ≤ 4096) {t : Nat} (ht : (tn K).getLast? = some t) : t < K.length ∧ ∀ x, x < K.length → x ≠ t → Ls K x t := by
  have hP := tn_P h
  have hm := tn_perm K
  obtain ⟨T, hT⟩ := List.getLast?_eq_some_iff.mp ht
  rw [hT] at hP hm
  rw [List.pairwise_append] at hP
  refine ⟨List.mem_range.mp (hm.mem_iff.mp (by simp)), fun x hx hne => ?_⟩
  rcases List.mem_append.mp (hm.mem_iff.mpr (List.mem_range.mpr hx)) with h1 | h1
  · exact hP.2.2 x h1 t (by simp)
  · exact absurd (by simpa using h1) hne
end STB
