section ZStb89
section STB
variable {d : Nat} {K : List (JT d)}
def Ls (K : List (JT d)) (x y : Nat) : Prop := kc K x y < 0 ∨ (kc K x y = 0 ∧ x < y)
theorem kc_lt {x y : Nat} (hx : x < K.length) (hy : y < K.length) : kc K x y = jcmp d K[x] K[y] := by
  unfold kc
  rw [List.getElem?_eq_getElem hx, List.getElem?_eq_getElem hy]
theorem Ls.trans {x y z : Nat} (hx : x < K.length) (hy : y < K.length) (hz : z < K.length) (h1 : Ls K x y) (h2 : Ls K y z) : Ls K x z := by
  unfold Ls at *
  rw [kc_lt hx hy] at h1
  rw [kc_lt hy hz] at h2
  rw [kc_lt hx hz]
  have g := jcmp_good d
  rcases h1 with h1 | ⟨h1, h1'⟩
  · left
    exact g.lt_trans' h1 (by omega)
  · rcases h2 with h2 | ⟨h2, h2'⟩
    · left
      exact g.lt_trans (by omega) h2
    · right
      exact ⟨by rw [g.cong h1]; exact h2, by omega⟩
theorem Ls.irr {x y : Nat} (h1 : Ls K x y) (h2 : Ls K y x) : False := by
  unfold Ls at *
  have := kc_anti (K := K) x y
  omega
theorem mrgP : ∀ (m : Nat) (A B : List Nat), A.length + B.length ≤ m → A.Pairwise (Ls K) → B.Pairwise (Ls K) → (∀ a ∈ A, ∀ b ∈ B, a < b) → (∀ a ∈ A, a < K.length) → (∀ b ∈ B, b < K.length) → (List.merge A B (kle K)).Pairwise (Ls K) := by
  intro m
  induction m with
  | zero =>
    intro A B hl hA hB _ _ _
    obtain rfl : A = [] := List.length_eq_zero_iff.mp (by omega)
    simpa using hB
  | succ m ih =>
    intro A B hl hA hB hAB hAK hBK
    cases A with
    | nil => simpa using hB
    | cons x A =>
      cases B with
      | nil => simpa using hA
      | cons y B =>
        rw [List.length_cons, List.length_cons] at hl
        have hA' := List.pairwise_cons.mp hA
        have hB' := List.pairwise_cons.mp hB
        have hx := hAK x List.mem_cons_self
        have hy := hBK y List.mem_cons_self
        have hxy := hAB x List.mem_cons_self y List.mem_cons_self
        have han := kc_anti (K := K) x y
        rw [List.cons_merge_cons]
        by_cases h : kle K x y = true
        · rw [if_pos h]
          have hk : kc K x y ≤ 0 := of_decide_eq_true h
          have hL : Ls K x y := by unfold Ls; omega
          refine List.pairwise_cons.mpr ⟨fun z hz => ?_, ih A (y :: B) (by rw [List.length_cons]; omega) hA'.2 hB (fun a ha b hb => hAB a (List.mem_cons_of_mem _ ha) b hb) (fun a ha => hAK a (List.mem_cons_of_mem _ ha)) hBK⟩
          rcases List.mem_merge.mp hz with hz | hz
          · exact hA'.1 z hz
          · rcases List.mem_cons.mp hz with rfl | hz
            · exact hL
            · exact hL.trans hx hy (hBK z (List.mem_cons_of_mem _ hz)) (hB'.1 z hz)
        · rw [if_neg h]
          have hk : ¬ kc K x y ≤ 0 := fun hh => h (decide_eq_true hh)
          have hL : Ls K y x := by unfold Ls; omega
          refine List.pairwise_cons.mpr ⟨fun z hz => ?_, ih (x :: A) B (by rw [List.length_cons]; omega) hA hB'.2 (fun a ha b hb => hAB a ha b (List.mem_cons_of_mem _ hb)) hAK (fun b hb => hBK b (List.mem_cons_of_mem _ hb))⟩
          rcases List.mem_merge.mp hz with hz | hz
          · rcases List.mem_cons.mp hz with rfl | hz
            · exact hL
            · exact hL.trans hy hx (hAK z (List.mem_cons_of_mem _ hz)) (hA'.1 z hz)
          · exact hB'.1 z hz
def SBk (K : List (JT d)) (w : Nat) : Nat → List Nat → Prop
  | 0, T => T = []
  | f + 1, T => T = [] ∨ ((T.take w).Pairwise (Ls K) ∧ (∀ a ∈ T.take w, ∀ b ∈ T.drop w, a < b) ∧ SBk K w f (T.drop w))
theorem SBk.nil {w : Nat} : ∀ f, SBk K w f []
  | 0 => rfl
  | _ + 1 => Or.inl rfl
theorem ps_SB {w : Nat} (hw : 1 ≤ w) : ∀ (m f g : Nat) (T : List Nat), T.length ≤ m → T.length ≤ f → T.length ≤ g → (∀ x ∈ T, x < K.length) → SBk K w f T → SBk K (2 * w) g (ps K w m T) := by
  intro m
  induction m with
  | zero =>
    intro f g T hT _ _ _ _
    obtain rfl : T = [] := List.length_eq_zero_iff.mp (by omega)
    rw [ps_nil]
    exact SBk.nil g
  | succ m ih =>
    intro f g T hT hf hg hK hS
    by_cases h0 : T = []
    · subst h0
      rw [ps_nil]
      exact SBk.nil g
    · have hpos : 0 < T.length := List.length_pos_iff.mpr h0
      obtain ⟨f, rfl⟩ : ∃ k, f = k + 1 := ⟨f - 1, by omega⟩
      obtain ⟨g, rfl⟩ : ∃ k, g = k + 1 := ⟨g - 1, by omega⟩
      rcases hS with hS | ⟨s1, s2, s3⟩
      · exact absurd hS h0
      have lm : (List.merge (T.take w) ((T.drop w).take w) (kle K)).length = min (2 * w) T.length := by
        rw [(List.merge_perm_append (kle K)).length_eq]
        simp only [List.length_append, List.length_take, List.length_drop]
        omega
      have hT2 : (T.drop w).drop w = T.drop (2 * w) := by rw [List.drop_drop]; congr 1; omega
      have sB : ((T.drop w).take w).Pairwise (Ls K) ∧ (∀ a ∈ (T.drop w).take w, ∀ b ∈ T.drop (2 * w), a < b) ∧ ∃ f', (T.drop (2 * w)).length ≤ f' ∧ SBk K w f' (T.drop (2 * w)) := by
        by_cases h1 : T.drop w = []
        · rw [← hT2, h1, List.take_nil, List.drop_nil]
          exact ⟨List.Pairwise.nil, fun a ha => by simp at ha, 0, Nat.le_refl _, rfl⟩
        · have hp1 : 0 < (T.drop w).length := List.length_pos_iff.mpr h1
          rw [List.length_drop] at hp1
          obtain ⟨f, rfl⟩ : ∃ k, f = k + 1 := ⟨f - 1, by omega⟩
          rcases s3 with s3 | ⟨u1, u2, u3⟩
          · exact absurd s3 h1
          · rw [hT2] at u2 u3
            exact ⟨u1, u2, f, by rw [List.length_drop]; omega, u3⟩
      obtain ⟨b1, b2, f', b3, b4⟩ := sB
      have hM := mrgP (K := K) _ (T.take w) ((T.drop w).take w) (Nat.le_refl _) s1 b1 (fun a ha b hb => s2 a ha b (List.mem_of_mem_take hb)) (fun a ha => hK a (List.mem_of_mem_take ha)) (fun b hb => hK b (List.mem_of_mem_drop (List.mem_of_mem_take hb)))
      have hR := ih f' g (T.drop (2 * w)) (by rw [List.length_drop]; omega) b3 (by rw [List.length_drop]; omega) (fun x hx => hK x (List.mem_of_mem_drop hx)) b4
      have hlt : ∀ a ∈ List.merge (T.take w) ((T.drop w).take w) (kle K), ∀ b ∈ ps K w m (T.drop (2 * w)), a < b := fun a ha b hb => by
        have hb' := (ps_perm _ _).mem_iff.mp hb
        rcases List.mem_merge.mp ha with ha | ha
        · exact s2 a ha b (by rw [← hT2] at hb'; exact List.mem_of_mem_drop hb')
        · exact b2 a ha b hb'
      rw [ps]
      right
      have htk : (List.merge (T.take w) ((T.drop w).take w) (kle K) ++ ps K w m (T.drop (2 * w))).take (2 * w) = List.merge (T.take w) ((T.drop w).take w) (kle K) ∧ (List.merge (T.take w) ((T.drop w).take w) (kle K) ++ ps K w m (T.drop (2 * w))).drop (2 * w) = ps K w m (T.drop (2 * w)) := by
        generalize List.merge (T.take w) ((T.drop w).take w) (kle K) = M at lm
        by_cases hbig : 2 * w ≤ T.length
        · have hM2 : M.length = 2 * w := by omega
          rw [List.take_append_of_le_length (by omega), List.take_of_length_le (by omega), List.drop_append_of_le_length (by omega), List.drop_eq_nil_of_le (show M.length ≤ 2 * w by omega), List.nil_append]
          exact ⟨rfl, rfl⟩
        · rw [List.drop_eq_nil_of_le (show T.length ≤ 2 * w by omega), ps_nil, List.append_nil, List.take_of_length_le (by omega), List.drop_eq_nil_of_le (show M.length ≤ 2 * w by omega)]
          exact ⟨rfl, rfl⟩
      rw [htk.1, htk.2]
      exact ⟨hM, hlt, hR⟩
theorem ms_P : ∀ (f w : Nat) (T : List Nat), 1 ≤ w → (∀ x ∈ T, x < K.length) → SBk K w T.length T → T.length ≤ w * 2 ^ f → (ms K f w T).Pairwise (Ls K) := by
  have base : ∀ (w : Nat) (T : List Nat), SBk K w T.length T → T.length ≤ w → T.Pairwise (Ls K) := fun w T hS hl => by
    cases T with
    | nil => exact List.Pairwise.nil
    | cons x T =>
      rcases hS with hS | ⟨s1, _⟩
      · cases hS
      · rw [List.take_of_length_le hl] at s1
        exact s1
  intro f
  induction f with
  | zero =>
    intro w T hw hK hS hl
    exact base w T hS (by simpa using hl)
  | succ f ih =>
    intro w T hw hK hS hl
    rw [ms]
    by_cases h : T.length ≤ w
    · rw [if_pos h]
      exact base w T hS h
    · rw [if_neg h]
      refine ih (2 * w) (ps K w T.length T) (by omega) (fun x hx => hK x ((ps_perm _ _).mem_iff.mp hx)) ?_ ?_
      · rw [ps_len]
        exact ps_SB hw T.length T.length T.length T (Nat.le_refl _) (Nat.le_refl _) (Nat.le_refl _) hK hS
      · rw [ps_len, show 2 * w * 2 ^ f = w * 2 ^ (f + 1) by rw [Nat.pow_succ, Nat.mul_comm 2 w, Nat.mul_assoc, Nat.mul_comm 2 (2 ^ f)]]
        exact hl
theorem rng_SB : ∀ (m k : Nat), SBk K 1 m (List.range' k m)
  | 0, _ => rfl
  | m + 1, k => by
    right
    rw [List.range'_succ]
    refine ⟨List.pairwise_singleton _ _, fun a ha b hb => ?_, rng_SB m (k + 1)⟩
    have ha' : a = k := by simpa using ha
    have hb' : b ∈ List.range' (k + 1) m := hb
    rw [List.mem_range'_1] at hb'
    omega
theorem tn_P (h : K.length ≤ 4096) : (tn K).Pairwise (Ls K) := by
  unfold tn
  refine ms_P 12 1 _ (by omega) (fun x hx => List.mem_range.mp hx) ?_ (by rw [List.length_range]; omega)
  rw [List.length_range, List.range_eq_range']
  exact rng_SB K.length 0
theorem tn_head (h : K.length ≤ 4096) {t : Nat} (ht : (tn K).head? = some t) : t < K.length ∧ ∀ x, x < K.length → x ≠ t → Ls K t x := by
  have hP := tn_P h
  have hm := tn_perm K
  cases hT : tn K with
  | nil => rw [hT] at ht; cases ht
  | cons u T =>
    rw [hT] at ht hP hm
    injection ht with ht
    subst ht
    rw [List.pairwise_cons] at hP
    refine ⟨List.mem_range.mp (hm.mem_iff.mp List.mem_cons_self), fun x hx hne => ?_⟩
    rcases List.mem_cons.mp (hm.mem_iff.mpr (List.mem_range.mpr hx)) with h1 | h1
    · exact absurd h1 hne
    · exact hP.1 x h1
theorem tn_last (h : K.length ≤ 4096) {t : Nat} (ht : (tn K).getLast? = some t) : t < K.length ∧ ∀ x, x < K.length → x ≠ t → Ls K x t := by
  have hP := tn_P h
  have hm := tn_perm K
  obtain ⟨T, hT⟩ := List.getLast?_eq_some_iff.mp ht
  rw [hT] at hP hm
  rw [List.pairwise_append] at hP
  refine ⟨List.mem_range.mp (hm.mem_iff.mp (by simp)), fun x hx hne => ?_⟩
  rcases List.mem_append.mp (hm.mem_iff.mpr (List.mem_range.mpr hx)) with h1 | h1
  · exact hP.2.2 x h1 t (by simp)
  · exact absurd (by simpa using h1) hne
end STB
end ZStb89
section ZBst90
section BST
variable {vs : List VR} {cs : List Nat} {ks ws : List NP} {e d : Nat} {K : List (JT d)} {st : xS}
def Rl (K : List (JT d)) (f x b : Nat) : Prop := if f = 3 then Ls K b x else Ls K x b
theorem Rl.irr {f x y : Nat} (h1 : Rl K f x y) (h2 : Rl K f y x) : False := by
  unfold Rl at *
  by_cases h : f = 3
  · rw [if_pos h] at h1 h2
    exact h1.irr h2
  · rw [if_neg h] at h1 h2
    exact h1.irr h2
theorem Rl.trans {f x y z : Nat} (hx : x < K.length) (hy : y < K.length) (hz : z < K.length) (h1 : Rl K f x y) (h2 : Rl K f y z) : Rl K f x z := by
  unfold Rl at *
  by_cases h : f = 3
  · rw [if_pos h] at h1 h2 ⊢
    exact h2.trans hz hy hx h1
  · rw [if_neg h] at h1 h2 ⊢
    exact h1.trans hx hy hz h2
theorem bstL {fu tot a b f g : Nat} {l : List (JT e)} {wc wn : Nat} (hM : MS st vs cs ks ws) (ha : Rep vs cs ks (e + 1) (ja l) a) (hb : Rep vs cs ks (d + 1) (ja K) b) (hok : ∀ x ∈ K, jok d x) (hd : d ≤ fu) (htk : tot = K.length) (htl : tot = l.length) (h2 : tot ≤ 4096) (hf : f = 3 ∨ f = 4) (hg : g < l.length) (hgl : ∀ x, x < tot → x ≠ g → Rl K f x g) : ∀ (q n i bst : Nat) (y7 : Int32), i + q = tot → bst < i → (∀ x, x < i → x ≠ bst → Rl K f x bst) → 5000001 + q < n → OpO st wc wn 1 1 (fM_sort1_b fu n 1 (i3 i) (i3 bst) (i3 tot) a b (i3 f) 0 0 y7 st wc wn) vs cs ks ws (.inr l[g]) := by
  intro q
  induction q with
  | zero =>
    intro n i bst y7 hi hbi hb2 hn
    obtain ⟨n, rfl⟩ : ∃ j, n = j + 1 := ⟨n - 1, by omega⟩
    have hbg : bst = g := Classical.byContradiction (fun hne => (hgl bst (by omega) hne).irr (hb2 g (by omega) (fun h => hne h.symm)))
    subst hbg
    obtain ⟨k, e1, r1⟩ := ha.kid (n := n) hM (List.getElem?_eq_getElem hg)
    rw [fM_sort1_b, if_pos rfl, if_pos (by rw [i3_le (by omega) (by omega)]; omega), if_pos (by rw [show (0 : Int32) = i3 0 from rfl, i3_le (by omega) (by omega)]; omega), e1, Option.bind_some]
    exact OpO.wrap (OpO.old hM r1)
  | succ q ih =>
    intro n i bst y7 hi hbi hb2 hn
    obtain ⟨n, rfl⟩ : ∃ j, n = j + 1 := ⟨n - 1, by omega⟩
    obtain ⟨k1, e1, r1⟩ := hb.kid (n := n) hM (List.getElem?_eq_getElem (show i < K.length by omega))
    obtain ⟨k2, e2, r2⟩ := hb.kid (n := n) hM (List.getElem?_eq_getElem (show bst < K.length by omega))
    obtain ⟨z, hz, _, _, z3, z4, _⟩ := (orderM (n := n) hM (by omega) d fu hd _ _ _ _ r1 r2 (hok _ (List.getElem_mem _)) (hok _ (List.getElem_mem _))).tests
    rw [← kc_lt (by omega) (by omega)] at z3 z4
    have han := kc_anti (K := K) i bst
    rw [fM_sort1_b, if_pos rfl, if_neg (by rw [i3_le (by omega) (by omega)]; omega), if_pos (by rw [show (0 : Int32) = i3 0 from rfl, i3_le (by omega) (by omega)]; omega), e1, Option.bind_some, e2, Option.bind_some, hz, Option.bind_some, if_neg (i3_nn (by omega)), i3_one]
    have keep : Rl K f i bst → OpO st wc wn 1 1 (fM_sort1_b fu n 1 (i3 (i + 1)) (i3 bst) (i3 tot) a b (i3 f) 0 0 z st wc wn) vs cs ks ws (.inr l[g]) := fun hr => ih n (i + 1) bst z (by omega) (by omega) (fun x hx hne => by
      by_cases hxi : x = i
      · rw [hxi]; exact hr
      · exact hb2 x (by omega) hne) (by omega)
    have take : Rl K f bst i → OpO st wc wn 1 1 (fM_sort1_b fu n 1 (i3 (i + 1)) (i3 i) (i3 tot) a b (i3 f) 0 0 z st wc wn) vs cs ks ws (.inr l[g]) := fun hr => ih n (i + 1) i z (by omega) (by omega) (fun x hx hne => by
      by_cases hxb : x = bst
      · rw [hxb]; exact hr
      · exact (hb2 x (by omega) hxb).trans (by omega) (by omega) (by omega) hr) (by omega)
    rcases hf with rfl | rfl
    · rw [if_pos (by decide)]
      by_cases hc : 0 ≤ kc K i bst
      · rw [if_pos (z3.mpr hc)]
        exact OpO.wrap (keep (by unfold Rl Ls; rw [if_pos rfl]; omega))
      · rw [if_neg (fun h => hc (z3.mp h))]
        exact OpO.wrap (take (by unfold Rl Ls; rw [if_pos rfl]; omega))
    · rw [if_neg (by decide)]
      by_cases hc : kc K i bst < 0
      · rw [if_pos (z4.mpr hc)]
        exact OpO.wrap (keep (by unfold Rl Ls; rw [if_neg (by decide)]; omega))
      · rw [if_neg (fun h => hc (z4.mp h))]
        exact OpO.wrap (take (by unfold Rl Ls; rw [if_neg (by decide)]; omega))
theorem bestM {fu n a b f : Nat} {l : List (JT e)} (hM : MS st vs cs ks ws) (ha : Rep vs cs ks (e + 1) (ja l) a) (hb : Rep vs cs ks (d + 1) (ja K) b) (hok : ∀ x ∈ K, jok d x) (hd : d ≤ fu) (hlen : l.length = K.length) (h2 : K.length ≤ 4096) (hf : f = 3 ∨ f = 4) (hbv : vs.length + 1 ≤ bV) (hn : 500000000 < n) : OpO st 0 0 1 1 (fM_sort1 fu n st a b (i3 f)) vs cs ks ws (.inr (match (if f = 3 then (tn K).head? else (tn K).getLast?).bind (fun t => l[t]?) with | none => jk 0 | some y => lf e y)) := by
  obtain ⟨a1, _, _, _⟩ := ha.g hM
  have hbv' : bV = 32000 := rfl
  unfold fM_sort1
  rw [if_neg a1, if_neg (show ¬ i3 f ≤ 2 by rw [show (2 : Int32) = i3 2 from rfl, i3_le (by omega) (by omega)]; omega), (ha.sza hM).1, hlen]
  by_cases h0 : K.length = 0
  · have hK : K = [] := List.length_eq_zero_iff.mp h0
    have hl0 : l = [] := List.length_eq_zero_iff.mp (by omega)
    have hres : (match (if f = 3 then (tn K).head? else (tn K).getLast?).bind (fun t => l[t]?) with | none => (jk 0 : JT (e + 1)) | some y => lf e y) = jk 0 := by
      subst hl0
      have : (if f = 3 then (tn K).head? else (tn K).getLast?).bind (fun t => ([] : List (JT e))[t]?) = none := by
        cases (if f = 3 then (tn K).head? else (tn K).getLast?) <;> rfl
      rw [this]
    rw [hres]
    obtain ⟨n, rfl⟩ : ∃ j, n = j + 1 := ⟨n - 1, by omega⟩
    rw [fM_sort1_b, if_pos rfl, if_pos (by rw [h0]; decide), if_neg (by decide)]
    exact OpO.wrap (fresh_o (k := 0) hM hbv (by omega))
  · obtain ⟨g, hg, hgr⟩ : ∃ g, (if f = 3 then (tn K).head? else (tn K).getLast?) = some g ∧ (g < K.length ∧ ∀ x, x < K.length → x ≠ g → Rl K f x g) := by
      have hne : tn K ≠ [] := fun h => by have := tn_len K; rw [h] at this; simp at this; omega
      rcases hf with rfl | rfl
      · rw [if_pos rfl]
        obtain ⟨t, T, hT⟩ := List.exists_cons_of_ne_nil hne
        have hh : (tn K).head? = some t := by rw [hT]; rfl
        obtain ⟨p1, p2⟩ := tn_head h2 hh
        exact ⟨t, hh, p1, fun x hx hx2 => by unfold Rl; rw [if_pos rfl]; exact p2 x hx hx2⟩
      · rw [if_neg (by decide)]
        have hh : (tn K).getLast? = some ((tn K).getLast hne) := List.getLast?_eq_some_getLast hne
        obtain ⟨p1, p2⟩ := tn_last h2 hh
        exact ⟨_, hh, p1, fun x hx hx2 => by unfold Rl; rw [if_neg (by decide)]; exact p2 x hx hx2⟩
    have hgl : g < l.length := by omega
    rw [hg, Option.bind_some, List.getElem?_eq_getElem hgl]
    obtain ⟨n, rfl⟩ : ∃ j, n = j + 1 := ⟨n - 1, by omega⟩
    rw [fM_sort1_b, if_pos rfl, if_neg (by rw [show (0 : Int32) = i3 0 from rfl, i3_le (by omega) (by omega)]; omega), if_neg (by decide), if_pos (by decide)]
    exact OpO.wrap (OpO.lf (bstL (wc := 0) (wn := 0) hM ha hb hok hd rfl hlen.symm h2 hf hgl hgr.2 (K.length - 1) n 1 0 (-1) (by omega) (by omega) (fun x hx hne => by omega) (by omega)))
theorem keyedM {fu n a b f : Nat} {x y : JT (e + 1)} (hf : f ≤ 4) (hM : MS st vs cs ks ws) (hH : Hs st) (ha : Arg vs cs ks (e + 1) x a) (hb : Arg vs cs ks (e + 1) y b) (hB : Bd vs cs ks ws) (hd : e ≤ fu) (hn : 500000000 < n) {l K : List (JT e)} (hx : x = ja l) (hy : y = ja K) (hlen : l.length = K.length) : OpO st 0 0 1 1 (fM_sort1 fu n st a b (i3 f)) vs cs ks ws (oKeyed f x y) := by
  subst hx hy
  obtain ⟨B1, B2, B3, B4⟩ := hB
  have hbv : bV = 32000 := rfl
  have hbk : bK = 32000 := rfl
  have hl := ha.la
  have hk := hb.la
  have hres : oKeyed f (ja l) (ja K) = (if f = 0 then .inr (ja ((byT (tn K) l).map (lf e))) else if f = 1 then .inr (ja ((grs K none (tn K)).map (fun g => (ja (byT g l) : JT (e + 1))))) else if f = 2 then .inr (ja ((byT (fsts K none (tn K)) l).map (lf e))) else if f = 3 then .inr (match ((tn K).head?).bind (fun t => l[t]?) with | none => jk 0 | some y => lf (e + 1) (lf e y)) else .inr (match ((tn K).getLast?).bind (fun t => l[t]?) with | none => jk 0 | some y => lf (e + 1) (lf e y))) := if_pos hlen
  rw [hres]
  have lfm : ∀ o : Option (JT e), lf (e + 1) (match o with | none => jk 0 | some y => lf e y) = (match o with | none => jk 0 | some y => lf (e + 1) (lf e y)) := fun o => by cases o <;> rfl
  have pre : ∀ f', f' = 1 ∨ f' = 2 → ∃ (cc s : Nat) (st' : xS), fM_sort1 fu n st a b (i3 f') = xmo (fun a => a.2.1) (fun a => a.2.2.1) (0 + cc) (0 + s) (fM_sort1_b fu n 2 (i3 0) (i3 ws.length) (i3 K.length) a b (i3 f') 0 0 0 st' (0 + cc) (0 + s)) ∧ MS st' vs cs ks ws ∧ Cost st st' cc s ∧ FrO st st' ∧ TabM st' K.length (tn K) := by
    intro f' hf'
    obtain ⟨a1, a2, _, _⟩ := ha.g hM
    obtain ⟨_, b2, _, b4⟩ := hb.g hM
    obtain ⟨cc, s, st', e1, m1, m2, m3, m4, m5, m6⟩ := rankedM hM hH hd hb.1 hb.2.1 hk hn
    refine ⟨cc, s, st', ?_, m1, m2, m3, (tn_len K).symm, fun x hx => tn_lt hx, m4, m5⟩
    unfold fM_sort1
    rw [if_neg a1, if_pos (show i3 f' ≤ 2 by rw [show (2 : Int32) = i3 2 from rfl, i3_le (by omega) (by omega)]; omega), e1, Option.bind_some, if_neg b2, (ha.1.sza hM).1, hlen, m6, hM.1.1.2.2.2]
    rfl
  obtain rfl | rfl | rfl | rfl | rfl : f = 0 ∨ f = 1 ∨ f = 2 ∨ f = 3 ∨ f = 4 := by omega
  · rw [if_pos rfl, ← lf_a]
    exact OpO.lf (sort0M hM hH ha.1 hb.1 hb.2.1 hlen hk hd (by omega) (by omega) hn)
  · rw [if_neg (by decide), if_pos rfl]
    obtain ⟨cc, s, st', e1, m1, m2, m3, m4⟩ := pre 1 (Or.inl rfl)
    rw [e1]
    refine OpO.step0 (OpO.wrap ?_) m2 m3
    exact srt1 (W0 := ws) (X := []) hb.2.1 hd rfl hlen.symm hk (by omega) K.length n 0 st' vs ks [] _ _ 0 0 0 ha.1 hb.1 (by omega) (Nat.le_refl _) (by rw [List.append_nil]; exact m1) trivial m4 (by omega) (by simp; omega) (by omega)
  · rw [if_neg (by decide), if_neg (by decide), if_pos rfl, ← lf_a]
    obtain ⟨cc, s, st', e1, m1, m2, m3, m4⟩ := pre 2 (Or.inr rfl)
    rw [e1]
    refine OpO.lf (OpO.step0 (OpO.wrap ?_) m2 m3)
    exact srt2 (W0 := ws) (X := []) ha.1 hb.1 hb.2.1 hd rfl hlen.symm hk (by omega) (by omega) K.length n 0 st' [] _ _ 0 0 0 (by omega) (Nat.le_refl _) (by rw [List.append_nil]; exact m1) trivial m4 (by omega)
  · rw [if_neg (by decide), if_neg (by decide), if_neg (by decide), if_pos rfl, ← lfm]
    have := bestM hM ha.1 hb.1 hb.2.1 hd hlen hk (Or.inl rfl) (by omega) hn
    rw [if_pos rfl] at this
    exact OpO.lf this
  · rw [if_neg (by decide), if_neg (by decide), if_neg (by decide), if_neg (by decide), ← lfm]
    have := bestM hM ha.1 hb.1 hb.2.1 hd hlen hk (Or.inr rfl) (by omega) hn
    rw [if_neg (by decide)] at this
    exact OpO.lf this
end BST
end ZBst90
section ZOne91
section ONA
variable {cs : List Nat} {W0 : List NP} {e d : Nat}
theorem array_s {st : xS} {n c : Nat} (g : ¬ (c = 0 ∨ xct st < c)) (h : xpi st 0 (c - 1) = 5) : fM_array n st c = some (0, 0, 0, c, st) := by
  unfold fM_array
  rw [if_neg g, if_pos h]
theorem array_f {st : xS} {n c : Nat} (g : ¬ (c = 0 ∨ xct st < c)) (h : ¬ xpi st 0 (c - 1) = 5) : fM_array n st c = some (1, 1, 6, 0, xsI st 8 1) := by
  unfold fM_array fM_refuse
  rw [if_neg g, if_neg h, Option.bind_some, if_pos rfl]
  exact xmo_some (Nat.le_refl _) (Nat.le_refl _)
theorem text_s {st : xS} {n c : Nat} (g : ¬ (c = 0 ∨ xct st < c)) (h : xpi st 0 (c - 1) = 4) : fM_text n st c = some (0, 0, 0, c, st) := by
  unfold fM_text
  rw [if_neg g, if_pos h]
theorem text_f {st : xS} {n c : Nat} (g : ¬ (c = 0 ∨ xct st < c)) (h : ¬ xpi st 0 (c - 1) = 4) : fM_text n st c = some (1, 1, 6, 0, xsI st 8 1) := by
  unfold fM_text fM_refuse
  rw [if_neg g, if_neg h, Option.bind_some, if_pos rfl]
  exact xmo_some (Nat.le_refl _) (Nat.le_refl _)
theorem ref_o {st : xS} {vs : List VR} {ks ws : List NP} {wc wn q cL : Nat} {k : Nat} (hM : MS st vs cs ks ws) : OpO st wc wn q cL (some (q, wc + 1, wn + 6, 0, xsI st 8 (i3 k))) vs cs ks ws (.inl k : Nat ⊕ JT d) := by
  refine ⟨1, 6, xsI st 8 (i3 k), rfl, ⟨by omega, ?_⟩, ⟨⟨vs, cs, ks, ws, hM.si (by decide) (by decide) (by decide) (by decide)⟩, FrO.at _ (by decide)⟩, (up_eq : va_up st.1 8 (i3 k) 8 = i3 k)⟩
  show 6 + pt st ≤ pt st + 6 * 2
  omega
theorem OpO.xs {st : xS} {vs : List VR} {ks ws : List NP} {wc wn q cL : Nat} {k : Nat} (hM : MS st vs cs ks ws) : OpO st wc wn q cL (xmo (fun a => a.2.1) (fun a => a.2.2.1) (wc + 1) (wn + 6) (some (q, wc + 1, wn + 6, 0, xsI st 8 (i3 k)))) vs cs ks ws (.inl k : Nat ⊕ JT d) := by
  have : xmo (fun a : Nat × Nat × Nat × Nat × xS => a.2.1) (fun a => a.2.2.1) (wc + 1) (wn + 6) (some (q, wc + 1, wn + 6, 0, xsI st 8 (i3 k))) = some (q, wc + 1, wn + 6, 0, xsI st 8 (i3 k)) := xmo_some (Nat.le_refl _) (Nat.le_refl _)
  rw [this]
  exact ref_o hM
theorem OpO.t2r {st : xS} {vs : List VR} {ks ws : List NP} {wc wn q1 q2 : Nat} {X : Option (Nat × Nat × Nat × Nat × xS)} {res : Nat ⊕ JT d} (hq : 1 ≤ q1) (h : OpO st 0 0 2 1 X vs cs ks ws res) : OpO st wc wn q2 q1 (X.bind fun o => (if o.1 = 0 then xmo (fun a => a.2.1) (fun a => a.2.2.1) (wc + o.2.1) (wn + o.2.2.1) (some (0, (wc + o.2.1), (wn + o.2.2.1), o.2.2.2.1, o.2.2.2.2)) else (if o.1 = 1 then xmo (fun a => a.2.1) (fun a => a.2.2.1) (wc + o.2.1) (wn + o.2.2.1) (some (q1, (wc + o.2.1), (wn + o.2.2.1), 0, o.2.2.2.2)) else (if o.1 = 2 then xmo (fun a => a.2.1) (fun a => a.2.2.1) (wc + o.2.1) (wn + o.2.2.1) (some (q2, (wc + o.2.1), (wn + o.2.2.1), 0, o.2.2.2.2)) else none)))) vs cs ks ws res := by
  refine h.map (fun cc s c st' => ?_) (Or.inr (fun cc s st' => ?_)) (Or.inr ⟨hq, fun cc s st' => ?_⟩)
  · rw [if_pos rfl]
    exact xmo_some (Nat.le_refl _) (Nat.le_refl _)
  · rw [if_neg (show ¬ (2 : Nat) = 0 by decide), if_neg (show ¬ (2 : Nat) = 1 by decide), if_pos rfl]
    exact xmo_some (Nat.le_refl _) (Nat.le_refl _)
  · rw [if_neg (show ¬ (1 : Nat) = 0 by decide), if_pos rfl]
    exact xmo_some (Nat.le_refl _) (Nat.le_refl _)
theorem lenM {st : xS} {vs : List VR} {ks ws : List NP} {n a : Nat} {x : JT (e + 1)} (hM : MS st vs cs ks ws) (ha : Arg vs cs ks (e + 1) x a) (hB : Bd vs cs ks ws) (hn : 5000000 < n) : OpO st 0 0 1 0 (fM_length n st a) vs cs ks ws (oLen x) := by
  obtain ⟨a1, _, a3, _⟩ := ha.g hM
  have hbv : bV = 32000 := rfl
  have hB1 := hB.1
  have nr : ∀ z : Int, -9007199254740991 ≤ z ∧ z ≤ 9007199254740991 → (numR z : Nat ⊕ JT (e + 1)) = .inr (jn z) := fun z hz => if_pos hz
  unfold fM_length
  rw [if_neg a1, a3]
  rcases jcases x with ⟨k, rfl⟩ | ⟨z, rfl⟩ | ⟨s, rfl⟩ | ⟨l, rfl⟩ | ⟨l, rfl⟩
  · have h3 : k < 3 := ha.2.1
    rw [kd_k]
    obtain rfl | rfl | rfl : k = 0 ∨ k = 1 ∨ k = 2 := by omega
    · rw [if_neg (by decide), if_neg (by decide), if_pos (by decide)]
      have := OpO.r1 (wc := 0) (wn := 0) (q := 1) (cL := 0) (number_o (d := e) (n := n) (z := 0) hM (by omega) (by omega) (by omega) (by omega))
      rw [nr 0 (by omega)] at this
      exact this
    · rw [if_pos (by decide)]
      exact refuse_o (k := 1) hM
    · rw [if_neg (by decide), if_pos (by decide)]
      exact refuse_o (k := 1) hM
  · have hz : -9007199254740991 ≤ z ∧ z ≤ 9007199254740991 := ha.2.1
    rw [kd_n, if_neg (by decide), if_neg (by decide), if_neg (by decide), if_pos (by decide), ha.1.num hM, abs_cW (by omega) (by omega)]
    have := OpO.r1 (wc := 0) (wn := 0) (q := 1) (cL := 0) (number_o (d := e) (n := n) (z := (z.natAbs : Nat)) hM (by omega) (by omega) (by omega) (by omega))
    rw [nr _ (by omega)] at this
    exact this
  · have hl := ha.ls
    rw [kd_s, if_neg (by decide), if_neg (by decide), if_neg (by decide), if_neg (by decide), (ha.1.szs hM).1, i3_64 (by omega)]
    have := OpO.r1 (wc := 0) (wn := 0) (q := 1) (cL := 0) (number_o (d := e) (n := n) (z := (s.length : Nat)) hM (by omega) (by omega) (by omega) (by omega))
    rw [nr _ (by omega)] at this
    exact this
  · have hl := ha.la
    rw [kd_a, if_neg (by decide), if_neg (by decide), if_neg (by decide), if_neg (by decide), (ha.1.sza hM).1, i3_64 (by omega)]
    have := OpO.r1 (wc := 0) (wn := 0) (q := 1) (cL := 0) (number_o (d := e) (n := n) (z := (l.length : Nat)) hM (by omega) (by omega) (by omega) (by omega))
    rw [nr _ (by omega)] at this
    exact this
  · have hl := ha.lo
    rw [kd_o, if_neg (by decide), if_neg (by decide), if_neg (by decide), if_neg (by decide), (ha.1.szo hM).1, i3_64 (by omega)]
    have := OpO.r1 (wc := 0) (wn := 0) (q := 1) (cL := 0) (number_o (d := e) (n := n) (z := (l.length : Nat)) hM (by omega) (by omega) (by omega) (by omega))
    rw [nr _ (by omega)] at this
    exact this
theorem rep_st {vs : List VR} {ks : List NP} {c : Nat} {s : Sx} (h : isStr vs cs c s) (hl : s.length ≤ 59999) : Rep vs cs ks (d + 1) (js s) c := by
  obtain ⟨h1, v, hv, a1, a2, a3, a4, a5⟩ := h
  exact ⟨h1, v, hv, a3, by rw [jc_s, strc_ln]; exact a4, by rw [jd_s]; omega, by rw [jc_s, strc_ln]; omega, a1, a2, a5⟩
theorem rep_sts {vs : List VR} {ks : List NP} {c d' : Nat} {L : List Sx} (h : Rep vs cs ks (d + 2) (ja (L.map (fun s => (js s : JT (d + 1))))) c) : Rep vs cs ks (d' + 2) (ja (L.map (fun s => (js s : JT (d' + 1))))) c := by
  obtain ⟨h1, v, hv, a1, a2, a3, a4, b1, b2, b3⟩ := h
  have hj : jd (d' + 2) (ja (L.map (fun s => (js s : JT (d' + 1))))) = jd (d + 2) (ja (L.map (fun s => (js s : JT (d + 1))))) := by
    rw [jd_a, jd_a, List.map_map, List.map_map]
    rfl
  have hc : (jc (d' + 2) (ja (L.map (fun s => (js s : JT (d' + 1)))))).length = (jc (d + 2) (ja (L.map (fun s => (js s : JT (d + 1)))))).length := by
    rw [jc_a, jc_a, lst_len, lst_len, List.flatMap_map, List.flatMap_map]
    rfl
  refine ⟨h1, v, hv, by rw [hj]; exact a1, by rw [hc]; exact a2, by rw [hj]; exact a3, by rw [hc]; exact a4, b1, by rw [b2, List.length_map, List.length_map], fun i x hx => ?_⟩
  rw [List.getElem?_map] at hx
  obtain ⟨s, hs, rfl⟩ := Option.map_eq_some_iff.mp hx
  obtain ⟨p, p1, p2⟩ := b3 i (js s) (by rw [List.getElem?_map, hs]; rfl)
  refine ⟨p, p1, ?_⟩
  have h2 := isStr_rep p2
  have h3 := p2.dw.2.2.2
  rw [jc_s, strc_ln] at h3
  exact rep_st h2 (by omega)
theorem byT_mp {α β : Type} (g : α → β) (T : List Nat) (l : List α) : byT T (l.map g) = (byT T l).map g := by
  unfold byT
  induction T with
  | nil => rfl
  | cons t T ih =>
    rw [List.filterMap_cons, List.filterMap_cons, List.getElem?_map]
    cases l[t]? with
    | none => exact ih
    | some x =>
      show g x :: _ = (x :: _).map g
      rw [List.map_cons, ih]
theorem nm_le {d' : Nat} : ∀ (l : List (Sx × JT d)), (l.flatMap (fun p => jc (d' + 1) (js p.1 : JT (d' + 1)))).length ≤ (l.flatMap (fun p => strc p.1 ++ jc d p.2)).length
  | [] => Nat.le_refl _
  | p :: l => by
    rw [List.flatMap_cons, List.flatMap_cons, List.length_append, List.length_append, List.length_append, jc_s]
    have := nm_le (d' := d') l
    omega
theorem keysL {vs : List VR} {ks : List NP} {fu a : Nat} {srt' : Bool} {l : List (Sx × JT (e + 1))} (ha : Rep vs cs ks (e + 2) (jo l) a) (hl4 : (jc (e + 2) (jo l)).length ≤ 4096) (hfu : 1 ≤ fu) (hbv : vs.length + 4 ≤ bV) (hbk : ks.length + (W0.length + 2 * l.length) ≤ bK) : ∀ (q n i : Nat) (st : xS) (W : List NP) (X : List (JT (e + 1))) (wc wn : Nat), i + q = l.length → W.length = i → MS st vs cs ks (W0 ++ W) → Hs st → RL vs cs ks (e + 1) W X → X = (l.take i).map (fun p => (js p.1 : JT (e + 1))) → 600000000 + q < n → OpO st wc wn 2 1 (fM_keys_b fu n 1 (i3 i) (i3 W0.length) a (if srt' then 1 else 0) st wc wn) vs cs ks W0 (if srt' then .inr (ja ((byT (tn (l.map (fun x => (js x.1 : JT 1)))) l).map (fun p => (js p.1 : JT (e + 1))))) else .inr (ja (l.map (fun p => (js p.1 : JT (e + 1)))))) := by
  have hbc : bC = 100000 := rfl
  have hbk' : bK = 32000 := rfl
  have hbv' : bV = 32000 := rfl
  have hl1 : l.length ≤ 4096 := Nat.le_trans (Nat.le_of_succ_le (len_o l)) hl4
  intro q
  induction q with
  | zero =>
    intro n i st W X wc wn hi hW hM hH hR hX hn
    obtain ⟨n, rfl⟩ : ∃ j, n = j + 1 := ⟨n - 1, by omega⟩
    obtain ⟨a1, _, _, _⟩ := ha.g hM
    rw [List.take_of_length_le (by omega)] at hX
    subst hX
    rw [fM_keys_b, if_neg a1, (ha.szo hM).1, if_pos (by rw [i3_le (by omega) (by omega)]; omega)]
    refine OpO.wrap ?_
    rcases whole_ax (n := n) hM hR (by omega) (by omega) (by omega) with ⟨cc, s, st1, v, g1, g2, g3, g4, g5⟩ | ⟨hbig, _⟩
    · rw [g1, Option.bind_some, if_pos rfl]
      dsimp only
      cases srt' with
      | false =>
        refine OpO.step (a := [v]) (b := []) (c := W) (cc := cc) (s := s) (OpO.wrap ?_) g3 g4.o
        rw [List.append_nil]
        exact OpO.old g2 g5
      | true =>
        refine OpO.step (a := [v]) (b := []) (c := W) (cc := cc) (s := s) (OpO.wrap ?_) g3 g4.o
        rw [List.append_nil]
        have g5' : Rep (vs ++ [v]) cs (ks ++ W) (0 + 2) (ja ((l.map (fun p => p.1)).map (fun s => (js s : JT (0 + 1))))) (vs.length + 1) := rep_sts (d := e) (by rw [List.map_map]; exact g5)
        rw [List.map_map] at g5'
        have := sort0M (n := n) (fu := fu) g2 (g4.o.2.2 hH) g5 g5' (fun x hx => by
          obtain ⟨p, hp, rfl⟩ := List.mem_map.mp hx
          intro c hc
          obtain ⟨i', hi'⟩ := List.getElem?_of_mem hp
          obtain ⟨k, nm, _, _, _, s1, _⟩ := ha.okid (n := n) hM hi'
          obtain ⟨h1, v', hv', _, _, _, _, hg⟩ := s1
          obtain ⟨j', hj'⟩ := List.getElem?_of_mem hc
          exact (hM.1.2.2.1 _ _ (hg j' c hj')).2) (by rw [List.length_map, List.length_map]) (by rw [List.length_map]; exact hl1) hfu (by rw [List.length_append]; simp; omega) (by rw [List.length_append, List.length_map]; omega) (by omega)
        rw [byT_mp] at this
        show OpO _ _ _ _ _ (if (1 : Int32) = 0 then _ else _) _ _ _ _ (.inr _)
        rw [if_neg (show ¬ ((1 : Int32) = 0) by decide)]
        exact OpO.l1 (cR := 1) (by omega) this
    · exfalso
      have h1 : jd (e + 2) (ja (l.map (fun p => (js p.1 : JT (e + 1))))) ≤ 0 + 1 := jd_a_le.mpr (fun x hx => by
        obtain ⟨p, _, rfl⟩ := List.mem_map.mp hx
        rw [jd_s]
        omega)
      have h2 : (jc (e + 2) (ja (l.map (fun p => (js p.1 : JT (e + 1)))))).length ≤ (jc (e + 2) (jo l)).length := by
        rw [jc_a, jc_o, lst_len, lst_len, List.flatMap_map]
        refine Nat.succ_le_succ ?_
        exact nm_le l
      exact hbig.elim (fun h => absurd (Nat.le_trans h h1) (by decide)) (fun h => absurd (Nat.le_trans h (Nat.le_trans h2 hl4)) (by decide))
  | succ q ih =>
    intro n i st W X wc wn hi hW hM hH hR hX hn
    obtain ⟨n, rfl⟩ : ∃ j, n = j + 1 := ⟨n - 1, by omega⟩
    obtain ⟨a1, _, _, _⟩ := ha.g hM
    obtain ⟨k, nm, e1, e2, r1, s1, sl⟩ := ha.okid (n := n) hM (List.getElem?_eq_getElem (show i < l.length by omega))
    obtain ⟨cc, s, st', e3, m1, m2, m3, _⟩ := wait_w (n := n) hM (a := nm) (b := 0) s1.le.2.1 (by omega) (by rw [List.length_append]; omega) (by omega)
    rw [fM_keys_b, if_neg a1, (ha.szo hM).1, if_neg (by rw [i3_le (by omega) (by omega)]; omega), e2, Option.bind_some, e3, Option.bind_some, i3_one]
    refine OpO.wrap (OpO.step0 (OpO.wrap ?_) m2 m3.o)
    rw [List.append_assoc] at m1
    exact ih n (i + 1) st' (W ++ [(nm, 0)]) (X ++ [js l[i].1]) (wc + cc) (wn + s) (by omega) (by rw [List.length_append, hW]; rfl) m1 (m3.o.2.2 hH) (hR.snoc (rep_st s1 sl) (by omega)) (by rw [List.take_succ_eq_append_getElem (show i < l.length by omega), List.map_append, hX]; rfl) (by omega)
theorem keysB {vs0 : List VR} {ks : List NP} {fu a : Nat} {y2 : Int32} {l : List (JT e)} (hl : l.length ≤ 4096) (hbk : ks.length + (W0.length + l.length) ≤ bK) : ∀ (q n i : Nat) (st : xS) (vs : List VR) (W : List NP) (X : List (JT (d + 1))) (wc wn : Nat), Rep vs cs ks (e + 1) (ja l) a → i + q = l.length → W.length = i → MS st vs cs ks (W0 ++ W) → RL vs cs ks (d + 1) W X → vs.length + q + 1 ≤ bV → 3000000 + q < n → OpO st wc wn 2 1 (fM_keysOf_b fu n 1 (i3 i) (i3 W0.length) a y2 st wc wn) vs cs ks W0 (.inr (ja (X ++ (List.range' i q).map (fun k => (jn (k : Nat) : JT (d + 1)))))) := by
  have hbc : bC = 100000 := rfl
  have hbk' : bK = 32000 := rfl
  have hbv' : bV = 32000 := rfl
  intro q
  induction q with
  | zero =>
    intro n i st vs W X wc wn ha hi hW hM hR hbv hn
    obtain ⟨n, rfl⟩ : ∃ j, n = j + 1 := ⟨n - 1, by omega⟩
    obtain ⟨a1, a2, a3, _⟩ := ha.g hM
    rw [fM_keysOf_b, array_s a1 a3, Option.bind_some, if_pos rfl, if_neg a2]
    dsimp only
    rw [if_neg a1, (ha.sza hM).1, if_pos (by rw [i3_le (by omega) (by omega)]; omega), List.range'_zero, List.map_nil, List.append_nil]
    exact OpO.wrap (OpO.wrap (OpO.l1 (cR := 1) (by omega) (whole_ao hM hR (by omega) (by omega) (by omega))))
  | succ q ih =>
    intro n i st vs W X wc wn ha hi hW hM hR hbv hn
    obtain ⟨n, rfl⟩ : ∃ j, n = j + 1 := ⟨n - 1, by omega⟩
    obtain ⟨a1, a2, a3, _⟩ := ha.g hM
    obtain ⟨c1, s1, st1, e1, m1, m2, m3, _⟩ := (numM_w (n := n) hM (z := (i : Nat)) (by omega) (by omega) (by omega) (by omega)).1 (by omega)
    obtain ⟨c2, s2, st2, e2, n1, n2, n3, _⟩ := wait_w (n := n) m1 (a := vs.length + 1) (b := 0) (by rw [List.length_append]; simp) (by omega) (by rw [List.length_append]; omega) (by omega)
    obtain ⟨_, b2, _, _⟩ := (ha.mv (vs' := [(3, 0, 0, 0, 1, ((i : Nat) : Int))])).g m1
    rw [fM_keysOf_b, array_s a1 a3, Option.bind_some, if_pos rfl, if_neg a2]
    dsimp only
    rw [if_neg a1, (ha.sza hM).1, if_neg (by rw [i3_le (by omega) (by omega)]; omega), i3_64 (by omega), e1, Option.bind_some, if_pos rfl, if_neg a2]
    dsimp only
    rw [e2, Option.bind_some, if_neg b2, i3_one]
    dsimp only
    refine OpO.wrap (OpO.wrap (OpO.stepv (a := [(3, 0, 0, 0, 1, ((i : Nat) : Int))]) (cc := c1) (s := s1) (OpO.wrap (OpO.step0 (OpO.wrap ?_) n2 n3.o)) m2 m3.o))
    rw [List.append_assoc] at n1
    have := ih n (i + 1) st2 (vs ++ [(3, 0, 0, 0, 1, ((i : Nat) : Int))]) (W ++ [(vs.length + 1, 0)]) (X ++ [jn (i : Nat)]) (wc + c1 + c2) (wn + s1 + s2) ha.mv (by omega) (by rw [List.length_append, hW]; rfl) n1 (hR.mv.snoc rep_n (by omega)) (by rw [List.length_append]; simp; omega) (by omega)
    rw [List.append_assoc] at this
    rw [List.range'_succ, List.map_cons]
    exact this
theorem keysM {st : xS} {vs : List VR} {ks ws : List NP} {fu n a : Nat} {srt' : Bool} {x : JT (e + 2)} (hM : MS st vs cs ks ws) (hH : Hs st) (ha : Arg vs cs ks (e + 2) x a) (hB : Bd vs cs ks ws) (hfu : 1 ≤ fu) (hn : 3000000000 < n) : OpO st 0 0 2 1 (fM_keysOf fu n st a (if srt' then 1 else 0)) vs cs ks ws (if srt' then oSortK x else oKeys x) := by
  obtain ⟨B1, B2, B3, B4⟩ := hB
  have hbv : bV = 32000 := rfl
  have hbk : bK = 32000 := rfl
  obtain ⟨a1, a2, a3, _⟩ := ha.g hM
  have ka := ha.k7
  obtain ⟨_, _, x5, x6⟩ := kdc ha.2.1 _ rfl
  unfold fM_keysOf
  rw [if_neg a1]
  by_cases h6 : kd (e + 2) x = 6
  · obtain ⟨l, rfl⟩ := x6 h6
    have hl := ha.lo
    rw [a3, kd_o, if_pos (by decide)]
    unfold fM_keys
    rw [hM.1.1.2.2.2]
    have := keysL (W0 := ws) (srt' := srt') (fu := fu) ha.1 ha.2.2.2.2 hfu (by omega) (by omega) l.length n 0 st [] [] 0 0 (by omega) rfl (by rw [List.append_nil]; exact hM) hH trivial rfl (by omega)
    cases srt' with
    | false => exact OpO.l1 (cR := 2) (cR' := 2) (by omega) this
    | true => exact OpO.l1 (cR := 2) (cR' := 2) (by omega) this
  · rw [if_neg (by rw [a3]; exact fun h => h6 ((ke (c := 6) ka (by omega)).mp h)), hM.1.1.2.2.2]
    have hsame : oSortK x = oKeys x := by
      rcases jcases x with ⟨k, rfl⟩ | ⟨z, rfl⟩ | ⟨s, rfl⟩ | ⟨l, rfl⟩ | ⟨l, rfl⟩ <;> first | rfl | exact absurd rfl h6
    rw [hsame, ite_self]
    by_cases h5 : kd (e + 2) x = 5
    · obtain ⟨l, rfl⟩ := x5 h5
      have hl := ha.la
      have := keysB (W0 := ws) (vs0 := vs) (fu := fu) (y2 := if srt' = true then 1 else 0) (d := e) (cs := cs) (a := a) hl (by omega) l.length n 0 st vs [] [] 0 0 ha.1 (by omega) rfl (by rw [List.append_nil]; exact hM) trivial (by omega) (by omega)
      rw [← List.range_eq_range'] at this
      exact this
    · have hk : oKeys x = .inl 1 := by
        rcases jcases x with ⟨k, rfl⟩ | ⟨z, rfl⟩ | ⟨s, rfl⟩ | ⟨l, rfl⟩ | ⟨l, rfl⟩ <;> first | rfl | exact absurd rfl h6 | exact absurd rfl h5
      rw [hk]
      obtain ⟨n, rfl⟩ : ∃ j, n = j + 1 := ⟨n - 1, by omega⟩
      rw [fM_keysOf_b, array_f a1 (by rw [a3]; exact fun h => h5 ((ke (c := 5) ka (by omega)).mp h)), Option.bind_some, if_neg (show ¬ (1 : Nat) = 0 by decide), if_pos rfl, if_neg a2]
      exact OpO.wrap (OpO.xs (k := 1) hM)
end ONA
end ZOne91
section ZOnb92
section ONB
variable {cs : List Nat} {W0 : List NP} {e d : Nat}
theorem isStr.chr {st : xS} {vs : List VR} {ks ws : List NP} {a i : Nat} {s : Sx} (hM : MS st vs cs ks ws) (h : isStr vs cs a s) (hi : i < s.length) : ¬ ((xpi st 2 (a - 1) + i3 i) < 0 ∨ xln st 3 ≤ (xpi st 2 (a - 1) + i3 i).toNatClampNeg) ∧ xba st 3 (xpi st 2 (a - 1) + i3 i).toNatClampNeg = i3 s[i] ∧ s[i] < 128 := by
  obtain ⟨a1, v, av, a4, asz, _, _, ag⟩ := h
  obtain ⟨g1, g2, _⟩ := hM.vc a1 av
  have hcc := hM.cl.2.1
  have hbc : bC = 100000 := rfl
  have hx := ag i s[i] (List.getElem?_eq_getElem hi)
  have la := (List.getElem?_eq_some_iff.mp hx).1
  obtain ⟨y1, y2⟩ := hM.1.2.2.1 _ _ hx
  have hln := hM.2.2.2.1.1
  rw [g2.2.1, i3_add, i3_N (by omega)]
  exact ⟨i3_id2 (by omega) (by omega), y1, y2⟩
theorem isStr.gsz {st : xS} {vs : List VR} {ks ws : List NP} {a : Nat} {s : Sx} (hM : MS st vs cs ks ws) (h : isStr vs cs a s) : ¬ (a = 0 ∨ xct st < a) ∧ xpi st 3 (a - 1) = i3 s.length ∧ xpi st 0 (a - 1) = 4 := by
  obtain ⟨a1, v, av, a4, asz, _, _, ag⟩ := h
  obtain ⟨g1, g2, _⟩ := hM.vc a1 av
  exact ⟨g1, by rw [g2.2.2.1, asz], by rw [g2.1, a4]; rfl⟩
theorem isStr.mc {vs : List VR} {cs' : List Nat} {a : Nat} {s : Sx} (h : isStr vs cs a s) : isStr vs (cs ++ cs') a s := by
  have := h.mono (vs' := []) (cs' := cs')
  rw [List.append_nil] at this
  exact this
theorem OpO.stepc {st st1 : xS} {vs : List VR} {cs : List Nat} {ks ws : List NP} {d : Nat} {wc wn cc s cR cL : Nat} {out : Option (Nat × Nat × Nat × Nat × xS)} {res : Nat ⊕ JT d} {b : List Nat} (h : OpO st1 (wc + cc) (wn + s) cR cL out vs (cs ++ b) ks ws res) (hc : Cost st st1 cc s) (hf : FrO st st1) : OpO st wc wn cR cL out vs cs ks ws res := by
  refine OpO.step (a := []) (b := b) (c := []) ?_ hc hf
  rw [List.append_nil, List.append_nil]
  exact h
def dn (k : Nat) : Int32 := iz ((k : Int) - 1)
theorem dn_s (k : Nat) : dn (k + 1) = i3 k := by
  unfold dn
  rw [i3_iz]
  congr 1
  omega
theorem dn_m (k : Nat) : i3 k + (-1) = dn k := by
  unfold dn
  rw [i3_iz, show (-1 : Int32) = iz (-1) from rfl]
  exact (Int32.ofInt_add _ _).symm
theorem dn_0 : dn 0 < 0 := by decide
theorem dn_i {k : Nat} : i3 k - 1 = dn k := by
  unfold dn
  rw [i3_iz, show (1 : Int32) = iz 1 from rfl]
  exact (Int32.ofInt_sub _ _).symm
theorem revS {vs : List VR} {ks ws : List NP} {a : Nat} {s : Sx} (hs : isStr vs cs a s) (hsl : s.length ≤ 4095) (hbv : vs.length + 1 ≤ bV) (hbc : cs.length + s.length ≤ bC) : ∀ (k n : Nat) (st : xS) (X : List Nat) (wc wn : Nat), k ≤ s.length → X.length + k = s.length → MS st vs (cs ++ X) ks ws → 300000 + k < n → OpO st wc wn 1 2 (fM_reversed_b n 1 (dn k) (i3 cs.length) a st wc wn) vs (cs ++ X) ks ws (.inr (js (X ++ (s.take k).reverse)) : Nat ⊕ JT (d + 1)) := by
  have hbc' : bC = 100000 := rfl
  have hbv' : bV = 32000 := rfl
  intro k
  induction k with
  | zero =>
    intro n st X wc wn hk hX hM hn
    obtain ⟨n, rfl⟩ : ∃ j, n = j + 1 := ⟨n - 1, by omega⟩
    rw [fM_reversed_b, if_pos rfl, if_pos dn_0, List.take_zero, List.reverse_nil, List.append_nil]
    exact OpO.wrap (OpO.l1 (cR := 1) (by omega) (string_o hM hbv (by omega)))
  | succ k ih =>
    intro n st X wc wn hk hX hM hn
    obtain ⟨n, rfl⟩ : ∃ j, n = j + 1 := ⟨n - 1, by omega⟩
    have hs' : isStr vs (cs ++ X) a s := hs.mc
    obtain ⟨g1, _, _⟩ := hs'.gsz hM
    obtain ⟨c1, c2, c3⟩ := hs'.chr hM (i := k) (by omega)
    obtain ⟨cc, w, st', e1, m1, m2, m3, _⟩ := letter_w (n := n) hM c3 (by rw [List.length_append]; omega) (by omega)
    rw [fM_reversed_b, if_pos rfl, dn_s, if_neg (i3_nn (by omega)), if_neg g1, if_neg c1, c2, e1, Option.bind_some, dn_m]
    refine OpO.wrap (OpO.stepc (b := [s[k]]) (OpO.wrap ?_) m2 m3.o)
    rw [List.append_assoc] at m1 ⊢
    have := ih n st' (X ++ [s[k]]) (wc + cc) (wn + w) (by omega) (by rw [List.length_append]; simp; omega) m1 (by omega)
    rw [List.take_succ_eq_append_getElem (show k < s.length by omega), List.reverse_append]
    rw [List.append_assoc] at this
    exact this
theorem revA {vs : List VR} {ks : List NP} {a : Nat} {l : List (JT e)} (ha : Rep vs cs ks (e + 1) (ja l) a) (hl : l.length ≤ 4096) (hbv : vs.length + 1 ≤ bV) (hbk : ks.length + (W0.length + l.length) ≤ bK) : ∀ (k n : Nat) (st : xS) (W : List NP) (X : List (JT e)) (wc wn : Nat), k ≤ l.length → W.length + k = l.length → MS st vs cs ks (W0 ++ W) → RL vs cs ks e W X → 3000000 + k < n → OpO st wc wn 1 2 (fM_reversed_b n 2 (dn k) (i3 W0.length) a st wc wn) vs cs ks W0 (.inr (ja (X ++ (l.take k).reverse))) := by
  have hbc' : bC = 100000 := rfl
  have hbk' : bK = 32000 := rfl
  intro k
  induction k with
  | zero =>
    intro n st W X wc wn hk hW hM hR hn
    obtain ⟨n, rfl⟩ : ∃ j, n = j + 1 := ⟨n - 1, by omega⟩
    rw [fM_reversed_b, if_neg (by decide), if_pos dn_0, List.take_zero, List.reverse_nil, List.append_nil]
    exact OpO.wrap (OpO.l1 (cR := 1) (by omega) (whole_ao hM hR hbv (by omega) (by omega)))
  | succ k ih =>
    intro n st W X wc wn hk hW hM hR hn
    obtain ⟨n, rfl⟩ : ∃ j, n = j + 1 := ⟨n - 1, by omega⟩
    obtain ⟨_, a2, _, _⟩ := ha.g hM
    obtain ⟨c, e1, r1⟩ := ha.kid (n := n) hM (List.getElem?_eq_getElem (show k < l.length by omega))
    obtain ⟨cc, s, st', e2, m1, m2, m3, _⟩ := wait_w (n := n) hM (a := c) (b := 0) r1.lev (by omega) (by rw [List.length_append]; omega) (by omega)
    rw [fM_reversed_b, if_neg (by decide), dn_s, if_neg (i3_nn (by omega)), e1, Option.bind_some, e2, Option.bind_some, if_neg a2, dn_m]
    refine OpO.wrap (OpO.step0 (OpO.wrap ?_) m2 m3.o)
    rw [List.append_assoc] at m1
    have := ih n st' (W ++ [(c, 0)]) (X ++ [l[k]]) (wc + cc) (wn + s) (by omega) (by rw [List.length_append]; simp; omega) m1 (hR.snoc r1 (by omega)) (by omega)
    rw [List.take_succ_eq_append_getElem (show k < l.length by omega), List.reverse_append]
    rw [List.append_assoc] at this
    exact this
theorem revM {st : xS} {vs : List VR} {ks ws : List NP} {n a : Nat} {x : JT (e + 1)} (hM : MS st vs cs ks ws) (ha : Arg vs cs ks (e + 1) x a) (hB : Bd vs cs ks ws) (hn : 3000000000 < n) : OpO st 0 0 1 2 (fM_reversed n st a) vs cs ks ws (oRev x) := by
  obtain ⟨B1, B2, B3, B4⟩ := hB
  have hbv : bV = 32000 := rfl
  have hbk : bK = 32000 := rfl
  have hbc : bC = 100000 := rfl
  obtain ⟨a1, a2, a3, _⟩ := ha.g hM
  unfold fM_reversed
  rw [if_neg a1]
  rcases jcases x with ⟨k, rfl⟩ | ⟨z, rfl⟩ | ⟨s, rfl⟩ | ⟨l, rfl⟩ | ⟨l, rfl⟩
  · have h3 : k < 3 := ha.2.1
    rw [kd_k] at a3
    show OpO _ _ _ _ _ _ _ _ _ _ (if k = 0 then .inr (ja []) else .inl 1)
    by_cases h0 : k = 0
    · subst h0
      rw [a3, if_pos (by decide), if_pos rfl, hM.1.1.2.2.2]
      exact OpO.l1 (cR := 1) (by omega) (whole_ao (W := []) (l := []) (by rw [List.append_nil]; exact hM) trivial (by omega) (by simp; omega) (by omega))
    · rw [a3, if_neg (show ¬ i3 k = 0 from fun h => h0 ((ke (c := 0) (by omega) (by omega)).mp h)), if_neg (show ¬ i3 k = 4 from fun h => by have := (ke (k := k) (c := 4) (by omega) (by omega)).mp h; omega), if_neg h0, array_f a1 (by rw [a3]; exact fun h => by have := (ke (k := k) (c := 5) (by omega) (by omega)).mp h; omega), Option.bind_some, if_neg (show ¬ (1 : Nat) = 0 by decide), if_pos rfl]
      exact OpO.xs (k := 1) hM
  · rw [kd_n] at a3
    rw [a3, if_neg (by decide), if_neg (by decide), array_f a1 (by rw [a3]; decide), Option.bind_some, if_neg (show ¬ (1 : Nat) = 0 by decide), if_pos rfl]
    exact OpO.xs (k := 1) hM
  · rw [kd_s] at a3
    have hl := ha.ls
    rw [a3, if_neg (by decide), if_pos (by decide), (ha.1.szs hM).1, dn_i, hM.1.1.2.1]
    have := revS (d := e) (ws := ws) (ks := ks) (isStr_rep ha.1) (by omega) (by omega) (by omega) s.length n st [] 0 0 (Nat.le_refl _) (by simp) (by rw [List.append_nil]; exact hM) (by omega)
    rw [List.take_length, List.append_nil] at this
    exact this
  · rw [kd_a] at a3
    have hl := ha.la
    rw [array_s a1 (by rw [a3]; rfl), a3, if_neg (by decide), if_neg (by decide), Option.bind_some, if_pos rfl]
    dsimp only
    rw [if_neg a1, (ha.1.sza hM).1, dn_i, hM.1.1.2.2.2]
    have := revA (W0 := ws) ha.1 (by omega) (by omega) (by omega) l.length n st [] [] 0 0 (Nat.le_refl _) (by simp) (by rw [List.append_nil]; exact hM) trivial (by omega)
    rw [List.take_length] at this
    exact OpO.wrap this
  · rw [kd_o] at a3
    rw [a3, if_neg (by decide), if_neg (by decide), array_f a1 (by rw [a3]; decide), Option.bind_some, if_neg (show ¬ (1 : Nat) = 0 by decide), if_pos rfl]
    exact OpO.xs (k := 1) hM
theorem expL {ks : List NP} {a : Nat} {s : Sx} (hl : s.length ≤ 4095) (hbk : ks.length + (W0.length + s.length) ≤ bK) : ∀ (q n i : Nat) (st : xS) (vs : List VR) (W : List NP) (X : List (JT (d + 1))) (wc wn : Nat), isStr vs cs a s → i + q = s.length → W.length = i → MS st vs cs ks (W0 ++ W) → RL vs cs ks (d + 1) W X → vs.length + q + 1 ≤ bV → 3000000 + q < n → OpO st wc wn 2 1 (fM_explode_b n 1 (i3 i) (i3 W0.length) a st wc wn) vs cs ks W0 (.inr (ja (X ++ (s.drop i).map (fun c => (jn (c : Nat) : JT (d + 1)))))) := by
  have hbc : bC = 100000 := rfl
  have hbk' : bK = 32000 := rfl
  have hbv' : bV = 32000 := rfl
  intro q
  induction q with
  | zero =>
    intro n i st vs W X wc wn ha hi hW hM hR hbv hn
    obtain ⟨n, rfl⟩ : ∃ j, n = j + 1 := ⟨n - 1, by omega⟩
    obtain ⟨a1, a2, a3⟩ := ha.gsz hM
    rw [fM_explode_b, text_s a1 a3, Option.bind_some, if_pos rfl, if_neg (fun h => a1 (Or.inr h))]
    dsimp only
    rw [if_neg a1, a2, if_pos (by rw [i3_le (by omega) (by omega)]; omega), List.drop_eq_nil_of_le (by omega), List.map_nil, List.append_nil]
    exact OpO.wrap (OpO.wrap (OpO.l1 (cR := 1) (by omega) (whole_ao hM hR (by omega) (by omega) (by omega))))
  | succ q ih =>
    intro n i st vs W X wc wn ha hi hW hM hR hbv hn
    obtain ⟨n, rfl⟩ : ∃ j, n = j + 1 := ⟨n - 1, by omega⟩
    obtain ⟨a1, a2, a3⟩ := ha.gsz hM
    obtain ⟨h1, h2, h3⟩ := ha.chr hM (i := i) (by omega)
    obtain ⟨c1, s1, st1, e1, m1, m2, m3, _⟩ := (numM_w (n := n) hM (z := (s[i] : Nat)) (by omega) (by omega) (by omega) (by omega)).1 (by omega)
    obtain ⟨c2, s2, st2, e2, n1, n2, n3, _⟩ := wait_w (n := n) m1 (a := vs.length + 1) (b := 0) (by rw [List.length_append]; simp) (by omega) (by rw [List.length_append]; omega) (by omega)
    obtain ⟨b1, _, _⟩ := (ha.mo (vs' := [(3, 0, 0, 0, 1, ((s[i] : Nat) : Int))])).gsz m1
    rw [fM_explode_b, text_s a1 a3, Option.bind_some, if_pos rfl, if_neg (fun h => a1 (Or.inr h))]
    dsimp only
    rw [if_neg a1, a2, if_neg (by rw [i3_le (by omega) (by omega)]; omega), if_neg a1, if_neg h1, h2, i3_64 (by omega), e1, Option.bind_some, if_pos rfl]
    dsimp only
    rw [e2, Option.bind_some, if_neg (fun h => b1 (Or.inr h)), i3_one]
    dsimp only
    refine OpO.wrap (OpO.wrap (OpO.stepv (a := [(3, 0, 0, 0, 1, ((s[i] : Nat) : Int))]) (cc := c1) (s := s1) (OpO.wrap (OpO.step0 (OpO.wrap ?_) n2 n3.o)) m2 m3.o))
    rw [List.append_assoc] at n1
    have := ih n (i + 1) st2 (vs ++ [(3, 0, 0, 0, 1, ((s[i] : Nat) : Int))]) (W ++ [(vs.length + 1, 0)]) (X ++ [jn (s[i] : Nat)]) (wc + c1 + c2) (wn + s1 + s2) ha.mo (by omega) (by rw [List.length_append, hW]; rfl) n1 (hR.mv.snoc rep_n (by omega)) (by rw [List.length_append]; simp; omega) (by omega)
    rw [List.append_assoc] at this
    rw [List.drop_eq_getElem_cons (show i < s.length by omega), List.map_cons]
    exact this
theorem expM {st : xS} {vs : List VR} {ks ws : List NP} {n a : Nat} {x : JT (e + 2)} (hM : MS st vs cs ks ws) (ha : Arg vs cs ks (e + 2) x a) (hB : Bd vs cs ks ws) (hn : 3000000000 < n) : OpO st 0 0 2 1 (fM_explode n st a) vs cs ks ws (oExp x) := by
  obtain ⟨B1, B2, B3, B4⟩ := hB
  have hbv : bV = 32000 := rfl
  have hbk : bK = 32000 := rfl
  obtain ⟨a1, a2, a3, _⟩ := ha.g hM
  have ka := ha.k7
  obtain ⟨_, x4, _, _⟩ := kdc ha.2.1 _ rfl
  unfold fM_explode
  rw [hM.1.1.2.2.2]
  by_cases h4 : kd (e + 2) x = 4
  · obtain ⟨s, rfl⟩ := x4 h4
    have hl := ha.ls
    exact expL (W0 := ws) (d := e) (ks := ks) hl (by omega) s.length n 0 st vs [] [] 0 0 (isStr_rep ha.1) (by omega) rfl (by rw [List.append_nil]; exact hM) trivial (by omega) (by omega)
  · have hk : oExp x = .inl 1 := by
      rcases jcases x with ⟨k, rfl⟩ | ⟨z, rfl⟩ | ⟨s, rfl⟩ | ⟨l, rfl⟩ | ⟨l, rfl⟩ <;> first | rfl | exact absurd rfl h4
    rw [hk]
    obtain ⟨n, rfl⟩ : ∃ j, n = j + 1 := ⟨n - 1, by omega⟩
    rw [fM_explode_b, text_f a1 (by rw [a3]; exact fun h => h4 ((ke (c := 4) ka (by omega)).mp h)), Option.bind_some, if_neg (show ¬ (1 : Nat) = 0 by decide), if_pos rfl, if_neg a2]
    exact OpO.wrap (OpO.xs (k := 1) hM)
theorem casL {vs : List VR} {ks ws : List NP} {a : Nat} {s : Sx} {cap : Bool} (hs : isStr vs cs a s) (hsl : s.length ≤ 4095) (hbv : vs.length + 1 ≤ bV) (hbc : cs.length + s.length ≤ bC) : ∀ (q n i : Nat) (st : xS) (X : List Nat) (wc wn : Nat), i + q = s.length → X.length = i → MS st vs (cs ++ X) ks ws → 300000 + q < n → OpO st wc wn 2 1 (fM_cased_b n 1 (i3 i) (i3 cs.length) a (if cap then 1 else 0) st wc wn) vs (cs ++ X) ks ws (.inr (js (X ++ (s.drop i).map (if cap then upC else lowC))) : Nat ⊕ JT (d + 1)) := by
  have hbc' : bC = 100000 := rfl
  have hbv' : bV = 32000 := rfl
  intro q
  induction q with
  | zero =>
    intro n i st X wc wn hi hX hM hn
    obtain ⟨n, rfl⟩ : ∃ j, n = j + 1 := ⟨n - 1, by omega⟩
    have hs' : isStr vs (cs ++ X) a s := hs.mc
    obtain ⟨g1, g2, g3⟩ := hs'.gsz hM
    rw [fM_cased_b, text_s g1 g3, Option.bind_some, if_pos rfl, if_neg (fun h => g1 (Or.inr h))]
    dsimp only
    rw [if_neg g1, g2, if_pos (by rw [i3_le (by omega) (by omega)]; omega), List.drop_eq_nil_of_le (by omega), List.map_nil, List.append_nil]
    exact OpO.wrap (OpO.wrap (OpO.l1 (cR := 1) (by omega) (string_o hM hbv (by omega))))
  | succ q ih =>
    intro n i st X wc wn hi hX hM hn
    obtain ⟨n, rfl⟩ : ∃ j, n = j + 1 := ⟨n - 1, by omega⟩
    have hs' : isStr vs (cs ++ X) a s := hs.mc
    obtain ⟨g1, g2, g3⟩ := hs'.gsz hM
    obtain ⟨c1, c2, c3⟩ := hs'.chr hM (i := i) (by omega)
    have body : ∀ c' : Nat, c' < 128 → c' = (if cap then upC else lowC) s[i] → OpO st wc wn 2 1 ((fM_letter n st (i3 c')).bind fun o16 => (xmo (fun a => a.2.1) (fun a => a.2.2.1) ((wc + 0) + o16.1) ((wn + 0) + o16.2.1) (fM_cased_b n 1 (i3 (i + 1)) (i3 cs.length) a (if cap then 1 else 0) o16.2.2 ((wc + 0) + o16.1) ((wn + 0) + o16.2.1)))) vs (cs ++ X) ks ws (.inr (js (X ++ ((if cap then upC else lowC) s[i] :: (s.drop (i + 1)).map (if cap then upC else lowC)))) : Nat ⊕ JT (d + 1)) := by
      intro c' hc' he
      obtain ⟨cc, w, st', e1, m1, m2, m3, _⟩ := letter_w (n := n) hM hc' (by rw [List.length_append]; omega) (by omega)
      rw [e1, Option.bind_some]
      refine OpO.stepc (b := [c']) (OpO.wrap ?_) m2 m3.o
      rw [List.append_assoc] at m1 ⊢
      have := ih n (i + 1) st' (X ++ [c']) (wc + cc) (wn + w) (by omega) (by rw [List.length_append, hX]; rfl) m1 (by omega)
      rw [List.append_assoc] at this
      rw [← he]
      exact this
    have l65 : (i3 s[i] < 65) = (s[i] < 65) := i3_lt (b := 65) (by omega) (by omega)
    have l90 : ((90 : Int32) < i3 s[i]) = (90 < s[i]) := i3_lt (a := 90) (by omega) (by omega)
    have l97 : (i3 s[i] < 97) = (s[i] < 97) := i3_lt (b := 97) (by omega) (by omega)
    have l122 : ((122 : Int32) < i3 s[i]) = (122 < s[i]) := i3_lt (a := 122) (by omega) (by omega)
    rw [fM_cased_b, text_s g1 g3, Option.bind_some, if_pos rfl, if_neg (fun h => g1 (Or.inr h))]
    dsimp only
    rw [if_neg g1, g2, if_neg (by rw [i3_le (by omega) (by omega)]; omega), if_neg g1, if_neg c1, c2, i3_one, List.drop_eq_getElem_cons (show i < s.length by omega), List.map_cons]
    refine OpO.wrap (OpO.wrap ?_)
    cases cap with
    | false =>
      rw [if_pos (show (if false = true then (1 : Int32) else 0) = 0 from rfl), if_pos (show (if false = true then (1 : Int32) else 0) = 0 from rfl)]
      by_cases h1 : s[i] < 65
      · rw [if_pos (by rw [l65]; exact h1)]
        exact body s[i] c3 (show _ = lowC s[i] by unfold lowC; rw [if_neg (by omega)])
      · rw [if_neg (by rw [l65]; exact h1)]
        by_cases h2 : 90 < s[i]
        · rw [if_pos (by rw [l90]; exact h2)]
          exact body s[i] c3 (show _ = lowC s[i] by unfold lowC; rw [if_neg (by omega)])
        · rw [if_neg (by rw [l90]; exact h2), show (32 : Int32) = i3 32 from rfl, i3_add]
          exact body (s[i] + 32) (by omega) (show _ = lowC s[i] by unfold lowC; rw [if_pos (by omega)])
    | true =>
      rw [if_neg (show ¬ (if true = true then (1 : Int32) else 0) = 0 by decide)]
      by_cases h1 : s[i] < 97
      · rw [if_pos (by rw [l97]; exact h1)]
        exact body s[i] c3 (show _ = upC s[i] by unfold upC; rw [if_neg (by omega)])
      · rw [if_neg (by rw [l97]; exact h1)]
        by_cases h2 : 122 < s[i]
        · rw [if_pos (by rw [l122]; exact h2)]
          exact body s[i] c3 (show _ = upC s[i] by unfold upC; rw [if_neg (by omega)])
        · have hm : i3 s[i] + (-32) = i3 (s[i] - 32) := by
            rw [i3_iz, i3_iz, show (-32 : Int32) = iz (-32) from rfl]
            show Int32.ofInt _ + Int32.ofInt _ = Int32.ofInt _
            rw [← Int32.ofInt_add]
            congr 1
            omega
          rw [if_neg (by rw [l122]; exact h2), hm]
          exact body (s[i] - 32) (by omega) (show _ = upC s[i] by unfold upC; rw [if_pos (by omega)])
theorem casM {st : xS} {vs : List VR} {ks ws : List NP} {n a : Nat} {cap : Bool} {x : JT (e + 1)} (hM : MS st vs cs ks ws) (ha : Arg vs cs ks (e + 1) x a) (hB : Bd vs cs ks ws) (hn : 3000000000 < n) : OpO st 0 0 2 1 (fM_cased n st a (if cap then 1 else 0)) vs cs ks ws (oCase (if cap then upC else lowC) x) := by
  obtain ⟨B1, B2, B3, B4⟩ := hB
  have hbv : bV = 32000 := rfl
  have hbc : bC = 100000 := rfl
  obtain ⟨a1, a2, a3, _⟩ := ha.g hM
  have ka := ha.k7
  obtain ⟨_, x4, _, _⟩ := kdc ha.2.1 _ rfl
  unfold fM_cased
  rw [hM.1.1.2.1]
  by_cases h4 : kd (e + 1) x = 4
  · obtain ⟨s, rfl⟩ := x4 h4
    have hl := ha.ls
    have := casL (d := e) (ks := ks) (ws := ws) (cap := cap) (isStr_rep ha.1) hl (by omega) (by omega) s.length n 0 st [] 0 0 (by omega) rfl (by rw [List.append_nil]; exact hM) (by omega)
    rw [List.append_nil] at this
    exact this
  · have hk : oCase (if cap then upC else lowC) x = .inl 1 := by
      rcases jcases x with ⟨k, rfl⟩ | ⟨z, rfl⟩ | ⟨s, rfl⟩ | ⟨l, rfl⟩ | ⟨l, rfl⟩ <;> first | rfl | exact absurd rfl h4
    rw [hk]
    obtain ⟨n, rfl⟩ : ∃ j, n = j + 1 := ⟨n - 1, by omega⟩
    rw [fM_cased_b, text_f a1 (by rw [a3]; exact fun h => h4 ((ke (c := 4) ka (by omega)).mp h)), Option.bind_some, if_neg (show ¬ (1 : Nat) = 0 by decide), if_pos rfl, if_neg a2]
    exact OpO.wrap (OpO.xs (k := 1) hM)
end ONB
end ZOnb92
