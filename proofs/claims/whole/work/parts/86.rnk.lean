section RNK
def Fr3 (st st' : xS) : Prop := st'.1 = st.1 ∧ st'.2.1 = st.2.1 ∧ (∀ k, k ≠ 13 → k ≠ 14 → xba st' k = xba st k) ∧ st'.2.2.2 = st.2.2.2
theorem Fr3.refl {st : xS} : Fr3 st st := ⟨rfl, rfl, fun _ _ _ => rfl, rfl⟩
theorem Fr3.trans {a b c : xS} (h : Fr3 a b) (h' : Fr3 b c) : Fr3 a c := ⟨h'.1.trans h.1, h'.2.1.trans h.2.1, fun k k1 k2 => (h'.2.2.1 k k1 k2).trans (h.2.2.1 k k1 k2), h'.2.2.2.trans h.2.2.2⟩
theorem Fr3.set {st : xS} {k i : Nat} {v : Int32} (hk : k = 13 ∨ k = 14) : Fr3 st (xsB st k i v) := ⟨rfl, rfl, fun j h1 h2 => up_ne (by omega), rfl⟩
theorem MS.fr3 {st st' : xS} {vs : List VR} {cs : List Nat} {ks ws : List NP} (hM : MS st vs cs ks ws) (hf : Fr3 st st') : MS st' vs cs ks ws := by
  obtain ⟨f1, f2, f3, f4⟩ := hf
  have h3 : xba st' 3 = xba st 3 := f3 3 (by decide) (by decide)
  obtain ⟨⟨⟨v1, v2, v3, v4⟩, w1, w2, w3, w4⟩, r1, r2, r3, r4, r5, r6, r7⟩ := hM
  refine ⟨⟨⟨?_, ?_, ?_, ?_⟩, ?_, ?_, ?_, ?_⟩, ?_, ?_, ?_, ?_, ?_, ?_, ?_⟩
  · rw [show xsi st' = xsi st from f1]; exact v1
  · rw [show xsi st' = xsi st from f1]; exact v2
  · rw [show xsi st' = xsi st from f1]; exact v3
  · rw [show xsi st' = xsi st from f1]; exact v4
  · intro i v hv
    have := w1 i v hv
    unfold VRat at this ⊢
    unfold xpi xpl at this ⊢
    rw [f4]
    exact this
  · intro i c hc; rw [h3]; exact w2 i c hc
  · intro i p hp; unfold xvc; rw [f4]; exact w3 i p hp
  · intro i p hp; unfold xvc; rw [f4]; exact w4 i p hp
  · intro i; unfold xvc xct; rw [f4]; exact r1 i
  · unfold xct xln; rw [f4, f2]; exact r2
  · unfold xln; rw [f2]; exact r3
  · unfold xln; rw [f2]; exact r4
  · unfold xln; rw [f2]; exact r5
  · intro i; unfold xvc xct; rw [f4]; exact r6 i
  · unfold xsr xgl; rw [f4]; exact r7
theorem Fr3.o {st st' : xS} (h : Fr3 st st') : FrO st st' := ⟨fun k _ => by unfold xsi; rw [h.1], fun k hk => ⟨by unfold xln; rw [h.2.1], h.2.2.1 k (by omega) (by omega)⟩, fun x => by
  unfold Hs xln at x ⊢
  rw [h.2.1]
  exact x⟩
theorem Fr3.pe {st st' : xS} (h : Fr3 st st') : pt st' = pt st := by
  unfold pt xln xct
  rw [h.2.1, h.2.2.2]
theorem Fr3.ln {st st' : xS} (h : Fr3 st st') (k : Nat) : xln st' k = xln st k := by unfold xln; rw [h.2.1]
def RkO (wc wn : Nat) (X : Option (Nat × Nat × xS)) (Q : xS → Prop) : Prop := ∃ stf, X = some (wc, wn, stf) ∧ Q stf
theorem RkO.wrap {wc wn : Nat} {X : Option (Nat × Nat × xS)} {Q : xS → Prop} (h : RkO wc wn X Q) : RkO wc wn (xmo (fun a => a.1) (fun a => a.2.1) wc wn X) Q := by
  obtain ⟨stf, h1, h2⟩ := h
  refine ⟨stf, ?_, h2⟩
  rw [h1]
  exact xmo_some (Nat.le_refl _) (Nat.le_refl _)
variable {vs : List VR} {cs : List Nat} {ks ws : List NP} {d : Nat} {K : List (JT d)} {c : Nat}
theorem xsB_same {st : xS} {k i : Nat} {v : Int32} : xba (xsB st k i v) k = upd (xba st k) i v := up_eq
theorem xsB_oth {st : xS} {k j i : Nat} {v : Int32} (h : j ≠ k) : xba (xsB st k i v) j = xba st j := up_ne h
theorem rk4 {fu tot mid to N wc wn : Nat} {y3 y4 : Int32} {Q : xS → Prop} (hd : d ≤ fu) (hc : Rep vs cs ks (d + 1) (ja K) c) (hok : ∀ x ∈ K, jok d x) (ht : tot = K.length) (h2 : tot ≤ 4096) (hm : mid ≤ tot) (hto : to ≤ tot) (hN : 5000001 ≤ N) : ∀ (m n k a b : Nat) (A B : List Nat) (st : xS), MS st vs cs ks ws → tot ≤ xln st 13 → tot ≤ xln st 14 → A.length + B.length = m → (∀ x ∈ A, x < tot) → (∀ x ∈ B, x < tot) → seg (xba st 13) a (A.map i3) → seg (xba st 13) b (B.map i3) → a + A.length = mid → b + B.length = to → k + m = to → N + m + 1 ≤ n →
    (∀ (n' : Nat) (y9 y8 y7 y6 y5 : Int32) (st' : xS), N ≤ n' → Fr3 st st' → xba st' 13 = xba st 13 → seg (xba st' 14) k ((List.merge A B (kle K)).map i3) → (∀ i, i < k ∨ to ≤ i → xba st' 14 i = xba st 14 i) → RkO wc wn (fM_ranked_b fu n' 3 y3 (i3 tot) c (y4 + (2 * y3)) y9 y8 y7 y6 y5 st' wc wn) Q) →
    RkO wc wn (fM_ranked_b fu n 4 y3 (i3 tot) c y4 (i3 k) (i3 to) (i3 mid) (i3 b) (i3 a) st wc wn) Q := by
  intro m
  induction m with
  | zero =>
    intro n k a b A B st hM _ _ hl _ _ _ _ _ _ hk hn hK
    obtain ⟨n, rfl⟩ : ∃ j, n = j + 1 := ⟨n - 1, by omega⟩
    obtain rfl : A = [] := List.length_eq_zero_iff.mp (by omega)
    obtain rfl : B = [] := List.length_eq_zero_iff.mp (by omega)
    rw [fM_ranked_b, if_neg (by decide), if_neg (by decide), if_neg (by decide), if_pos rfl, if_pos (by rw [i3_le (by omega) (by omega)]; omega)]
    exact RkO.wrap (hK n _ _ _ _ _ st (by omega) Fr3.refl rfl (by simp [seg_nil]) (fun _ _ => rfl))
  | succ m ih =>
    intro n k a b A B st hM h13 h14 hl hA hB sA sB ha hbb hk hn hK
    obtain ⟨n, rfl⟩ : ∃ j, n = j + 1 := ⟨n - 1, by omega⟩
    have fromB : ∀ (y : Nat) (B' : List Nat), B = y :: B' → List.merge A B (kle K) = y :: List.merge A B' (kle K) → RkO wc wn (fM_ranked_b fu n 4 y3 (i3 tot) c y4 (i3 k + 1) (i3 to) (i3 mid) (i3 b + 1) (i3 a) (xsB st 14 (i3 k).toNatClampNeg ((xba st 13) (i3 b).toNatClampNeg)) wc wn) Q := by
      intro y B' eB eM
      subst eB
      rw [List.length_cons] at hl hbb
      obtain ⟨s1, s2⟩ := seg_cons.mp sB
      rw [i3_N (by omega), i3_N (by omega), s1, i3_one, i3_one]
      have e13 : xba (xsB st 14 k (i3 y)) 13 = xba st 13 := xsB_oth (by decide)
      refine ih n (k + 1) a (b + 1) A B' (xsB st 14 k (i3 y)) (hM.fr3 (Fr3.set (Or.inr rfl))) h13 h14 (by omega) hA (fun x hx => hB x (List.mem_cons_of_mem _ hx)) (by rw [e13]; exact sA) (by rw [e13]; exact s2) ha (by omega) (by omega) (by omega) (fun n' y9 y8 y7 y6 y5 st' hn' f1 f2 f3 f4 => ?_)
      refine hK n' y9 y8 y7 y6 y5 st' hn' ((Fr3.set (Or.inr rfl)).trans f1) (f2.trans e13) ?_ (fun i hi => ?_)
      · rw [eM, List.map_cons]
        refine seg_cons.mpr ⟨?_, f3⟩
        rw [f4 k (Or.inl (by omega)), xsB_same, upd_eq]
      · rw [f4 i (by omega), xsB_same, upd_ne (by omega)]
    have fromA : ∀ (x : Nat) (A' : List Nat), A = x :: A' → List.merge A B (kle K) = x :: List.merge A' B (kle K) → RkO wc wn (fM_ranked_b fu n 4 y3 (i3 tot) c y4 (i3 k + 1) (i3 to) (i3 mid) (i3 b) (i3 a + 1) (xsB st 14 (i3 k).toNatClampNeg ((xba st 13) (i3 a).toNatClampNeg)) wc wn) Q := by
      intro x A' eA eM
      subst eA
      rw [List.length_cons] at hl ha
      obtain ⟨s1, s2⟩ := seg_cons.mp sA
      rw [i3_N (by omega), i3_N (by omega), s1, i3_one, i3_one]
      have e13 : xba (xsB st 14 k (i3 x)) 13 = xba st 13 := xsB_oth (by decide)
      refine ih n (k + 1) (a + 1) b A' B (xsB st 14 k (i3 x)) (hM.fr3 (Fr3.set (Or.inr rfl))) h13 h14 (by omega) (fun y hy => hA y (List.mem_cons_of_mem _ hy)) hB (by rw [e13]; exact s2) (by rw [e13]; exact sB) (by omega) hbb (by omega) (by omega) (fun n' y9 y8 y7 y6 y5 st' hn' f1 f2 f3 f4 => ?_)
      refine hK n' y9 y8 y7 y6 y5 st' hn' ((Fr3.set (Or.inr rfl)).trans f1) (f2.trans e13) ?_ (fun i hi => ?_)
      · rw [eM, List.map_cons]
        refine seg_cons.mpr ⟨?_, f3⟩
        rw [f4 k (Or.inl (by omega)), xsB_same, upd_eq]
      · rw [f4 i (by omega), xsB_same, upd_ne (by omega)]
    rw [fM_ranked_b, if_neg (by decide), if_neg (by decide), if_neg (by decide), if_pos rfl, if_neg (by rw [i3_le (by omega) (by omega)]; omega)]
    refine RkO.wrap ?_
    cases A with
    | nil =>
      cases B with
      | nil => simp at hl
      | cons y B =>
        simp only [List.length_cons, List.length_nil] at *
        rw [if_pos (by rw [i3_le (by omega) (by omega)]; omega), if_neg (i3_idx (by omega) (by omega)), if_neg (i3_idx (by omega) (by omega))]
        exact fromB y B rfl (by simp)
    | cons x A =>
      cases B with
      | nil =>
        simp only [List.length_cons, List.length_nil] at *
        rw [if_neg (by rw [i3_le (by omega) (by omega)]; omega), if_pos (by rw [i3_le (by omega) (by omega)]; omega), if_neg (i3_idx (by omega) (by omega)), if_neg (i3_idx (by omega) (by omega))]
        exact fromA x A rfl (by simp)
      | cons y B =>
        simp only [List.length_cons] at *
        have hx := hA x (List.mem_cons_self ..)
        have hy := hB y (List.mem_cons_self ..)
        obtain ⟨k1, e1, r1⟩ := hc.kid (n := n) hM (List.getElem?_eq_getElem (show x < K.length by omega))
        obtain ⟨k2, e2, r2⟩ := hc.kid (n := n) hM (List.getElem?_eq_getElem (show y < K.length by omega))
        obtain ⟨z, hz, z0, z1, z2, z3, _⟩ := (orderM (n := n) hM (by omega) d fu hd _ _ _ _ r1 r2 (hok _ (List.getElem_mem _)) (hok _ (List.getElem_mem _))).tests
        have hkc : kc K x y = jcmp d K[x] K[y] := by
          unfold kc
          rw [List.getElem?_eq_getElem (by omega), List.getElem?_eq_getElem (by omega)]
        have hNa : (i3 a).toNatClampNeg = a := i3_N (by omega)
        have hNb : (i3 b).toNatClampNeg = b := i3_N (by omega)
        rw [if_neg (by rw [i3_le (by omega) (by omega)]; omega), if_neg (by rw [i3_le (by omega) (by omega)]; omega), if_neg (i3_idx (by omega) (by omega)), hNa, (seg_cons.mp sA).1, e1, Option.bind_some, if_neg (i3_idx (by omega) (by omega)), hNb, (seg_cons.mp sB).1, e2, Option.bind_some, hz, Option.bind_some]
        have hfa := fromA x A rfl
        have hfb := fromB y B rfl
        rw [hNa, (seg_cons.mp sA).1] at hfa
        rw [hNb, (seg_cons.mp sB).1] at hfb
        by_cases hcz : jcmp d K[x] K[y] ≤ 0
        · rw [if_neg (fun h => by have := z1.mpr hcz; exact absurd h (by rw [Int32.not_lt]; exact this)), if_neg (i3_id2 (by omega) (by omega)), if_neg (i3_idx (by omega) (by omega))]
          refine hfa ?_
          rw [List.cons_merge_cons, if_pos (by unfold kle; rw [hkc]; simp; omega)]
        · rw [if_pos (Int32.not_le.mp (fun h => hcz (z1.mp h))), if_neg (i3_id2 (by omega) (by omega)), if_neg (i3_idx (by omega) (by omega))]
          refine hfb ?_
          rw [List.cons_merge_cons, if_neg (by unfold kle; rw [hkc]; simp; omega)]
theorem rk3 {fu tot w N wc wn : Nat} {Q : xS → Prop} (hd : d ≤ fu) (hc : Rep vs cs ks (d + 1) (ja K) c) (hok : ∀ x ∈ K, jok d x) (ht : tot = K.length) (h2 : tot ≤ 4096) (hw : 1 ≤ w) (hw2 : w ≤ 4096) (hN : 5000001 ≤ N) : ∀ (m L : Nat) (T : List Nat) (st : xS) (n : Nat) (y9 y8 y7 y6 y5 : Int32), MS st vs cs ks ws → tot ≤ xln st 13 → tot ≤ xln st 14 → T.length ≤ m → (∀ x ∈ T, x < tot) → seg (xba st 13) L (T.map i3) → (L + T.length = tot ∨ (T = [] ∧ tot ≤ L)) → L ≤ 16000 → N + m * 5000 + 1 ≤ n →
    (∀ (n' : Nat) (st' : xS), N ≤ n' → Fr3 st st' → xba st' 13 = xba st 13 → seg (xba st' 14) L ((ps K w m T).map i3) → (∀ i, i < L → xba st' 14 i = xba st 14 i) → RkO wc wn (fM_ranked_b fu n' 5 (i3 w) (i3 tot) c 0 0 0 0 0 0 st' wc wn) Q) →
    RkO wc wn (fM_ranked_b fu n 3 (i3 w) (i3 tot) c (i3 L) y9 y8 y7 y6 y5 st wc wn) Q := by
  intro m
  induction m with
  | zero =>
    intro L T st n y9 y8 y7 y6 y5 hM h13 h14 hT hTt sT hL hLb hn hK
    obtain rfl : T = [] := List.length_eq_zero_iff.mp (by omega)
    obtain ⟨n, rfl⟩ : ∃ j, n = j + 1 := ⟨n - 1, by omega⟩
    rw [fM_ranked_b, if_neg (by decide), if_neg (by decide), if_pos rfl, if_pos (by rw [i3_le (by omega) (by omega)]; simp at hL; omega)]
    exact RkO.wrap (hK n st (by omega) Fr3.refl rfl (by rw [ps_nil]; exact seg_nil) (fun _ _ => rfl))
  | succ m ih =>
    intro L T st n y9 y8 y7 y6 y5 hM h13 h14 hT hTt sT hL hLb hn hK
    obtain ⟨n, rfl⟩ : ∃ j, n = j + 1 := ⟨n - 1, by omega⟩
    by_cases hlt : L < tot
    · have hlen : L + T.length = tot := by
        rcases hL with h | ⟨_, h⟩
        · exact h
        · omega
      have e1 : (if i3 tot < (i3 L + i3 w) then i3 tot else (i3 L + i3 w)) = i3 (min (L + w) tot) := by
        rw [i3_add, min_i3 (by omega) (by omega)]
      have e2 : (if i3 tot < (i3 L + ((2 : Int32) * i3 w)) then i3 tot else (i3 L + ((2 : Int32) * i3 w))) = i3 (min (L + 2 * w) tot) := by
        rw [show (2 : Int32) = i3 2 from rfl, i3_mul, i3_add, min_i3 (by omega) (by omega)]
      obtain ⟨s1, s2⟩ := seg_take (k := w) sT
      obtain ⟨s3, s4⟩ := seg_take (k := w) s2
      have hmul : (m + 1) * 5000 = m * 5000 + 5000 := Nat.succ_mul _ _
      rw [fM_ranked_b, if_neg (by decide), if_neg (by decide), if_pos rfl, if_neg (by rw [i3_le (by omega) (by omega)]; omega), e1, e2]
      refine RkO.wrap (rk4 (N := N + m * 5000 + 1) hd hc hok ht h2 (mid := min (L + w) tot) (to := min (L + 2 * w) tot) (by omega) (by omega) (by omega) ((T.take w).length + ((T.drop w).take w).length) n L L (min (L + w) tot) (T.take w) ((T.drop w).take w) st hM h13 h14 rfl (fun x hx => hTt x (List.mem_of_mem_take hx)) (fun x hx => hTt x (List.mem_of_mem_drop (List.mem_of_mem_take hx))) s1 (by rw [show min (L + w) tot = L + min w T.length by omega]; exact s3) (by rw [List.length_take]; omega) (by simp only [List.length_take, List.length_drop]; omega) (by simp only [List.length_take, List.length_drop]; omega) (by simp only [List.length_take, List.length_drop]; omega) (fun n' y9 y8 y7 y6 y5 st' hn' f1 f2 f3 f4 => ?_))
      have hT2 : (T.drop (2 * w)).length ≤ m := by rw [List.length_drop]; omega
      have s5 : seg (xba st' 13) (L + 2 * w) ((T.drop (2 * w)).map i3) := by
        rw [f2]
        by_cases hbig : 2 * w ≤ T.length
        · have := (seg_take (k := 2 * w) sT).2
          rw [Nat.min_eq_left hbig] at this
          exact this
        · rw [List.drop_eq_nil_of_le (by omega)]
          exact seg_nil
      rw [show (2 : Int32) = i3 2 from rfl, i3_mul, i3_add]
      refine ih (L + 2 * w) (T.drop (2 * w)) st' n' y9 y8 y7 y6 y5 (hM.fr3 f1) (by rw [f1.ln]; exact h13) (by rw [f1.ln]; exact h14) hT2 (fun x hx => hTt x (List.mem_of_mem_drop hx)) s5 (by
        rw [List.length_drop]
        by_cases hbig : 2 * w ≤ T.length
        · left; omega
        · right
          exact ⟨List.drop_eq_nil_of_le (by omega), by omega⟩) (by omega) hn' (fun n2 st2 hn2 g1 g2 g3 g4 => ?_)
      refine hK n2 st2 hn2 (f1.trans g1) (g2.trans f2) ?_ (fun i hi => by rw [g4 i (by omega), f4 i (Or.inl hi)])
      rw [ps, List.map_append]
      have lm : (List.merge (T.take w) ((T.drop w).take w) (kle K)).length = min (2 * w) T.length := by
        rw [(List.merge_perm_append (kle K)).length_eq]
        simp only [List.length_append, List.length_take, List.length_drop]
        omega
      refine seg_app.mpr ⟨seg_of f3 (fun i hi => ?_), ?_⟩
      · rw [List.length_map, lm] at hi
        exact g4 _ (by omega)
      · rw [List.length_map, lm]
        by_cases hbig : 2 * w ≤ T.length
        · rw [Nat.min_eq_left hbig]
          exact g3
        · rw [List.drop_eq_nil_of_le (by omega), ps_nil]
          exact seg_nil
    · have hnil : T = [] := by
        rcases hL with h | ⟨h, _⟩
        · exact List.length_eq_zero_iff.mp (by omega)
        · exact h
      subst hnil
      rw [fM_ranked_b, if_neg (by decide), if_neg (by decide), if_pos rfl, if_pos (by rw [i3_le (by omega) (by omega)]; omega)]
      exact RkO.wrap (hK n st (by omega) Fr3.refl rfl (by rw [ps_nil]; exact seg_nil) (fun _ _ => rfl))
theorem rk5 {fu tot N wc wn : Nat} {y3 : Int32} {Q : xS → Prop} (h2 : tot ≤ 4096) : ∀ (q n i : Nat) (R : List Nat) (st : xS), i + q = tot → R.length = q → tot ≤ xln st 13 → tot ≤ xln st 14 → seg (xba st 14) i (R.map i3) → N + q + 1 ≤ n →
    (∀ (n' : Nat) (y4 : Int32) (st' : xS), N ≤ n' → Fr3 st st' → seg (xba st' 13) i (R.map i3) → (∀ k, k < i → xba st' 13 k = xba st 13 k) → RkO wc wn (fM_ranked_b fu n' 2 (y3 * 2) (i3 tot) c y4 0 0 0 0 0 st' wc wn) Q) →
    RkO wc wn (fM_ranked_b fu n 5 y3 (i3 tot) c (i3 i) 0 0 0 0 0 st wc wn) Q := by
  intro q
  induction q with
  | zero =>
    intro n i R st hi hR h13 h14 sR hn hK
    obtain ⟨n, rfl⟩ : ∃ j, n = j + 1 := ⟨n - 1, by omega⟩
    obtain rfl : R = [] := List.length_eq_zero_iff.mp hR
    rw [fM_ranked_b, if_neg (by decide), if_neg (by decide), if_neg (by decide), if_neg (by decide), if_pos (by rw [i3_le (by omega) (by omega)]; omega)]
    exact RkO.wrap (hK n _ st (by omega) Fr3.refl seg_nil (fun _ _ => rfl))
  | succ q ih =>
    intro n i R st hi hR h13 h14 sR hn hK
    obtain ⟨n, rfl⟩ : ∃ j, n = j + 1 := ⟨n - 1, by omega⟩
    cases R with
    | nil => simp at hR
    | cons x R =>
      rw [List.length_cons] at hR
      obtain ⟨s1, s2⟩ := seg_cons.mp sR
      rw [fM_ranked_b, if_neg (by decide), if_neg (by decide), if_neg (by decide), if_neg (by decide), if_neg (by rw [i3_le (by omega) (by omega)]; omega), if_neg (i3_idx (by omega) (by omega)), if_neg (i3_idx (by omega) (by omega)), i3_N (by omega), s1, i3_one]
      have e14 : xba (xsB st 13 i (i3 x)) 14 = xba st 14 := xsB_oth (by decide)
      refine RkO.wrap (ih n (i + 1) R (xsB st 13 i (i3 x)) (by omega) (by omega) h13 h14 (by rw [e14]; exact s2) (by omega) (fun n' y4 st' hn' f1 f2 f3 => ?_))
      refine hK n' y4 st' hn' ((Fr3.set (Or.inl rfl)).trans f1) ?_ (fun k hk => ?_)
      · rw [List.map_cons]
        refine seg_cons.mpr ⟨?_, f2⟩
        rw [f3 i (by omega), xsB_same, upd_eq]
      · rw [f3 k (by omega), xsB_same, upd_ne (by omega)]
theorem rk2 {fu tot wc wn : Nat} (hd : d ≤ fu) (hc : Rep vs cs ks (d + 1) (ja K) c) (hok : ∀ x ∈ K, jok d x) (ht : tot = K.length) (h2 : tot ≤ 4096) : ∀ (g w n : Nat) (T : List Nat) (st : xS) (y4 : Int32), MS st vs cs ks ws → tot ≤ xln st 13 → tot ≤ xln st 14 → tot ≤ w * 2 ^ g → 1 ≤ w → w ≤ 8192 → T.length = tot → (∀ x ∈ T, x < tot) → seg (xba st 13) 0 (T.map i3) → 6000000 + g * 30000000 < n →
    RkO wc wn (fM_ranked_b fu n 2 (i3 w) (i3 tot) c y4 0 0 0 0 0 st wc wn) (fun stf => Fr3 st stf ∧ seg (xba stf 13) 0 ((ms K g w T).map i3)) := by
  intro g
  induction g with
  | zero =>
    intro w n T st y4 hM h13 h14 hg hw1 hw2 hT hTt sT hn
    obtain ⟨n, rfl⟩ : ∃ j, n = j + 1 := ⟨n - 1, by omega⟩
    rw [fM_ranked_b, if_neg (by decide), if_pos rfl, if_pos (by rw [i3_le (by omega) (by omega)]; omega)]
    exact RkO.wrap ⟨st, rfl, Fr3.refl, sT⟩
  | succ g ih =>
    intro w n T st y4 hM h13 h14 hg hw1 hw2 hT hTt sT hn
    have hmul : (g + 1) * 30000000 = g * 30000000 + 30000000 := Nat.succ_mul _ _
    obtain ⟨n, rfl⟩ : ∃ j, n = j + 1 := ⟨n - 1, by omega⟩
    rw [ms, fM_ranked_b, if_neg (by decide), if_pos rfl]
    by_cases h : tot ≤ w
    · rw [if_pos (by rw [i3_le (by omega) (by omega)]; omega), if_pos (by omega)]
      exact RkO.wrap ⟨st, rfl, Fr3.refl, sT⟩
    · rw [if_neg (by rw [i3_le (by omega) (by omega)]; omega), if_neg (by omega)]
      refine RkO.wrap (rk3 (N := 6000000 + g * 30000000 + 1 + 5000) hd hc hok ht h2 hw1 (by omega) (by omega) tot 0 T st n 0 0 0 0 0 hM h13 h14 (by omega) hTt sT (by omega) (by omega) (by omega) (fun n1 st1 hn1 f1 f2 f3 _ => ?_))
      refine rk5 (N := 6000000 + g * 30000000 + 1) h2 tot n1 0 (ps K w tot T) st1 (by omega) (by rw [ps_len, hT]) (by rw [f1.ln]; exact h13) (by rw [f1.ln]; exact h14) f3 (by omega) (fun n2 y4' st2 hn2 g1 g2 _ => ?_)
      rw [show (2 : Int32) = i3 2 from rfl, i3_mul, Nat.mul_comm w 2]
      have f12 := f1.trans g1
      obtain ⟨stf, e1, e2, e3⟩ := ih (2 * w) n2 (ps K w tot T) st2 y4' (hM.fr3 f12) (by rw [f12.ln]; exact h13) (by rw [f12.ln]; exact h14) (by rw [show 2 * w * 2 ^ g = w * 2 ^ (g + 1) by rw [Nat.pow_succ, Nat.mul_comm 2 w, Nat.mul_assoc, Nat.mul_comm 2 (2 ^ g)]]; exact hg) (by omega) (by omega) (by rw [ps_len, hT]) (fun x hx => hTt x ((ps_perm _ _).mem_iff.mp hx)) g2 hn2
      exact ⟨stf, e1, f12.trans e2, by rw [hT]; exact e3⟩
theorem rk1 {fu tot wc wn : Nat} (hd : d ≤ fu) (hc : Rep vs cs ks (d + 1) (ja K) c) (hok : ∀ x ∈ K, jok d x) (ht : tot = K.length) (h2 : tot ≤ 4096) : ∀ (q n i : Nat) (st : xS), i + q = tot → MS st vs cs ks ws → tot ≤ xln st 13 → tot ≤ xln st 14 → seg (xba st 13) 0 ((List.range i).map i3) → 400000000 + q < n →
    RkO wc wn (fM_ranked_b fu n 1 (i3 i) (i3 tot) c 0 0 0 0 0 0 st wc wn) (fun stf => Fr3 st stf ∧ seg (xba stf 13) 0 ((tn K).map i3)) := by
  intro q
  induction q with
  | zero =>
    intro n i st hi hM h13 h14 sR hn
    obtain ⟨n, rfl⟩ : ∃ j, n = j + 1 := ⟨n - 1, by omega⟩
    obtain rfl : i = tot := by omega
    rw [fM_ranked_b, if_pos rfl, if_pos (by rw [i3_le (by omega) (by omega)]; omega)]
    have := rk2 (wc := wc) (wn := wn) hd hc hok ht h2 12 1 n (List.range i) st 0 hM h13 h14 (by omega) (by omega) (by omega) (List.length_range) (fun x hx => List.mem_range.mp hx) sR (by omega)
    obtain ⟨stf, e1, e2, e3⟩ := this
    exact RkO.wrap ⟨stf, e1, e2, by unfold tn; rw [← ht]; exact e3⟩
  | succ q ih =>
    intro n i st hi hM h13 h14 sR hn
    obtain ⟨n, rfl⟩ : ∃ j, n = j + 1 := ⟨n - 1, by omega⟩
    rw [fM_ranked_b, if_pos rfl, if_neg (by rw [i3_le (by omega) (by omega)]; omega), if_neg (i3_idx (by omega) (by omega)), i3_N (by omega), i3_one]
    obtain ⟨stf, e1, e2, e3⟩ := ih n (i + 1) (xsB st 13 i (i3 i)) (by omega) (hM.fr3 (Fr3.set (Or.inl rfl))) h13 h14 (by
      rw [List.range_succ, List.map_append, xsB_same]
      refine seg_app.mpr ⟨seg_of sR (fun k hk => ?_), ?_⟩
      · rw [List.length_map, List.length_range] at hk
        rw [upd_ne (by omega)]
      · rw [List.length_map, List.length_range, Nat.zero_add]
        exact seg_cons.mpr ⟨upd_eq, seg_nil⟩) (by omega)
    exact RkO.wrap ⟨stf, e1, (Fr3.set (Or.inl rfl)).trans e2, e3⟩
theorem rankedM {fu n : Nat} {st : xS} (hM : MS st vs cs ks ws) (hH : Hs st) (hd : d ≤ fu) (hc : Rep vs cs ks (d + 1) (ja K) c) (hok : ∀ x ∈ K, jok d x) (h2 : K.length ≤ 4096) (hn : 500000000 < n) : ∃ (cc s : Nat) (st' : xS), fM_ranked fu n st c = some (cc, s, st') ∧ MS st' vs cs ks ws ∧ Cost st st' cc s ∧ FrO st st' ∧ seg (xba st' 13) 0 ((tn K).map i3) ∧ K.length ≤ xln st' 13 ∧ xsi st' 12 = xsi st 12 := by
  obtain ⟨g1, _, _, _⟩ := hc.g hM
  obtain ⟨hsz, hll⟩ := hc.sza hM
  obtain ⟨H1, H2, H3, H4, H5⟩ := hH
  unfold fM_ranked
  rw [if_neg g1, hsz]
  have hcmp : (i3 K.length ≤ Int32.ofNat (xln st 13)) = (K.length ≤ xln st 13) := i3_le (by omega) (by omega)
  by_cases h : K.length ≤ xln st 13
  · rw [if_pos (by rw [hcmp]; exact h)]
    obtain ⟨stf, e1, e2, e3⟩ := rk1 (wc := 0) (wn := 0) hd hc hok rfl h2 K.length n 0 st (by omega) hM h (by omega) seg_nil (by omega)
    exact ⟨0, 0, stf, e1, hM.fr3 e2, ⟨Nat.le_refl _, by rw [e2.pe]; omega⟩, e2.o, e3, by rw [e2.ln]; exact h, by unfold xsi; rw [e2.1]⟩
  · rw [if_neg (by rw [hcmp]; exact h), show (2 : Int32) = i3 2 from rfl, i3_mul, if_neg (by rw [i3_N (by omega)]; exact fun hh => hh.elim (i3_nn (by omega)) (by omega)), i3_N (by omega), if_neg (fun hh => hh.elim (i3_nn (by omega)) (by omega))]
    have hM1 : MS (xsG (xsG st 13 (2 * K.length) (fun _ => 0)) 14 (2 * K.length) (fun _ => 0)) vs cs ks ws := by
      obtain ⟨⟨v1, w1, w2, w3, w4⟩, r1, r2, r3, r4, r5, r6, r7⟩ := hM
      exact ⟨⟨v1, w1, w2, w3, w4⟩, r1, r2, r3, r4, r5, r6, r7⟩
    have l13 : xln (xsG (xsG st 13 (2 * K.length) (fun _ => 0)) 14 (2 * K.length) (fun _ => 0)) 13 = 2 * K.length := by
      show va_up (va_up (xln st) 13 (2 * K.length)) 14 (2 * K.length) 13 = _
      rw [up_ne (by decide), up_eq]
    have l14 : xln (xsG (xsG st 13 (2 * K.length) (fun _ => 0)) 14 (2 * K.length) (fun _ => 0)) 14 = 2 * K.length := (up_eq : va_up (va_up (xln st) 13 (2 * K.length)) 14 (2 * K.length) 14 = 2 * K.length)
    have lot : ∀ k, k ≠ 13 → k ≠ 14 → xln (xsG (xsG st 13 (2 * K.length) (fun _ => 0)) 14 (2 * K.length) (fun _ => 0)) k = xln st k ∧ xba (xsG (xsG st 13 (2 * K.length) (fun _ => 0)) 14 (2 * K.length) (fun _ => 0)) k = xba st k := by
      intro k k1 k2
      refine ⟨?_, ?_⟩
      · show va_up (va_up (xln st) 13 (2 * K.length)) 14 (2 * K.length) k = _
        rw [up_ne k2, up_ne k1]
      · show va_up (va_up (xba st) 13 _) 14 _ k = _
        rw [up_ne k2, up_ne k1]
    have hpt : pt (xsG (xsG st 13 (2 * K.length) (fun _ => 0)) 14 (2 * K.length) (fun _ => 0)) + 4 * xln st 13 = pt st + 8 * K.length := by
      unfold pt
      rw [l13, l14, (lot 1 (by decide) (by decide)).1, (lot 3 (by decide) (by decide)).1, (lot 5 (by decide) (by decide)).1, (lot 6 (by decide) (by decide)).1, (lot 10 (by decide) (by decide)).1, (lot 11 (by decide) (by decide)).1, (lot 21 (by decide) (by decide)).1]
      show 2 * _ + 6 * xct st + _ = _
      omega
    obtain ⟨stf, e1, e2, e3⟩ := rk1 (wc := 0 + 1 + 1) (wn := 0 + 2 * K.length + 2 * K.length) hd hc hok rfl h2 K.length n 0 _ (by omega) hM1 (by rw [l13]; omega) (by rw [l14]; omega) seg_nil (by omega)
    refine ⟨2, 2 * K.length + 2 * K.length, stf, ?_, hM1.fr3 e2, ⟨by omega, by rw [e2.pe]; omega⟩, ?_, e3, by rw [e2.ln, l13]; omega, by unfold xsi; rw [e2.1]; rfl⟩
    · have hin : ∀ (c1 s1 c2 s2 : Nat) (z : xS), c1 ≤ c2 → s1 ≤ s2 → xmo (fun a : Nat × Nat × xS => a.1) (fun a => a.2.1) c1 s1 (some (c2, s2, z)) = some (c2, s2, z) := fun _ _ _ _ _ h1 h2 => xmo_some h1 h2
      rw [show fM_ranked_b fu n 1 0 (i3 K.length) c 0 0 0 0 0 0 (xsG (xsG st 13 (2 * K.length) (fun _ => 0)) 14 (2 * K.length) (fun _ => 0)) (0 + 1 + 1) (0 + 2 * K.length + 2 * K.length) = some (0 + 1 + 1, 0 + 2 * K.length + 2 * K.length, stf) from e1, hin _ _ _ _ _ (Nat.le_refl _) (Nat.le_refl _), hin _ _ _ _ _ (by omega) (by omega), Nat.zero_add, Nat.zero_add]
    · refine FrO.trans (b := xsG (xsG st 13 (2 * K.length) (fun _ => 0)) 14 (2 * K.length) (fun _ => 0)) ⟨fun _ _ => rfl, fun k hk => lot k (by omega) (by omega), fun _ => ?_⟩ e2.o
      exact ⟨by rw [(lot 21 (by decide) (by decide)).1]; exact H1, by rw [(lot 21 (by decide) (by decide)).1]; exact H2, by rw [l13]; omega, by rw [l13, l14], by rw [l13]; omega⟩
end RNK
