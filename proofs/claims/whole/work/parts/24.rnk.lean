section ZRnk86
section RNK
def Fr3 (st st' : xS) : Prop := st'.1 = st.1 ∧ st'.2.1 = st.2.1 ∧ (∀ k, k ≠ 13 → k ≠ 14 → xba st' k = xba st k) ∧ st'.2.2.2 = st.2.2.2
theorem Fr3.refl {st : xS} : Fr3 st st := ⟨rfl, rfl, fun _ _ _ => rfl, rfl⟩
theorem Fr3.trans {a b c : xS} (h : Fr3 a b) (h' : Fr3 b c) : Fr3 a c := ⟨h'.1.trans h.1, h'.2.1.trans h.2.1, fun k k1 k2 => (h'.2.2.1 k k1 k2).trans (h.2.2.1 k k1 k2), h'.2.2.2.trans h.2.2.2⟩
theorem Fr3.set {st : xS} {k i : Nat} {v : Int32} (hk : k = 13 ∨ k = 14) : Fr3 st (xsB st k i v) := ⟨rfl, rfl, fun j h1 h2 => up_ne (by omega), rfl⟩
theorem MS.fr3 {st st' : xS} {vs : List VR} {cs : List Nat} {ks ws : List NP} (hM : MS st vs cs ks ws) (hf : Fr3 st st') : MS st' vs cs ks ws := by
  obtain ⟨f1, f2, f3, f4⟩ := hf
  have h3 : xba st' 3 = xba st 3 := f3 3 (by decide) (by decide)
  obtain ⟨⟨⟨v1, v2, v3, v4⟩, w1, w2, w3, w4⟩, r1, r2, r3, r4, r5, r6, r7⟩ := hM
  refine ⟨⟨⟨?_, ?_, ?_, ?_⟩, ?_, ?_, ?_, ?_⟩, ?_, ?_, ?_, ?_, ?_, ?_, ?_⟩
  · rw [show xsi st' = xsi st from f1]; exact v1
  · rw [show xsi st' = xsi st from f1]; exact v2
  · rw [show xsi st' = xsi st from f1]; exact v3
  · rw [show xsi st' = xsi st from f1]; exact v4
  · intro i v hv
    have := w1 i v hv
    unfold VRat at this ⊢
    unfold xpi xpl at this ⊢
    rw [f4]
    exact this
  · intro i c hc; rw [h3]; exact w2 i c hc
  · intro i p hp; unfold xvc; rw [f4]; exact w3 i p hp
  · intro i p hp; unfold xvc; rw [f4]; exact w4 i p hp
  · intro i; unfold xvc xct; rw [f4]; exact r1 i
  · unfold xct xln; rw [f4, f2]; exact r2
  · unfold xln; rw [f2]; exact r3
  · unfold xln; rw [f2]; exact r4
  · unfold xln; rw [f2]; exact r5
  · intro i; unfold xvc xct; rw [f4]; exact r6 i
  · unfold xsr xgl; rw [f4]; exact r7
theorem Fr3.o {st st' : xS} (h : Fr3 st st') : FrO st st' := ⟨fun k _ => by unfold xsi; rw [h.1], fun k hk => ⟨by unfold xln; rw [h.2.1], h.2.2.1 k (by omega) (by omega)⟩, fun x => by
  unfold Hs xln at x ⊢
  rw [h.2.1]
  exact x⟩
theorem Fr3.pe {st st' : xS} (h : Fr3 st st') : pt st' = pt st := by
  unfold pt xln xct
  rw [h.2.1, h.2.2.2]
theorem Fr3.ln {st st' : xS} (h : Fr3 st st') (k : Nat) : xln st' k = xln st k := by unfold xln; rw [h.2.1]
def RkO (wc wn : Nat) (X : Option (Nat × Nat × xS)) (Q : xS → Prop) : Prop := ∃ stf, X = some (wc, wn, stf) ∧ Q stf
theorem RkO.wrap {wc wn : Nat} {X : Option (Nat × Nat × xS)} {Q : xS → Prop} (h : RkO wc wn X Q) : RkO wc wn (xmo (fun a => a.1) (fun a => a.2.1) wc wn X) Q := by
  obtain ⟨stf, h1, h2⟩ := h
  refine ⟨stf, ?_, h2⟩
  rw [h1]
  exact xmo_some (Nat.le_refl _) (Nat.le_refl _)
variable {vs : List VR} {cs : List Nat} {ks ws : List NP} {d : Nat} {K : List (JT d)} {c : Nat}
theorem xsB_same {st : xS} {k i : Nat} {v : Int32} : xba (xsB st k i v) k = upd (xba st k) i v := up_eq
theorem xsB_oth {st : xS} {k j i : Nat} {v : Int32} (h : j ≠ k) : xba (xsB st k i v) j = xba st j := up_ne h
theorem rk4 {fu tot mid to N wc wn : Nat} {y3 y4 : Int32} {Q : xS → Prop} (hd : d ≤ fu) (hc : Rep vs cs ks (d + 1) (ja K) c) (hok : ∀ x ∈ K, jok d x) (ht : tot = K.length) (h2 : tot ≤ 4096) (hm : mid ≤ tot) (hto : to ≤ tot) (hN : 5000001 ≤ N) : ∀ (m n k a b : Nat) (A B : List Nat) (st : xS), MS st vs cs ks ws → tot ≤ xln st 13 → tot ≤ xln st 14 → A.length + B.length = m → (∀ x ∈ A, x < tot) → (∀ x ∈ B, x < tot) → seg (xba st 13) a (A.map i3) → seg (xba st 13) b (B.map i3) → a + A.length = mid → b + B.length = to → k + m = to → N + m + 1 ≤ n →
    (∀ (n' : Nat) (y9 y8 y7 y6 y5 : Int32) (st' : xS), N ≤ n' → Fr3 st st' → xba st' 13 = xba st 13 → seg (xba st' 14) k ((List.merge A B (kle K)).map i3) → (∀ i, i < k ∨ to ≤ i → xba st' 14 i = xba st 14 i) → RkO wc wn (fM_ranked_b fu n' 3 y3 (i3 tot) c (y4 + (2 * y3)) y9 y8 y7 y6 y5 st' wc wn) Q) →
    RkO wc wn (fM_ranked_b fu n 4 y3 (i3 tot) c y4 (i3 k) (i3 to) (i3 mid) (i3 b) (i3 a) st wc wn) Q := by
  intro m
  induction m with
  | zero =>
    intro n k a b A B st hM _ _ hl _ _ _ _ _ _ hk hn hK
    obtain ⟨n, rfl⟩ : ∃ j, n = j + 1 := ⟨n - 1, by omega⟩
    obtain rfl : A = [] := List.length_eq_zero_iff.mp (by omega)
    obtain rfl : B = [] := List.length_eq_zero_iff.mp (by omega)
    rw [fM_ranked_b, if_neg (by decide), if_neg (by decide), if_neg (by decide), if_pos rfl, if_pos (by rw [i3_le (by omega) (by omega)]; omega)]
    exact RkO.wrap (hK n _ _ _ _ _ st (by omega) Fr3.refl rfl (by simp [seg_nil]) (fun _ _ => rfl))
  | succ m ih =>
    intro n k a b A B st hM h13 h14 hl hA hB sA sB ha hbb hk hn hK
    obtain ⟨n, rfl⟩ : ∃ j, n = j + 1 := ⟨n - 1, by omega⟩
    have fromB : ∀ (y : Nat) (B' : List Nat), B = y :: B' → List.merge A B (kle K) = y :: List.merge A B' (kle K) → RkO wc wn (fM_ranked_b fu n 4 y3 (i3 tot) c y4 (i3 k + 1) (i3 to) (i3 mid) (i3 b + 1) (i3 a) (xsB st 14 (i3 k).toNatClampNeg ((xba st 13) (i3 b).toNatClampNeg)) wc wn) Q := by
      intro y B' eB eM
      subst eB
      rw [List.length_cons] at hl hbb
      obtain ⟨s1, s2⟩ := seg_cons.mp sB
      rw [i3_N (by omega), i3_N (by omega), s1, i3_one, i3_one]
      have e13 : xba (xsB st 14 k (i3 y)) 13 = xba st 13 := xsB_oth (by decide)
      refine ih n (k + 1) a (b + 1) A B' (xsB st 14 k (i3 y)) (hM.fr3 (Fr3.set (Or.inr rfl))) h13 h14 (by omega) hA (fun x hx => hB x (List.mem_cons_of_mem _ hx)) (by rw [e13]; exact sA) (by rw [e13]; exact s2) ha (by omega) (by omega) (by omega) (fun n' y9 y8 y7 y6 y5 st' hn' f1 f2 f3 f4 => ?_)
      refine hK n' y9 y8 y7 y6 y5 st' hn' ((Fr3.set (Or.inr rfl)).trans f1) (f2.trans e13) ?_ (fun i hi => ?_)
      · rw [eM, List.map_cons]
        refine seg_cons.mpr ⟨?_, f3⟩
        rw [f4 k (Or.inl (by omega)), xsB_same, upd_eq]
      · rw [f4 i (by omega), xsB_same, upd_ne (by omega)]
    have fromA : ∀ (x : Nat) (A' : List Nat), A = x :: A' → List.merge A B (kle K) = x :: List.merge A' B (kle K) → RkO wc wn (fM_ranked_b fu n 4 y3 (i3 tot) c y4 (i3 k + 1) (i3 to) (i3 mid) (i3 b) (i3 a + 1) (xsB st 14 (i3 k).toNatClampNeg ((xba st 13) (i3 a).toNatClampNeg)) wc wn) Q := by
      intro x A' eA eM
      subst eA
      rw [List.length_cons] at hl ha
      obtain ⟨s1, s2⟩ := seg_cons.mp sA
      rw [i3_N (by omega), i3_N (by omega), s1, i3_one, i3_one]
      have e13 : xba (xsB st 14 k (i3 x)) 13 = xba st 13 := xsB_oth (by decide)
      refine ih n (k + 1) (a + 1) b A' B (xsB st 14 k (i3 x)) (hM.fr3 (Fr3.set (Or.inr rfl))) h13 h14 (by omega) (fun y hy => hA y (List.mem_cons_of_mem _ hy)) hB (by rw [e13]; exact s2) (by rw [e13]; exact sB) (by omega) hbb (by omega) (by omega) (fun n' y9 y8 y7 y6 y5 st' hn' f1 f2 f3 f4 => ?_)
      refine hK n' y9 y8 y7 y6 y5 st' hn' ((Fr3.set (Or.inr rfl)).trans f1) (f2.trans e13) ?_ (fun i hi => ?_)
      · rw [eM, List.map_cons]
        refine seg_cons.mpr ⟨?_, f3⟩
        rw [f4 k (Or.inl (by omega)), xsB_same, upd_eq]
      · rw [f4 i (by omega), xsB_same, upd_ne (by omega)]
    rw [fM_ranked_b, if_neg (by decide), if_neg (by decide), if_neg (by decide), if_pos rfl, if_neg (by rw [i3_le (by omega) (by omega)]; omega)]
    refine RkO.wrap ?_
    cases A with
    | nil =>
      cases B with
      | nil => simp at hl
      | cons y B =>
        simp only [List.length_cons, List.length_nil] at *
        rw [if_pos (by rw [i3_le (by omega) (by omega)]; omega), if_neg (i3_idx (by omega) (by omega)), if_neg (i3_idx (by omega) (by omega))]
        exact fromB y B rfl (by simp)
    | cons x A =>
      cases B with
      | nil =>
        simp only [List.length_cons, List.length_nil] at *
        rw [if_neg (by rw [i3_le (by omega) (by omega)]; omega), if_pos (by rw [i3_le (by omega) (by omega)]; omega), if_neg (i3_idx (by omega) (by omega)), if_neg (i3_idx (by omega) (by omega))]
        exact fromA x A rfl (by simp)
      | cons y B =>
        simp only [List.length_cons] at *
        have hx := hA x (List.mem_cons_self ..)
        have hy := hB y (List.mem_cons_self ..)
        obtain ⟨k1, e1, r1⟩ := hc.kid (n := n) hM (List.getElem?_eq_getElem (show x < K.length by omega))
        obtain ⟨k2, e2, r2⟩ := hc.kid (n := n) hM (List.getElem?_eq_getElem (show y < K.length by omega))
        obtain ⟨z, hz, z0, z1, z2, z3, _⟩ := (orderM (n := n) hM (by omega) d fu hd _ _ _ _ r1 r2 (hok _ (List.getElem_mem _)) (hok _ (List.getElem_mem _))).tests
        have hkc : kc K x y = jcmp d K[x] K[y] := by
          unfold kc
          rw [List.getElem?_eq_getElem (by omega), List.getElem?_eq_getElem (by omega)]
        have hNa : (i3 a).toNatClampNeg = a := i3_N (by omega)
        have hNb : (i3 b).toNatClampNeg = b := i3_N (by omega)
        rw [if_neg (by rw [i3_le (by omega) (by omega)]; omega), if_neg (by rw [i3_le (by omega) (by omega)]; omega), if_neg (i3_idx (by omega) (by omega)), hNa, (seg_cons.mp sA).1, e1, Option.bind_some, if_neg (i3_idx (by omega) (by omega)), hNb, (seg_cons.mp sB).1, e2, Option.bind_some, hz, Option.bind_some]
        have hfa := fromA x A rfl
        have hfb := fromB y B rfl
        rw [hNa, (seg_cons.mp sA).1] at hfa
        rw [hNb, (seg_cons.mp sB).1] at hfb
        by_cases hcz : jcmp d K[x] K[y] ≤ 0
        · rw [if_neg (fun h => by have := z1.mpr hcz; exact absurd h (by rw [Int32.not_lt]; exact this)), if_neg (i3_id2 (by omega) (by omega)), if_neg (i3_idx (by omega) (by omega))]
          refine hfa ?_
          rw [List.cons_merge_cons, if_pos (by unfold kle; rw [hkc]; simp; omega)]
        · rw [if_pos (Int32.not_le.mp (fun h => hcz (z1.mp h))), if_neg (i3_id2 (by omega) (by omega)), if_neg (i3_idx (by omega) (by omega))]
          refine hfb ?_
          rw [List.cons_merge_cons, if_neg (by unfold kle; rw [hkc]; simp; omega)]
theorem rk3 {fu tot w N wc wn : Nat} {Q : xS → Prop} (hd : d ≤ fu) (hc : Rep vs cs ks (d + 1) (ja K) c) (hok : ∀ x ∈ K, jok d x) (ht : tot = K.length) (h2 : tot ≤ 4096) (hw : 1 ≤ w) (hw2 : w ≤ 4096) (hN : 5000001 ≤ N) : ∀ (m L : Nat) (T : List Nat) (st : xS) (n : Nat) (y9 y8 y7 y6 y5 : Int32), MS st vs cs ks ws → tot ≤ xln st 13 → tot ≤ xln st 14 → T.length ≤ m → (∀ x ∈ T, x < tot) → seg (xba st 13) L (T.map i3) → (L + T.length = tot ∨ (T = [] ∧ tot ≤ L)) → L ≤ 16000 → N + m * 5000 + 1 ≤ n →
    (∀ (n' : Nat) (st' : xS), N ≤ n' → Fr3 st st' → xba st' 13 = xba st 13 → seg (xba st' 14) L ((ps K w m T).map i3) → (∀ i, i < L → xba st' 14 i = xba st 14 i) → RkO wc wn (fM_ranked_b fu n' 5 (i3 w) (i3 tot) c 0 0 0 0 0 0 st' wc wn) Q) →
    RkO wc wn (fM_ranked_b fu n 3 (i3 w) (i3 tot) c (i3 L) y9 y8 y7 y6 y5 st wc wn) Q := by
  intro m
  induction m with
  | zero =>
    intro L T st n y9 y8 y7 y6 y5 hM h13 h14 hT hTt sT hL hLb hn hK
    obtain rfl : T = [] := List.length_eq_zero_iff.mp (by omega)
    obtain ⟨n, rfl⟩ : ∃ j, n = j + 1 := ⟨n - 1, by omega⟩
    rw [fM_ranked_b, if_neg (by decide), if_neg (by decide), if_pos rfl, if_pos (by rw [i3_le (by omega) (by omega)]; simp at hL; omega)]
    exact RkO.wrap (hK n st (by omega) Fr3.refl rfl (by rw [ps_nil]; exact seg_nil) (fun _ _ => rfl))
  | succ m ih =>
    intro L T st n y9 y8 y7 y6 y5 hM h13 h14 hT hTt sT hL hLb hn hK
    obtain ⟨n, rfl⟩ : ∃ j, n = j + 1 := ⟨n - 1, by omega⟩
    by_cases hlt : L < tot
    · have hlen : L + T.length = tot := by
        rcases hL with h | ⟨_, h⟩
        · exact h
        · omega
      have e1 : (if i3 tot < (i3 L + i3 w) then i3 tot else (i3 L + i3 w)) = i3 (min (L + w) tot) := by
        rw [i3_add, min_i3 (by omega) (by omega)]
      have e2 : (if i3 tot < (i3 L + ((2 : Int32) * i3 w)) then i3 tot else (i3 L + ((2 : Int32) * i3 w))) = i3 (min (L + 2 * w) tot) := by
        rw [show (2 : Int32) = i3 2 from rfl, i3_mul, i3_add, min_i3 (by omega) (by omega)]
      obtain ⟨s1, s2⟩ := seg_take (k := w) sT
      obtain ⟨s3, s4⟩ := seg_take (k := w) s2
      have hmul : (m + 1) * 5000 = m * 5000 + 5000 := Nat.succ_mul _ _
      rw [fM_ranked_b, if_neg (by decide), if_neg (by decide), if_pos rfl, if_neg (by rw [i3_le (by omega) (by omega)]; omega), e1, e2]
      refine RkO.wrap (rk4 (N := N + m * 5000 + 1) hd hc hok ht h2 (mid := min (L + w) tot) (to := min (L + 2 * w) tot) (by omega) (by omega) (by omega) ((T.take w).length + ((T.drop w).take w).length) n L L (min (L + w) tot) (T.take w) ((T.drop w).take w) st hM h13 h14 rfl (fun x hx => hTt x (List.mem_of_mem_take hx)) (fun x hx => hTt x (List.mem_of_mem_drop (List.mem_of_mem_take hx))) s1 (by rw [show min (L + w) tot = L + min w T.length by omega]; exact s3) (by rw [List.length_take]; omega) (by simp only [List.length_take, List.length_drop]; omega) (by simp only [List.length_take, List.length_drop]; omega) (by simp only [List.length_take, List.length_drop]; omega) (fun n' y9 y8 y7 y6 y5 st' hn' f1 f2 f3 f4 => ?_))
      have hT2 : (T.drop (2 * w)).length ≤ m := by rw [List.length_drop]; omega
      have s5 : seg (xba st' 13) (L + 2 * w) ((T.drop (2 * w)).map i3) := by
        rw [f2]
        by_cases hbig : 2 * w ≤ T.length
        · have := (seg_take (k := 2 * w) sT).2
          rw [Nat.min_eq_left hbig] at this
          exact this
        · rw [List.drop_eq_nil_of_le (by omega)]
          exact seg_nil
      rw [show (2 : Int32) = i3 2 from rfl, i3_mul, i3_add]
      refine ih (L + 2 * w) (T.drop (2 * w)) st' n' y9 y8 y7 y6 y5 (hM.fr3 f1) (by rw [f1.ln]; exact h13) (by rw [f1.ln]; exact h14) hT2 (fun x hx => hTt x (List.mem_of_mem_drop hx)) s5 (by
        rw [List.length_drop]
        by_cases hbig : 2 * w ≤ T.length
        · left; omega
        · right
          exact ⟨List.drop_eq_nil_of_le (by omega), by omega⟩) (by omega) hn' (fun n2 st2 hn2 g1 g2 g3 g4 => ?_)
      refine hK n2 st2 hn2 (f1.trans g1) (g2.trans f2) ?_ (fun i hi => by rw [g4 i (by omega), f4 i (Or.inl hi)])
      rw [ps, List.map_append]
      have lm : (List.merge (T.take w) ((T.drop w).take w) (kle K)).length = min (2 * w) T.length := by
        rw [(List.merge_perm_append (kle K)).length_eq]
        simp only [List.length_append, List.length_take, List.length_drop]
        omega
      refine seg_app.mpr ⟨seg_of f3 (fun i hi => ?_), ?_⟩
      · rw [List.length_map, lm] at hi
        exact g4 _ (by omega)
      · rw [List.length_map, lm]
        by_cases hbig : 2 * w ≤ T.length
        · rw [Nat.min_eq_left hbig]
          exact g3
        · rw [List.drop_eq_nil_of_le (by omega), ps_nil]
          exact seg_nil
    · have hnil : T = [] := by
        rcases hL with h | ⟨h, _⟩
        · exact List.length_eq_zero_iff.mp (by omega)
        · exact h
      subst hnil
      rw [fM_ranked_b, if_neg (by decide), if_neg (by decide), if_pos rfl, if_pos (by rw [i3_le (by omega) (by omega)]; omega)]
      exact RkO.wrap (hK n st (by omega) Fr3.refl rfl (by rw [ps_nil]; exact seg_nil) (fun _ _ => rfl))
theorem rk5 {fu tot N wc wn : Nat} {y3 : Int32} {Q : xS → Prop} (h2 : tot ≤ 4096) : ∀ (q n i : Nat) (R : List Nat) (st : xS), i + q = tot → R.length = q → tot ≤ xln st 13 → tot ≤ xln st 14 → seg (xba st 14) i (R.map i3) → N + q + 1 ≤ n →
    (∀ (n' : Nat) (y4 : Int32) (st' : xS), N ≤ n' → Fr3 st st' → seg (xba st' 13) i (R.map i3) → (∀ k, k < i → xba st' 13 k = xba st 13 k) → RkO wc wn (fM_ranked_b fu n' 2 (y3 * 2) (i3 tot) c y4 0 0 0 0 0 st' wc wn) Q) →
    RkO wc wn (fM_ranked_b fu n 5 y3 (i3 tot) c (i3 i) 0 0 0 0 0 st wc wn) Q := by
  intro q
  induction q with
  | zero =>
    intro n i R st hi hR h13 h14 sR hn hK
    obtain ⟨n, rfl⟩ : ∃ j, n = j + 1 := ⟨n - 1, by omega⟩
    obtain rfl : R = [] := List.length_eq_zero_iff.mp hR
    rw [fM_ranked_b, if_neg (by decide), if_neg (by decide), if_neg (by decide), if_neg (by decide), if_pos (by rw [i3_le (by omega) (by omega)]; omega)]
    exact RkO.wrap (hK n _ st (by omega) Fr3.refl seg_nil (fun _ _ => rfl))
  | succ q ih =>
    intro n i R st hi hR h13 h14 sR hn hK
    obtain ⟨n, rfl⟩ : ∃ j, n = j + 1 := ⟨n - 1, by omega⟩
    cases R with
    | nil => simp at hR
    | cons x R =>
      rw [List.length_cons] at hR
      obtain ⟨s1, s2⟩ := seg_cons.mp sR
      rw [fM_ranked_b, if_neg (by decide), if_neg (by decide), if_neg (by decide), if_neg (by decide), if_neg (by rw [i3_le (by omega) (by omega)]; omega), if_neg (i3_idx (by omega) (by omega)), if_neg (i3_idx (by omega) (by omega)), i3_N (by omega), s1, i3_one]
      have e14 : xba (xsB st 13 i (i3 x)) 14 = xba st 14 := xsB_oth (by decide)
      refine RkO.wrap (ih n (i + 1) R (xsB st 13 i (i3 x)) (by omega) (by omega) h13 h14 (by rw [e14]; exact s2) (by omega) (fun n' y4 st' hn' f1 f2 f3 => ?_))
      refine hK n' y4 st' hn' ((Fr3.set (Or.inl rfl)).trans f1) ?_ (fun k hk => ?_)
      · rw [List.map_cons]
        refine seg_cons.mpr ⟨?_, f2⟩
        rw [f3 i (by omega), xsB_same, upd_eq]
      · rw [f3 k (by omega), xsB_same, upd_ne (by omega)]
theorem rk2 {fu tot wc wn : Nat} (hd : d ≤ fu) (hc : Rep vs cs ks (d + 1) (ja K) c) (hok : ∀ x ∈ K, jok d x) (ht : tot = K.length) (h2 : tot ≤ 4096) : ∀ (g w n : Nat) (T : List Nat) (st : xS) (y4 : Int32), MS st vs cs ks ws → tot ≤ xln st 13 → tot ≤ xln st 14 → tot ≤ w * 2 ^ g → 1 ≤ w → w ≤ 8192 → T.length = tot → (∀ x ∈ T, x < tot) → seg (xba st 13) 0 (T.map i3) → 6000000 + g * 30000000 < n →
    RkO wc wn (fM_ranked_b fu n 2 (i3 w) (i3 tot) c y4 0 0 0 0 0 st wc wn) (fun stf => Fr3 st stf ∧ seg (xba stf 13) 0 ((ms K g w T).map i3)) := by
  intro g
  induction g with
  | zero =>
    intro w n T st y4 hM h13 h14 hg hw1 hw2 hT hTt sT hn
    obtain ⟨n, rfl⟩ : ∃ j, n = j + 1 := ⟨n - 1, by omega⟩
    rw [fM_ranked_b, if_neg (by decide), if_pos rfl, if_pos (by rw [i3_le (by omega) (by omega)]; omega)]
    exact RkO.wrap ⟨st, rfl, Fr3.refl, sT⟩
  | succ g ih =>
    intro w n T st y4 hM h13 h14 hg hw1 hw2 hT hTt sT hn
    have hmul : (g + 1) * 30000000 = g * 30000000 + 30000000 := Nat.succ_mul _ _
    obtain ⟨n, rfl⟩ : ∃ j, n = j + 1 := ⟨n - 1, by omega⟩
    rw [ms, fM_ranked_b, if_neg (by decide), if_pos rfl]
    by_cases h : tot ≤ w
    · rw [if_pos (by rw [i3_le (by omega) (by omega)]; omega), if_pos (by omega)]
      exact RkO.wrap ⟨st, rfl, Fr3.refl, sT⟩
    · rw [if_neg (by rw [i3_le (by omega) (by omega)]; omega), if_neg (by omega)]
      refine RkO.wrap (rk3 (N := 6000000 + g * 30000000 + 1 + 5000) hd hc hok ht h2 hw1 (by omega) (by omega) tot 0 T st n 0 0 0 0 0 hM h13 h14 (by omega) hTt sT (by omega) (by omega) (by omega) (fun n1 st1 hn1 f1 f2 f3 _ => ?_))
      refine rk5 (N := 6000000 + g * 30000000 + 1) h2 tot n1 0 (ps K w tot T) st1 (by omega) (by rw [ps_len, hT]) (by rw [f1.ln]; exact h13) (by rw [f1.ln]; exact h14) f3 (by omega) (fun n2 y4' st2 hn2 g1 g2 _ => ?_)
      rw [show (2 : Int32) = i3 2 from rfl, i3_mul, Nat.mul_comm w 2]
      have f12 := f1.trans g1
      obtain ⟨stf, e1, e2, e3⟩ := ih (2 * w) n2 (ps K w tot T) st2 y4' (hM.fr3 f12) (by rw [f12.ln]; exact h13) (by rw [f12.ln]; exact h14) (by rw [show 2 * w * 2 ^ g = w * 2 ^ (g + 1) by rw [Nat.pow_succ, Nat.mul_comm 2 w, Nat.mul_assoc, Nat.mul_comm 2 (2 ^ g)]]; exact hg) (by omega) (by omega) (by rw [ps_len, hT]) (fun x hx => hTt x ((ps_perm _ _).mem_iff.mp hx)) g2 hn2
      exact ⟨stf, e1, f12.trans e2, by rw [hT]; exact e3⟩
theorem rk1 {fu tot wc wn : Nat} (hd : d ≤ fu) (hc : Rep vs cs ks (d + 1) (ja K) c) (hok : ∀ x ∈ K, jok d x) (ht : tot = K.length) (h2 : tot ≤ 4096) : ∀ (q n i : Nat) (st : xS), i + q = tot → MS st vs cs ks ws → tot ≤ xln st 13 → tot ≤ xln st 14 → seg (xba st 13) 0 ((List.range i).map i3) → 400000000 + q < n →
    RkO wc wn (fM_ranked_b fu n 1 (i3 i) (i3 tot) c 0 0 0 0 0 0 st wc wn) (fun stf => Fr3 st stf ∧ seg (xba stf 13) 0 ((tn K).map i3)) := by
  intro q
  induction q with
  | zero =>
    intro n i st hi hM h13 h14 sR hn
    obtain ⟨n, rfl⟩ : ∃ j, n = j + 1 := ⟨n - 1, by omega⟩
    obtain rfl : i = tot := by omega
    rw [fM_ranked_b, if_pos rfl, if_pos (by rw [i3_le (by omega) (by omega)]; omega)]
    have := rk2 (wc := wc) (wn := wn) hd hc hok ht h2 12 1 n (List.range i) st 0 hM h13 h14 (by omega) (by omega) (by omega) (List.length_range) (fun x hx => List.mem_range.mp hx) sR (by omega)
    obtain ⟨stf, e1, e2, e3⟩ := this
    exact RkO.wrap ⟨stf, e1, e2, by unfold tn; rw [← ht]; exact e3⟩
  | succ q ih =>
    intro n i st hi hM h13 h14 sR hn
    obtain ⟨n, rfl⟩ : ∃ j, n = j + 1 := ⟨n - 1, by omega⟩
    rw [fM_ranked_b, if_pos rfl, if_neg (by rw [i3_le (by omega) (by omega)]; omega), if_neg (i3_idx (by omega) (by omega)), i3_N (by omega), i3_one]
    obtain ⟨stf, e1, e2, e3⟩ := ih n (i + 1) (xsB st 13 i (i3 i)) (by omega) (hM.fr3 (Fr3.set (Or.inl rfl))) h13 h14 (by
      rw [List.range_succ, List.map_append, xsB_same]
      refine seg_app.mpr ⟨seg_of sR (fun k hk => ?_), ?_⟩
      · rw [List.length_map, List.length_range] at hk
        rw [upd_ne (by omega)]
      · rw [List.length_map, List.length_range, Nat.zero_add]
        exact seg_cons.mpr ⟨upd_eq, seg_nil⟩) (by omega)
    exact RkO.wrap ⟨stf, e1, (Fr3.set (Or.inl rfl)).trans e2, e3⟩
theorem rankedM {fu n : Nat} {st : xS} (hM : MS st vs cs ks ws) (hH : Hs st) (hd : d ≤ fu) (hc : Rep vs cs ks (d + 1) (ja K) c) (hok : ∀ x ∈ K, jok d x) (h2 : K.length ≤ 4096) (hn : 500000000 < n) : ∃ (cc s : Nat) (st' : xS), fM_ranked fu n st c = some (cc, s, st') ∧ MS st' vs cs ks ws ∧ Cost st st' cc s ∧ FrO st st' ∧ seg (xba st' 13) 0 ((tn K).map i3) ∧ K.length ≤ xln st' 13 ∧ xsi st' 12 = xsi st 12 := by
  obtain ⟨g1, _, _, _⟩ := hc.g hM
  obtain ⟨hsz, hll⟩ := hc.sza hM
  obtain ⟨H1, H2, H3, H4, H5⟩ := hH
  unfold fM_ranked
  rw [if_neg g1, hsz]
  have hcmp : (i3 K.length ≤ Int32.ofNat (xln st 13)) = (K.length ≤ xln st 13) := i3_le (by omega) (by omega)
  by_cases h : K.length ≤ xln st 13
  · rw [if_pos (by rw [hcmp]; exact h)]
    obtain ⟨stf, e1, e2, e3⟩ := rk1 (wc := 0) (wn := 0) hd hc hok rfl h2 K.length n 0 st (by omega) hM h (by omega) seg_nil (by omega)
    exact ⟨0, 0, stf, e1, hM.fr3 e2, ⟨Nat.le_refl _, by rw [e2.pe]; omega⟩, e2.o, e3, by rw [e2.ln]; exact h, by unfold xsi; rw [e2.1]⟩
  · rw [if_neg (by rw [hcmp]; exact h), show (2 : Int32) = i3 2 from rfl, i3_mul, if_neg (by rw [i3_N (by omega)]; exact fun hh => hh.elim (i3_nn (by omega)) (by omega)), i3_N (by omega), if_neg (fun hh => hh.elim (i3_nn (by omega)) (by omega))]
    have hM1 : MS (xsG (xsG st 13 (2 * K.length) (fun _ => 0)) 14 (2 * K.length) (fun _ => 0)) vs cs ks ws := by
      obtain ⟨⟨v1, w1, w2, w3, w4⟩, r1, r2, r3, r4, r5, r6, r7⟩ := hM
      exact ⟨⟨v1, w1, w2, w3, w4⟩, r1, r2, r3, r4, r5, r6, r7⟩
    have l13 : xln (xsG (xsG st 13 (2 * K.length) (fun _ => 0)) 14 (2 * K.length) (fun _ => 0)) 13 = 2 * K.length := by
      show va_up (va_up (xln st) 13 (2 * K.length)) 14 (2 * K.length) 13 = _
      rw [up_ne (by decide), up_eq]
    have l14 : xln (xsG (xsG st 13 (2 * K.length) (fun _ => 0)) 14 (2 * K.length) (fun _ => 0)) 14 = 2 * K.length := (up_eq : va_up (va_up (xln st) 13 (2 * K.length)) 14 (2 * K.length) 14 = 2 * K.length)
    have lot : ∀ k, k ≠ 13 → k ≠ 14 → xln (xsG (xsG st 13 (2 * K.length) (fun _ => 0)) 14 (2 * K.length) (fun _ => 0)) k = xln st k ∧ xba (xsG (xsG st 13 (2 * K.length) (fun _ => 0)) 14 (2 * K.length) (fun _ => 0)) k = xba st k := by
      intro k k1 k2
      refine ⟨?_, ?_⟩
      · show va_up (va_up (xln st) 13 (2 * K.length)) 14 (2 * K.length) k = _
        rw [up_ne k2, up_ne k1]
      · show va_up (va_up (xba st) 13 _) 14 _ k = _
        rw [up_ne k2, up_ne k1]
    have hpt : pt (xsG (xsG st 13 (2 * K.length) (fun _ => 0)) 14 (2 * K.length) (fun _ => 0)) + 4 * xln st 13 = pt st + 8 * K.length := by
      unfold pt
      rw [l13, l14, (lot 1 (by decide) (by decide)).1, (lot 3 (by decide) (by decide)).1, (lot 5 (by decide) (by decide)).1, (lot 6 (by decide) (by decide)).1, (lot 10 (by decide) (by decide)).1, (lot 11 (by decide) (by decide)).1, (lot 21 (by decide) (by decide)).1]
      show 2 * _ + 6 * xct st + _ = _
      omega
    obtain ⟨stf, e1, e2, e3⟩ := rk1 (wc := 0 + 1 + 1) (wn := 0 + 2 * K.length + 2 * K.length) hd hc hok rfl h2 K.length n 0 _ (by omega) hM1 (by rw [l13]; omega) (by rw [l14]; omega) seg_nil (by omega)
    refine ⟨2, 2 * K.length + 2 * K.length, stf, ?_, hM1.fr3 e2, ⟨by omega, by rw [e2.pe]; omega⟩, ?_, e3, by rw [e2.ln, l13]; omega, by unfold xsi; rw [e2.1]; rfl⟩
    · have hin : ∀ (c1 s1 c2 s2 : Nat) (z : xS), c1 ≤ c2 → s1 ≤ s2 → xmo (fun a : Nat × Nat × xS => a.1) (fun a => a.2.1) c1 s1 (some (c2, s2, z)) = some (c2, s2, z) := fun _ _ _ _ _ h1 h2 => xmo_some h1 h2
      rw [show fM_ranked_b fu n 1 0 (i3 K.length) c 0 0 0 0 0 0 (xsG (xsG st 13 (2 * K.length) (fun _ => 0)) 14 (2 * K.length) (fun _ => 0)) (0 + 1 + 1) (0 + 2 * K.length + 2 * K.length) = some (0 + 1 + 1, 0 + 2 * K.length + 2 * K.length, stf) from e1, hin _ _ _ _ _ (Nat.le_refl _) (Nat.le_refl _), hin _ _ _ _ _ (by omega) (by omega), Nat.zero_add, Nat.zero_add]
    · refine FrO.trans (b := xsG (xsG st 13 (2 * K.length) (fun _ => 0)) 14 (2 * K.length) (fun _ => 0)) ⟨fun _ _ => rfl, fun k hk => lot k (by omega) (by omega), fun _ => ?_⟩ e2.o
      exact ⟨by rw [(lot 21 (by decide) (by decide)).1]; exact H1, by rw [(lot 21 (by decide) (by decide)).1]; exact H2, by rw [l13]; omega, by rw [l13, l14], by rw [l13]; omega⟩
end RNK
end ZRnk86
section ZSrt87
section SRT
variable {cs : List Nat} {W0 : List NP} {e d : Nat}
theorem Rep.lf {vs : List VR} {cs : List Nat} {ks : List NP} : ∀ (d : Nat) (j : JT d) (c : Nat), Rep vs cs ks d j c → Rep vs cs ks (d + 1) (lf d j) c
  | 0, j, _, _ => (j0 j).elim
  | d + 1, j, c, h => by
    obtain ⟨h1, v, hv, h2, h3, h4, h5, h6⟩ := h
    refine ⟨h1, v, hv, by rw [jd_lf]; exact h2, by rw [jc_lf]; exact h3, by rw [jd_lf]; exact h4, by rw [jc_lf]; exact h5, ?_⟩
    rcases jcases j with ⟨k, rfl⟩ | ⟨z, rfl⟩ | ⟨s, rfl⟩ | ⟨l, rfl⟩ | ⟨l, rfl⟩
    · exact h6
    · exact h6
    · exact h6
    · obtain ⟨a1, a2, a3⟩ := h6
      refine ⟨a1, by rw [List.length_map]; exact a2, fun i x hx => ?_⟩
      rw [List.getElem?_map] at hx
      obtain ⟨y, hy, rfl⟩ := Option.map_eq_some_iff.mp hx
      obtain ⟨p, p1, p2⟩ := a3 i y hy
      exact ⟨p, p1, Rep.lf d y p.1 p2⟩
    · obtain ⟨a1, a2, a3⟩ := h6
      refine ⟨a1, by rw [List.length_map]; exact a2, fun i x hx => ?_⟩
      rw [List.getElem?_map] at hx
      obtain ⟨y, hy, rfl⟩ := Option.map_eq_some_iff.mp hx
      obtain ⟨p, p1, p2, p3⟩ := a3 i y hy
      exact ⟨p, p1, Rep.lf d y.2 p.1 p2, p3⟩
theorem OpO.lf {st : xS} {vs : List VR} {ks ws : List NP} {wc wn cR cL : Nat} {out : Option (Nat × Nat × Nat × Nat × xS)} {j : JT d} (h : OpO st wc wn cR cL out vs cs ks ws (.inr j)) : OpO st wc wn cR cL out vs cs ks ws (.inr (lf d j)) := by
  rcases h with ⟨c1, s1, x, st', v', k', n', g1, g2, g3, g4, g5⟩ | ⟨q, hx, c1, s1, st', g⟩
  · exact Or.inl ⟨c1, s1, x, st', v', k', n', g1, g2, g3, g4, g5.lf⟩
  · exact Or.inr ⟨q, by rw [jd_lf, jc_lf]; exact hx, c1, s1, st', g⟩
theorem whole_ax {st : xS} {vs : List VR} {ks W : List NP} {n : Nat} {l : List (JT d)} (hM : MS st vs cs ks (W0 ++ W)) (hR : RL vs cs ks d W l) (hbv : vs.length + 1 ≤ bV) (hbk : ks.length + W.length ≤ bK) (hn : 20 * bC < n) : (∃ (cc s : Nat) (st1 : xS) (v : VR), fM_whole n st 5 (i3 W0.length) = some (0, cc, s, vs.length + 1, st1) ∧ MS st1 (vs ++ [v]) cs (ks ++ W) W0 ∧ Cost st st1 cc s ∧ Fr0 st st1 ∧ Rep (vs ++ [v]) cs (ks ++ W) (d + 1) (ja l) (vs.length + 1)) ∨ ((60 < jd (d + 1) (ja l) ∨ 60000 < (jc (d + 1) (ja l)).length) ∧ ∃ (cc s : Nat) (st2 : xS), fM_whole n st 5 (i3 W0.length) = some (1, cc, s, 0, st2) ∧ CostE st st2 cc s 1 ∧ OpB st st2) := by
  obtain ⟨a1, a2, a3, a4, a5⟩ := hR.sums
  obtain ⟨cc, s, st1, st2, e, m1, m2, m3, m4, _, m6, m7, _⟩ := whole_w (k := 5) hM (by omega) a4 hbv hbk hn
  have hD : jd (d + 1) (ja l) = (W.map (fun p => vDp vs p.1)).foldl max 0 + 1 := by rw [a2, jd_a]
  have hW : (jc (d + 1) (ja l)).length = 1 + (W.map (kWt vs 5)).sum := by
    rw [a3, jc_a, lst_len, sm_flat]
    exact Nat.add_comm _ _
  by_cases h : (W.map (fun p => vDp vs p.1)).foldl max 0 < 60 ∧ 1 + (W.map (kWt vs 5)).sum ≤ 60000
  · rw [if_pos h] at e
    exact Or.inl ⟨cc, s, st1, _, e, m1, m3, m4, rep_a hR (by omega) (by omega)⟩
  · rw [if_neg h] at e
    obtain ⟨v, m2⟩ := m2
    exact Or.inr ⟨by omega, cc + 1, s + 6, st2, e, ⟨by have := m6.1; omega, by have := m6.2; omega⟩, ⟨⟨_, _, _, _, m2⟩, m7.o⟩⟩
theorem big_a {L : List (JT d)} {p : JT d} (hp : p ∈ L) (h : 60 < jd d p ∨ 60000 < (jc d p).length) : 60 < jd (d + 1) (ja L) ∨ 60000 < (jc (d + 1) (ja L)).length := by
  rcases h with h | h
  · left
    apply Classical.byContradiction
    intro hn
    have := (jd_a_le (n := 59)).mp (show jd (d + 1) (ja L) ≤ 59 + 1 by omega) p hp
    omega
  · right
    rw [jc_a, lst_len]
    obtain ⟨a, b, rfl⟩ := List.append_of_mem hp
    simp
    omega
theorem byT_c {α : Type} {l : List α} {t : Nat} {T : List Nat} {x : α} (h : l[t]? = some x) : byT (t :: T) l = x :: byT T l := by
  unfold byT
  rw [List.filterMap_cons, h]
theorem Fr0.b13 {st st' : xS} (h : Fr0 st st') : xba st' 13 = xba st 13 ∧ xln st' 13 = xln st 13 := ⟨(h.2 13 (by decide) (by decide) (by decide) (by decide) (by decide) (by decide)).2, (h.2 13 (by decide) (by decide) (by decide) (by decide) (by decide) (by decide)).1⟩
theorem srt0 {vs : List VR} {ks : List NP} {fu tot a b : Nat} {l : List (JT e)} {T : List Nat} (ha : Rep vs cs ks (e + 1) (ja l) a) (hbc : b ≤ vs.length) (htl : tot = l.length) (htt : tot = T.length) (hT : ∀ x ∈ T, x < tot) (h2 : tot ≤ 4096) (hbv : vs.length + 1 ≤ bV) (hbk : ks.length + (W0.length + tot) ≤ bK) : ∀ (q n i : Nat) (st : xS) (W : List NP) (X : List (JT e)) (wc wn : Nat) (y9 y8 y7 : Int32), i + q = tot → W.length = i → MS st vs cs ks (W0 ++ W) → RL vs cs ks e W X → seg (xba st 13) 0 (T.map i3) → tot ≤ xln st 13 → 3000000 + q < n → OpO st wc wn 1 1 (fM_sort1_b fu n 2 (i3 i) (i3 W0.length) (i3 tot) a b 0 y9 y8 y7 st wc wn) vs cs ks W0 (.inr (ja (X ++ byT (T.drop i) l))) := by
  have hbc' : bC = 100000 := rfl
  have hbk' : bK = 32000 := rfl
  intro q
  induction q with
  | zero =>
    intro n i st W X wc wn y9 y8 y7 hi hW hM hR sT hx hn
    obtain ⟨n, rfl⟩ : ∃ j, n = j + 1 := ⟨n - 1, by omega⟩
    have hnil : X ++ byT ([] : List Nat) l = X := List.append_nil X
    rw [fM_sort1_b, if_neg (by decide), if_pos rfl, if_pos (by rw [i3_le (by omega) (by omega)]; omega), List.drop_eq_nil_of_le (by omega), hnil]
    exact OpO.wrap (OpO.l1 (cR := 1) (by omega) (whole_ao hM hR hbv (by omega) (by omega)))
  | succ q ih =>
    intro n i st W X wc wn y9 y8 y7 hi hW hM hR sT hx hn
    obtain ⟨n, rfl⟩ : ∃ j, n = j + 1 := ⟨n - 1, by omega⟩
    have hti : T[i] < tot := hT _ (List.getElem_mem _)
    have hlt : l[T[i]]? = some l[T[i]] := List.getElem?_eq_getElem (by omega)
    have hix : xba st 13 i = i3 T[i] := by
      have := sT i (i3 T[i]) (by rw [List.getElem?_map, List.getElem?_eq_getElem (by omega)]; rfl)
      rw [Nat.zero_add] at this
      exact this
    obtain ⟨k, e1, r1⟩ := ha.kid (n := n) hM hlt
    obtain ⟨_, a2, _, _⟩ := ha.g hM
    have hb2 : ¬ xct st < b := by have := hM.2.2.1.1; omega
    obtain ⟨cc, s, st', e2, m1, m2, m3, _⟩ := wait_w (n := n) hM (a := k) (b := 0) r1.lev (by omega) (by rw [List.length_append]; omega) (by omega)
    rw [fM_sort1_b, if_neg (by decide), if_pos rfl, if_neg (by rw [i3_le (by omega) (by omega)]; omega), if_neg (i3_idx (by omega) (by omega)), if_pos rfl, i3_N (by omega), hix, e1, Option.bind_some, e2, Option.bind_some, if_neg a2, if_neg hb2, i3_one, List.drop_eq_getElem_cons (show i < T.length by omega), byT_c hlt]
    refine OpO.wrap (OpO.step0 (OpO.wrap ?_) m2 m3.o)
    rw [List.append_assoc] at m1
    have := ih n (i + 1) st' (W ++ [(k, 0)]) (X ++ [l[T[i]]]) (wc + cc) (wn + s) 0 0 (i3 T[i]) (by omega) (by rw [List.length_append, hW]; rfl) m1 (hR.snoc r1 (by omega)) (by rw [m3.b13.1]; exact sT) (by rw [m3.b13.2]; exact hx) (by omega)
    rw [List.append_assoc] at this
    exact this
theorem sort0M {vs : List VR} {ks ws : List NP} {st : xS} {fu n a b : Nat} {l : List (JT e)} {K : List (JT d)} (hM : MS st vs cs ks ws) (hH : Hs st) (ha : Rep vs cs ks (e + 1) (ja l) a) (hb : Rep vs cs ks (d + 1) (ja K) b) (hok : ∀ x ∈ K, jok d x) (hlen : l.length = K.length) (h2 : K.length ≤ 4096) (hd : d ≤ fu) (hbv : vs.length + 1 ≤ bV) (hbk : ks.length + (ws.length + K.length) ≤ bK) (hn : 500000000 < n) : OpO st 0 0 1 1 (fM_sort1 fu n st a b 0) vs cs ks ws (.inr (ja (byT (tn K) l))) := by
  obtain ⟨a1, a2, _, _⟩ := ha.g hM
  obtain ⟨_, b2, _, b4⟩ := hb.g hM
  obtain ⟨cc, s, st', e1, m1, m2, m3, m4, m5, m6⟩ := rankedM hM hH hd hb hok h2 hn
  unfold fM_sort1
  rw [if_neg a1, if_pos (by decide), e1, Option.bind_some, if_neg b2, (ha.sza hM).1, hlen]
  refine OpO.step0 (OpO.wrap ?_) m2 m3
  dsimp only
  rw [m6, hM.1.1.2.2.2]
  exact srt0 (W0 := ws) ha b4 hlen.symm (tn_len K).symm (fun x hx => tn_lt hx) h2 hbv hbk K.length n 0 st' [] [] _ _ 0 0 0 (by omega) rfl (by rw [List.append_nil]; exact m1) trivial m4 m5 (by omega)
end SRT
end ZSrt87
section ZGrp88
section GRP
variable {cs : List Nat} {W0 : List NP} {e d : Nat} {K : List (JT d)}
theorem kc_anti (x y : Nat) : kc K y x = - kc K x y := by
  unfold kc
  cases K[x]? <;> cases K[y]? <;> first | rfl | exact (jcmp_good d).1 _ _
theorem kc_cong {x y : Nat} (hx : x < K.length) (hy : y < K.length) (h : kc K x y = 0) {z : Nat} (hz : z < K.length) : kc K x z = kc K y z := by
  unfold kc at h ⊢
  rw [List.getElem?_eq_getElem hx, List.getElem?_eq_getElem hy] at h
  rw [List.getElem?_eq_getElem hx, List.getElem?_eq_getElem hy, List.getElem?_eq_getElem hz]
  exact (jcmp_good d).cong h _
abbrev sk (K : List (JT d)) (f : Nat) : Nat → Bool := fun t => decide (kc K t f = 0)
theorem bgn_sk {p f t : Nat} (hp : p < K.length) (hf : f < K.length) (ht : t < K.length) (h : kc K p f = 0) : bgn K (some p) t = !sk K f t := by
  have h1 : kc K p t = kc K f t := kc_cong hp hf h ht
  have h2 := kc_anti (K := K) f t
  show decide (kc K p t ≠ 0) = !decide (kc K t f = 0)
  by_cases hz : kc K f t = 0
  · rw [decide_eq_false (by rw [h1]; simpa using hz), decide_eq_true (by omega)]
    rfl
  · rw [decide_eq_true (by rw [h1]; exact hz), decide_eq_false (by omega)]
    rfl
theorem run_tw {f : Nat} (hf : f < K.length) : ∀ (T : List Nat) (p : Nat), p < K.length → kc K p f = 0 → (∀ x ∈ T, x < K.length) → run K p T = T.takeWhile (sk K f)
  | [], _, _, _, _ => rfl
  | t :: T, p, hp, h, hT => by
    have ht := hT t List.mem_cons_self
    unfold run
    rw [bgn_sk hp hf ht h, List.takeWhile_cons]
    cases hs : sk K f t with
    | false => rfl
    | true =>
      have hz : kc K t f = 0 := of_decide_eq_true hs
      rw [Bool.not_true, if_neg (by decide), if_pos rfl, run_tw hf T t ht hz (fun x hx => hT x (List.mem_cons_of_mem _ hx))]
theorem grs_dw {f : Nat} (hf : f < K.length) : ∀ (T : List Nat) (p : Nat), p < K.length → kc K p f = 0 → (∀ x ∈ T, x < K.length) → grs K (some p) T = grs K none (T.dropWhile (sk K f))
  | [], _, _, _, _ => rfl
  | t :: T, p, hp, h, hT => by
    have ht := hT t List.mem_cons_self
    rw [List.dropWhile_cons]
    conv => lhs; unfold grs
    rw [bgn_sk hp hf ht h]
    cases hs : sk K f t with
    | false => rfl
    | true =>
      have hz : kc K t f = 0 := of_decide_eq_true hs
      rw [Bool.not_true, if_neg (by decide), if_pos rfl, grs_dw hf T t ht hz (fun x hx => hT x (List.mem_cons_of_mem _ hx))]
theorem fsts_dw {f : Nat} (hf : f < K.length) : ∀ (T : List Nat) (p : Nat), p < K.length → kc K p f = 0 → (∀ x ∈ T, x < K.length) → fsts K (some p) T = fsts K none (T.dropWhile (sk K f))
  | [], _, _, _, _ => rfl
  | t :: T, p, hp, h, hT => by
    have ht := hT t List.mem_cons_self
    rw [List.dropWhile_cons]
    conv => lhs; unfold fsts
    rw [bgn_sk hp hf ht h]
    cases hs : sk K f t with
    | false => rfl
    | true =>
      have hz : kc K t f = 0 := of_decide_eq_true hs
      rw [Bool.not_true, if_neg (by decide), if_pos rfl, fsts_dw hf T t ht hz (fun x hx => hT x (List.mem_cons_of_mem _ hx))]
theorem kc_self {x : Nat} : kc K x x = 0 := by
  have := kc_anti (K := K) x x
  omega
theorem grs_n {f : Nat} {T : List Nat} (hf : f < K.length) (hT : ∀ x ∈ T, x < K.length) : grs K none (f :: T) = (f :: T.takeWhile (sk K f)) :: grs K none (T.dropWhile (sk K f)) := by
  rw [← run_tw hf T f hf kc_self hT, ← grs_dw hf T f hf kc_self hT]
  rfl
theorem fsts_n {f : Nat} {T : List Nat} (hf : f < K.length) (hT : ∀ x ∈ T, x < K.length) : fsts K none (f :: T) = f :: fsts K none (T.dropWhile (sk K f)) := by
  rw [← fsts_dw hf T f hf kc_self hT]
  rfl
def TabM (st : xS) (tot : Nat) (T : List Nat) : Prop := tot = T.length ∧ (∀ x ∈ T, x < tot) ∧ seg (xba st 13) 0 (T.map i3) ∧ tot ≤ xln st 13
theorem TabM.at {st : xS} {tot i : Nat} {T : List Nat} (h : TabM st tot T) (hi : i < T.length) : xba st 13 i = i3 T[i] ∧ T[i] < tot := by
  refine ⟨?_, h.2.1 _ (List.getElem_mem _)⟩
  have := h.2.2.1 i (i3 T[i]) (by rw [List.getElem?_map, List.getElem?_eq_getElem hi]; rfl)
  rw [Nat.zero_add] at this
  exact this
theorem TabM.fr {st st' : xS} {tot : Nat} {T : List Nat} (h : TabM st tot T) (hf : Fr0 st st') : TabM st' tot T := ⟨h.1, h.2.1, by rw [hf.b13.1]; exact h.2.2.1, by rw [hf.b13.2]; exact h.2.2.2⟩
theorem keyZ {st : xS} {vs : List VR} {ks ws : List NP} {fu n b tot f t : Nat} (hM : MS st vs cs ks ws) (hb : Rep vs cs ks (d + 1) (ja K) b) (hok : ∀ x ∈ K, jok d x) (hd : d ≤ fu) (hn : 5000000 < n) (htk : tot = K.length) (hf : f < tot) (ht : t < tot) : ∃ (k1 k2 : Nat) (z : Int32), fM_kid n st b (i3 t) = some k1 ∧ fM_kid n st b (i3 f) = some k2 ∧ fM_order fu n st k1 k2 = some z ∧ (z = 0 ↔ sk K f t = true) := by
  obtain ⟨k1, e1, r1⟩ := hb.kid (n := n) hM (List.getElem?_eq_getElem (show t < K.length by omega))
  obtain ⟨k2, e2, r2⟩ := hb.kid (n := n) hM (List.getElem?_eq_getElem (show f < K.length by omega))
  obtain ⟨z, hz, z0, _⟩ := (orderM (n := n) hM hn d fu hd _ _ _ _ r1 r2 (hok _ (List.getElem_mem _)) (hok _ (List.getElem_mem _))).tests
  refine ⟨k1, k2, z, e1, e2, hz, z0.trans ?_⟩
  have hkc : kc K t f = jcmp d K[t] K[f] := by
    unfold kc
    rw [List.getElem?_eq_getElem (by omega), List.getElem?_eq_getElem (by omega)]
  show _ ↔ decide (kc K t f = 0) = true
  rw [hkc]
  exact ⟨fun h => decide_eq_true h, fun h => of_decide_eq_true h⟩
theorem in2 {vs : List VR} {ks ws : List NP} {fu tot a b f i N wc wn : Nat} {y5 y9 : Int32} {R : Nat ⊕ JT (e + 1)} {T : List Nat} {st : xS} (hM : MS st vs cs ks ws) (hb : Rep vs cs ks (d + 1) (ja K) b) (hok : ∀ x ∈ K, jok d x) (hd : d ≤ fu) (htk : tot = K.length) (h2 : tot ≤ 4096) (hTb : TabM st tot T) (hf : f < tot) (hN : 5000001 ≤ N)
    (hK : ∀ (n' j' : Nat) (y8' y7' : Int32), N ≤ n' → i < j' → T.drop j' = (T.drop (i + 1)).dropWhile (sk K f) → j' ≤ tot → OpO st wc wn 1 1 (fM_sort1_b fu n' 2 (i3 j') y5 (i3 tot) a b 2 y9 y8' y7' st wc wn) vs cs ks W0 R) : ∀ (q n j : Nat), j + q = tot → i < j → (T.drop (i + 1)).dropWhile (sk K f) = (T.drop j).dropWhile (sk K f) → N + q + 1 ≤ n → OpO st wc wn 1 1 (fM_sort1_b fu n 3 (i3 i) y5 (i3 tot) a b 2 y9 (i3 j) (i3 f) st wc wn) vs cs ks W0 R := by
  obtain ⟨t1, t2, t3, t4⟩ := hTb
  intro q
  induction q with
  | zero =>
    intro n j hj hij hdw hn
    obtain ⟨n, rfl⟩ : ∃ k, n = k + 1 := ⟨n - 1, by omega⟩
    rw [fM_sort1_b, if_neg (by decide), if_neg (by decide), if_pos (by rw [i3_le (by omega) (by omega)]; omega), if_neg (by decide)]
    refine OpO.wrap (hK n j _ _ (by omega) hij ?_ (by omega))
    rw [hdw, List.drop_eq_nil_of_le (by omega)]
    rfl
  | succ q ih =>
    intro n j hj hij hdw hn
    obtain ⟨n, rfl⟩ : ∃ k, n = k + 1 := ⟨n - 1, by omega⟩
    have hTb : TabM st tot T := ⟨t1, t2, t3, t4⟩
    obtain ⟨hx, hlt⟩ := hTb.at (i := j) (by omega)
    obtain ⟨k1, k2, z, e1, e2, e3, hz⟩ := keyZ (n := n) hM hb hok hd (by omega) htk hf hlt
    rw [fM_sort1_b, if_neg (by decide), if_neg (by decide), if_neg (by rw [i3_le (by omega) (by omega)]; omega), if_neg (i3_idx (by omega) (by omega)), i3_N (by omega), hx, e1, Option.bind_some, e2, Option.bind_some, e3, Option.bind_some]
    rw [List.drop_eq_getElem_cons (show j < T.length by omega), List.dropWhile_cons] at hdw
    by_cases h0 : z = 0
    · rw [if_pos h0, if_neg (by decide), if_neg (by rw [i3_eq (by omega) (by omega)]; omega), i3_one]
      rw [if_pos (hz.mp h0)] at hdw
      exact OpO.wrap (ih n (j + 1) (by omega) (by omega) hdw (by omega))
    · rw [if_neg h0, if_neg (by decide)]
      rw [if_neg (fun h => h0 (hz.mpr h)), ← List.drop_eq_getElem_cons (show j < T.length by omega)] at hdw
      exact OpO.wrap (hK n j _ _ (by omega) hij hdw.symm (by omega))
theorem dw_drop {α : Type} (p : α → Bool) : ∀ (l : List α), ∃ k, l.dropWhile p = l.drop k ∧ k ≤ l.length
  | [] => ⟨0, rfl, Nat.le_refl _⟩
  | x :: l => by
    rw [List.dropWhile_cons]
    by_cases h : p x = true
    · rw [if_pos h]
      obtain ⟨k, h1, h2⟩ := dw_drop p l
      exact ⟨k + 1, h1, Nat.succ_le_succ h2⟩
    · rw [if_neg h]
      exact ⟨0, rfl, Nat.zero_le _⟩
theorem srt2 {vs : List VR} {ks : List NP} {fu tot a b : Nat} {l : List (JT e)} {T : List Nat} (ha : Rep vs cs ks (e + 1) (ja l) a) (hb : Rep vs cs ks (d + 1) (ja K) b) (hok : ∀ x ∈ K, jok d x) (hd : d ≤ fu) (htk : tot = K.length) (htl : tot = l.length) (h2 : tot ≤ 4096) (hbv : vs.length + 1 ≤ bV) (hbk : ks.length + (W0.length + tot) ≤ bK) : ∀ (q n i : Nat) (st : xS) (W : List NP) (X : List (JT e)) (wc wn : Nat) (y9 y8 y7 : Int32), i + q = tot → W.length ≤ i → MS st vs cs ks (W0 ++ W) → RL vs cs ks e W X → TabM st tot T → 6000000 + q * 10000 < n → OpO st wc wn 1 1 (fM_sort1_b fu n 2 (i3 i) (i3 W0.length) (i3 tot) a b 2 y9 y8 y7 st wc wn) vs cs ks W0 (.inr (ja (X ++ byT (fsts K none (T.drop i)) l))) := by
  have hbc' : bC = 100000 := rfl
  have hbk' : bK = 32000 := rfl
  intro q
  induction q using Nat.strongRecOn with
  | ind q ih =>
    intro n i st W X wc wn y9 y8 y7 hi hW hM hR hTb hn
    obtain ⟨n, rfl⟩ : ∃ j, n = j + 1 := ⟨n - 1, by omega⟩
    have t1 := hTb.1
    cases q with
    | zero =>
      have hnil : X ++ byT (fsts K none []) l = X := List.append_nil X
      rw [fM_sort1_b, if_neg (by decide), if_pos rfl, if_pos (by rw [i3_le (by omega) (by omega)]; omega), List.drop_eq_nil_of_le (by omega), hnil]
      exact OpO.wrap (OpO.l1 (cR := 1) (by omega) (whole_ao hM hR hbv (by omega) (by omega)))
    | succ q =>
      have hmul : (q + 1) * 10000 = q * 10000 + 10000 := Nat.succ_mul _ _
      obtain ⟨hx, hlt⟩ := hTb.at (i := i) (by omega)
      have h4 := hTb.2.2.2
      have hll : l[T[i]]? = some l[T[i]] := List.getElem?_eq_getElem (by omega)
      rw [fM_sort1_b, if_neg (by decide), if_pos rfl, if_neg (by rw [i3_le (by omega) (by omega)]; omega), if_neg (i3_idx (by omega) (by omega)), if_neg (by decide), i3_N (by omega), hx]
      obtain ⟨n, rfl⟩ : ∃ j, n = j + 1 := ⟨n - 1, by omega⟩
      obtain ⟨k1, k2, z, e1, e2, e3, hz⟩ := keyZ (n := n) hM hb hok hd (by omega) htk hlt hlt
      have hz0 : z = 0 := hz.mpr (decide_eq_true kc_self)
      obtain rfl : k1 = k2 := by rw [e1] at e2; injection e2
      obtain ⟨k, e4, r4⟩ := ha.kid (n := n) hM hll
      obtain ⟨_, a2, _, _⟩ := ha.g hM
      obtain ⟨_, b2, _, _⟩ := hb.g hM
      obtain ⟨cc, s, st', e5, m1, m2, m3, _⟩ := wait_w (n := n) hM (a := k) (b := 0) r4.lev (by omega) (by rw [List.length_append]; omega) (by omega)
      rw [fM_sort1_b, if_neg (by decide), if_neg (by decide), if_neg (by rw [i3_le (by omega) (by omega)]; omega), if_neg (i3_idx (by omega) (by omega)), i3_N (by omega), hx, e1, Option.bind_some, Option.bind_some, e3, Option.bind_some, if_pos hz0, if_neg (by decide), if_pos rfl, if_neg (i3_id2 (by omega) (by omega)), e4, Option.bind_some, e5, Option.bind_some, if_neg a2, if_neg b2, i3_one]
      refine OpO.wrap (OpO.wrap (OpO.step0 (OpO.wrap ?_) m2 m3.o))
      rw [List.append_assoc] at m1
      have hTK : ∀ x ∈ T.drop (i + 1), x < K.length := fun x hx => by
        have := hTb.2.1 x (List.mem_of_mem_drop hx)
        omega
      rw [List.drop_eq_getElem_cons (show i < T.length by omega), fsts_n (by omega) hTK, byT_c hll]
      refine in2 (N := 6000000 + q * 10000 + 1) m1 hb hok hd htk h2 (hTb.fr m3) hlt (by omega) (fun n' j' y8' y7' hn' hij hdr hjt => ?_) q n (i + 1) (by omega) (by omega) rfl (by omega)
      rw [← hdr]
      have := ih (tot - j') (by omega) n' j' st' (W ++ [(k, 0)]) (X ++ [l[T[i]]]) (wc + cc) (wn + s) (xsi st 12) y8' y7' (by omega) (by rw [List.length_append]; simp; omega) m1 (hR.snoc r4 (by omega)) (hTb.fr m3) (Nat.lt_of_lt_of_le (Nat.lt_succ_of_le (Nat.add_le_add_left (Nat.mul_le_mul_right 10000 (by omega)) 6000000)) hn')
      rw [List.append_assoc] at this
      exact this
noncomputable def fin1 (fu n : Nat) (y6 y5 y4 : Int32) (y1 y2 : Nat) (y9 y8 y7 : Int32) (ws9 : xS) (wc wn : Nat) : Option (Nat × Nat × Nat × Nat × xS) := (fM_whole n (xsI ws9 9 ((xsi ws9 9) + (y8 - y6))) 5 y9).bind fun o1 => ((if o1.1 = 0 then if (xct ws9) < y1 then none else if (xct ws9) < y2 then none else xmo (fun a => a.2.1) (fun a => a.2.2.1) (wc + o1.2.1) (wn + o1.2.2.1) ((fM_wait n o1.2.2.2.2 0 o1.2.2.2.1).bind fun o15 => (if (xct o1.2.2.2.2) < y1 then none else if (xct o1.2.2.2.2) < y2 then none else xmo (fun a => a.2.1) (fun a => a.2.2.1) ((wc + o1.2.1) + o15.1) ((wn + o1.2.2.1) + o15.2.1) (fM_sort1_b fu n 2 y8 y5 y4 y1 y2 1 y9 y8 y7 o15.2.2 ((wc + o1.2.1) + o15.1) ((wn + o1.2.2.1) + o15.2.1)))) else (if o1.1 = 1 then if (xct ws9) < y1 then none else if (xct ws9) < y2 then none else xmo (fun a => a.2.1) (fun a => a.2.2.1) (wc + o1.2.1) (wn + o1.2.2.1) (some (1, (wc + o1.2.1), (wn + o1.2.2.1), 0, o1.2.2.2.2)) else none)))
theorem in1 {vs : List VR} {ks WW : List NP} {fu tot a b f i N : Nat} {y5 y9 : Int32} {R : Nat ⊕ JT (e + 2)} {l : List (JT e)} {T : List Nat} (ha : Rep vs cs ks (e + 1) (ja l) a) (hb : Rep vs cs ks (d + 1) (ja K) b) (hok : ∀ x ∈ K, jok d x) (hd : d ≤ fu) (htk : tot = K.length) (htl : tot = l.length) (h2 : tot ≤ 4096) (hf : f < tot) (hN : 5000001 ≤ N) (hbw : WW.length + tot ≤ bK)
    (hK : ∀ (n' j' : Nat) (st' : xS) (G' : List NP) (Y : List (JT e)) (wc' wn' : Nat), N ≤ n' → i < j' → (∃ P, Y = byT P l ∧ T.drop i = P ++ T.drop j' ∧ P = f :: (T.drop (i + 1)).takeWhile (sk K f)) → T.drop j' = (T.drop (i + 1)).dropWhile (sk K f) → j' ≤ tot → MS st' vs cs ks (WW ++ G') → RL vs cs ks e G' Y → TabM st' tot T → G'.length + i ≤ j' → OpO st' wc' wn' 1 1 (fin1 fu n' (i3 i) y5 (i3 tot) a b y9 (i3 j') (i3 f) st' wc' wn') vs cs ks W0 R) : ∀ (q n j : Nat) (st : xS) (G : List NP) (P : List Nat) (wc wn : Nat), j + q = tot → i < j → (T.drop (i + 1)).dropWhile (sk K f) = (T.drop j).dropWhile (sk K f) → T.drop i = P ++ T.drop j → f :: (T.drop (i + 1)).takeWhile (sk K f) = P ++ (T.drop j).takeWhile (sk K f) → MS st vs cs ks (WW ++ G) → RL vs cs ks e G (byT P l) → TabM st tot T → G.length + i ≤ j → N + q + 1 ≤ n → OpO st wc wn 1 1 (fM_sort1_b fu n 3 (i3 i) y5 (i3 tot) a b 1 y9 (i3 j) (i3 f) st wc wn) vs cs ks W0 R := by
  have hbk' : bK = 32000 := rfl
  intro q
  induction q with
  | zero =>
    intro n j st G P wc wn hj hij hdw hdr htw hM hR hTb hG hn
    obtain ⟨n, rfl⟩ : ∃ k, n = k + 1 := ⟨n - 1, by omega⟩
    have t1 := hTb.1
    rw [fM_sort1_b, if_neg (by decide), if_neg (by decide), if_pos (by rw [i3_le (by omega) (by omega)]; omega), if_pos rfl]
    rw [show T.drop j = [] from List.drop_eq_nil_of_le (by omega)] at hdw htw
    refine OpO.wrap (hK n j st G (byT P l) wc wn (by omega) hij ⟨P, rfl, hdr, ?_⟩ ?_ (by omega) hM hR hTb hG)
    · rw [htw]
      exact (List.append_nil P).symm
    · rw [hdw]
      exact List.drop_eq_nil_of_le (by omega)
  | succ q ih =>
    intro n j st G P wc wn hj hij hdw hdr htw hM hR hTb hG hn
    obtain ⟨n, rfl⟩ : ∃ k, n = k + 1 := ⟨n - 1, by omega⟩
    have t1 := hTb.1
    have t4 := hTb.2.2.2
    obtain ⟨hx, hlt⟩ := hTb.at (i := j) (by omega)
    obtain ⟨k1, k2, z, e1, e2, e3, hz⟩ := keyZ (n := n) hM hb hok hd (by omega) htk hf hlt
    obtain ⟨_, a2, _, _⟩ := ha.g hM
    obtain ⟨_, b2, _, _⟩ := hb.g hM
    have hcons := List.drop_eq_getElem_cons (show j < T.length by omega)
    rw [fM_sort1_b, if_neg (by decide), if_neg (by decide), if_neg (by rw [i3_le (by omega) (by omega)]; omega), if_neg (i3_idx (by omega) (by omega)), i3_N (by omega), hx, e1, Option.bind_some, e2, Option.bind_some, e3, Option.bind_some]
    by_cases h0 : z = 0
    · have hll : l[T[j]]? = some l[T[j]] := List.getElem?_eq_getElem (by omega)
      obtain ⟨k, e4, r4⟩ := ha.kid (n := n) hM hll
      obtain ⟨cc, s, st', e5, m1, m2, m3, _⟩ := wait_w (n := n) hM (a := k) (b := 0) r4.lev (by omega) (by rw [List.length_append]; omega) (by omega)
      rw [if_pos h0, if_pos rfl, if_neg (i3_id2 (by omega) (by omega)), e4, Option.bind_some, e5, Option.bind_some, if_neg a2, if_neg b2, i3_one]
      refine OpO.wrap (OpO.step0 (OpO.wrap ?_) m2 m3.o)
      rw [List.append_assoc] at m1
      have hby : byT (P ++ [T[j]]) l = byT P l ++ [l[T[j]]] := by
        unfold byT
        rw [List.filterMap_append, List.filterMap_cons, hll, List.filterMap_nil]
      refine ih n (j + 1) st' (G ++ [(k, 0)]) (P ++ [T[j]]) (wc + cc) (wn + s) (by omega) (by omega) ?_ ?_ ?_ m1 (by rw [hby]; exact hR.snoc r4 (by omega)) (hTb.fr m3) (by rw [List.length_append]; simp; omega) (by omega)
      · rw [hdw, hcons, List.dropWhile_cons, if_pos (hz.mp h0)]
      · rw [hdr, hcons, List.append_assoc]
        rfl
      · rw [htw, hcons, List.takeWhile_cons, if_pos (hz.mp h0), List.append_assoc]
        rfl
    · rw [if_neg h0, if_pos rfl]
      refine OpO.wrap (hK n j st G (byT P l) wc wn (by omega) hij ⟨P, rfl, hdr, ?_⟩ ?_ (by omega) hM hR hTb hG)
      · rw [htw, hcons, List.takeWhile_cons, if_neg (fun h => h0 (hz.mpr h)), List.append_nil]
      · rw [hdw, hcons, List.dropWhile_cons, if_neg (fun h => h0 (hz.mpr h))]
theorem srt1 {fu tot a b : Nat} {l : List (JT e)} {T : List Nat} (hok : ∀ x ∈ K, jok d x) (hd : d ≤ fu) (htk : tot = K.length) (htl : tot = l.length) (h2 : tot ≤ 4096) (hbw : W0.length + 2 * tot ≤ bK) : ∀ (q n i : Nat) (st : xS) (vs : List VR) (ks W : List NP) (X : List (JT (e + 1))) (wc wn : Nat) (y9 y8 y7 : Int32), Rep vs cs ks (e + 1) (ja l) a → Rep vs cs ks (d + 1) (ja K) b → i + q = tot → W.length ≤ i → MS st vs cs ks (W0 ++ W) → RL vs cs ks (e + 1) W X → TabM st tot T → vs.length + q + 1 ≤ bV → ks.length + W.length + 2 * q ≤ bK → 6000000 + q * 10000 < n → OpO st wc wn 1 1 (fM_sort1_b fu n 2 (i3 i) (i3 W0.length) (i3 tot) a b 1 y9 y8 y7 st wc wn) vs cs ks W0 (.inr (ja (X ++ (grs K none (T.drop i)).map (fun g => (ja (byT g l) : JT (e + 1)))))) := by
  have hbc' : bC = 100000 := rfl
  have hbk' : bK = 32000 := rfl
  have hbv' : bV = 32000 := rfl
  intro q
  induction q using Nat.strongRecOn with
  | ind q ih =>
    intro n i st vs ks W X wc wn y9 y8 y7 ha hb hi hW hM hR hTb hbv hbk hn
    obtain ⟨n, rfl⟩ : ∃ j, n = j + 1 := ⟨n - 1, by omega⟩
    have t1 := hTb.1
    cases q with
    | zero =>
      have hnil : X ++ (grs K none []).map (fun g => (ja (byT g l) : JT (e + 1))) = X := List.append_nil X
      rw [fM_sort1_b, if_neg (by decide), if_pos rfl, if_pos (by rw [i3_le (by omega) (by omega)]; omega), List.drop_eq_nil_of_le (by omega), hnil]
      exact OpO.wrap (OpO.l1 (cR := 1) (by omega) (whole_ao hM hR (by omega) (by omega) (by omega)))
    | succ q =>
      have hmul : (q + 1) * 10000 = q * 10000 + 10000 := Nat.succ_mul _ _
      obtain ⟨hx, hlt⟩ := hTb.at (i := i) (by omega)
      have h4 := hTb.2.2.2
      have hll : l[T[i]]? = some l[T[i]] := List.getElem?_eq_getElem (by omega)
      have h12 : xsi st 12 = i3 (W0 ++ W).length := hM.1.1.2.2.2
      rw [fM_sort1_b, if_neg (by decide), if_pos rfl, if_neg (by rw [i3_le (by omega) (by omega)]; omega), if_neg (i3_idx (by omega) (by omega)), if_neg (by decide), i3_N (by omega), hx, h12]
      obtain ⟨n, rfl⟩ : ∃ j, n = j + 1 := ⟨n - 1, by omega⟩
      obtain ⟨k1, k2, z, e1, e2, e3, hz⟩ := keyZ (n := n) hM hb hok hd (by omega) htk hlt hlt
      have hz0 : z = 0 := hz.mpr (decide_eq_true kc_self)
      obtain rfl : k1 = k2 := by rw [e1] at e2; injection e2
      obtain ⟨k, e4, r4⟩ := ha.kid (n := n) hM hll
      obtain ⟨_, a2, _, _⟩ := ha.g hM
      obtain ⟨_, b2, _, _⟩ := hb.g hM
      obtain ⟨cc, s, st', e5, m1, m2, m3, _⟩ := wait_w (n := n) hM (a := k) (b := 0) r4.lev (by omega) (by rw [List.length_append]; omega) (by omega)
      rw [fM_sort1_b, if_neg (by decide), if_neg (by decide), if_neg (by rw [i3_le (by omega) (by omega)]; omega), if_neg (i3_idx (by omega) (by omega)), i3_N (by omega), hx, e1, Option.bind_some, Option.bind_some, e3, Option.bind_some, if_pos hz0, if_pos rfl, if_neg (i3_id2 (by omega) (by omega)), e4, Option.bind_some, e5, Option.bind_some, if_neg a2, if_neg b2, i3_one]
      refine OpO.wrap (OpO.wrap (OpO.step0 (OpO.wrap ?_) m2 m3.o))
      have hTK : ∀ x ∈ T.drop (i + 1), x < K.length := fun x hx => by
        have := hTb.2.1 x (List.mem_of_mem_drop hx)
        omega
      have hcons := List.drop_eq_getElem_cons (show i < T.length by omega)
      refine in1 (WW := W0 ++ W) (N := 6000000 + q * 10000 + 1) (T := T) (l := l) ha hb hok hd htk htl h2 hlt (by omega) (by rw [List.length_append]; omega) (fun n' j' st2 G' Y wc' wn' hn' hij hP hdr hjt hM2 hR2 hTb2 hG' => ?_) q n (i + 1) st' [(k, 0)] [T[i]] (wc + cc) (wn + s) (by omega) (by omega) rfl hcons rfl m1 (by rw [byT_c hll]; exact ⟨r4, by omega, trivial⟩) (hTb.fr m3) (by simp; omega) (by omega)
      obtain ⟨P, rfl, hP1, hP2⟩ := hP
      have hgr : grs K none (T.drop i) = P :: grs K none (T.drop j') := by rw [hcons, grs_n (by omega) hTK, hP2, ← hdr]
      rw [hgr, List.map_cons]
      have hM3 : MS (xsI st2 9 (xsi st2 9 + (i3 j' - i3 i))) vs cs ks ((W0 ++ W) ++ G') := hM2.si (by decide) (by decide) (by decide) (by decide)
      obtain ⟨_, a5, _, _⟩ := ha.g hM2
      obtain ⟨_, b5, _, _⟩ := hb.g hM2
      unfold fin1
      rcases whole_ax (n := n') hM3 hR2 (by omega) (by omega) (by omega) with ⟨c1, s1, st3, v1, g1, g2, g3, g4, g5⟩ | ⟨hbig, c1, s1, st3, g1, g2, g3⟩
      · obtain ⟨c2, s2, st4, g6, n1, n2, n3, _⟩ := wait_w (n := n') g2 (a := vs.length + 1) (b := 0) (by rw [List.length_append]; simp) (by omega) (by rw [List.length_append]; omega) (by omega)
        have ha' := ha.mo (vs' := [v1]) (ks' := G')
        have hb' := hb.mo (vs' := [v1]) (ks' := G')
        obtain ⟨_, a6, _, _⟩ := ha'.g g2
        obtain ⟨_, b6, _, _⟩ := hb'.g g2
        rw [g1, Option.bind_some, if_pos rfl, if_neg a5, if_neg b5]
        dsimp only
        rw [g6, Option.bind_some, if_neg a6, if_neg b6]
        dsimp only
        have hT4 : TabM st4 tot T := by
          have h1 : TabM (xsI st2 9 (xsi st2 9 + (i3 j' - i3 i))) tot T := hTb2
          exact (h1.fr g4).fr n3
        rw [List.append_assoc] at n1
        have := ih (tot - j') (by omega) n' j' st4 (vs ++ [v1]) (ks ++ G') (W ++ [(vs.length + 1, 0)]) (X ++ [ja (byT P l)]) (wc' + c1 + c2) (wn' + s1 + s2) (i3 (W0 ++ W).length) (i3 j') (i3 T[i]) ha' hb' (by omega) (by rw [List.length_append]; simp; omega) n1 (hR.mo.snoc g5 (by omega)) hT4 (by rw [List.length_append]; simp; omega) (by rw [List.length_append, List.length_append]; simp; omega) (Nat.lt_of_lt_of_le (Nat.lt_succ_of_le (Nat.add_le_add_left (Nat.mul_le_mul_right 10000 (by omega)) 6000000)) hn')
        rw [List.append_assoc] at this
        refine OpO.step (a := [v1]) (b := []) (c := G') (cc := c1) (s := s1) (OpO.wrap ?_) (st1 := st3) ⟨g3.1, g3.2⟩ ((FrO.at (k := 9) _ (by decide)).trans g4.o)
        refine OpO.step0 (cc := c2) (s := s2) (OpO.wrap ?_) n2 n3.o
        rw [List.append_nil]
        exact this
      · rw [g1, Option.bind_some, if_neg (show ¬ (1 : Nat) = 0 by decide), if_pos rfl, if_neg a5, if_neg b5]
        refine Or.inr ⟨by omega, big_a (p := (ja (byT P l) : JT (e + 1))) (List.mem_append_right _ List.mem_cons_self) hbig, c1, s1, st3, xmo_some (Nat.le_refl _) (Nat.le_refl _), ⟨g2.1, g2.2⟩, ⟨g3.1, (FrO.at (k := 9) _ (by decide)).trans g3.2⟩⟩
end GRP
end ZGrp88
