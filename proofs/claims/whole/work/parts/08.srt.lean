section ZMs18
/-! ===== sorting by merging, as both programs do ===== -/
def kc {d : Nat} (K : List (JT d)) (x y : Nat) : Int := match K[x]?, K[y]? with
  | some a, some b => jcmp d a b
  | _, _ => 0
def kle {d : Nat} (K : List (JT d)) (x y : Nat) : Bool := decide (kc K x y ≤ 0)
/-- one round: runs of w are merged two by two -/
def ps {d : Nat} (K : List (JT d)) (w : Nat) : Nat → List Nat → List Nat
  | 0, T => T
  | f + 1, T => List.merge (T.take w) ((T.drop w).take w) (kle K) ++ ps K w f (T.drop (2 * w))
def ms {d : Nat} (K : List (JT d)) : Nat → Nat → List Nat → List Nat
  | 0, _, T => T
  | f + 1, w, T => if T.length ≤ w then T else ms K f (2 * w) (ps K w T.length T)
/-- the turns -/
def tn {d : Nat} (K : List (JT d)) : List Nat := ms K 12 1 (List.range K.length)
theorem ps_perm {d : Nat} {K : List (JT d)} {w : Nat} : ∀ (f : Nat) (T : List Nat), (ps K w f T).Perm T := by
  intro f
  induction f with
  | zero => intro T; exact List.Perm.refl _
  | succ f ih =>
    intro T
    rw [ps]
    have h1 : (List.merge (T.take w) ((T.drop w).take w) (kle K)).Perm (T.take (2 * w)) := by
      refine (List.merge_perm_append (kle K)).trans ?_
      rw [show 2 * w = w + w by omega, List.take_add]
    exact (h1.append (ih _)).trans (by rw [List.take_append_drop])
theorem ms_perm {d : Nat} {K : List (JT d)} : ∀ (f w : Nat) (T : List Nat), (ms K f w T).Perm T := by
  intro f
  induction f with
  | zero => intro w T; exact List.Perm.refl _
  | succ f ih =>
    intro w T
    rw [ms]
    split
    · exact List.Perm.refl _
    · exact (ih _ _).trans (ps_perm _ _)
theorem tn_perm {d : Nat} (K : List (JT d)) : (tn K).Perm (List.range K.length) := ms_perm _ _ _
theorem tn_len {d : Nat} (K : List (JT d)) : (tn K).length = K.length := by rw [(tn_perm K).length_eq, List.length_range]
theorem tn_lt {d : Nat} {K : List (JT d)} {x : Nat} (h : x ∈ tn K) : x < K.length := List.mem_range.mp ((tn_perm K).mem_iff.mp h)
/-! in ValueBench's own arrays -/
section SO
variable {f : Nat → Int64} {v d : Nat} {o : Int32} {K : List (JT d)} {w0 : Nat → Int32}
/-- the keys lie where keyAt says -/
def keysAt (f : Nat → Int64) (v : Nat) (w0 : Nat → Int32) (K : List (JT d)) : Prop := ∀ (i : Nat) x, K[i]? = some x → ∃ p, w0 i = i3 p ∧ At f v p (jc d x) ∧ jok d x ∧ jd d x ≤ 60
theorem kat {n tot i : Nat} {f1 f3 f5 : Nat → Int32} {p2 p4 : Nat} {v6 : Int32} (hk : keysAt f v w0 K) (ht : tot = K.length) (h2 : tot ≤ 2048) (hv6 : v6 = i3 tot) {k x : Nat} {j : JT d} (hk2 : k < tot) (h3 : f3 k = i3 x) (hx : K[x]? = some j) : ∃ p, fS_keyAtTurn n (i3 k) w0 f1 p2 f3 p4 f5 v6 = some (i3 p) ∧ At f v p (jc d j) ∧ jok d j ∧ jd d j ≤ 60 := by
  obtain ⟨p, e, h4, h5, h6⟩ := hk x j hx
  have hxl : x < K.length := (List.getElem?_eq_some_iff.mp hx).1
  refine ⟨p, ?_, h4, h5, h6⟩
  unfold fS_keyAtTurn
  rw [hv6, if_neg (i3_nn (by omega)), if_neg (i3_nle (by omega) (by omega)), if_neg (i3_idx (by omega) (by omega)), i3_N (by omega), h3, if_neg (i3_idx (by omega) (by omega)), i3_N (by omega), e]
theorem upd_eq {g : Nat → Int32} {k : Nat} {x : Int32} : upd g k x k = x := if_pos rfl
theorem upd_ne {g : Nat → Int32} {k i : Nat} {x : Int32} (h : i ≠ k) : upd g k x i = g i := if_neg h
theorem mg_loop {fu : Nat} (hfu : d ≤ fu) (hd : d ≤ 1000) {tot : Nat} (hk : keysAt f v w0 K) (ht : tot = K.length) (h2 : tot ≤ 2048) {f1 f3 : Nat → Int32} {p2 p4 : Nat} {y2 : Int32} {mid beh : Nat} (hm : mid ≤ tot) (hb : beh ≤ tot) : ∀ (m n k a b : Nat) (A B : List Nat) (w : Nat → Int32), A.length + B.length = m → (∀ x ∈ A, x < tot) → (∀ x ∈ B, x < tot) → seg f3 a (A.map i3) → seg f3 b (B.map i3) → a + A.length = mid → b + B.length = beh → k + m = beh → 20001 + m < n →
    ∃ w', fS_merge_b fu w0 f1 p2 f3 p4 (i3 tot) f (i3 v) o n 1 (i3 k) (i3 b) (i3 a) y2 (i3 mid) (i3 beh) w = some w' ∧ seg w' k ((List.merge A B (kle K)).map i3) ∧ (∀ i, i < k ∨ beh ≤ i → w' i = w i) := by
  intro m
  induction m with
  | zero =>
    intro n k a b A B w hl _ _ _ _ _ _ hk2 hn
    obtain ⟨n, rfl⟩ : ∃ j, n = j + 1 := ⟨n - 1, by omega⟩
    obtain rfl : A = [] := List.length_eq_zero_iff.mp (by omega)
    obtain rfl : B = [] := List.length_eq_zero_iff.mp (by omega)
    refine ⟨w, ?_, by simp [seg_nil], fun _ _ => rfl⟩
    rw [fS_merge_b, if_pos (by rw [i3_le (by omega) (by omega)]; omega)]
  | succ m ih =>
    intro n k a b A B w hl hA hB sA sB ha hbb hk2 hn
    obtain ⟨n, rfl⟩ : ∃ j, n = j + 1 := ⟨n - 1, by omega⟩
    have fromB : ∀ (y : Nat) (B' : List Nat), B = y :: B' → List.merge A B (kle K) = y :: List.merge A B' (kle K) → ∃ w', fS_merge_b fu w0 f1 p2 f3 p4 (i3 tot) f (i3 v) o n 1 (i3 k + 1) (i3 b + 1) (i3 a + 0) y2 (i3 mid) (i3 beh) (upd w (i3 k).toNatClampNeg (f3 (i3 b).toNatClampNeg)) = some w' ∧ seg w' k ((List.merge A B (kle K)).map i3) ∧ (∀ i, i < k ∨ beh ≤ i → w' i = w i) := by
      intro y B' eB eM
      subst eB
      rw [List.length_cons] at hl hbb
      obtain ⟨s1, s2⟩ := seg_cons.mp sB
      obtain ⟨w', e1, e2, e3⟩ := ih n (k + 1) a (b + 1) A B' (upd w k (i3 y)) (by omega) hA (fun x hx => hB x (List.mem_cons_of_mem _ hx)) sA s2 ha (by omega) (by omega) (by omega)
      refine ⟨w', ?_, ?_, fun i hi => ?_⟩
      · rw [i3_N (by omega), i3_N (by omega), s1, i3_one, i3_one, show i3 a + 0 = i3 a from i3_add a 0]
        exact e1
      · rw [eM, List.map_cons]
        refine seg_cons.mpr ⟨?_, e2⟩
        rw [e3 k (Or.inl (by omega)), upd_eq]
      · rw [e3 i (by omega), upd_ne (by omega)]
    have fromA : ∀ (x : Nat) (A' : List Nat), A = x :: A' → List.merge A B (kle K) = x :: List.merge A' B (kle K) → ∃ w', fS_merge_b fu w0 f1 p2 f3 p4 (i3 tot) f (i3 v) o n 1 (i3 k + 1) (i3 b + 0) (i3 a + 1) y2 (i3 mid) (i3 beh) (upd w (i3 k).toNatClampNeg (f3 (i3 a).toNatClampNeg)) = some w' ∧ seg w' k ((List.merge A B (kle K)).map i3) ∧ (∀ i, i < k ∨ beh ≤ i → w' i = w i) := by
      intro x A' eA eM
      subst eA
      rw [List.length_cons] at hl ha
      obtain ⟨s1, s2⟩ := seg_cons.mp sA
      obtain ⟨w', e1, e2, e3⟩ := ih n (k + 1) (a + 1) b A' B (upd w k (i3 x)) (by omega) (fun y hy => hA y (List.mem_cons_of_mem _ hy)) hB s2 sB (by omega) hbb (by omega) (by omega)
      refine ⟨w', ?_, ?_, fun i hi => ?_⟩
      · rw [i3_N (by omega), i3_N (by omega), s1, i3_one, i3_one, show i3 b + 0 = i3 b from i3_add b 0]
        exact e1
      · rw [eM, List.map_cons]
        refine seg_cons.mpr ⟨?_, e2⟩
        rw [e3 k (Or.inl (by omega)), upd_eq]
      · rw [e3 i (by omega), upd_ne (by omega)]
    rw [fS_merge_b, if_neg (by rw [i3_le (by omega) (by omega)]; omega)]
    cases A with
    | nil =>
      cases B with
      | nil => simp at hl
      | cons y B =>
        simp only [List.length_cons, List.length_nil] at *
        rw [if_pos (by rw [i3_le (by omega) (by omega)]; omega), if_neg (i3_idx (by omega) (by omega)), if_neg (i3_idx (by omega) (by omega))]
        exact fromB y B rfl (by simp)
    | cons x A =>
      cases B with
      | nil =>
        simp only [List.length_cons, List.length_nil] at *
        rw [if_neg (by rw [i3_le (by omega) (by omega)]; omega), if_pos (by rw [i3_le (by omega) (by omega)]; omega), if_neg (i3_idx (by omega) (by omega)), if_neg (i3_idx (by omega) (by omega))]
        exact fromA x A rfl (by simp)
      | cons y B =>
        simp only [List.length_cons] at *
        have hx := hA x (List.mem_cons_self ..)
        have hy := hB y (List.mem_cons_self ..)
        obtain ⟨p, ep, ap, op, dp⟩ := kat (n := n) (f1 := f1) (f5 := w) (p2 := p2) (p4 := p4) (i := 0) hk ht h2 rfl (k := a) (x := x) (j := K[x]) (by omega) (seg_cons.mp sA).1 (List.getElem?_eq_getElem (by omega))
        obtain ⟨q, eq, aq, oq, dq⟩ := kat (n := n) (f1 := f1) (f5 := w) (p2 := p2) (p4 := p4) (i := 0) hk ht h2 rfl (k := b) (x := y) (j := K[y]) (by omega) (seg_cons.mp sB).1 (List.getElem?_eq_getElem (by omega))
        have hle := jcmp_le d K[y] K[x]
        have hgd := (jcmp_good d).1 K[y] K[x]
        have hkc : kc K x y = jcmp d K[x] K[y] := by
          unfold kc
          rw [List.getElem?_eq_getElem (by omega), List.getElem?_eq_getElem (by omega)]
        rw [if_neg (by rw [i3_le (by omega) (by omega)]; omega), if_neg (by rw [i3_le (by omega) (by omega)]; omega), eq, Option.bind_some, ep, Option.bind_some, al_of, of0_w (by omega) oq op aq ap hfu hd dq, Option.bind_some]
        by_cases hc : 0 ≤ jcmp d K[y] K[x]
        · rw [if_pos (by rw [show (0 : Int32) = iz 0 from rfl, iz_le (by omega) (by omega) (by omega) (by omega)]; exact hc), if_neg (i3_idx (by omega) (by omega)), if_neg (i3_idx (by omega) (by omega))]
          refine fromA x A rfl ?_
          rw [List.cons_merge_cons, if_pos (by unfold kle; rw [hkc]; simp; omega)]
        · rw [if_neg (by rw [show (0 : Int32) = iz 0 from rfl, iz_le (by omega) (by omega) (by omega) (by omega)]; exact hc), if_neg (i3_idx (by omega) (by omega)), if_neg (i3_idx (by omega) (by omega))]
          refine fromB y B rfl ?_
          rw [List.cons_merge_cons, if_neg (by unfold kle; rw [hkc]; simp; omega)]
end SO
end ZMs18
section ZArr19
theorem i3_mul (a b : Nat) : i3 a * i3 b = i3 (a * b) := (Int32.ofNat_mul a b).symm
theorem ps_nil {d : Nat} {K : List (JT d)} {w : Nat} : ∀ f : Nat, ps K w f [] = [] := by
  intro f
  induction f with
  | zero => rfl
  | succ f ih =>
    rw [ps]
    simp [ih]
theorem ps_len {d : Nat} {K : List (JT d)} {w f : Nat} {T : List Nat} : (ps K w f T).length = T.length := (ps_perm f T).length_eq
section AR
variable {f : Nat → Int64} {v d : Nat} {o : Int32} {K : List (JT d)} {w0 f1 : Nat → Int32} {y2 : Int32}
theorem seg_take {g : Nat → Int32} {p k : Nat} {T : List Nat} (h : seg g p (T.map i3)) : seg g p ((T.take k).map i3) ∧ seg g (p + min k T.length) ((T.drop k).map i3) := by
  rw [← List.take_append_drop k T, List.map_append] at h
  have := seg_app.mp h
  rw [List.length_map, List.length_take] at this
  exact this
theorem pass_loop {fu : Nat} (hfu : d ≤ fu) (hd : d ≤ 1000) {tot w : Nat} (hw : 1 ≤ w) (hw2 : w ≤ 4096) (hk : keysAt f v w0 K) (ht : tot = K.length) (h2 : tot ≤ 2048) {w1 : Nat → Int32} {w2 w4 : Nat} : ∀ (m L : Nat) (T : List Nat) (w3 : Nat → Int32) (n : Nat), T.length ≤ m → (∀ x ∈ T, x < tot) → seg w1 L (T.map i3) → (L + T.length = tot ∨ (T = [] ∧ tot ≤ L)) → L ≤ 12000 → 30000 + m < n →
    ∃ w3' n', fS_arrange_b fu f1 f (i3 v) o n 2 (i3 w) y2 (i3 L) w0 w1 w2 w3 w4 (i3 tot) = fS_arrange_b fu f1 f (i3 v) o n' 1 (i3 (2 * w)) y2 0 w0 w3' w4 w1 w2 (i3 tot) ∧ n ≤ n' + m + 1 ∧ seg w3' L ((ps K w m T).map i3) ∧ (∀ i, i < L → w3' i = w3 i) := by
  intro m
  induction m with
  | zero =>
    intro L T w3 n hT hTt sT hL hLb hn
    obtain rfl : T = [] := List.length_eq_zero_iff.mp (by omega)
    obtain ⟨n, rfl⟩ : ∃ j, n = j + 1 := ⟨n - 1, by omega⟩
    refine ⟨w3, n, ?_, by omega, by rw [ps_nil]; exact seg_nil, fun _ _ => rfl⟩
    rw [fS_arrange_b, if_neg (by decide), if_pos (by rw [i3_le (by omega) (by omega)]; simp at hL; omega), show (2 : Int32) = i3 2 from rfl, i3_mul, Nat.mul_comm w 2]
  | succ m ih =>
    intro L T w3 n hT hTt sT hL hLb hn
    obtain ⟨n, rfl⟩ : ∃ j, n = j + 1 := ⟨n - 1, by omega⟩
    by_cases hlt : L < tot
    · have hlen : L + T.length = tot := by
        rcases hL with h | ⟨_, h⟩
        · exact h
        · omega
      have e1 : (if i3 tot < (i3 L + i3 w) then i3 tot else (i3 L + i3 w)) = i3 (min (L + w) tot) := by
        rw [i3_add, min_i3 (by omega) (by omega)]
      have e2 : (if i3 tot < (i3 L + ((2 : Int32) * i3 w)) then i3 tot else (i3 L + ((2 : Int32) * i3 w))) = i3 (min (L + 2 * w) tot) := by
        rw [show (2 : Int32) = i3 2 from rfl, i3_mul, i3_add, min_i3 (by omega) (by omega)]
      obtain ⟨s1, s2⟩ := seg_take (k := w) sT
      obtain ⟨s3, s4⟩ := seg_take (k := w) s2
      obtain ⟨w', g1, g2, g3⟩ := mg_loop (fu := fu) (o := o) (f1 := f1) (p2 := w2) (p4 := w4) (y2 := i3 L) (f3 := w1) hfu hd hk ht h2 (mid := min (L + w) tot) (beh := min (L + 2 * w) tot) (by omega) (by omega) ((T.take w).length + ((T.drop w).take w).length) n L L (min (L + w) tot) (T.take w) ((T.drop w).take w) w3 rfl (fun x hx => hTt x (List.mem_of_mem_take hx)) (fun x hx => hTt x (List.mem_of_mem_drop (List.mem_of_mem_take hx))) s1 (by rw [show min (L + w) tot = L + min w T.length by omega]; exact s3) (by rw [List.length_take]; omega) (by simp only [List.length_take, List.length_drop]; omega) (by simp only [List.length_take, List.length_drop]; omega) (by simp only [List.length_take, List.length_drop]; omega)
      have hT2 : (T.drop (2 * w)).length ≤ m := by rw [List.length_drop]; omega
      have s5 : seg w1 (L + 2 * w) ((T.drop (2 * w)).map i3) := by
        by_cases hbig : 2 * w ≤ T.length
        · have := (seg_take (k := 2 * w) sT).2
          rw [Nat.min_eq_left hbig] at this
          exact this
        · rw [List.drop_eq_nil_of_le (by omega)]
          exact seg_nil
      obtain ⟨w3', n', g4, g5, g6, g7⟩ := ih (L + 2 * w) (T.drop (2 * w)) w' n hT2 (fun x hx => hTt x (List.mem_of_mem_drop hx)) s5 (by
        rw [List.length_drop]
        by_cases hbig : 2 * w ≤ T.length
        · left; omega
        · right
          exact ⟨List.drop_eq_nil_of_le (by omega), by omega⟩) (by omega) (by omega)
      refine ⟨w3', n', ?_, by omega, ?_, fun i hi => by rw [g7 i (by omega), g3 i (Or.inl hi)]⟩
      · rw [fS_arrange_b, if_neg (by decide), if_neg (by rw [i3_le (by omega) (by omega)]; omega), e1, e2]
        unfold fS_merge
        rw [g1, Option.bind_some, show (2 : Int32) = i3 2 from rfl, i3_mul, i3_add]
        exact g4
      · rw [ps, List.map_append]
        have lm : (List.merge (T.take w) ((T.drop w).take w) (kle K)).length = min (2 * w) T.length := by
          rw [(List.merge_perm_append (kle K)).length_eq]
          simp only [List.length_append, List.length_take, List.length_drop]
          omega
        refine seg_app.mpr ⟨seg_of g2 (fun i hi => ?_), ?_⟩
        · rw [List.length_map, lm] at hi
          exact g7 _ (by omega)
        · rw [List.length_map, lm]
          by_cases hbig : 2 * w ≤ T.length
          · rw [Nat.min_eq_left hbig]
            exact g6
          · rw [List.drop_eq_nil_of_le (by omega), ps_nil]
            exact seg_nil
    · have hnil : T = [] := by
        rcases hL with h | ⟨h, _⟩
        · exact List.length_eq_zero_iff.mp (by omega)
        · exact h
      subst hnil
      refine ⟨w3, n, ?_, by omega, by rw [ps_nil]; exact seg_nil, fun _ _ => rfl⟩
      rw [fS_arrange_b, if_neg (by decide), if_pos (by rw [i3_le (by omega) (by omega)]; omega), show (2 : Int32) = i3 2 from rfl, i3_mul, Nat.mul_comm w 2]
theorem arr_loop {fu : Nat} (hfu : d ≤ fu) (hd : d ≤ 1000) {tot : Nat} (hk : keysAt f v w0 K) (ht : tot = K.length) (h2 : tot ≤ 2048) : ∀ (g w : Nat) (T : List Nat) (w1 w3 : Nat → Int32) (w2 w4 n : Nat), tot ≤ w * 2 ^ g → 1 ≤ w → w ≤ 4096 → T.length = tot → (∀ x ∈ T, x < tot) → seg w1 0 (T.map i3) → 30000 + (g + 1) * (tot + 3) < n →
    ∃ w1' w2' w3' w4', fS_arrange_b fu f1 f (i3 v) o n 1 (i3 w) y2 0 w0 w1 w2 w3 w4 (i3 tot) = some (w0, w1', w2', w3', w4', i3 tot) ∧ seg w1' 0 ((ms K g w T).map i3) := by
  intro g
  induction g with
  | zero =>
    intro w T w1 w3 w2 w4 n hg hw1 hw2 hT hTt sT hn
    obtain ⟨n, rfl⟩ : ∃ j, n = j + 1 := ⟨n - 1, by omega⟩
    refine ⟨w1, w2, w3, w4, ?_, sT⟩
    rw [fS_arrange_b, if_pos rfl, if_pos (by rw [i3_le (by omega) (by omega)]; omega)]
  | succ g ih =>
    intro w T w1 w3 w2 w4 n hg hw1 hw2 hT hTt sT hn
    have hmul : (g + 1 + 1) * (tot + 3) = (g + 1) * (tot + 3) + (tot + 3) := Nat.succ_mul _ _
    obtain ⟨n, rfl⟩ : ∃ j, n = j + 1 := ⟨n - 1, by omega⟩
    rw [ms]
    by_cases h : tot ≤ w
    · refine ⟨w1, w2, w3, w4, ?_, by rw [if_pos (by omega)]; exact sT⟩
      rw [fS_arrange_b, if_pos rfl, if_pos (by rw [i3_le (by omega) (by omega)]; omega)]
    · rw [if_neg (by omega)]
      obtain ⟨w3', n', g1, g2, g3, _⟩ := pass_loop (fu := fu) (o := o) (f1 := f1) (y2 := y2) hfu hd hw1 hw2 hk ht h2 (w1 := w1) (w2 := w2) (w4 := w4) tot 0 T w3 n (by omega) hTt sT (by omega) (by omega) (by omega)
      obtain ⟨a1, a2, a3, a4, a5, a6⟩ := ih (2 * w) (ps K w tot T) w3' w1 w4 w2 n' (by rw [show 2 * w * 2 ^ g = w * 2 ^ (g + 1) by rw [Nat.pow_succ, Nat.mul_comm 2 w, Nat.mul_assoc, Nat.mul_comm 2 (2 ^ g)]]; exact hg) (by omega) (by omega) (by rw [ps_len, hT]) (fun x hx => hTt x ((ps_perm _ _).mem_iff.mp hx)) g3 (by omega)
      refine ⟨a1, a2, a3, a4, ?_, by rw [hT]; exact a6⟩
      rw [fS_arrange_b, if_pos rfl, if_neg (by rw [i3_le (by omega) (by omega)]; omega)]
      exact g1.trans a5
theorem ga_loop {f1 f5 : Nat → Int32} {p2 p4 : Nat} {tot : Nat} (h2 : tot ≤ 2048) : ∀ (l : List (JT d)) (n i q : Nat) (w0 w1 : Nat → Int32), (∀ x ∈ l, jok d x) → i + l.length = tot → At f v q (l.flatMap (jc d)) → l.length < n →
    ∃ w0' w1', fS_gather_b f1 p2 p4 f5 f (i3 v) o n 1 (i3 i) (i3 q) 0 y2 w0 w1 (i3 tot) = some (w0', w1', i3 tot) ∧ (∀ j, j < i → w0' j = w0 j ∧ w1' j = w1 j) ∧ (∀ (j : Nat) x, l[j]? = some x → ∃ q', w0' (i + j) = i3 q' ∧ At f v q' (jc d x)) ∧ seg w1' i ((List.range' i l.length).map i3) := by
  intro l
  induction l with
  | nil =>
    intro n i q w0 w1 _ hi _ hn
    obtain ⟨n, rfl⟩ : ∃ j, n = j + 1 := ⟨n - 1, by omega⟩
    rw [List.length_nil] at hi
    refine ⟨w0, w1, ?_, fun _ _ => ⟨rfl, rfl⟩, fun j x h => by simp at h, seg_nil⟩
    rw [fS_gather_b, if_pos (by rw [i3_le (by omega) (by omega)]; omega)]
  | cons x l ih =>
    intro n i q w0 w1 hok hi hat hn
    obtain ⟨n, rfl⟩ : ∃ j, n = j + 1 := ⟨n - 1, by omega⟩
    rw [List.length_cons] at hi hn
    obtain ⟨at1, at2⟩ := hat.acons
    obtain ⟨w0', w1', e, g1, g2, g3⟩ := ih n (i + 1) _ (upd w0 i (i3 q)) (upd w1 i (i3 i)) (fun y hy => hok y (List.mem_cons_of_mem _ hy)) (by omega) at2 (by omega)
    refine ⟨w0', w1', ?_, fun j hj => ?_, fun j y hy => ?_, ?_⟩
    · rw [fS_gather_b, if_neg (by rw [i3_le (by omega) (by omega)]; omega), if_neg (i3_idx (by omega) (by omega)), if_neg (i3_idx (by omega) (by omega)), at1.after (hok x (List.mem_cons_self ..)), Option.bind_some, if_pos rfl, i3_N (by omega), i3_one]
      exact e
    · obtain ⟨a, b⟩ := g1 j (by omega)
      rw [a, b, upd_ne (by omega), upd_ne (by omega)]
      exact ⟨rfl, rfl⟩
    · cases j with
      | zero =>
        obtain rfl := Option.some.inj hy
        refine ⟨q, ?_, at1⟩
        rw [Nat.add_zero, (g1 i (by omega)).1, upd_eq]
      | succ j =>
        obtain ⟨q', a, b⟩ := g2 j y (by simpa using hy)
        exact ⟨q', by rw [← a]; congr 1; omega, b⟩
    · rw [List.length_cons, List.range'_succ, List.map_cons]
      refine seg_cons.mpr ⟨?_, g3⟩
      rw [(g1 i (by omega)).2, upd_eq]
theorem go_loop {f1 f5 : Nat → Int32} {p2 p4 : Nat} {tot : Nat} (h2 : tot ≤ 2048) : ∀ (l : List (Sx × JT d)) (n i q : Nat) (w0 w1 : Nat → Int32), (∀ x ∈ l, sok x.1 ∧ jok d x.2) → i + l.length = tot → At f v q (l.flatMap (fun p => strc p.1 ++ jc d p.2)) → l.length < n →
    ∃ w0' w1', fS_gather_b f1 p2 p4 f5 f (i3 v) o n 1 (i3 i) (i3 q) 1 y2 w0 w1 (i3 tot) = some (w0', w1', i3 tot) ∧ (∀ j, j < i → w0' j = w0 j ∧ w1' j = w1 j) ∧ (∀ (j : Nat) x, l[j]? = some x → ∃ q', w0' (i + j) = i3 q' ∧ At f v q' (strc x.1)) ∧ seg w1' i ((List.range' i l.length).map i3) := by
  intro l
  induction l with
  | nil =>
    intro n i q w0 w1 _ hi _ hn
    obtain ⟨n, rfl⟩ : ∃ j, n = j + 1 := ⟨n - 1, by omega⟩
    rw [List.length_nil] at hi
    refine ⟨w0, w1, ?_, fun _ _ => ⟨rfl, rfl⟩, fun j x h => by simp at h, seg_nil⟩
    rw [fS_gather_b, if_pos (by rw [i3_le (by omega) (by omega)]; omega)]
  | cons x l ih =>
    intro n i q w0 w1 hok hi hat hn
    obtain ⟨n, rfl⟩ : ∃ j, n = j + 1 := ⟨n - 1, by omega⟩
    rw [List.length_cons] at hi hn
    obtain ⟨at1, at2, at3⟩ := hat.ocons
    obtain ⟨w0', w1', e, g1, g2, g3⟩ := ih n (i + 1) _ (upd w0 i (i3 q)) (upd w1 i (i3 i)) (fun y hy => hok y (List.mem_cons_of_mem _ hy)) (by omega) at3 (by omega)
    refine ⟨w0', w1', ?_, fun j hj => ?_, fun j y hy => ?_, ?_⟩
    · rw [fS_gather_b, if_neg (by rw [i3_le (by omega) (by omega)]; omega), if_neg (i3_idx (by omega) (by omega)), if_neg (i3_idx (by omega) (by omega)), at1.safter, Option.bind_some, if_neg (by decide), at2.after (hok x (List.mem_cons_self ..)).2, Option.bind_some, i3_N (by omega), i3_one]
      exact e
    · obtain ⟨a, b⟩ := g1 j (by omega)
      rw [a, b, upd_ne (by omega), upd_ne (by omega)]
      exact ⟨rfl, rfl⟩
    · cases j with
      | zero =>
        obtain rfl := Option.some.inj hy
        refine ⟨q, ?_, at1⟩
        rw [Nat.add_zero, (g1 i (by omega)).1, upd_eq]
      | succ j =>
        obtain ⟨q', a, b⟩ := g2 j y (by simpa using hy)
        exact ⟨q', by rw [← a]; congr 1; omega, b⟩
    · rw [List.length_cons, List.range'_succ, List.map_cons]
      refine seg_cons.mpr ⟨?_, g3⟩
      rw [(g1 i (by omega)).2, upd_eq]
theorem lim2048 {a : Nat} (h : a ≤ 2048) : (if (2048 : Int32) < i3 a then (2048 : Int32) else i3 a) = i3 a := by
  rw [if_neg (by rw [show (2048 : Int32) = i3 2048 from rfl, i3_lt (by omega) (by omega)]; omega)]
theorem gather_a {n : Nat} {f0 f1 f3 f5 : Nat → Int32} {p2 p4 : Nat} {v6 : Int32} {p : Nat} {l : List (JT d)} (h : At f v p (jc (d + 1) (ja l))) (hok : jok (d + 1) (ja l)) (hl : l.length ≤ 2048) (hn : 5000 < n) (hjd : ∀ x ∈ l, jd d x ≤ 60) : ∃ w0' w1', fS_gather n (i3 p) f0 f1 p2 f3 p4 f5 v6 f (i3 v) o = some (w0', w1', i3 l.length) ∧ keysAt f v w0' l ∧ seg w1' 0 ((List.range l.length).map i3) := by
  obtain ⟨w0', w1', e, _, g2, g3⟩ := ga_loop (o := o) (f1 := f1) (f5 := f5) (p2 := p2) (p4 := p4) (y2 := i3 p) hl l n 0 (p + 1) f0 f3 hok (by omega) h.abody (by omega)
  refine ⟨w0', w1', ?_, fun i x hx => ?_, by rw [List.range_eq_range']; exact g3⟩
  · unfold fS_gather
    rw [show (6 : Int32) = i3 6 from rfl, h.is hok (by omega), Option.bind_some, h.alen, Option.bind_some, lim2048 hl, i3_one, kd_a, if_neg (by decide)]
    exact e
  · obtain ⟨q, a, b⟩ := g2 i x hx
    have hm := List.mem_of_getElem? hx
    exact ⟨q, by rw [← a, Nat.zero_add], b, hok x hm, hjd x hm⟩
/-- the elements of an array, in order -/
theorem arrange_a {n fu : Nat} {f0 f1 f3 f5 : Nat → Int32} {p2 p4 : Nat} {v6 : Int32} {p : Nat} {l : List (JT d)} (hfu : d ≤ fu) (hd : d ≤ 1000) (h : At f v p (jc (d + 1) (ja l))) (hok : jok (d + 1) (ja l)) (hl : l.length ≤ 2048) (hn : 100000 < n) (hjd : ∀ x ∈ l, jd d x ≤ 60) : ∃ w0' w1' w2' w3' w4', fS_arrange fu n (i3 p) f0 f1 p2 f3 p4 f5 v6 f (i3 v) o = some (w0', w1', w2', w3', w4', i3 l.length) ∧ keysAt f v w0' l ∧ seg w1' 0 ((tn l).map i3) := by
  obtain ⟨w0', w1', e, hk, sT⟩ := gather_a (n := n) (f0 := f0) (f1 := f1) (f3 := f3) (f5 := f5) (p2 := p2) (p4 := p4) (v6 := v6) (o := o) h hok hl (by omega) hjd
  have hmul : (12 + 1) * (l.length + 3) ≤ 13 * 2051 := Nat.mul_le_mul_left _ (by omega)
  obtain ⟨a1, a2, a3, a4, a5, a6⟩ := arr_loop (fu := fu) (o := o) (f1 := f1) (y2 := i3 p) hfu hd hk rfl hl 12 1 (List.range l.length) w1' f5 p2 p4 n (by omega) (by omega) (by omega) List.length_range (fun x hx => List.mem_range.mp hx) sT (by omega)
  refine ⟨w0', a1, a2, a3, a4, ?_, hk, a6⟩
  unfold fS_arrange
  rw [e, Option.bind_some]
  exact a5
/-- the names of an object, in order -/
theorem arrange_o {n fu : Nat} {f0 f1 f3 f5 : Nat → Int32} {p2 p4 : Nat} {v6 : Int32} {p : Nat} {l : List (Sx × JT d)} (hfu : 1 ≤ fu) (h : At f v p (jc (d + 1) (jo l))) (hok : jok (d + 1) (jo l)) (hl : l.length ≤ 2048) (hn : 100000 < n) : ∃ w0' w1' w2' w3' w4', fS_arrange fu n (i3 p) f0 f1 p2 f3 p4 f5 v6 f (i3 v) o = some (w0', w1', w2', w3', w4', i3 l.length) ∧ keysAt f v w0' (l.map (fun x => (js x.1 : JT 1))) ∧ seg w1' 0 ((tn (l.map (fun x => (js x.1 : JT 1)))).map i3) := by
  obtain ⟨w0', w1', e, _, g2, g3⟩ := go_loop (o := o) (f1 := f1) (f5 := f5) (p2 := p2) (p4 := p4) (y2 := i3 p) hl l n 0 (p + 1) f0 f3 hok.1 (by omega) h.obody (by omega)
  have hk : keysAt f v w0' (l.map (fun x => (js x.1 : JT 1))) := fun i x hx => by
    rw [List.getElem?_map] at hx
    obtain ⟨y, hy, rfl⟩ := Option.map_eq_some_iff.mp hx
    obtain ⟨q, a, b⟩ := g2 i y hy
    have hm := List.mem_of_getElem? hy
    exact ⟨q, by rw [← a, Nat.zero_add], b, (hok.1 y hm).1, Nat.zero_le _⟩
  have hmul : (12 + 1) * (l.length + 3) ≤ 13 * 2051 := Nat.mul_le_mul_left _ (by omega)
  obtain ⟨a1, a2, a3, a4, a5, a6⟩ := arr_loop (fu := fu) (o := o) (f1 := f1) (y2 := i3 p) (tot := l.length) hfu (by omega) hk (by rw [List.length_map]) hl 12 1 (List.range l.length) w1' f5 p2 p4 n (by omega) (by omega) (by omega) List.length_range (fun x hx => List.mem_range.mp hx) (by rw [List.range_eq_range']; exact g3) (by omega)
  refine ⟨w0', a1, a2, a3, a4, ?_, hk, by unfold tn; rw [List.length_map]; exact a6⟩
  unfold fS_arrange fS_gather
  rw [show (6 : Int32) = i3 6 from rfl, h.is hok (by omega), Option.bind_some, h.olen, Option.bind_some, lim2048 hl, i3_one, kd_o, if_pos rfl]
  have e' : fS_gather_b f1 p2 p4 f5 f (i3 v) o n 1 0 (i3 (p + 1)) 1 (i3 p) f0 f3 (i3 l.length) = some (w0', w1', i3 l.length) := e
  rw [e', Option.bind_some]
  exact a5
end AR
end ZArr19
section ZOpa20
/-! ===== what the operators make ===== -/
def bv {α : Type} (sel : α → α → α) (m : List (Sx × α)) (p : Sx × α) : Sx × α := (p.1, match lu p.1 m with | none => p.2 | some y => sel p.2 y)
def bn {α : Type} (l m : List (Sx × α)) : List (Sx × α) := m.filter (fun p => (lu p.1 l).isNone)
def bw {α : Type} (sel : α → α → α) (l m : List (Sx × α)) : List (Sx × α) := l.map (bv sel m) ++ bn l m
def selD : (e : Nat) → JT e → JT e → JT e
  | 0, x, _ => x
  | e + 1, .inr (.inr l), .inr (.inr m) => .inr (.inr (bw (selD e) l m))
  | _ + 1, _, y => y
theorem selD_o {e : Nat} {l m : List (Sx × JT e)} : selD (e + 1) (jo l) (jo m) = jo (bw (selD e) l m) := rfl
theorem selD_n {e : Nat} {x y : JT (e + 1)} (h : kd (e + 1) x ≠ 6 ∨ kd (e + 1) y ≠ 6) (hx : jok (e + 1) x) (hy : jok (e + 1) y) : selD (e + 1) x y = y := by
  rcases jcases x with ⟨k, rfl⟩ | ⟨z, rfl⟩ | ⟨s, rfl⟩ | ⟨l, rfl⟩ | ⟨l, rfl⟩
  · rfl
  · rfl
  · rfl
  · rfl
  · rcases jcases y with ⟨k, rfl⟩ | ⟨z, rfl⟩ | ⟨s, rfl⟩ | ⟨l', rfl⟩ | ⟨l', rfl⟩
    · rfl
    · rfl
    · rfl
    · rfl
    · rcases h with h | h <;> exact absurd rfl h
section KD
variable {e : Nat} {a : JT (e + 1)}
theorem kdn (ho : jok (e + 1) a) (h : kd (e + 1) a = 3) : ∃ z, a = jn z := by
  rcases jcases a with ⟨c, rfl⟩ | ⟨c, rfl⟩ | ⟨c, rfl⟩ | ⟨c, rfl⟩ | ⟨c, rfl⟩
  · rw [jok_k] at ho; rw [kd_k] at h; omega
  · exact ⟨c, rfl⟩
  · rw [kd_s] at h; omega
  · rw [kd_a] at h; omega
  · rw [kd_o] at h; omega
theorem kds (ho : jok (e + 1) a) (h : kd (e + 1) a = 4) : ∃ z, a = js z := by
  rcases jcases a with ⟨c, rfl⟩ | ⟨c, rfl⟩ | ⟨c, rfl⟩ | ⟨c, rfl⟩ | ⟨c, rfl⟩
  · rw [jok_k] at ho; rw [kd_k] at h; omega
  · rw [kd_n] at h; omega
  · exact ⟨c, rfl⟩
  · rw [kd_a] at h; omega
  · rw [kd_o] at h; omega
theorem kda (ho : jok (e + 1) a) (h : kd (e + 1) a = 5) : ∃ z, a = ja z := by
  rcases jcases a with ⟨c, rfl⟩ | ⟨c, rfl⟩ | ⟨c, rfl⟩ | ⟨c, rfl⟩ | ⟨c, rfl⟩
  · rw [jok_k] at ho; rw [kd_k] at h; omega
  · rw [kd_n] at h; omega
  · rw [kd_s] at h; omega
  · exact ⟨c, rfl⟩
  · rw [kd_o] at h; omega
theorem kdo (ho : jok (e + 1) a) (h : kd (e + 1) a = 6) : ∃ z, a = jo z := by
  rcases jcases a with ⟨c, rfl⟩ | ⟨c, rfl⟩ | ⟨c, rfl⟩ | ⟨c, rfl⟩ | ⟨c, rfl⟩
  · rw [jok_k] at ho; rw [kd_k] at h; omega
  · rw [kd_n] at h; omega
  · rw [kd_s] at h; omega
  · rw [kd_a] at h; omega
  · exact ⟨c, rfl⟩
theorem kdk (ho : jok (e + 1) a) (h : kd (e + 1) a < 3) : a = jk (kd (e + 1) a) := by
  rcases jcases a with ⟨c, rfl⟩ | ⟨c, rfl⟩ | ⟨c, rfl⟩ | ⟨c, rfl⟩ | ⟨c, rfl⟩
  · rfl
  · rw [kd_n] at h; omega
  · rw [kd_s] at h; omega
  · rw [kd_a] at h; omega
  · rw [kd_o] at h; omega
end KD
abbrev oc {d : Nat} (p : Sx × JT d) : List Int64 := strc p.1 ++ jc d p.2
theorem lu_mem {α : Type} {s : Sx} : ∀ {l : List (Sx × α)} {x : α}, lu s l = some x → (s, x) ∈ l := by
  intro l
  induction l with
  | nil => intro x h; exact absurd h (by simp [lu])
  | cons p l ih =>
    intro x h
    rw [lu] at h
    by_cases hp : p.1 = s
    · rw [if_pos hp] at h
      obtain rfl := Option.some.inj h
      rw [← hp]
      exact List.mem_cons_self ..
    · rw [if_neg hp] at h
      exact List.mem_cons_of_mem _ (ih h)
theorem lu_none {α : Type} {s : Sx} : ∀ {l : List (Sx × α)}, lu s l = none ↔ s ∉ l.map (fun p => p.1) := by
  intro l
  induction l with
  | nil => simp [lu]
  | cons p l ih =>
    rw [lu, List.map_cons, List.mem_cons]
    by_cases hp : p.1 = s
    · rw [if_pos hp]
      simp [hp]
    · rw [if_neg hp, ih]
      simp [Ne.symm hp]
section OW
variable {f g : Nat → Int64} {p q v u e : Nat} {o o' : Int32}
theorem At.isT {n d k : Nat} {j : JT d} (h : At f v p (jc d j)) (hok : jok d j) (hk : kd d j = k) : fR_is n (i3 p) (i3 k) f (i3 v) o = some 1 := by
  have := kd_lt8 hok
  rw [h.is hok (by omega), if_pos hk]
theorem At.isF {n d k : Nat} {j : JT d} (h : At f v p (jc d j)) (hok : jok d j) (hk8 : k < 8) (hk : kd d j ≠ k) : fR_is n (i3 p) (i3 k) f (i3 v) o = some 0 := by
  rw [h.is hok (by omega), if_neg hk]
theorem nn_loop2 {l : List (Sx × JT e)} (ha : At f v p (jc (e + 1) (jo l))) (hoa : jok (e + 1) (jo l)) {tot : Nat} (ht : tot < 65536) (hlen : ∀ n, fR_length n (i3 q) g (i3 u) o' = some (i3 tot)) : ∀ (m : List (Sx × JT e)) (n i s c : Nat) (r : RS), (∀ x ∈ m, sok x.1 ∧ jok e x.2) → i + m.length = tot → At g u s (m.flatMap oc) → RV r → 8300 + m.length < n →
    ∃ r' : RS, fA_putNewNames_b f (i3 v) o g (i3 u) o' n 1 (i3 i) (i3 s) (i3 c) (i3 p) (i3 q) r.1 (i3 r.2.1) r.2.2 = some (i3 (c + (m.filter (fun x => (lu x.1 l).isNone)).length), r'.1, i3 r'.2.1, r'.2.2) ∧ Wr r ((m.filter (fun x => (lu x.1 l).isNone)).flatMap oc) r' := by
  intro m
  induction m with
  | nil =>
    intro n i s c r _ hi _ hr hn
    obtain ⟨n, rfl⟩ : ∃ j, n = j + 1 := ⟨n - 1, by omega⟩
    rw [List.length_nil] at hi
    refine ⟨r, ?_, Wr.nil hr⟩
    rw [fA_putNewNames_b, hlen, Option.bind_some, if_pos (by rw [i3_le (by omega) (by omega)]; omega)]
    rfl
  | cons x m ih =>
    intro n i s c r hok hi hat hr hn
    obtain ⟨n, rfl⟩ : ∃ j, n = j + 1 := ⟨n - 1, by omega⟩
    rw [List.length_cons] at hi hn
    obtain ⟨at1, at2, at3⟩ := At.ocons hat
    obtain ⟨hs, hx⟩ := hok x (List.mem_cons_self ..)
    rw [fA_putNewNames_b, hlen, Option.bind_some, if_neg (by rw [i3_le (by omega) (by omega)]; omega), at1.safter, Option.bind_some]
    rcases ha.vo (n := n) (o := o) (o' := o') hoa hs at1 (by omega) with ⟨r', y, h1, h2, h3, h4⟩ | ⟨h1, h4⟩
    · have h5 := h3.2
      have h6 := jc_pos e y
      rw [h4, Option.bind_some, if_neg (by rw [i3_m1 (by omega)]; exact not_false), at2.after hx, Option.bind_some, i3_one]
      rw [List.filter_cons_of_neg (by rw [h1]; simp)]
      exact ih n (i + 1) _ c r (fun y hy => hok y (List.mem_cons_of_mem _ hy)) (by omega) at3 hr (by omega)
    · rw [h4, Option.bind_some, if_pos rfl]
      obtain ⟨r1, e1, w1⟩ := putCopyS_w (n := n) (o' := o') hr at1
      obtain ⟨r2, e2, w2⟩ := putCopy_w (n := n) (o' := o') w1.v at2 hx
      obtain ⟨r3, e3, w3⟩ := ih n (i + 1) _ (c + 1) r2 (fun y hy => hok y (List.mem_cons_of_mem _ hy)) (by omega) at3 w2.v (by omega)
      rw [List.filter_cons_of_pos (by rw [h1]; simp)]
      refine ⟨r3, ?_, ?_⟩
      · rw [e1, Option.bind_some]
        dsimp only
        rw [e2, Option.bind_some, at2.after hx, Option.bind_some]
        dsimp only
        rw [i3_one, i3_one, e3, List.length_cons, Nat.add_assoc, Nat.add_comm 1]
      · rw [List.flatMap_cons]
        exact (w1.app w2).app w3
abbrev RecB : Type := Int32 → Int32 → Int32 → Int32 → (Nat → Int64) → Int32 → Int32 → (Nat → Int64) → Int32 → Int32 → (Nat → Int64) → Int32 → Int32 → Option ((Nat → Int64) × Int32 × Int32)
theorem filter_le {α : Type} (l : List α) (P : α → Bool) : (l.filter P).length ≤ l.length := List.length_filter_le P l
/-- the names of both -/
theorem both_loop {rec : RecB} {k : Nat} (hk : k ≤ 60) {deep : Bool} {sel : JT e → JT e → JT e} {l m : List (Sx × JT e)} (ha : At f v p (jc (e + 1) (jo l))) (hoa : jok (e + 1) (jo l)) (hb : At g u q (jc (e + 1) (jo m))) (hob : jok (e + 1) (jo m)) {r0 r1 : RS} {x0 : Int64} (h01 : Wr r0 [x0] r1)
    (hplain : deep = false → ∀ x y, sel x y = y)
    (hdeep : deep = true → ∀ x ∈ l, kd e x.2 = 6 → ∀ y ∈ m.map (fun z => z.2), kd e y = 6 → k < 60 ∧ ∀ r s (r2 : RS), At f v r (jc e x.2) → At g u s (jc e y) → RV r2 → ∃ r3 : RS, rec (i3 r) (i3 s) 1 (i3 (k + 1)) f (i3 v) o g (i3 u) o' r2.1 (i3 r2.2.1) r2.2.2 = some (r3.1, i3 r3.2.1, r3.2.2) ∧ Wr r2 (jc e (sel x.2 y)) r3)
    (hsel : ∀ x y, jok e x → jok e y → kd e x ≠ 6 ∨ kd e y ≠ 6 → sel x y = y) :
    ∀ (l' : List (Sx × JT e)) (n i s : Nat) (w : List Int64) (r2 : RS), (∀ x ∈ l', x ∈ l) → i + l'.length = l.length → At f v s (l'.flatMap oc) → Wr r1 w r2 → 12500 + l'.length < n →
    ∃ r' : RS, fA_putBoth_b rec f (i3 v) o g (i3 u) o' n 1 (i3 i) (i3 s) (i3 r1.2.1 - 1) (i3 p) (i3 q) (if deep then 1 else 0) (i3 k) r2.1 (i3 r2.2.1) r2.2.2 = some (r'.1, i3 r'.2.1, r'.2.2) ∧ Wr r0 (lst 6 (l.length + (bn l m).length) (w ++ (l'.map (bv sel m) ++ bn l m).flatMap oc)) r' := by
  have sza := ha.osz
  have szb := hb.osz
  intro l'
  induction l' with
  | nil =>
    intro n i s w r2 _ hi _ hw hn
    obtain ⟨n, rfl⟩ : ∃ j, n = j + 1 := ⟨n - 1, by omega⟩
    rw [List.length_nil] at hi
    obtain ⟨r3, e3, w3⟩ := nn_loop2 (o := o) (o' := o') ha hoa (tot := m.length) (by omega) (fun n => hb.olen) m n 0 (q + 1) 0 r2 hob.1 (by omega) hb.obody hw.v (by omega)
    have hfl := filter_le m (fun x => (lu x.1 l).isNone)
    obtain ⟨f4, e4, w4⟩ := close_w (n := n) (k := 6) (len := l.length + (m.filter (fun x => (lu x.1 l).isNone)).length) h01 (hw.app w3) (by omega) (fun _ => by omega)
    refine ⟨(f4, r3.2.1, r3.2.2), ?_, ?_⟩
    · rw [fA_putBoth_b, ha.olen, Option.bind_some, if_pos (by rw [i3_le (by omega) (by omega)]; omega)]
      unfold fA_putNewNames
      rw [i3_one, show (0 : Int32) = i3 0 from rfl, e3, Option.bind_some, Option.bind_some]
      dsimp only
      rw [i3_add, Nat.zero_add, show (6 : Int32) = i3 6 from rfl, e4]
      rfl
    · exact w4
  | cons x l' ih =>
    intro n i s w r2 hsub hi hat hw hn
    obtain ⟨n, rfl⟩ : ∃ j, n = j + 1 := ⟨n - 1, by omega⟩
    rw [List.length_cons] at hi hn
    obtain ⟨at1, at2, at3⟩ := At.ocons hat
    have hxl := hsub x (List.mem_cons_self ..)
    obtain ⟨hs, hx⟩ := hoa.1 x hxl
    obtain ⟨r3, e3, w3⟩ := putCopyS_w (n := n) (o' := o) hw.v at1
    -- after the value y was written
    have go : ∀ (y : JT e) (r4 : RS), Wr r3 (jc e y) r4 → bv sel m x = (x.1, y) → ∃ r' : RS, ((fR_after n (i3 (s + (x.1.length + 1))) f (i3 v) o).bind fun o14 => fA_putBoth_b rec f (i3 v) o g (i3 u) o' n 1 (i3 i + 1) o14 (i3 r1.2.1 - 1) (i3 p) (i3 q) (if deep then 1 else 0) (i3 k) r4.1 (i3 r4.2.1) r4.2.2) = some (r'.1, i3 r'.2.1, r'.2.2) ∧ Wr r0 (lst 6 (l.length + (bn l m).length) (w ++ ((x :: l').map (bv sel m) ++ bn l m).flatMap oc)) r' := by
      intro y r4 w4 hy
      obtain ⟨r5, e5, w5⟩ := ih n (i + 1) _ (w ++ (strc x.1 ++ jc e y)) r4 (fun z hz => hsub z (List.mem_cons_of_mem _ hz)) (by omega) at3 (by rw [← List.append_assoc]; exact (hw.app w3).app w4) (by omega)
      refine ⟨r5, ?_, ?_⟩
      · rw [at2.after hx, Option.bind_some, i3_one]
        exact e5
      · rw [List.map_cons, List.cons_append, List.flatMap_cons, hy]
        rw [List.append_assoc] at w5
        exact w5
    rw [fA_putBoth_b, ha.olen, Option.bind_some, if_neg (by rw [i3_le (by omega) (by omega)]; omega), at1.safter, Option.bind_some]
    rcases hb.vo (n := n) (o := o') (o' := o) hob hs at1 (by omega) with ⟨s2, y, h1, h2, h3, h4⟩ | ⟨h1, h4⟩
    · have h5 := h3.2
      have h6 := jc_pos e y
      obtain ⟨z, hz, hzy⟩ := List.mem_map.mp h2
      have hy : jok e y := by
        rw [← hzy]
        exact (hob.1 z hz).2
      obtain ⟨r4, e4, w4⟩ := putCopy_w (n := n) (o' := o') w3.v h3 hy
      have plain : sel x.2 y = y → ∃ r' : RS, ((fR_putCopy n (i3 s2) r3.1 (i3 r3.2.1) r3.2.2 g (i3 u) o').bind fun o12 => (fR_after n (i3 (s + (x.1.length + 1))) f (i3 v) o).bind fun o14 => fA_putBoth_b rec f (i3 v) o g (i3 u) o' n 1 (i3 i + 1) o14 (i3 r1.2.1 - 1) (i3 p) (i3 q) (if deep then 1 else 0) (i3 k) o12.1 o12.2.1 o12.2.2) = some (r'.1, i3 r'.2.1, r'.2.2) ∧ Wr r0 (lst 6 (l.length + (bn l m).length) (w ++ ((x :: l').map (bv sel m) ++ bn l m).flatMap oc)) r' := fun hsy => by
        rw [e4, Option.bind_some]
        exact go y r4 w4 (by unfold bv; rw [h1]; exact congrArg _ hsy)
      rw [h4, Option.bind_some, e3, Option.bind_some, if_neg (by rw [i3_m1 (by omega)]; exact not_false)]
      dsimp only
      cases hdp : deep with
      | false =>
        subst hdp
        rw [if_pos (by decide)]
        exact plain (hplain rfl _ _)
      | true =>
        subst hdp
        rw [if_neg (by decide)]
        by_cases kx : kd e x.2 = 6
        · by_cases ky : kd e y = 6
          · obtain ⟨hk60, hrec⟩ := hdeep rfl x hxl kx y h2 ky
            obtain ⟨r5, e5, w5⟩ := hrec _ _ r3 at2 h3 w3.v
            rw [if_neg (by rw [show (60 : Int32) = i3 60 from rfl, i3_le (by omega) (by omega)]; omega), show (6 : Int32) = i3 6 from rfl, at2.isT hx kx, Option.bind_some, if_neg (by decide), h3.isT hy ky, Option.bind_some, if_neg (by decide), i3_one, e5, Option.bind_some]
            exact go (sel x.2 y) r5 w5 (by unfold bv; rw [h1])
          · have hsy := hsel x.2 y hx hy (Or.inr ky)
            split
            · exact plain hsy
            · rw [show (6 : Int32) = i3 6 from rfl, at2.isT hx kx, Option.bind_some, if_neg (by decide), h3.isF hy (by omega) ky, Option.bind_some, if_pos rfl]
              exact plain hsy
        · have hsy := hsel x.2 y hx hy (Or.inl kx)
          split
          · exact plain hsy
          · rw [show (6 : Int32) = i3 6 from rfl, at2.isF hx (by omega) kx, Option.bind_some, if_pos rfl]
            exact plain hsy
    · obtain ⟨r4, e4, w4⟩ := putCopy_w (n := n) (o' := o) w3.v at2 hx
      rw [h4, Option.bind_some, e3, Option.bind_some, if_pos rfl]
      dsimp only
      rw [e4, Option.bind_some]
      exact go x.2 r4 w4 (by unfold bv; rw [h1])
end OW
end ZOpa20
section ZOpb21
def MX : Int := 9007199254740991
def numR {e : Nat} (z : Int) : Nat ⊕ JT (e + 1) := if -9007199254740991 ≤ z ∧ z ≤ 9007199254740991 then .inr (jn z) else .inl 2
def oNum {e : Nat} (op : Nat) (x y : Int) : Nat ⊕ JT (e + 1) :=
  if op = 0 then numR (x + y) else if op = 1 then numR (x - y) else if op = 2 then (if x ≠ 0 ∧ 9007199254740991 / x.natAbs < y.natAbs then .inl 2 else numR (x * y))
  else if y = 0 then .inl 3 else if op = 3 then numR (x.tdiv y) else numR (x - x.tdiv y * y)
def oPlus {e : Nat} (a b : JT (e + 1)) : Nat ⊕ JT (e + 1) :=
  if kd (e + 1) a = 0 then .inr b else if kd (e + 1) b = 0 then .inr a else
  match a, b with
  | .inl (.inr (.inr s)), .inl (.inr (.inr t)) => .inr (js (s ++ t))
  | .inr (.inl l), .inr (.inl m) => .inr (ja (l ++ m))
  | .inr (.inr l), .inr (.inr m) => .inr (jo (bw (fun _ y => y) l m))
  | _, _ => .inl 1
def has {e : Nat} (m : List (JT e)) (x : JT e) : Bool := m.any (fun y => decide (jcmp e y x = 0))
def oMinus {e : Nat} (a b : JT (e + 1)) : Nat ⊕ JT (e + 1) :=
  match a, b with
  | .inr (.inl l), .inr (.inl m) => .inr (ja (l.filter (fun x => !has m x)))
  | _, _ => .inl 1
def rep (s : Sx) (z : Int) : Sx := (List.replicate z.toNat s).flatten
def repR {e : Nat} (s : Sx) (z : Int) : Nat ⊕ JT (e + 1) := .inr (if z < 1 then jk 0 else js (rep s z))
def oTimes {e : Nat} (a b : JT (e + 1)) : Nat ⊕ JT (e + 1) :=
  match a, b with
  | .inr (.inr l), .inr (.inr m) => .inr (jo (bw (selD e) l m))
  | .inl (.inr (.inr s)), .inl (.inr (.inl z)) => repR s z
  | .inl (.inr (.inl z)), .inl (.inr (.inr s)) => repR s z
  | _, _ => .inl 1
def spl (s t : Sx) : Nat → Nat → Nat → List Sx
  | 0, _, b => [s.drop b]
  | m + 1, k, b => if b ≤ k ∧ pf t (s.drop k) = true then ((s.drop b).take (k - b)) :: spl s t m (k + 1) (k + t.length) else spl s t m (k + 1) b
def pcs (s t : Sx) : List Sx := if t = [] then s.map (fun c => [c]) else if s = [] then [] else spl s t s.length 0 0
def oPieces {e : Nat} (a b : JT (e + 2)) : Nat ⊕ JT (e + 2) :=
  match a, b with
  | .inl (.inr (.inr s)), .inl (.inr (.inr t)) => .inr (ja ((pcs s t).map (fun x => (js x : JT (e + 1)))))
  | _, _ => .inl 1
def oBin {e : Nat} (op : Nat) (a b : JT (e + 2)) : Nat ⊕ JT (e + 2) :=
  match a, b with
  | .inl (.inr (.inl x)), .inl (.inr (.inl y)) => oNum op x y
  | a, b => if op = 0 then oPlus a b else if op = 1 then oMinus a b else if op = 2 then oTimes a b else if op = 3 then oPieces a b else .inl 1
abbrev Out4 : Type := Int32 × (Nat → Int64) × Int32 × Int32
def OK {d : Nat} (r : RS) (out : Option Out4) (res : Nat ⊕ JT d) : Prop := ∃ (c : Nat) (r' : RS), out = some (i3 c, r'.1, i3 r'.2.1, r'.2.2) ∧ RV r' ∧ (match res with
  | .inl k => c = k ∧ 1 ≤ k ∧ k ≤ 5
  | .inr j => c = 0 ∧ Wr r (jc d j) r')
theorem b4 {o : Option Out4} : (o.bind fun y => some (y.1, y.2.1, y.2.2.1, y.2.2.2)) = o := by
  cases o <;> rfl
theorem b30 {α : Type} {o : Option α} {y : Int32} {g : α → (Nat → Int64) × Int32 × Int32} {x : α} (h : o = some x) : (o.bind fun z => some (y, g z)) = some (y, g x) := by
  rw [h]
  rfl
theorem OK.val {d : Nat} {r r' : RS} {j : JT d} {out : Option Out4} (h : out = some ((0 : Int32), r'.1, i3 r'.2.1, r'.2.2)) (hw : Wr r (jc d j) r') : OK r out (.inr j) := ⟨0, r', h, hw.v, rfl, hw⟩
theorem OK.ref {d : Nat} {r r' : RS} {k : Nat} {out : Option Out4} (h : out = some (i3 k, r'.1, i3 r'.2.1, r'.2.2)) (hr : RV r') (h1 : 1 ≤ k) (h2 : k ≤ 5) : OK (d := d) r out (.inl k) := ⟨k, r', h, hr, rfl, h1, h2⟩
section NM
variable {n : Nat} {r : RS} {e : Nat}
theorem number_w (hr : RV r) {z : Int} (h1 : -4611686018427387904 ≤ z) (h2 : z ≤ 4611686018427387904) : OK (d := e + 1) r (fA_number n (cW z) r.1 (i3 r.2.1) r.2.2) (numR z) := by
  unfold fA_number numR
  rw [abs_cW (by omega) (by omega), show (9007199254740991 : Int64) = cW 9007199254740991 from rfl, lg_cW (by omega) (by omega) (by omega) (by omega)]
  by_cases h : -9007199254740991 ≤ z ∧ z ≤ 9007199254740991
  · obtain ⟨r', e1, w1⟩ := putNumber_w (n := n) hr z
    rw [if_pos (by rw [izs_le0]; omega), if_pos h, e1, Option.bind_some]
    exact OK.val rfl w1
  · rw [if_neg (by rw [izs_le0]; omega), if_neg h]
    exact OK.ref (k := 2) rfl hr (by omega) (by omega)
theorem ofNumbers_w (hr : RV r) {op : Nat} (hop : op ≤ 4) {x y : Int} (h1 : -9007199254740991 ≤ x) (h2 : x ≤ 9007199254740991) (h3 : -9007199254740991 ≤ y) (h4 : y ≤ 9007199254740991) : OK (d := e + 1) r (fA_ofNumbers n (i3 op) (cW x) (cW y) r.1 (i3 r.2.1) r.2.2) (oNum op x y) := by
  have hz : ∀ w : Int, -9007199254740991 ≤ w → w ≤ 9007199254740991 → (lg_cmp (cW w) 0 = 0) = (w = 0) := fun w a b => by
    rw [lg_zero, show (0 : Int64) = cW 0 from rfl, cW_eq (by omega) (by omega) (by omega) (by omega)]
  have hz2 : ∀ w : Int, -9007199254740991 ≤ w → w ≤ 9007199254740991 → (cW w = 0) = (w = 0) := fun w a b => by
    rw [show (0 : Int64) = cW 0 from rfl, cW_eq (by omega) (by omega) (by omega) (by omega)]
  have hdv : y ≠ 0 → -9007199254740991 ≤ x.tdiv y ∧ x.tdiv y ≤ 9007199254740991 := fun hy => by
    have h5 := Int.natAbs_tdiv x y
    have h6 : x.natAbs.div y.natAbs ≤ x.natAbs := Nat.div_le_self _ _
    omega
  unfold fA_ofNumbers oNum
  rw [show (0 : Int32) = i3 0 from rfl, show (1 : Int32) = i3 1 from rfl, show (2 : Int32) = i3 2 from rfl, show (3 : Int32) = i3 3 from rfl]
  simp only [b4]
  obtain rfl | rfl | rfl | rfl | rfl : op = 0 ∨ op = 1 ∨ op = 2 ∨ op = 3 ∨ op = 4 := by omega
  · rw [if_pos rfl, if_pos rfl, cW_add]
    exact number_w hr (by omega) (by omega)
  · rw [if_neg (by decide), if_pos rfl, if_neg (by decide), if_pos rfl, cW_sub]
    exact number_w hr (by omega) (by omega)
  · rw [if_neg (by decide), if_neg (by decide), if_pos rfl, if_neg (by decide), if_neg (by decide), if_pos rfl]
    unfold fA_product
    simp only [b4]
    rw [abs_cW (by omega) (by omega), abs_cW (by omega) (by omega), cW_mul]
    by_cases hx : x = 0
    · rw [if_pos (by (try rw [show i3 0 = (0 : Int32) from rfl]); rw [hz x h1 h2]; exact hx), if_neg (by omega), hx, Int.zero_mul]
      exact number_w hr (by omega) (by omega)
    · rw [if_neg (by (try rw [show i3 0 = (0 : Int32) from rfl]); rw [hz x h1 h2]; exact hx), if_neg (by rw [show (0 : Int64) = cW 0 from rfl, cW_eq (by omega) (by omega) (by omega) (by omega)]; omega), show (9007199254740991 : Int64) = cW ((9007199254740991 : Nat) : Int) from rfl, q_div (by omega) (by omega)]
      have hq : 9007199254740991 / x.natAbs ≤ 9007199254740991 := Nat.div_le_self _ _
      have hqm : 9007199254740991 / x.natAbs * x.natAbs ≤ 9007199254740991 := Nat.div_mul_le_self _ _
      generalize hQ : 9007199254740991 / x.natAbs = Q at *
      by_cases hc : Q < y.natAbs
      · rw [if_neg (by rw [lg_cW (by omega) (by omega) (by omega) (by omega)]; (try rw [show i3 0 = (0 : Int32) from rfl]); rw [izs_le0]; omega), if_pos ⟨hx, hc⟩]
        exact OK.ref (k := 2) rfl hr (by omega) (by omega)
      · rw [if_pos (by rw [lg_cW (by omega) (by omega) (by omega) (by omega)]; (try rw [show i3 0 = (0 : Int32) from rfl]); rw [izs_le0]; omega), if_neg (by omega)]
        have h7 : (x * y).natAbs ≤ 9007199254740991 := by
          rw [Int.natAbs_mul, Nat.mul_comm]
          exact Nat.le_trans (Nat.mul_le_mul_right _ (by omega)) hqm
        exact number_w hr (by omega) (by omega)
  · by_cases hy : y = 0
    · rw [if_neg (by decide), if_neg (by decide), if_neg (by decide), if_pos rfl, if_pos (by (try rw [show i3 0 = (0 : Int32) from rfl]); rw [hz y h3 h4]; exact hy), if_neg (by decide), if_neg (by decide), if_neg (by decide), if_pos hy]
      exact OK.ref (k := 3) rfl hr (by omega) (by omega)
    · have := hdv hy
      rw [if_neg (by decide), if_neg (by decide), if_neg (by decide), if_pos rfl, if_neg (by (try rw [show i3 0 = (0 : Int32) from rfl]); rw [hz y h3 h4]; exact hy), if_neg (by rw [hz2 y h3 h4]; exact hy), cW_div (by omega) (by omega) (by omega) (by omega), if_neg (by decide), if_neg (by decide), if_neg (by decide), if_neg hy, if_pos rfl]
      exact number_w hr (by omega) (by omega)
  · by_cases hy : y = 0
    · rw [if_neg (by decide), if_neg (by decide), if_neg (by decide), if_neg (by decide), if_pos (by (try rw [show i3 0 = (0 : Int32) from rfl]); rw [hz y h3 h4]; exact hy), if_neg (by decide), if_neg (by decide), if_neg (by decide), if_pos hy]
      exact OK.ref (k := 3) rfl hr (by omega) (by omega)
    · have := hdv hy
      have hmd : (x - x.tdiv y * y).natAbs ≤ x.natAbs := by
        have e1 : x - x.tdiv y * y = x.tmod y := by
          have := Int.tmod_add_mul_tdiv x y
          rw [Int.mul_comm y] at this
          omega
        rw [e1, Int.natAbs_tmod]
        exact Nat.mod_le _ _
      rw [if_neg (by decide), if_neg (by decide), if_neg (by decide), if_neg (by decide), if_neg (by (try rw [show i3 0 = (0 : Int32) from rfl]); rw [hz y h3 h4]; exact hy), if_neg (by rw [hz2 y h3 h4]; exact hy), cW_div (by omega) (by omega) (by omega) (by omega), cW_mul, cW_sub, if_neg (by decide), if_neg (by decide), if_neg (by decide), if_neg hy, if_neg (by decide)]
      exact number_w hr (by omega) (by omega)
end NM
end ZOpb21
section ZOpc22
theorem strc_lst (s : Sx) : strc s = lst 4 s.length (s.map (fun c => cW (c : Nat))) := by
  unfold strc lst
  rw [List.length_map]
section PI
variable {n : Nat} {r : RS} {g : Nat → Int64} {u q : Nat} {o' : Int32}
theorem putInside_w (hr : RV r) {k len : Nat} {w : List Int64} (h : At g u q (lst k len w)) (ha : fR_after n (i3 q) g (i3 u) o' = some (i3 (q + (w.length + 1)))) : ∃ r' : RS, fR_putInside n (i3 q) r.1 (i3 r.2.1) r.2.2 g (i3 u) o' = some (r'.1, i3 r'.2.1, r'.2.2) ∧ Wr r w r' := by
  obtain ⟨r', e, hw⟩ := putCells_w (n := n) (o' := o') hr h.lbody
  refine ⟨r', ?_, hw⟩
  unfold fR_putInside
  rw [ha, Option.bind_some, i3_one, i3_sub (by omega), show q + (w.length + 1) - q = w.length + 1 by omega, i3_pred (by omega), Nat.add_sub_cancel, e]
  rfl
theorem putInsideS_w (hr : RV r) {s : Sx} (h : At g u q (strc s)) : ∃ r' : RS, fR_putInside n (i3 q) r.1 (i3 r.2.1) r.2.2 g (i3 u) o' = some (r'.1, i3 r'.2.1, r'.2.2) ∧ Wr r (s.map (fun c => cW (c : Nat))) r' := by
  refine putInside_w hr (k := 4) (len := s.length) (by rw [← strc_lst]; exact h) ?_
  rw [h.safter, List.length_map]
theorem putInsideA_w (hr : RV r) {d : Nat} {l : List (JT d)} (h : At g u q (jc (d + 1) (ja l))) (hok : jok (d + 1) (ja l)) : ∃ r' : RS, fR_putInside n (i3 q) r.1 (i3 r.2.1) r.2.2 g (i3 u) o' = some (r'.1, i3 r'.2.1, r'.2.2) ∧ Wr r (l.flatMap (jc d)) r' := putInside_w hr (k := 5) (len := l.length) h (h.after hok)
theorem putPart_w (hr : RV r) {s : Sx} {a b : Nat} (h : At g u q (strc s)) (hab : a ≤ b) (hb : b ≤ s.length) : ∃ r' : RS, fR_putPart n (i3 q) (i3 a) (i3 b) r.1 (i3 r.2.1) r.2.2 g (i3 u) o' = some (r'.1, i3 r'.2.1, r'.2.2) ∧ Wr r (strc ((s.drop a).take (b - a))) r' := by
  have hle := h.le
  have hsl : ((s.drop a).take (b - a)).length = b - a := by rw [List.length_take, List.length_drop]; omega
  have hat : At g u (q + 1 + a) (((s.drop a).take (b - a)).map (fun c => cW (c : Nat))) := by
    refine ⟨fun i x hx => ?_, by rw [List.length_map, hsl]; omega, hle.2⟩
    have hb2 := h.body
    rw [List.getElem?_map, List.getElem?_take] at hx
    by_cases hi : i < b - a
    · rw [if_pos hi, List.getElem?_drop] at hx
      have := hb2 (a + i) x (by rw [List.getElem?_map]; exact hx)
      rw [← this]
      congr 1
      omega
    · rw [if_neg hi] at hx
      simp at hx
  obtain ⟨r1, e1, w1⟩ := open_w (n := n) hr
  obtain ⟨r2, e2, w2⟩ := putCells_w (n := n) (o' := o') w1.v hat
  rw [List.length_map, hsl] at e2
  obtain ⟨f3, e3, w3⟩ := close_w (n := n) (k := 4) (len := b - a) w1 w2 (by omega) (fun _ => by omega)
  refine ⟨(f3, r2.2.1, r2.2.2), ?_, by rw [strc_lst, hsl]; exact w3⟩
  unfold fR_putPart
  rw [e1, Option.bind_some]
  dsimp only
  rw [i3_one, i3_add, i3_sub hab, e2, Option.bind_some]
  dsimp only
  rw [show (4 : Int32) = i3 4 from rfl, e3]
  rfl
theorem close_over {h k len : Int32} {f : Nat → Int64} {v : Int32} : fR_close n h k len f v 1 = some f := by
  unfold fR_close
  rw [if_neg (by decide)]
theorem Wr.more {α : Type} {r r' : BS α} {w w' : List α} (h : Wr r w r') (h1 : r'.2.2 = 1) : Wr r (w ++ w') r' := by
  obtain ⟨h2, h3⟩ := h
  refine ⟨h2, Or.inr ⟨?_, h1⟩⟩
  rcases h3 with ⟨_, _, a, _⟩ | ⟨a, _⟩
  · rw [h1] at a
    exact absurd a (by decide)
  · rcases a with a | a
    · exact Or.inl a
    · right
      rw [List.length_append]
      omega
end PI
section OPB
variable {f g : Nat → Int64} {v u e : Nat} {o o' : Int32} {n fu : Nat} {r : RS}
theorem both_plain (hn : 20000 < n) {p q : Nat} {l m : List (Sx × JT e)} (ha : At f v p (jc (e + 1) (jo l))) (hoa : jok (e + 1) (jo l)) (hb : At g u q (jc (e + 1) (jo m))) (hob : jok (e + 1) (jo m)) (hr : RV r) (hfu : 1 ≤ fu) : ∃ r' : RS, fA_putBoth fu n (i3 p) (i3 q) 0 0 f (i3 v) o g (i3 u) o' r.1 (i3 r.2.1) r.2.2 = some (r'.1, i3 r'.2.1, r'.2.2) ∧ Wr r (jc (e + 1) (jo (bw (fun _ y => y) l m))) r' := by
  obtain ⟨fu, rfl⟩ : ∃ j, fu = j + 1 := ⟨fu - 1, by omega⟩
  have sza := ha.osz
  obtain ⟨r1, e1, w1⟩ := open_w (n := n) hr
  obtain ⟨r2, e2, w2⟩ := both_loop (rec := fA_putBoth fu n) (o := o) (o' := o') (k := 0) (by omega) (deep := false) (sel := fun _ y => y) ha hoa hb hob w1 (fun _ _ _ => rfl) (fun h => absurd h (by decide)) (fun _ _ _ _ _ => rfl) l n 0 (p + 1) [] r1 (fun x hx => hx) (by omega) ha.obody (Wr.nil w1.v) (by omega)
  refine ⟨r2, ?_, ?_⟩
  · rw [fA_putBoth, e1, Option.bind_some]
    dsimp only
    rw [i3_one]
    exact e2
  · rw [jc_o]
    have hl : (bw (fun _ y => y) l m).length = l.length + (bn l m).length := by unfold bw; rw [List.length_append, List.length_map]
    rw [hl]
    exact w2
theorem both_deep (hn : 20000 < n) : ∀ (e fu k p q : Nat) (l m : List (Sx × JT e)) (r : RS), At f v p (jc (e + 1) (jo l)) → jok (e + 1) (jo l) → At g u q (jc (e + 1) (jo m)) → jok (e + 1) (jo m) → RV r → e + 1 ≤ fu → k + jd (e + 1) (jo l) ≤ 60 → ∃ r' : RS, fA_putBoth fu n (i3 p) (i3 q) 1 (i3 k) f (i3 v) o g (i3 u) o' r.1 (i3 r.2.1) r.2.2 = some (r'.1, i3 r'.2.1, r'.2.2) ∧ Wr r (jc (e + 1) (jo (bw (selD e) l m))) r' := by
  intro e
  induction e with
  | zero =>
    intro fu k p q l m r ha hoa hb hob hr hfu hk
    obtain ⟨fu, rfl⟩ : ∃ j, fu = j + 1 := ⟨fu - 1, by omega⟩
    have sza := ha.osz
    have hp := jd_o_pos (l := l)
    obtain ⟨r1, e1, w1⟩ := open_w (n := n) hr
    obtain ⟨r2, e2, w2⟩ := both_loop (rec := fA_putBoth fu n) (o := o) (o' := o') (k := k) (by omega) (deep := true) (sel := selD 0) ha hoa hb hob w1 (fun h => absurd h (by decide)) (fun _ x _ => (j0 x.2).elim) (fun x => (j0 x).elim) l n 0 (p + 1) [] r1 (fun x hx => hx) (by omega) ha.obody (Wr.nil w1.v) (by omega)
    refine ⟨r2, ?_, ?_⟩
    · rw [fA_putBoth, e1, Option.bind_some]
      dsimp only
      rw [i3_one]
      exact e2
    · rw [jc_o]
      have hl : (bw (selD 0) l m).length = l.length + (bn l m).length := by unfold bw; rw [List.length_append, List.length_map]
      rw [hl]
      exact w2
  | succ e ih =>
    intro fu k p q l m r ha hoa hb hob hr hfu hk
    obtain ⟨fu, rfl⟩ : ∃ j, fu = j + 1 := ⟨fu - 1, by omega⟩
    have sza := ha.osz
    have hp := jd_o_pos (l := l)
    have hjd : ∀ z ∈ l, jd (e + 1) z.2 ≤ 59 - k := jd_o_le.mp (by omega)
    obtain ⟨r1, e1, w1⟩ := open_w (n := n) hr
    obtain ⟨r2, e2, w2⟩ := both_loop (rec := fA_putBoth fu n) (o := o) (o' := o') (k := k) (by omega) (deep := true) (sel := selD (e + 1)) ha hoa hb hob w1 (fun h => absurd h (by decide)) (fun _ x hx kx y hy ky => by
      have hj := hjd x hx
      obtain ⟨x1, x⟩ := x
      obtain ⟨z, hz, hzy⟩ := List.mem_map.mp hy
      have hxo := (hoa.1 _ hx).2
      have hyo : jok (e + 1) y := by
        rw [← hzy]
        exact (hob.1 z hz).2
      simp only at kx hj hxo ⊢
      rcases jcases x with ⟨c, rfl⟩ | ⟨c, rfl⟩ | ⟨c, rfl⟩ | ⟨c, rfl⟩ | ⟨l2, rfl⟩
      · rw [jok_k] at hxo
        rw [kd_k] at kx
        omega
      · rw [kd_n] at kx; omega
      · rw [kd_s] at kx; omega
      · rw [kd_a] at kx; omega
      · rcases jcases y with ⟨c, rfl⟩ | ⟨c, rfl⟩ | ⟨c, rfl⟩ | ⟨c, rfl⟩ | ⟨m2, rfl⟩
        · rw [jok_k] at hyo
          rw [kd_k] at ky
          omega
        · rw [kd_n] at ky; omega
        · rw [kd_s] at ky; omega
        · rw [kd_a] at ky; omega
        · have hp2 := jd_o_pos (l := l2)
          refine ⟨by omega, fun r' s' r2 h1 h2 h3 => ?_⟩
          rw [selD_o]
          exact ih fu (k + 1) r' s' l2 m2 r2 h1 hxo h2 hyo h3 (by omega) (by omega)) (fun x y hx hy h => selD_n h hx hy) l n 0 (p + 1) [] r1 (fun x hx => hx) (by omega) ha.obody (Wr.nil w1.v) (by omega)
    refine ⟨r2, ?_, ?_⟩
    · rw [fA_putBoth, e1, Option.bind_some]
      dsimp only
      rw [i3_one]
      exact e2
    · rw [jc_o]
      have hl : (bw (selD (e + 1)) l m).length = l.length + (bn l m).length := by unfold bw; rw [List.length_append, List.length_map]
      rw [hl]
      exact w2
theorem oneBehind_s {s t : Sx} (ha : At f v 0 (strc s)) (hb : At g u 0 (strc t)) (hr : RV r) : ∃ r' : RS, fA_putOneBehindOther n f (i3 v) o g (i3 u) o' r.1 (i3 r.2.1) r.2.2 = some (r'.1, i3 r'.2.1, r'.2.2) ∧ Wr r (strc (s ++ t)) r' := by
  have l1 := ha.le
  have l2 := hb.le
  obtain ⟨r1, e1, w1⟩ := open_w (n := n) hr
  obtain ⟨r2, e2, w2⟩ := putInsideS_w (n := n) (o' := o) w1.v ha
  obtain ⟨r3, e3, w3⟩ := putInsideS_w (n := n) (o' := o') w2.v hb
  obtain ⟨f4, e4, w4⟩ := close_w (n := n) (k := 4) (len := s.length + t.length) w1 (w2.app w3) (by omega) (fun _ => by omega)
  refine ⟨(f4, r3.2.1, r3.2.2), ?_, by rw [strc_lst, List.length_append, List.map_append]; exact w4⟩
  unfold fA_putOneBehindOther
  rw [show (0 : Int32) = i3 0 from rfl, e1, Option.bind_some]
  dsimp only
  rw [e2, Option.bind_some]
  dsimp only
  rw [e3, Option.bind_some, ha.skind, Option.bind_some, ha.slen, Option.bind_some, hb.slen, Option.bind_some, i3_add]
  dsimp only
  rw [e4]
  rfl
theorem oneBehind_a {l m : List (JT e)} (ha : At f v 0 (jc (e + 1) (ja l))) (hoa : jok (e + 1) (ja l)) (hb : At g u 0 (jc (e + 1) (ja m))) (hob : jok (e + 1) (ja m)) (hr : RV r) : ∃ r' : RS, fA_putOneBehindOther n f (i3 v) o g (i3 u) o' r.1 (i3 r.2.1) r.2.2 = some (r'.1, i3 r'.2.1, r'.2.2) ∧ Wr r (jc (e + 1) (ja (l ++ m))) r' := by
  have l1 := ha.asz
  have l2 := hb.asz
  obtain ⟨r1, e1, w1⟩ := open_w (n := n) hr
  obtain ⟨r2, e2, w2⟩ := putInsideA_w (n := n) (o' := o) w1.v ha hoa
  obtain ⟨r3, e3, w3⟩ := putInsideA_w (n := n) (o' := o') w2.v hb hob
  obtain ⟨f4, e4, w4⟩ := close_w (n := n) (k := 5) (len := l.length + m.length) w1 (w2.app w3) (by omega) (fun _ => by omega)
  refine ⟨(f4, r3.2.1, r3.2.2), ?_, by rw [jc_a, List.length_append, List.flatMap_append]; exact w4⟩
  unfold fA_putOneBehindOther
  rw [show (0 : Int32) = i3 0 from rfl, e1, Option.bind_some]
  dsimp only
  rw [e2, Option.bind_some]
  dsimp only
  rw [e3, Option.bind_some, ha.kind hoa, Option.bind_some, ha.alen, Option.bind_some, hb.alen, Option.bind_some, i3_add, kd_a]
  dsimp only
  rw [e4]
  rfl
/-- what was found refused at the start writes nothing -/
theorem OK.refuse {d : Nat} {k : Nat} (hr : RV r) (h1 : 1 ≤ k) (h2 : k ≤ 5) : OK (d := d) r (some (i3 k, r.1, i3 r.2.1, r.2.2)) (.inl k) := OK.ref rfl hr h1 h2
theorem plus_w (hn : 20000 < n) (hfu : 1 ≤ fu) {a b : JT (e + 1)} (ha : At f v 0 (jc (e + 1) a)) (hoa : jok (e + 1) a) (hb : At g u 0 (jc (e + 1) b)) (hob : jok (e + 1) b) (hr : RV r) (hnn : ¬ (kd (e + 1) a = 3 ∧ kd (e + 1) b = 3)) : OK r (fA_plus fu n f (i3 v) o g (i3 u) o' r.1 (i3 r.2.1) r.2.2) (oPlus a b) := by
  have ka := kd_lt8 hoa
  have kb := kd_lt8 hob
  unfold fA_plus
  rw [show (0 : Int32) = i3 0 from rfl]
  by_cases h1 : kd (e + 1) a = 0
  · obtain ⟨r1, e1, w1⟩ := putCopy_w (n := n) (o' := o') hr hb hob
    rw [ha.isT hoa h1, Option.bind_some, if_neg (by decide), Option.bind_some, if_neg (by decide), e1]
    have : oPlus a b = .inr b := if_pos h1
    rw [this]
    exact OK.val rfl w1
  · rw [ha.isF hoa (by omega) h1, Option.bind_some, if_pos (by decide)]
    by_cases h2 : kd (e + 1) b = 0
    · obtain ⟨r1, e1, w1⟩ := putCopy_w (n := n) (o' := o) hr ha hoa
      rw [hb.isT hob h2, Option.bind_some, if_neg (by decide), Option.bind_some, if_pos (by decide), e1]
      have : oPlus a b = .inr a := by unfold oPlus; rw [if_neg h1, if_pos h2]
      rw [this]
      exact OK.val rfl w1
    · rw [hb.isF hob (by omega) h2, Option.bind_some, if_pos (by decide), ha.kind hoa, Option.bind_some, hb.kind hob, Option.bind_some]
      by_cases h3 : kd (e + 1) a = kd (e + 1) b
      · rw [if_pos (by rw [h3]), Option.bind_some]
        rcases rk_same (show rk (e + 1) a = rk (e + 1) b by rw [rk_ok hoa, rk_ok hob, h3]) with ⟨x, y, rfl, rfl, _⟩ | ⟨x, y, rfl, rfl⟩ | ⟨x, y, rfl, rfl⟩ | ⟨x, y, rfl, rfl⟩ | ⟨x, y, rfl, rfl⟩
        · rw [jok_k] at hoa hob
          have : oPlus (jk x : JT (e + 1)) (jk y) = .inl 1 := by unfold oPlus; rw [if_neg h1, if_neg h2]; rfl
          rw [this, kd_k, if_neg (by rw [show (4 : Int32) = i3 4 from rfl, i3_eq (by omega) (by omega)]; omega), if_neg (by rw [show (5 : Int32) = i3 5 from rfl, i3_eq (by omega) (by omega)]; omega), if_neg (by rw [show (6 : Int32) = i3 6 from rfl, i3_eq (by omega) (by omega)]; omega)]
          exact OK.refuse (k := 1) hr (by omega) (by omega)
        · exact absurd ⟨rfl, rfl⟩ hnn
        · obtain ⟨r1, e1, w1⟩ := oneBehind_s (n := n) (o := o) (o' := o') ha hb hr
          rw [kd_s, if_pos (by decide), e1]
          exact OK.val (j := js (x ++ y)) rfl w1
        · obtain ⟨r1, e1, w1⟩ := oneBehind_a (n := n) (o := o) (o' := o') ha hoa hb hob hr
          rw [kd_a, if_neg (by decide), if_pos (by decide), e1]
          exact OK.val (j := ja (x ++ y)) rfl w1
        · obtain ⟨r1, e1, w1⟩ := both_plain (o := o) (o' := o') hn ha hoa hb hob hr hfu
          rw [show i3 0 = (0 : Int32) from rfl] at e1 ⊢
          rw [kd_o, if_neg (by decide), if_neg (by decide), if_pos (by decide), e1]
          exact OK.val (j := jo (bw (fun _ y => y) x y)) rfl w1
      · rw [if_neg (by rw [i3_eq (by omega) (by omega)]; exact h3)]
        have : oPlus a b = .inl 1 := by
          unfold oPlus
          rw [if_neg h1, if_neg h2]
          rcases jcases a with ⟨k, rfl⟩ | ⟨z, rfl⟩ | ⟨s, rfl⟩ | ⟨l, rfl⟩ | ⟨l, rfl⟩ <;> rcases jcases b with ⟨k', rfl⟩ | ⟨z', rfl⟩ | ⟨s', rfl⟩ | ⟨l', rfl⟩ | ⟨l', rfl⟩ <;> first | rfl | exact absurd rfl h3
        rw [this]
        exact OK.refuse (k := 1) hr (by omega) (by omega)
end OPB
end ZOpc22
