/-! ===== sorting by merging, as both programs do ===== -/
def kc {d : Nat} (K : List (JT d)) (x y : Nat) : Int := match K[x]?, K[y]? with
  | some a, some b => jcmp d a b
  | _, _ => 0
def kle {d : Nat} (K : List (JT d)) (x y : Nat) : Bool := decide (kc K x y ≤ 0)
/-- one round: runs of w are merged two by two -/
def ps {d : Nat} (K : List (JT d)) (w : Nat) : Nat → List Nat → List Nat
  | 0, T => T
  | f + 1, T => List.merge (T.take w) ((T.drop w).take w) (kle K) ++ ps K w f (T.drop (2 * w))
def ms {d : Nat} (K : List (JT d)) : Nat → Nat → List Nat → List Nat
  | 0, _, T => T
  | f + 1, w, T => if T.length ≤ w then T else ms K f (2 * w) (ps K w T.length T)
/-- the turns -/
def tn {d : Nat} (K : List (JT d)) : List Nat := ms K 12 1 (List.range K.length)
theorem ps_perm {d : Nat} {K : List (JT d)} {w : Nat} : ∀ (f : Nat) (T : List Nat), (ps K w f T).Perm T := by
  intro f
  induction f with
  | zero => intro T; exact List.Perm.refl _
  | succ f ih =>
    intro T
    rw [ps]
    have h1 : (List.merge (T.take w) ((T.drop w).take w) (kle K)).Perm (T.take (2 * w)) := by
      refine (List.merge_perm_append (kle K)).trans ?_
      rw [show 2 * w = w + w by omega, List.take_add]
    exact (h1.append (ih _)).trans (by rw [List.take_append_drop])
theorem ms_perm {d : Nat} {K : List (JT d)} : ∀ (f w : Nat) (T : List Nat), (ms K f w T).Perm T := by
  intro f
  induction f with
  | zero => intro w T; exact List.Perm.refl _
  | succ f ih =>
    intro w T
    rw [ms]
    split
    · exact List.Perm.refl _
    · exact (ih _ _).trans (ps_perm _ _)
theorem tn_perm {d : Nat} (K : List (JT d)) : (tn K).Perm (List.range K.length) := ms_perm _ _ _
theorem tn_len {d : Nat} (K : List (JT d)) : (tn K).length = K.length := by rw [(tn_perm K).length_eq, List.length_range]
theorem tn_lt {d : Nat} {K : List (JT d)} {x : Nat} (h : x ∈ tn K) : x < K.length := List.mem_range.mp ((tn_perm K).mem_iff.mp h)
/-! in ValueBench's own arrays -/
section SO
variable {f : Nat → Int64} {v d : Nat} {o : Int32} {K : List (JT d)} {w0 : Nat → Int32}
/-- the keys lie where keyAt says -/
def keysAt (f : Nat → Int64) (v : Nat) (w0 : Nat → Int32) (K : List (JT d)) : Prop := ∀ (i : Nat) x, K[i]? = some x → ∃ p, w0 i = i3 p ∧ At f v p (jc d x) ∧ jok d x ∧ jd d x ≤ 60
theorem kat {n tot i : Nat} {f1 f3 f5 : Nat → Int32} {p2 p4 : Nat} {v6 : Int32} (hk : keysAt f v w0 K) (ht : tot = K.length) (h2 : tot ≤ 2048) (hv6 : v6 = i3 tot) {k x : Nat} {j : JT d} (hk2 : k < tot) (h3 : f3 k = i3 x) (hx : K[x]? = some j) : ∃ p, fS_keyAtTurn n (i3 k) w0 f1 p2 f3 p4 f5 v6 = some (i3 p) ∧ At f v p (jc d j) ∧ jok d j ∧ jd d j ≤ 60 := by
  obtain ⟨p, e, h4, h5, h6⟩ := hk x j hx
  have hxl : x < K.length := (List.getElem?_eq_some_iff.mp hx).1
  refine ⟨p, ?_, h4, h5, h6⟩
  unfold fS_keyAtTurn
  rw [hv6, if_neg (i3_nn (by omega)), if_neg (i3_nle (by omega) (by omega)), if_neg (i3_idx (by omega) (by omega)), i3_N (by omega), h3, if_neg (i3_idx (by omega) (by omega)), i3_N (by omega), e]
theorem upd_eq {g : Nat → Int32} {k : Nat} {x : Int32} : upd g k x k = x := if_pos rfl
theorem upd_ne {g : Nat → Int32} {k i : Nat} {x : Int32} (h : i ≠ k) : upd g k x i = g i := if_neg h
theorem mg_loop {fu : Nat} (hfu : d ≤ fu) (hd : d ≤ 1000) {tot : Nat} (hk : keysAt f v w0 K) (ht : tot = K.length) (h2 : tot ≤ 2048) {f1 f3 : Nat → Int32} {p2 p4 : Nat} {y2 : Int32} {mid beh : Nat} (hm : mid ≤ tot) (hb : beh ≤ tot) : ∀ (m n k a b : Nat) (A B : List Nat) (w : Nat → Int32), A.length + B.length = m → (∀ x ∈ A, x < tot) → (∀ x ∈ B, x < tot) → seg f3 a (A.map i3) → seg f3 b (B.map i3) → a + A.length = mid → b + B.length = beh → k + m = beh → 20001 + m < n →
    ∃ w', fS_merge_b fu w0 f1 p2 f3 p4 (i3 tot) f (i3 v) o n 1 (i3 k) (i3 b) (i3 a) y2 (i3 mid) (i3 beh) w = some w' ∧ seg w' k ((List.merge A B (kle K)).map i3) ∧ (∀ i, i < k ∨ beh ≤ i → w' i = w i) := by
  intro m
  induction m with
  | zero =>
    intro n k a b A B w hl _ _ _ _ _ _ hk2 hn
    obtain ⟨n, rfl⟩ : ∃ j, n = j + 1 := ⟨n - 1, by omega⟩
    obtain rfl : A = [] := List.length_eq_zero_iff.mp (by omega)
    obtain rfl : B = [] := List.length_eq_zero_iff.mp (by omega)
    refine ⟨w, ?_, by simp [seg_nil], fun _ _ => rfl⟩
    rw [fS_merge_b, if_pos (by rw [i3_le (by omega) (by omega)]; omega)]
  | succ m ih =>
    intro n k a b A B w hl hA hB sA sB ha hbb hk2 hn
    obtain ⟨n, rfl⟩ : ∃ j, n = j + 1 := ⟨n - 1, by omega⟩
    have fromB : ∀ (y : Nat) (B' : List Nat), B = y :: B' → List.merge A B (kle K) = y :: List.merge A B' (kle K) → ∃ w', fS_merge_b fu w0 f1 p2 f3 p4 (i3 tot) f (i3 v) o n 1 (i3 k + 1) (i3 b + 1) (i3 a + 0) y2 (i3 mid) (i3 beh) (upd w (i3 k).toNatClampNeg (f3 (i3 b).toNatClampNeg)) = some w' ∧ seg w' k ((List.merge A B (kle K)).map i3) ∧ (∀ i, i < k ∨ beh ≤ i → w' i = w i) := by
      intro y B' eB eM
      subst eB
      rw [List.length_cons] at hl hbb
      obtain ⟨s1, s2⟩ := seg_cons.mp sB
      obtain ⟨w', e1, e2, e3⟩ := ih n (k + 1) a (b + 1) A B' (upd w k (i3 y)) (by omega) hA (fun x hx => hB x (List.mem_cons_of_mem _ hx)) sA s2 ha (by omega) (by omega) (by omega)
      refine ⟨w', ?_, ?_, fun i hi => ?_⟩
      · rw [i3_N (by omega), i3_N (by omega), s1, i3_one, i3_one, show i3 a + 0 = i3 a from i3_add a 0]
        exact e1
      · rw [eM, List.map_cons]
        refine seg_cons.mpr ⟨?_, e2⟩
        rw [e3 k (Or.inl (by omega)), upd_eq]
      · rw [e3 i (by omega), upd_ne (by omega)]
    have fromA : ∀ (x : Nat) (A' : List Nat), A = x :: A' → List.merge A B (kle K) = x :: List.merge A' B (kle K) → ∃ w', fS_merge_b fu w0 f1 p2 f3 p4 (i3 tot) f (i3 v) o n 1 (i3 k + 1) (i3 b + 0) (i3 a + 1) y2 (i3 mid) (i3 beh) (upd w (i3 k).toNatClampNeg (f3 (i3 a).toNatClampNeg)) = some w' ∧ seg w' k ((List.merge A B (kle K)).map i3) ∧ (∀ i, i < k ∨ beh ≤ i → w' i = w i) := by
      intro x A' eA eM
      subst eA
      rw [List.length_cons] at hl ha
      obtain ⟨s1, s2⟩ := seg_cons.mp sA
      obtain ⟨w', e1, e2, e3⟩ := ih n (k + 1) (a + 1) b A' B (upd w k (i3 x)) (by omega) (fun y hy => hA y (List.mem_cons_of_mem _ hy)) hB s2 sB (by omega) hbb (by omega) (by omega)
      refine ⟨w', ?_, ?_, fun i hi => ?_⟩
      · rw [i3_N (by omega), i3_N (by omega), s1, i3_one, i3_one, show i3 b + 0 = i3 b from i3_add b 0]
        exact e1
      · rw [eM, List.map_cons]
        refine seg_cons.mpr ⟨?_, e2⟩
        rw [e3 k (Or.inl (by omega)), upd_eq]
      · rw [e3 i (by omega), upd_ne (by omega)]
    rw [fS_merge_b, if_neg (by rw [i3_le (by omega) (by omega)]; omega)]
    cases A with
    | nil =>
      cases B with
      | nil => simp at hl
      | cons y B =>
        simp only [List.length_cons, List.length_nil] at *
        rw [if_pos (by rw [i3_le (by omega) (by omega)]; omega), if_neg (i3_idx (by omega) (by omega)), if_neg (i3_idx (by omega) (by omega))]
        exact fromB y B rfl (by simp)
    | cons x A =>
      cases B with
      | nil =>
        simp only [List.length_cons, List.length_nil] at *
        rw [if_neg (by rw [i3_le (by omega) (by omega)]; omega), if_pos (by rw [i3_le (by omega) (by omega)]; omega), if_neg (i3_idx (by omega) (by omega)), if_neg (i3_idx (by omega) (by omega))]
        exact fromA x A rfl (by simp)
      | cons y B =>
        simp only [List.length_cons] at *
        have hx := hA x (List.mem_cons_self ..)
        have hy := hB y (List.mem_cons_self ..)
        obtain ⟨p, ep, ap, op, dp⟩ := kat (n := n) (f1 := f1) (f5 := w) (p2 := p2) (p4 := p4) (i := 0) hk ht h2 rfl (k := a) (x := x) (j := K[x]) (by omega) (seg_cons.mp sA).1 (List.getElem?_eq_getElem (by omega))
        obtain ⟨q, eq, aq, oq, dq⟩ := kat (n := n) (f1 := f1) (f5 := w) (p2 := p2) (p4 := p4) (i := 0) hk ht h2 rfl (k := b) (x := y) (j := K[y]) (by omega) (seg_cons.mp sB).1 (List.getElem?_eq_getElem (by omega))
        have hle := jcmp_le d K[y] K[x]
        have hgd := (jcmp_good d).1 K[y] K[x]
        have hkc : kc K x y = jcmp d K[x] K[y] := by
          unfold kc
          rw [List.getElem?_eq_getElem (by omega), List.getElem?_eq_getElem (by omega)]
        rw [if_neg (by rw [i3_le (by omega) (by omega)]; omega), if_neg (by rw [i3_le (by omega) (by omega)]; omega), eq, Option.bind_some, ep, Option.bind_some, al_of, of0_w (by omega) oq op aq ap hfu hd dq, Option.bind_some]
        by_cases hc : 0 ≤ jcmp d K[y] K[x]
        · rw [if_pos (by rw [show (0 : Int32) = iz 0 from rfl, iz_le (by omega) (by omega) (by omega) (by omega)]; exact hc), if_neg (i3_idx (by omega) (by omega)), if_neg (i3_idx (by omega) (by omega))]
          refine fromA x A rfl ?_
          rw [List.cons_merge_cons, if_pos (by unfold kle; rw [hkc]; simp; omega)]
        · rw [if_neg (by rw [show (0 : Int32) = iz 0 from rfl, iz_le (by omega) (by omega) (by omega) (by omega)]; exact hc), if_neg (i3_idx (by omega) (by omega)), if_neg (i3_idx (by omega) (by omega))]
          refine fromB y B rfl ?_
          rw [List.cons_merge_cons, if_neg (by unfold kle; rw [hkc]; simp; omega)]
end SO
