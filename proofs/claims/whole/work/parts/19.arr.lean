theorem i3_mul (a b : Nat) : i3 a * i3 b = i3 (a * b) := (Int32.ofNat_mul a b).symm
theorem ps_nil {d : Nat} {K : List (JT d)} {w : Nat} : ∀ f : Nat, ps K w f [] = [] := by
  intro f
  induction f with
  | zero => rfl
  | succ f ih =>
    rw [ps]
    simp [ih]
theorem ps_len {d : Nat} {K : List (JT d)} {w f : Nat} {T : List Nat} : (ps K w f T).length = T.length := (ps_perm f T).length_eq
section AR
variable {f : Nat → Int64} {v d : Nat} {o : Int32} {K : List (JT d)} {w0 f1 : Nat → Int32} {y2 : Int32}
theorem seg_take {g : Nat → Int32} {p k : Nat} {T : List Nat} (h : seg g p (T.map i3)) : seg g p ((T.take k).map i3) ∧ seg g (p + min k T.length) ((T.drop k).map i3) := by
  rw [← List.take_append_drop k T, List.map_append] at h
  have := seg_app.mp h
  rw [List.length_map, List.length_take] at this
  exact this
theorem pass_loop {fu : Nat} (hfu : d ≤ fu) (hd : d ≤ 1000) {tot w : Nat} (hw : 1 ≤ w) (hw2 : w ≤ 4096) (hk : keysAt f v w0 K) (ht : tot = K.length) (h2 : tot ≤ 2048) {w1 : Nat → Int32} {w2 w4 : Nat} : ∀ (m L : Nat) (T : List Nat) (w3 : Nat → Int32) (n : Nat), T.length ≤ m → (∀ x ∈ T, x < tot) → seg w1 L (T.map i3) → (L + T.length = tot ∨ (T = [] ∧ tot ≤ L)) → L ≤ 12000 → 30000 + m < n →
    ∃ w3' n', fS_arrange_b fu f1 f (i3 v) o n 2 (i3 w) y2 (i3 L) w0 w1 w2 w3 w4 (i3 tot) = fS_arrange_b fu f1 f (i3 v) o n' 1 (i3 (2 * w)) y2 0 w0 w3' w4 w1 w2 (i3 tot) ∧ n ≤ n' + m + 1 ∧ seg w3' L ((ps K w m T).map i3) ∧ (∀ i, i < L → w3' i = w3 i) := by
  intro m
  induction m with
  | zero =>
    intro L T w3 n hT hTt sT hL hLb hn
    obtain rfl : T = [] := List.length_eq_zero_iff.mp (by omega)
    obtain ⟨n, rfl⟩ : ∃ j, n = j + 1 := ⟨n - 1, by omega⟩
    refine ⟨w3, n, ?_, by omega, by rw [ps_nil]; exact seg_nil, fun _ _ => rfl⟩
    rw [fS_arrange_b, if_neg (by decide), if_pos (by rw [i3_le (by omega) (by omega)]; simp at hL; omega), show (2 : Int32) = i3 2 from rfl, i3_mul, Nat.mul_comm w 2]
  | succ m ih =>
    intro L T w3 n hT hTt sT hL hLb hn
    obtain ⟨n, rfl⟩ : ∃ j, n = j + 1 := ⟨n - 1, by omega⟩
    by_cases hlt : L < tot
    · have hlen : L + T.length = tot := by
        rcases hL with h | ⟨_, h⟩
        · exact h
        · omega
      have e1 : (if i3 tot < (i3 L + i3 w) then i3 tot else (i3 L + i3 w)) = i3 (min (L + w) tot) := by
        rw [i3_add, min_i3 (by omega) (by omega)]
      have e2 : (if i3 tot < (i3 L + ((2 : Int32) * i3 w)) then i3 tot else (i3 L + ((2 : Int32) * i3 w))) = i3 (min (L + 2 * w) tot) := by
        rw [show (2 : Int32) = i3 2 from rfl, i3_mul, i3_add, min_i3 (by omega) (by omega)]
      obtain ⟨s1, s2⟩ := seg_take (k := w) sT
      obtain ⟨s3, s4⟩ := seg_take (k := w) s2
      obtain ⟨w', g1, g2, g3⟩ := mg_loop (fu := fu) (o := o) (f1 := f1) (p2 := w2) (p4 := w4) (y2 := i3 L) (f3 := w1) hfu hd hk ht h2 (mid := min (L + w) tot) (beh := min (L + 2 * w) tot) (by omega) (by omega) ((T.take w).length + ((T.drop w).take w).length) n L L (min (L + w) tot) (T.take w) ((T.drop w).take w) w3 rfl (fun x hx => hTt x (List.mem_of_mem_take hx)) (fun x hx => hTt x (List.mem_of_mem_drop (List.mem_of_mem_take hx))) s1 (by rw [show min (L + w) tot = L + min w T.length by omega]; exact s3) (by rw [List.length_take]; omega) (by simp only [List.length_take, List.length_drop]; omega) (by simp only [List.length_take, List.length_drop]; omega) (by simp only [List.length_take, List.length_drop]; omega)
      have hT2 : (T.drop (2 * w)).length ≤ m := by rw [List.length_drop]; omega
      have s5 : seg w1 (L + 2 * w) ((T.drop (2 * w)).map i3) := by
        by_cases hbig : 2 * w ≤ T.length
        · have := (seg_take (k := 2 * w) sT).2
          rw [Nat.min_eq_left hbig] at this
          exact this
        · rw [List.drop_eq_nil_of_le (by omega)]
          exact seg_nil
      obtain ⟨w3', n', g4, g5, g6, g7⟩ := ih (L + 2 * w) (T.drop (2 * w)) w' n hT2 (fun x hx => hTt x (List.mem_of_mem_drop hx)) s5 (by
        rw [List.length_drop]
        by_cases hbig : 2 * w ≤ T.length
        · left; omega
        · right
          exact ⟨List.drop_eq_nil_of_le (by omega), by omega⟩) (by omega) (by omega)
      refine ⟨w3', n', ?_, by omega, ?_, fun i hi => by rw [g7 i (by omega), g3 i (Or.inl hi)]⟩
      · rw [fS_arrange_b, if_neg (by decide), if_neg (by rw [i3_le (by omega) (by omega)]; omega), e1, e2]
        unfold fS_merge
        rw [g1, Option.bind_some, show (2 : Int32) = i3 2 from rfl, i3_mul, i3_add]
        exact g4
      · rw [ps, List.map_append]
        have lm : (List.merge (T.take w) ((T.drop w).take w) (kle K)).length = min (2 * w) T.length := by
          rw [(List.merge_perm_append (kle K)).length_eq]
          simp only [List.length_append, List.length_take, List.length_drop]
          omega
        refine seg_app.mpr ⟨seg_of g2 (fun i hi => ?_), ?_⟩
        · rw [List.length_map, lm] at hi
          exact g7 _ (by omega)
        · rw [List.length_map, lm]
          by_cases hbig : 2 * w ≤ T.length
          · rw [Nat.min_eq_left hbig]
            exact g6
          · rw [List.drop_eq_nil_of_le (by omega), ps_nil]
            exact seg_nil
    · have hnil : T = [] := by
        rcases hL with h | ⟨h, _⟩
        · exact List.length_eq_zero_iff.mp (by omega)
        · exact h
      subst hnil
      refine ⟨w3, n, ?_, by omega, by rw [ps_nil]; exact seg_nil, fun _ _ => rfl⟩
      rw [fS_arrange_b, if_neg (by decide), if_pos (by rw [i3_le (by omega) (by omega)]; omega), show (2 : Int32) = i3 2 from rfl, i3_mul, Nat.mul_comm w 2]
theorem arr_loop {fu : Nat} (hfu : d ≤ fu) (hd : d ≤ 1000) {tot : Nat} (hk : keysAt f v w0 K) (ht : tot = K.length) (h2 : tot ≤ 2048) : ∀ (g w : Nat) (T : List Nat) (w1 w3 : Nat → Int32) (w2 w4 n : Nat), tot ≤ w * 2 ^ g → 1 ≤ w → w ≤ 4096 → T.length = tot → (∀ x ∈ T, x < tot) → seg w1 0 (T.map i3) → 30000 + (g + 1) * (tot + 3) < n →
    ∃ w1' w2' w3' w4', fS_arrange_b fu f1 f (i3 v) o n 1 (i3 w) y2 0 w0 w1 w2 w3 w4 (i3 tot) = some (w0, w1', w2', w3', w4', i3 tot) ∧ seg w1' 0 ((ms K g w T).map i3) := by
  intro g
  induction g with
  | zero =>
    intro w T w1 w3 w2 w4 n hg hw1 hw2 hT hTt sT hn
    obtain ⟨n, rfl⟩ : ∃ j, n = j + 1 := ⟨n - 1, by omega⟩
    refine ⟨w1, w2, w3, w4, ?_, sT⟩
    rw [fS_arrange_b, if_pos rfl, if_pos (by rw [i3_le (by omega) (by omega)]; omega)]
  | succ g ih =>
    intro w T w1 w3 w2 w4 n hg hw1 hw2 hT hTt sT hn
    have hmul : (g + 1 + 1) * (tot + 3) = (g + 1) * (tot + 3) + (tot + 3) := Nat.succ_mul _ _
    obtain ⟨n, rfl⟩ : ∃ j, n = j + 1 := ⟨n - 1, by omega⟩
    rw [ms]
    by_cases h : tot ≤ w
    · refine ⟨w1, w2, w3, w4, ?_, by rw [if_pos (by omega)]; exact sT⟩
      rw [fS_arrange_b, if_pos rfl, if_pos (by rw [i3_le (by omega) (by omega)]; omega)]
    · rw [if_neg (by omega)]
      obtain ⟨w3', n', g1, g2, g3, _⟩ := pass_loop (fu := fu) (o := o) (f1 := f1) (y2 := y2) hfu hd hw1 hw2 hk ht h2 (w1 := w1) (w2 := w2) (w4 := w4) tot 0 T w3 n (by omega) hTt sT (by omega) (by omega) (by omega)
      obtain ⟨a1, a2, a3, a4, a5, a6⟩ := ih (2 * w) (ps K w tot T) w3' w1 w4 w2 n' (by rw [show 2 * w * 2 ^ g = w * 2 ^ (g + 1) by rw [Nat.pow_succ, Nat.mul_comm 2 w, Nat.mul_assoc, Nat.mul_comm 2 (2 ^ g)]]; exact hg) (by omega) (by omega) (by rw [ps_len, hT]) (fun x hx => hTt x ((ps_perm _ _).mem_iff.mp hx)) g3 (by omega)
      refine ⟨a1, a2, a3, a4, ?_, by rw [hT]; exact a6⟩
      rw [fS_arrange_b, if_pos rfl, if_neg (by rw [i3_le (by omega) (by omega)]; omega)]
      exact g1.trans a5
theorem ga_loop {f1 f5 : Nat → Int32} {p2 p4 : Nat} {tot : Nat} (h2 : tot ≤ 2048) : ∀ (l : List (JT d)) (n i q : Nat) (w0 w1 : Nat → Int32), (∀ x ∈ l, jok d x) → i + l.length = tot → At f v q (l.flatMap (jc d)) → l.length < n →
    ∃ w0' w1', fS_gather_b f1 p2 p4 f5 f (i3 v) o n 1 (i3 i) (i3 q) 0 y2 w0 w1 (i3 tot) = some (w0', w1', i3 tot) ∧ (∀ j, j < i → w0' j = w0 j ∧ w1' j = w1 j) ∧ (∀ (j : Nat) x, l[j]? = some x → ∃ q', w0' (i + j) = i3 q' ∧ At f v q' (jc d x)) ∧ seg w1' i ((List.range' i l.length).map i3) := by
  intro l
  induction l with
  | nil =>
    intro n i q w0 w1 _ hi _ hn
    obtain ⟨n, rfl⟩ : ∃ j, n = j + 1 := ⟨n - 1, by omega⟩
    rw [List.length_nil] at hi
    refine ⟨w0, w1, ?_, fun _ _ => ⟨rfl, rfl⟩, fun j x h => by simp at h, seg_nil⟩
    rw [fS_gather_b, if_pos (by rw [i3_le (by omega) (by omega)]; omega)]
  | cons x l ih =>
    intro n i q w0 w1 hok hi hat hn
    obtain ⟨n, rfl⟩ : ∃ j, n = j + 1 := ⟨n - 1, by omega⟩
    rw [List.length_cons] at hi hn
    obtain ⟨at1, at2⟩ := hat.acons
    obtain ⟨w0', w1', e, g1, g2, g3⟩ := ih n (i + 1) _ (upd w0 i (i3 q)) (upd w1 i (i3 i)) (fun y hy => hok y (List.mem_cons_of_mem _ hy)) (by omega) at2 (by omega)
    refine ⟨w0', w1', ?_, fun j hj => ?_, fun j y hy => ?_, ?_⟩
    · rw [fS_gather_b, if_neg (by rw [i3_le (by omega) (by omega)]; omega), if_neg (i3_idx (by omega) (by omega)), if_neg (i3_idx (by omega) (by omega)), at1.after (hok x (List.mem_cons_self ..)), Option.bind_some, if_pos rfl, i3_N (by omega), i3_one]
      exact e
    · obtain ⟨a, b⟩ := g1 j (by omega)
      rw [a, b, upd_ne (by omega), upd_ne (by omega)]
      exact ⟨rfl, rfl⟩
    · cases j with
      | zero =>
        obtain rfl := Option.some.inj hy
        refine ⟨q, ?_, at1⟩
        rw [Nat.add_zero, (g1 i (by omega)).1, upd_eq]
      | succ j =>
        obtain ⟨q', a, b⟩ := g2 j y (by simpa using hy)
        exact ⟨q', by rw [← a]; congr 1; omega, b⟩
    · rw [List.length_cons, List.range'_succ, List.map_cons]
      refine seg_cons.mpr ⟨?_, g3⟩
      rw [(g1 i (by omega)).2, upd_eq]
theorem go_loop {f1 f5 : Nat → Int32} {p2 p4 : Nat} {tot : Nat} (h2 : tot ≤ 2048) : ∀ (l : List (Sx × JT d)) (n i q : Nat) (w0 w1 : Nat → Int32), (∀ x ∈ l, sok x.1 ∧ jok d x.2) → i + l.length = tot → At f v q (l.flatMap (fun p => strc p.1 ++ jc d p.2)) → l.length < n →
    ∃ w0' w1', fS_gather_b f1 p2 p4 f5 f (i3 v) o n 1 (i3 i) (i3 q) 1 y2 w0 w1 (i3 tot) = some (w0', w1', i3 tot) ∧ (∀ j, j < i → w0' j = w0 j ∧ w1' j = w1 j) ∧ (∀ (j : Nat) x, l[j]? = some x → ∃ q', w0' (i + j) = i3 q' ∧ At f v q' (strc x.1)) ∧ seg w1' i ((List.range' i l.length).map i3) := by
  intro l
  induction l with
  | nil =>
    intro n i q w0 w1 _ hi _ hn
    obtain ⟨n, rfl⟩ : ∃ j, n = j + 1 := ⟨n - 1, by omega⟩
    rw [List.length_nil] at hi
    refine ⟨w0, w1, ?_, fun _ _ => ⟨rfl, rfl⟩, fun j x h => by simp at h, seg_nil⟩
    rw [fS_gather_b, if_pos (by rw [i3_le (by omega) (by omega)]; omega)]
  | cons x l ih =>
    intro n i q w0 w1 hok hi hat hn
    obtain ⟨n, rfl⟩ : ∃ j, n = j + 1 := ⟨n - 1, by omega⟩
    rw [List.length_cons] at hi hn
    obtain ⟨at1, at2, at3⟩ := hat.ocons
    obtain ⟨w0', w1', e, g1, g2, g3⟩ := ih n (i + 1) _ (upd w0 i (i3 q)) (upd w1 i (i3 i)) (fun y hy => hok y (List.mem_cons_of_mem _ hy)) (by omega) at3 (by omega)
    refine ⟨w0', w1', ?_, fun j hj => ?_, fun j y hy => ?_, ?_⟩
    · rw [fS_gather_b, if_neg (by rw [i3_le (by omega) (by omega)]; omega), if_neg (i3_idx (by omega) (by omega)), if_neg (i3_idx (by omega) (by omega)), at1.safter, Option.bind_some, if_neg (by decide), at2.after (hok x (List.mem_cons_self ..)).2, Option.bind_some, i3_N (by omega), i3_one]
      exact e
    · obtain ⟨a, b⟩ := g1 j (by omega)
      rw [a, b, upd_ne (by omega), upd_ne (by omega)]
      exact ⟨rfl, rfl⟩
    · cases j with
      | zero =>
        obtain rfl := Option.some.inj hy
        refine ⟨q, ?_, at1⟩
        rw [Nat.add_zero, (g1 i (by omega)).1, upd_eq]
      | succ j =>
        obtain ⟨q', a, b⟩ := g2 j y (by simpa using hy)
        exact ⟨q', by rw [← a]; congr 1; omega, b⟩
    · rw [List.length_cons, List.range'_succ, List.map_cons]
      refine seg_cons.mpr ⟨?_, g3⟩
      rw [(g1 i (by omega)).2, upd_eq]
theorem lim2048 {a : Nat} (h : a ≤ 2048) : (if (2048 : Int32) < i3 a then (2048 : Int32) else i3 a) = i3 a := by
  rw [if_neg (by rw [show (2048 : Int32) = i3 2048 from rfl, i3_lt (by omega) (by omega)]; omega)]
theorem gather_a {n : Nat} {f0 f1 f3 f5 : Nat → Int32} {p2 p4 : Nat} {v6 : Int32} {p : Nat} {l : List (JT d)} (h : At f v p (jc (d + 1) (ja l))) (hok : jok (d + 1) (ja l)) (hl : l.length ≤ 2048) (hn : 5000 < n) (hjd : ∀ x ∈ l, jd d x ≤ 60) : ∃ w0' w1', fS_gather n (i3 p) f0 f1 p2 f3 p4 f5 v6 f (i3 v) o = some (w0', w1', i3 l.length) ∧ keysAt f v w0' l ∧ seg w1' 0 ((List.range l.length).map i3) := by
  obtain ⟨w0', w1', e, _, g2, g3⟩ := ga_loop (o := o) (f1 := f1) (f5 := f5) (p2 := p2) (p4 := p4) (y2 := i3 p) hl l n 0 (p + 1) f0 f3 hok (by omega) h.abody (by omega)
  refine ⟨w0', w1', ?_, fun i x hx => ?_, by rw [List.range_eq_range']; exact g3⟩
  · unfold fS_gather
    rw [show (6 : Int32) = i3 6 from rfl, h.is hok (by omega), Option.bind_some, h.alen, Option.bind_some, lim2048 hl, i3_one, kd_a, if_neg (by decide)]
    exact e
  · obtain ⟨q, a, b⟩ := g2 i x hx
    have hm := List.mem_of_getElem? hx
    exact ⟨q, by rw [← a, Nat.zero_add], b, hok x hm, hjd x hm⟩
/-- the elements of an array, in order -/
theorem arrange_a {n fu : Nat} {f0 f1 f3 f5 : Nat → Int32} {p2 p4 : Nat} {v6 : Int32} {p : Nat} {l : List (JT d)} (hfu : d ≤ fu) (hd : d ≤ 1000) (h : At f v p (jc (d + 1) (ja l))) (hok : jok (d + 1) (ja l)) (hl : l.length ≤ 2048) (hn : 100000 < n) (hjd : ∀ x ∈ l, jd d x ≤ 60) : ∃ w0' w1' w2' w3' w4', fS_arrange fu n (i3 p) f0 f1 p2 f3 p4 f5 v6 f (i3 v) o = some (w0', w1', w2', w3', w4', i3 l.length) ∧ keysAt f v w0' l ∧ seg w1' 0 ((tn l).map i3) := by
  obtain ⟨w0', w1', e, hk, sT⟩ := gather_a (n := n) (f0 := f0) (f1 := f1) (f3 := f3) (f5 := f5) (p2 := p2) (p4 := p4) (v6 := v6) (o := o) h hok hl (by omega) hjd
  have hmul : (12 + 1) * (l.length + 3) ≤ 13 * 2051 := Nat.mul_le_mul_left _ (by omega)
  obtain ⟨a1, a2, a3, a4, a5, a6⟩ := arr_loop (fu := fu) (o := o) (f1 := f1) (y2 := i3 p) hfu hd hk rfl hl 12 1 (List.range l.length) w1' f5 p2 p4 n (by omega) (by omega) (by omega) List.length_range (fun x hx => List.mem_range.mp hx) sT (by omega)
  refine ⟨w0', a1, a2, a3, a4, ?_, hk, a6⟩
  unfold fS_arrange
  rw [e, Option.bind_some]
  exact a5
/-- the names of an object, in order -/
theorem arrange_o {n fu : Nat} {f0 f1 f3 f5 : Nat → Int32} {p2 p4 : Nat} {v6 : Int32} {p : Nat} {l : List (Sx × JT d)} (hfu : 1 ≤ fu) (h : At f v p (jc (d + 1) (jo l))) (hok : jok (d + 1) (jo l)) (hl : l.length ≤ 2048) (hn : 100000 < n) : ∃ w0' w1' w2' w3' w4', fS_arrange fu n (i3 p) f0 f1 p2 f3 p4 f5 v6 f (i3 v) o = some (w0', w1', w2', w3', w4', i3 l.length) ∧ keysAt f v w0' (l.map (fun x => (js x.1 : JT 1))) ∧ seg w1' 0 ((tn (l.map (fun x => (js x.1 : JT 1)))).map i3) := by
  obtain ⟨w0', w1', e, _, g2, g3⟩ := go_loop (o := o) (f1 := f1) (f5 := f5) (p2 := p2) (p4 := p4) (y2 := i3 p) hl l n 0 (p + 1) f0 f3 hok.1 (by omega) h.obody (by omega)
  have hk : keysAt f v w0' (l.map (fun x => (js x.1 : JT 1))) := fun i x hx => by
    rw [List.getElem?_map] at hx
    obtain ⟨y, hy, rfl⟩ := Option.map_eq_some_iff.mp hx
    obtain ⟨q, a, b⟩ := g2 i y hy
    have hm := List.mem_of_getElem? hy
    exact ⟨q, by rw [← a, Nat.zero_add], b, (hok.1 y hm).1, Nat.zero_le _⟩
  have hmul : (12 + 1) * (l.length + 3) ≤ 13 * 2051 := Nat.mul_le_mul_left _ (by omega)
  obtain ⟨a1, a2, a3, a4, a5, a6⟩ := arr_loop (fu := fu) (o := o) (f1 := f1) (y2 := i3 p) (tot := l.length) hfu (by omega) hk (by rw [List.length_map]) hl 12 1 (List.range l.length) w1' f5 p2 p4 n (by omega) (by omega) (by omega) List.length_range (fun x hx => List.mem_range.mp hx) (by rw [List.range_eq_range']; exact g3) (by omega)
  refine ⟨w0', a1, a2, a3, a4, ?_, hk, by unfold tn; rw [List.length_map]; exact a6⟩
  unfold fS_arrange fS_gather
  rw [show (6 : Int32) = i3 6 from rfl, h.is hok (by omega), Option.bind_some, h.olen, Option.bind_some, lim2048 hl, i3_one, kd_o, if_pos rfl]
  have e' : fS_gather_b f1 p2 p4 f5 f (i3 v) o n 1 0 (i3 (p + 1)) 1 (i3 p) f0 f3 (i3 l.length) = some (w0', w1', i3 l.length) := e
  rw [e', Option.bind_some]
  exact a5
end AR
