/-! ===== the bench's other calls ===== -/
def by4 (x : Int32) : List Nat := [((x >>> ((24 : Int32) &&& 31)).toInt % 256).toNat, ((x >>> ((16 : Int32) &&& 31)).toInt % 256).toNat, ((x >>> ((8 : Int32) &&& 31)).toInt % 256).toNat, ((x >>> ((0 : Int32) &&& 31)).toInt % 256).toNat]
theorem by4_lt (x : Int32) : ∀ c ∈ by4 x, c < 256 := by
  intro c hc
  unfold by4 at hc
  simp only [List.mem_cons, List.not_mem_nil, or_false] at hc
  rcases hc with rfl | rfl | rfl | rfl <;> omega
theorem by4_len (x : Int32) : (by4 x).length = 4 := rfl
section BM
variable {n fu : Nat}
theorem addInt_w {t : TS} (ht : RV t) (hn : 6 < n) (x : Int32) : ∃ t' : TS, fT_addInt n x t.1 (i3 t.2.1) t.2.2 = some (t'.1, i3 t'.2.1, t'.2.2) ∧ Wr t ((by4 x).map sb) t' := by
  obtain ⟨n, rfl⟩ : ∃ j, n = j + 5 := ⟨n - 5, by omega⟩
  obtain ⟨t1, e1, w1⟩ := add_x (n := n + 4) ht (x >>> ((24 : Int32) &&& 31))
  obtain ⟨t2, e2, w2⟩ := add_x (n := n + 3) w1.v (x >>> ((16 : Int32) &&& 31))
  obtain ⟨t3, e3, w3⟩ := add_x (n := n + 2) w2.v (x >>> ((8 : Int32) &&& 31))
  obtain ⟨t4, e4, w4⟩ := add_x (n := n + 1) w3.v (x >>> ((0 : Int32) &&& 31))
  refine ⟨t4, ?_, ((w1.app w2).app w3).app w4⟩
  unfold fT_addInt
  rw [fT_addInt_b, if_neg (by decide), e1, Option.bind_some]
  dsimp only
  rw [show (24 : Int32) + -8 = 16 by decide, fT_addInt_b, if_neg (by decide), e2, Option.bind_some]
  dsimp only
  rw [show (16 : Int32) + -8 = 8 by decide, fT_addInt_b, if_neg (by decide), e3, Option.bind_some]
  dsimp only
  rw [show (8 : Int32) + -8 = 0 by decide, fT_addInt_b, if_neg (by decide), e4, Option.bind_some]
  dsimp only
  rw [show (0 : Int32) + -8 = -8 by decide, fT_addInt_b, if_pos (by decide)]
/-- the tape holds these bytes -/
def TP (t : TS) (src : List Nat) : Prop := TSrc t src ∧ t.2.2 = 0
theorem TP.rv {t : TS} {src : List Nat} (h : TP t src) : RV t := ⟨h.1.2.2.2, Or.inl h.2⟩
theorem TP.add {t t' : TS} {src w : List Nat} (h : TP t src) (hw : Wr t (w.map sb) t') (hl : src.length + w.length ≤ 4096) (hc : ∀ c ∈ w, c < 256) : TP t' (src ++ w) := by
  obtain ⟨⟨h1, h2, h3, h4⟩, h5⟩ := h
  have hz := hw.fits h5 (by rw [List.length_map]; omega)
  obtain ⟨z1, _, z3⟩ := hw.end0 hz
  rw [List.length_map] at z1
  refine ⟨⟨fun c hc' => ?_, ?_, by rw [List.length_append]; omega, z3⟩, hz⟩
  · rcases List.mem_append.mp hc' with hc' | hc'
    · exact h1 c hc'
    · exact hc c hc'
  · rcases hw.2 with ⟨_, _, _, _, g1, g2⟩ | ⟨_, g⟩
    · rw [List.map_append]
      refine seg_app.mpr ⟨seg_of h2 (fun i hi => ?_), ?_⟩
      · rw [List.length_map] at hi
        exact g1 _ (by omega)
      · rw [List.length_map, Nat.zero_add, h3]
        exact g2
    · rw [hz] at g
      exact absurd g (by decide)
variable {f3 : Nat → Int32} {v4 v5 : Int32} {f6 : Nat → Int32} {v7 v8 : Int32} {f9 f10 f12 f14 : Nat → Int32} {p11 p13 : Nat} {v15 v19 v20 : Int32} {f16 : Nat → Int64} {v17 v18 : Int32} {ov : Nat → Int64} {t : TS} {src : List Nat}
theorem l_feed_w (hn : 6 < n) (h : TP t src) (x1 x2 x3 x4 x5 : Int32) : ∃ t' : TS, fL_feed n x1 x2 x3 x4 x5 t.1 (i3 t.2.1) t.2.2 f3 v4 v5 f6 v7 v8 f9 f10 p11 f12 p13 f14 v15 f16 v17 v18 v19 v20 ov = some (if src.length + 20 ≤ 4096 then (0, t'.1, i3 t'.2.1, t'.2.2, vp_updL ov 0 (i3 (src.length + 20)).toInt64) else (1, t.1, i3 t.2.1, t.2.2, ov)) ∧ (src.length + 20 ≤ 4096 → TP t' (src ++ (by4 x1 ++ by4 x2 ++ by4 x3 ++ by4 x4 ++ by4 x5))) := by
  have hl : src.length = t.2.1 := h.1.2.2.1
  have h4 := h.1.2.2.2
  unfold fL_feed fB_feed
  rw [show fT_size n t.1 (i3 t.2.1) t.2.2 = some (i3 t.2.1) from rfl, Option.bind_some]
  by_cases hc : src.length + 20 ≤ 4096
  · rw [if_pos (by rw [show (20 : Int32) = i3 20 from rfl, i3_add, show (4096 : Int32) = i3 4096 from rfl, i3_le (by omega) (by omega)]; omega)]
    obtain ⟨t1, e1, w1⟩ := addInt_w (n := n) h.rv hn x1
    obtain ⟨t2, e2, w2⟩ := addInt_w (n := n) w1.v hn x2
    obtain ⟨t3, e3, w3⟩ := addInt_w (n := n) w2.v hn x3
    obtain ⟨t4, e4, w4⟩ := addInt_w (n := n) w3.v hn x4
    obtain ⟨t5, e5, w5⟩ := addInt_w (n := n) w4.v hn x5
    have hw := (((w1.app w2).app w3).app w4).app w5
    rw [← List.map_append, ← List.map_append, ← List.map_append, ← List.map_append] at hw
    have hT := h.add hw (by simp only [List.length_append, by4_len]; omega) (fun c hc => by
      rcases List.mem_append.mp hc with hc | hc
      · rcases List.mem_append.mp hc with hc | hc
        · rcases List.mem_append.mp hc with hc | hc
          · rcases List.mem_append.mp hc with hc | hc
            · exact by4_lt _ c hc
            · exact by4_lt _ c hc
          · exact by4_lt _ c hc
        · exact by4_lt _ c hc
      · exact by4_lt _ c hc)
    refine ⟨t5, ?_, fun _ => hT⟩
    rw [if_pos hc, e1, Option.bind_some]
    dsimp only
    rw [e2, Option.bind_some]
    dsimp only
    rw [e3, Option.bind_some]
    dsimp only
    rw [e4, Option.bind_some]
    dsimp only
    rw [e5, Option.bind_some]
    dsimp only
    have hz : t5.2.1 = src.length + 20 := by
      rw [← hT.1.2.2.1]
      simp only [List.length_append, by4_len]
    rw [show fT_size n t5.1 (i3 t5.2.1) t5.2.2 = some (i3 t5.2.1) from rfl, Option.bind_some, Option.bind_some, if_pos rfl, ← hz]
  · rw [if_neg (by rw [show (20 : Int32) = i3 20 from rfl, i3_add, show (4096 : Int32) = i3 4096 from rfl, i3_le (by omega) (by omega)]; omega)]
    exact ⟨t, by rw [if_neg hc]; rfl, fun h => absurd h hc⟩
theorem l_end_w (h : TP t src) (x : Int32) : (∀ k, x = i3 k → k ≤ src.length → fL_end n x t.1 (i3 t.2.1) t.2.2 f3 v4 v5 f6 v7 v8 f9 f10 p11 f12 p13 f14 v15 f16 v17 v18 v19 v20 ov = some (0, i3 k, vp_updL ov 0 (i3 k).toInt64) ∧ TP (t.1, k, t.2.2) (src.take k)) ∧ (¬ (¬ x < 0 ∧ ¬ i3 src.length < x) → fL_end n x t.1 (i3 t.2.1) t.2.2 f3 v4 v5 f6 v7 v8 f9 f10 p11 f12 p13 f14 v15 f16 v17 v18 v19 v20 ov = some (1, i3 t.2.1, ov)) := by
  have hl : src.length = t.2.1 := h.1.2.2.1
  have h4 := h.1.2.2.2
  constructor
  · rintro k rfl hk
    refine ⟨?_, ⟨⟨fun c hc => h.1.1 c (List.mem_of_mem_take hc), ?_, ?_, ?_⟩, h.2⟩⟩
    · unfold fL_end fB_end
      rw [show fT_size n t.1 (i3 t.2.1) t.2.2 = some (i3 t.2.1) from rfl, Option.bind_some, within_w, Option.bind_some, if_pos ⟨i3_nn (by omega), by rw [i3_lt (by omega) (by omega)]; omega⟩, dem1, Option.bind_some, if_pos rfl]
      unfold fT_keep
      have hm : (if i3 t.2.1 < i3 k then i3 t.2.1 else i3 k) = i3 k := if_neg (by rw [i3_lt (by omega) (by omega)]; omega)
      have hm2 : (if 0 < i3 k then i3 k else 0) = i3 k := by
        by_cases h0 : k = 0
        · subst h0; rfl
        · exact if_pos (by rw [show (0 : Int32) = i3 0 from rfl, i3_lt (by omega) (by omega)]; omega)
      rw [hm, hm2]
      rfl
    · have h2 := h.1.2.1
      rw [← List.take_append_drop k src, List.map_append] at h2
      exact (seg_app.mp h2).1
    · rw [List.length_take]
      show _ = k
      omega
    · show k ≤ 4096
      omega
  · intro hx
    rw [hl] at hx
    unfold fL_end fB_end
    rw [show fT_size n t.1 (i3 t.2.1) t.2.2 = some (i3 t.2.1) from rfl, Option.bind_some, within_w, Option.bind_some, if_neg hx]
    rfl
/-- what read does -/
theorem l_read_n {x1 : Int32} (h : ¬ isR x1) {f0 : Nat → Int32} {v1 v2 : Int32} : fL_read fu n x1 f0 v1 v2 f3 v4 v5 f6 v7 v8 f9 f10 p11 f12 p13 f14 v15 f16 v17 v18 v19 v20 ov = some (1, v1, v2, f6, v7, v8, f16, v17, v18, v19, ov) := by
  unfold fL_read fB_read
  rw [reg_F h]
  rfl
theorem l_read_w (hn : 140000 < n) {k : Nat} (hk : 70 ≤ k) (hfu : k < fu) {x1 : Int32} (h1 : isR x1) (h : TP t src) {t2 : TS} (ht2 : RV t2) : ∃ (t' : TS) (r' : RS), RV t' ∧ RV r' ∧ (match pT k 40 src with
    | .inl x => fL_read fu n x1 t.1 (i3 t.2.1) t.2.2 f3 v4 v5 t2.1 (i3 t2.2.1) t2.2.2 f9 f10 p11 f12 p13 f14 v15 f16 v17 v18 v19 v20 ov = some (2, 0, 0, t'.1, i3 t'.2.1, t'.2.2, r'.1, i3 r'.2.1, r'.2.2, i3 (src.length - x.length), ov)
    | .inr j => jok (k + 1) j ∧ jd (k + 1) j ≤ 40 ∧ ((fit j ∧ fL_read fu n x1 t.1 (i3 t.2.1) t.2.2 f3 v4 v5 t2.1 (i3 t2.2.1) t2.2.2 f9 f10 p11 f12 p13 f14 v15 f16 v17 v18 v19 v20 ov = some (0, 0, 0, t'.1, i3 t'.2.1, t'.2.2, r'.1, i3 r'.2.1, r'.2.2, -1, vp_updL ov 0 (i3 (jt (k + 1) j).length).toInt64) ∧ r'.2.1 = (jc (k + 1) j).length ∧ r'.2.2 = 0 ∧ At r'.1 r'.2.1 0 (jc (k + 1) j)) ∨ (¬ fit j ∧ fL_read fu n x1 t.1 (i3 t.2.1) t.2.2 f3 v4 v5 t2.1 (i3 t2.2.1) t2.2.2 f9 f10 p11 f12 p13 f14 v15 f16 v17 v18 v19 v20 ov = some (3, 0, 0, t'.1, i3 t'.2.1, t'.2.2, r'.1, i3 r'.2.1, r'.2.2, -1, ov)))) := by
  obtain ⟨r', a, g1, g2⟩ := readValue_w (n := n) (row := (f16, 0, 0)) h.1 (by omega) (k := k) (fu := fu) (by omega) hfu ⟨by simp, Or.inl rfl⟩ ⟨rfl, rfl⟩
  unfold fL_read fB_read
  rw [reg_T h1, Option.bind_some, dem1, Option.bind_some, if_pos rfl]
  unfold fR_clear fT_clear
  rw [Option.bind_some]
  dsimp only
  cases hp : pT k 40 src with
  | inl x =>
    rw [hp] at g2
    obtain ⟨g2, g3⟩ := g2
    refine ⟨t2, r', ht2, g1, ?_⟩
    have g2' : fD_readValue fu n t.1 (i3 t.2.1) t.2.2 f16 0 0 0 (-1) = some (pos src x, r'.1, i3 r'.2.1, r'.2.2, a, pos src x) := g2
    dsimp only
    rw [g2', Option.bind_some, Option.bind_some, if_neg (by rw [pos_m1 h.1 g3]; exact id), Option.bind_some]
    rfl
  | inr j =>
    rw [hp] at g2
    obtain ⟨g2, g3, g4, g5⟩ := g2
    have g2' : fD_readValue fu n t.1 (i3 t.2.1) t.2.2 f16 0 0 0 (-1) = some (-1, r'.1, i3 r'.2.1, r'.2.2, a, -1) := g2
    obtain ⟨t', ht', hks⟩ := keepSpare_w (n := n) (fu := fu) (f0 := t.1) (v1 := 0) (v2 := 0) (f3 := f3) (v4 := v4) (v5 := v5) (f9 := f9) (f10 := f10) (p11 := p11) (f12 := f12) (p13 := p13) (f14 := f14) (v15 := v15) (v19 := -1) (v20 := v20) (t := t2) hn (by omega) (by omega) h1 (r0 := (f16, 0, 0)) ⟨rfl, rfl⟩ g4 g3
    refine ⟨t', r', ht', g1, g4, g5, ?_⟩
    rw [g2', Option.bind_some, Option.bind_some, if_pos rfl]
    dsimp only
    rcases hks with ⟨k1, k2, k3, k4, k5⟩ | ⟨k1, k2⟩
    · refine Or.inl ⟨k1, ?_, k3, k4, k5⟩
      rw [k2]
      rfl
    · refine Or.inr ⟨k1, ?_⟩
      rw [k2]
      rfl
variable {f0 : Nat → Int32} {v1 v2 : Int32} {f g : Nat → Int64} {v u e : Nat} {o o' : Int32}
theorem l_print_n {x1 : Int32} (h : ¬ isR x1) {f21 : Nat → Int64} {v22 v23 : Int32} : fL_print fu n x1 f0 v1 v2 f3 v4 v5 f6 v7 v8 f9 f10 p11 f12 p13 f14 v15 f16 v17 v18 v19 v20 f21 v22 v23 ov = some (1, f3, v4, v5, ov) := by
  unfold fL_print fB_print
  rw [reg_F h]
  rfl
theorem l_print_w (hn : 10000 < n) (hfu : e + 1 ≤ fu) {x1 : Int32} (h1 : isR x1) {a : JT (e + 1)} (ha : At f v 0 (jc (e + 1) a)) (hoa : jok (e + 1) a) (hfa : fit a) {t1 : TS} : ∃ t' : TS, fL_print fu n x1 f0 v1 v2 t1.1 (i3 t1.2.1) t1.2.2 f6 v7 v8 f9 f10 p11 f12 p13 f14 v15 f16 v17 v18 v19 v20 f (i3 v) o ov = some (0, t'.1, i3 t'.2.1, t'.2.2, vp_updL ov 0 (i3 (jt (e + 1) a).length).toInt64) ∧ TP t' (jt (e + 1) a) := by
  obtain ⟨t', e1, k1, k2, _⟩ := write_w (n := n) hn (e + 1) fu a f 0 v 0 o (t1.1, 0, 0) hoa ha hfu (by omega) ⟨by simp, Or.inl rfl⟩
  have hw := k2 (Or.inr (by have := hfa.1; omega))
  have hlt := jt_lt _ a hoa
  have hT : TP t' ([] ++ jt (e + 1) a) := TP.add (t := (t1.1, 0, 0)) ⟨⟨fun c hc => absurd hc (by simp), seg_nil, rfl, by simp⟩, rfl⟩ hw (by have := hfa.2; simpa using this) (fun c hc => by have := hlt c hc; omega)
  rw [List.nil_append] at hT
  refine ⟨t', ?_, hT⟩
  have e1' : fP_write fu n 0 0 f (i3 v) o t1.1 0 0 = some (t'.1, i3 t'.2.1, t'.2.2) := e1
  unfold fL_print fB_print
  rw [reg_T h1, Option.bind_some, dem1, Option.bind_some, if_pos rfl]
  unfold fT_clear
  rw [Option.bind_some, if_neg (reg_i h1).1]
  dsimp only
  rw [e1', Option.bind_some]
  dsimp only
  rw [show fT_size n t'.1 (i3 t'.2.1) t'.2.2 = some (i3 t'.2.1) from rfl, Option.bind_some, Option.bind_some, if_pos rfl, ← hT.1.2.2.1]
def bt (pr : List Nat) (i : Nat) : Nat := pr.getD i 0
def wA (pr : List Nat) (i : Nat) : Nat → Nat
  | 0 => 0
  | k + 1 => wA pr i k * 256 + bt pr (i + k)
theorem word_loop {t1 : TS} {pr : List Nat} (h : TP t1 pr) {i : Nat} (hi : i < pr.length) : ∀ (m k n : Nat), k + m = 8 → m < n → fB_word_b f0 v1 v2 t1.1 (i3 t1.2.1) t1.2.2 f6 v7 v8 f9 f10 p11 f12 p13 f14 v15 f16 v17 v18 v19 v20 n 1 (i3 k) (cW (wA pr i k : Nat)) (i3 i) = some (0, cW (wA pr i 8 : Nat)) := by
  obtain ⟨⟨h1, h2, h3, h4⟩, h5⟩ := h
  intro m
  induction m with
  | zero =>
    intro k n hk hn
    obtain ⟨n, rfl⟩ : ∃ j, n = j + 1 := ⟨n - 1, by omega⟩
    obtain rfl : k = 8 := by omega
    rw [fB_word_b, if_pos (by decide)]
  | succ m ih =>
    intro k n hk hn
    obtain ⟨n, rfl⟩ : ∃ j, n = j + 1 := ⟨n - 1, by omega⟩
    rw [fB_word_b, if_neg (by rw [show (8 : Int32) = i3 8 from rfl, i3_le (by omega) (by omega)]; omega), i3_add]
    have hat : ∃ x : Int32, fT_at n (i3 (i + k)) t1.1 (i3 t1.2.1) t1.2.2 = some x ∧ (if x < 0 then 0 else x) = i3 (bt pr (i + k)) ∧ bt pr (i + k) < 256 := by
      by_cases hb : i + k < pr.length
      · have hc := h1 _ (List.getElem_mem hb)
        have hbt : bt pr (i + k) = pr[i + k] := by
          unfold bt
          rw [List.getD_eq_getElem?_getD, List.getElem?_eq_getElem hb]
          rfl
        refine ⟨_, text_at (n := n) h1 h2 h3 h4 hb, ?_, by omega⟩
        rw [hbt, if_neg (i3_nn (by omega))]
      · refine ⟨_, text_end (n := n) h4 (by omega) (by omega), ?_, ?_⟩
        · rw [if_pos (by decide)]
          unfold bt
          rw [List.getD_eq_getElem?_getD, List.getElem?_eq_none (by omega)]
          rfl
        · unfold bt
          rw [List.getD_eq_getElem?_getD, List.getElem?_eq_none (by omega)]
          simp
    obtain ⟨x, e1, e2, e3⟩ := hat
    rw [e1, Option.bind_some, e2, i3_one, i3_64 (by omega), cW_shl (m := 8) (by decide), cW_or (k := 8) (by omega)]
    exact ih (k + 1) n (by omega) (by omega)
theorem l_word_w (hn : 20 < n) {t1 : TS} {pr : List Nat} (h : TP t1 pr) (x : Int32) : (∀ k, x = i3 k → k < pr.length → fL_word n x f0 v1 v2 t1.1 (i3 t1.2.1) t1.2.2 f6 v7 v8 f9 f10 p11 f12 p13 f14 v15 f16 v17 v18 v19 v20 ov = some (0, vp_updL ov 0 (cW (wA pr k 8 : Nat)))) ∧ (¬ (¬ x < 0 ∧ x < i3 pr.length) → fL_word n x f0 v1 v2 t1.1 (i3 t1.2.1) t1.2.2 f6 v7 v8 f9 f10 p11 f12 p13 f14 v15 f16 v17 v18 v19 v20 ov = some (1, ov)) := by
  have hl : pr.length = t1.2.1 := h.1.2.2.1
  have h4 := h.1.2.2.2
  unfold fL_word fB_word
  constructor
  · rintro k rfl hk
    rw [if_neg (i3_nn (by omega)), show fT_size n t1.1 (i3 t1.2.1) t1.2.2 = some (i3 t1.2.1) from rfl, Option.bind_some, if_pos (by rw [i3_lt (by omega) (by omega)]; omega)]
    have := word_loop (f0 := f0) (v1 := v1) (v2 := v2) (f6 := f6) (v7 := v7) (v8 := v8) (f9 := f9) (f10 := f10) (p11 := p11) (f12 := f12) (p13 := p13) (f14 := f14) (v15 := v15) (f16 := f16) (v17 := v17) (v18 := v18) (v19 := v19) (v20 := v20) h hk 8 0 n (by omega) (by omega)
    have this' : fB_word_b f0 v1 v2 t1.1 (i3 t1.2.1) t1.2.2 f6 v7 v8 f9 f10 p11 f12 p13 f14 v15 f16 v17 v18 v19 v20 n 1 0 0 (i3 k) = some (0, cW (wA pr k 8 : Nat)) := this
    rw [this']
    rfl
  · intro hx
    by_cases h0 : x < 0
    · rw [if_pos h0]
      rfl
    · rw [if_neg h0, show fT_size n t1.1 (i3 t1.2.1) t1.2.2 = some (i3 t1.2.1) from rfl, Option.bind_some, if_neg (by rw [← hl]; exact fun h => hx ⟨h0, h⟩)]
      rfl
theorem l_count_w {t0 t1 : TS} (x : Int32) : (∀ k, x = i3 k → k ≤ 3 → fL_count n x t0.1 (i3 t0.2.1) t0.2.2 t1.1 (i3 t1.2.1) t1.2.2 f6 v7 v8 f9 f10 p11 f12 p13 f14 v15 f16 v17 v18 v19 v20 ov = some (0, vp_updL ov 0 (if k = 0 then i3 t0.2.1 else if k = 1 then i3 t1.2.1 else if k = 2 then v19 else v20).toInt64)) ∧ (¬ (¬ x < 0 ∧ ¬ (3 : Int32) < x) → fL_count n x t0.1 (i3 t0.2.1) t0.2.2 t1.1 (i3 t1.2.1) t1.2.2 f6 v7 v8 f9 f10 p11 f12 p13 f14 v15 f16 v17 v18 v19 v20 ov = some (1, ov)) := by
  unfold fL_count fB_count
  constructor
  · rintro k rfl hk
    rw [within_w, Option.bind_some, if_pos ⟨i3_nn (by omega), by rw [show (3 : Int32) = i3 3 from rfl, i3_lt (by omega) (by omega)]; omega⟩, dem1, Option.bind_some, if_pos rfl]
    obtain rfl | rfl | rfl | rfl : k = 0 ∨ k = 1 ∨ k = 2 ∨ k = 3 := by omega
    all_goals rfl
  · intro hx
    rw [within_w, Option.bind_some, if_neg hx]
    rfl
theorem l_compare_w (hn : 20000 < n) (hfu : e ≤ fu) (he : e ≤ 1000) {x1 x2 : Int32} (h1 : isR x1) (h2 : isR x2) {a b : JT e} (ha : At f v 0 (jc e a)) (hoa : jok e a) (hb : At g u 0 (jc e b)) (hob : jok e b) (hja : jd e a ≤ 60) : fL_compare fu n x1 x2 f0 v1 v2 f3 v4 v5 f6 v7 v8 f9 f10 p11 f12 p13 f14 v15 f16 v17 v18 v19 v20 f (i3 v) o g (i3 u) o' ov = some (0, vp_updL ov 0 (iz (jcmp e a b)).toInt64) := by
  have e1 := of0_w (n := n) (o := o) (o' := o') hn hoa hob ha hb hfu he hja
  have e1' : fO_of fu n 0 0 0 f (i3 v) o g (i3 u) o' = some (iz (jcmp e a b)) := e1
  unfold fL_compare fB_compare
  rw [reg_T h1, Option.bind_some, if_neg (by decide), reg_T h2, Option.bind_some, if_neg (by decide), dem1, Option.bind_some, if_pos rfl, if_neg (reg_i h1).1, if_neg (reg_i h2).1, e1']
  rfl
theorem l_comparea_w (hn : 20000 < n) (hfu : e ≤ fu) (he : e ≤ 1000) {x1 x2 : Int32} (h1 : isR x1) (h2 : isR x2) {a : JT e} (ha : At f v 0 (jc e a)) (hoa : jok e a) (hja : jd e a ≤ 60) : fL_comparea fu n x1 x2 f0 v1 v2 f3 v4 v5 f6 v7 v8 f9 f10 p11 f12 p13 f14 v15 f16 v17 v18 v19 v20 f (i3 v) o ov = some (0, vp_updL ov 0 (iz (jcmp e a a)).toInt64) := by
  have e1 := of0_w (n := n) (o := o) (o' := o) hn hoa hoa ha ha hfu he hja
  have e1' : fO_ofa fu n 0 0 0 f (i3 v) o = some (iz (jcmp e a a)) := by rw [al_of]; exact e1
  unfold fL_comparea fB_comparea
  rw [reg_T h1, Option.bind_some, if_neg (by decide), reg_T h2, Option.bind_some, if_neg (by decide), dem1, Option.bind_some, if_pos rfl, if_neg (reg_i h1).1, if_neg (reg_i h2).1, e1']
  rfl
theorem l_same_w (hn : 20000 < n) (hfu : e ≤ fu) (he : e ≤ 1000) {x1 x2 : Int32} (h1 : isR x1) (h2 : isR x2) {a b : JT e} (ha : At f v 0 (jc e a)) (hoa : jok e a) (hb : At g u 0 (jc e b)) (hob : jok e b) (hja : jd e a ≤ 60) : fL_same fu n x1 x2 f0 v1 v2 f3 v4 v5 f6 v7 v8 f9 f10 p11 f12 p13 f14 v15 f16 v17 v18 v19 v20 f (i3 v) o g (i3 u) o' ov = some (0, vp_updL ov 0 (if jcmp e a b = 0 then 1 else 0)) := by
  have e1 := same_w (n := n) (o := o) (o' := o') hn hoa hob ha hb hfu he hja
  have e1' : fO_isSame fu n 0 0 f (i3 v) o g (i3 u) o' = some (if jcmp e a b = 0 then 1 else 0) := e1
  unfold fL_same fB_same
  rw [reg_T h1, Option.bind_some, if_neg (by decide), reg_T h2, Option.bind_some, if_neg (by decide), dem1, Option.bind_some, if_pos rfl, if_neg (reg_i h1).1, if_neg (reg_i h2).1, e1']
  by_cases hc : jcmp e a b = 0
  · rw [if_pos hc, if_pos hc]
    rfl
  · rw [if_neg hc, if_neg hc]
    rfl
theorem l_samea_w (hn : 20000 < n) (hfu : e ≤ fu) (he : e ≤ 1000) {x1 x2 : Int32} (h1 : isR x1) (h2 : isR x2) {a : JT e} (ha : At f v 0 (jc e a)) (hoa : jok e a) (hja : jd e a ≤ 60) : fL_samea fu n x1 x2 f0 v1 v2 f3 v4 v5 f6 v7 v8 f9 f10 p11 f12 p13 f14 v15 f16 v17 v18 v19 v20 f (i3 v) o ov = some (0, vp_updL ov 0 (if jcmp e a a = 0 then 1 else 0)) := by
  have e1 := same_w (n := n) (o := o) (o' := o) hn hoa hoa ha ha hfu he hja
  have e1' : fO_isSamea fu n 0 0 f (i3 v) o = some (if jcmp e a a = 0 then 1 else 0) := by rw [al_same]; exact e1
  unfold fL_samea fB_samea
  rw [reg_T h1, Option.bind_some, if_neg (by decide), reg_T h2, Option.bind_some, if_neg (by decide), dem1, Option.bind_some, if_pos rfl, if_neg (reg_i h1).1, if_neg (reg_i h2).1, e1']
  by_cases hc : jcmp e a a = 0
  · rw [if_pos hc, if_pos hc]
    rfl
  · rw [if_neg hc, if_neg hc]
    rfl
theorem l_compare_n {x1 x2 : Int32} (h : ¬ (isR x1 ∧ isR x2)) {f21 : Nat → Int64} {v22 v23 : Int32} {f24 : Nat → Int64} {v25 v26 : Int32} : fL_compare fu n x1 x2 f0 v1 v2 f3 v4 v5 f6 v7 v8 f9 f10 p11 f12 p13 f14 v15 f16 v17 v18 v19 v20 f21 v22 v23 f24 v25 v26 ov = some (1, ov) ∧ fL_comparea fu n x1 x2 f0 v1 v2 f3 v4 v5 f6 v7 v8 f9 f10 p11 f12 p13 f14 v15 f16 v17 v18 v19 v20 f21 v22 v23 ov = some (1, ov) ∧ fL_same fu n x1 x2 f0 v1 v2 f3 v4 v5 f6 v7 v8 f9 f10 p11 f12 p13 f14 v15 f16 v17 v18 v19 v20 f21 v22 v23 f24 v25 v26 ov = some (1, ov) ∧ fL_samea fu n x1 x2 f0 v1 v2 f3 v4 v5 f6 v7 v8 f9 f10 p11 f12 p13 f14 v15 f16 v17 v18 v19 v20 f21 v22 v23 ov = some (1, ov) := by
  unfold fL_compare fB_compare fL_comparea fB_comparea fL_same fB_same fL_samea fB_samea
  by_cases h1 : isR x1
  · have h2 : ¬ isR x2 := fun h2 => h ⟨h1, h2⟩
    refine ⟨?_, ?_, ?_, ?_⟩
    all_goals
      rw [reg_T h1, Option.bind_some, if_neg (by decide), reg_F h2]
      rfl
  · refine ⟨?_, ?_, ?_, ?_⟩
    all_goals
      rw [reg_F h1]
      rfl
end BM
