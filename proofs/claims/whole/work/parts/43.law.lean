/-! ===== the bench's calls that make a value ===== -/
def lc (c : Nat) : Int32 := if c = 0 then 0 else if c = 1 then 3 else if c = 2 then 2 else 1
/-- what such a call leaves: code, spare row, reason -/
def KO {d : Nat} (c : Nat) (r' : RS) (z : Int32) (res : Nat ⊕ JT d) (v20 : Int32) : Prop := RV r' ∧ (match res with
  | .inl k => c = 2 ∧ z = i3 k ∧ 1 ≤ k ∧ k ≤ 5
  | .inr j => z = v20 ∧ ((fit j ∧ c = 0 ∧ r'.2.1 = (jc d j).length ∧ r'.2.2 = 0 ∧ At r'.1 r'.2.1 0 (jc d j)) ∨ (¬ fit j ∧ c = 1)))
abbrev isR (x : Int32) : Prop := ¬ x < 0 ∧ ¬ (7 : Int32) < x
section BL
variable {n fu : Nat} {f0 : Nat → Int32} {v1 v2 : Int32} {f3 : Nat → Int32} {v4 v5 : Int32} {f9 f10 f12 f14 : Nat → Int32} {p11 p13 : Nat} {v15 v19 v20 : Int32} {f16 : Nat → Int64} {v17 v18 : Int32} {t : TS} {f g : Nat → Int64} {v u e : Nat} {o o' : Int32} {x1 x2 x3 x4 : Int32}
theorem two_le (j : JT (e + 1)) (hl : (jt (e + 1) j).length ≤ 4096) : (jc (e + 1) j).length ≤ 4096 := by
  have := jc_le_jt _ j
  omega
theorem l_binary_n (h : ¬ (isR x1 ∧ (¬ x2 < 0 ∧ ¬ (4 : Int32) < x2) ∧ isR x3 ∧ isR x4)) : fL_binary fu n x1 x2 x3 x4 f0 v1 v2 f3 v4 v5 t.1 (i3 t.2.1) t.2.2 f9 f10 p11 f12 p13 f14 v15 f16 v17 v18 v19 v20 f (i3 v) o g (i3 u) o' = some (1, t.1, i3 t.2.1, t.2.2, f16, v17, v18, v20) := by
  unfold fL_binary fB_binary
  by_cases h1 : isR x1
  · rw [reg_T h1, Option.bind_some, if_neg (by decide), within_w, Option.bind_some]
    by_cases h2 : ¬ x2 < 0 ∧ ¬ (4 : Int32) < x2
    · rw [if_pos h2, if_neg (by decide)]
      by_cases h3 : isR x3
      · rw [reg_T h3, Option.bind_some, if_neg (by decide), reg_F (fun h4 => h ⟨h1, h2, h3, h4⟩)]
        rfl
      · rw [reg_F h3]
        rfl
    · rw [if_neg h2]
      rfl
  · rw [reg_F h1]
    rfl
theorem l_binary_w (hn : 140000 < n) (he : 70 ≤ e) (hfu : e + 2 ≤ fu) (he' : e + 2 ≤ 1000) {k : Nat} (h1 : isR x1) (h2 : x2 = i3 k) (hk : k ≤ 4) (h3 : isR x3) (h4 : isR x4) {a : JT (e + 2)} (ha : At f v 0 (jc (e + 2) a)) (hoa : jok (e + 2) a) (hja : jd (e + 2) a ≤ 60) (hta : (jt (e + 2) a).length ≤ 4096) {b : JT (e + 2)} (hb : At g u 0 (jc (e + 2) b)) (hob : jok (e + 2) b) (hjb : jd (e + 2) b ≤ 60) (htb : (jt (e + 2) b).length ≤ 4096) (ht : RV t) : ∃ (c : Nat) (t' : TS) (r' : RS) (z : Int32), fL_binary fu n x1 x2 x3 x4 f0 v1 v2 f3 v4 v5 t.1 (i3 t.2.1) t.2.2 f9 f10 p11 f12 p13 f14 v15 f16 v17 v18 v19 v20 f (i3 v) o g (i3 u) o' = some (lc c, t'.1, i3 t'.2.1, t'.2.2, r'.1, i3 r'.2.1, r'.2.2, z) ∧ RV t' ∧ KO c r' z (oBin k a b) v20 := by
  have h2' : ¬ x2 < 0 ∧ ¬ (4 : Int32) < x2 := by
    rw [h2, show (4 : Int32) = i3 4 from rfl, i3_lt (by omega) (by omega)]
    exact ⟨i3_nn (by omega), by omega⟩
  have hok := oBin_ok (op := k) hoa hob
  unfold fL_binary fB_binary
  rw [reg_T h1, Option.bind_some, if_neg (by decide), within_w, Option.bind_some, if_pos h2', if_neg (by decide), reg_T h3, Option.bind_some, if_neg (by decide), reg_T h4, Option.bind_some, if_neg (by decide), dem1, Option.bind_some, if_pos rfl]
  unfold fR_clear
  rw [Option.bind_some, if_neg (reg_i h3).1, if_neg (reg_i h4).1]
  dsimp only
  obtain ⟨c, r', e1, hrv, hc⟩ := binary_w (n := n) (fu := fu) (o := o) (o' := o') (r := (f16, 0, 0)) (by omega) hfu (by omega) hk ha hoa hb hob hja hjb ⟨by simp, Or.inl rfl⟩
  have e1' : fA_apply fu n x2 f (i3 v) o g (i3 u) o' f16 0 0 = some (i3 c, r'.1, i3 r'.2.1, r'.2.2) := by rw [h2]; exact e1
  rw [e1', Option.bind_some]
  dsimp only
  cases hres : oBin k a b with
  | inl m =>
    rw [hres] at hc
    obtain ⟨rfl, k1, k2⟩ := hc
    rw [done_k k1 k2]
    exact ⟨2, t, r', i3 c, rfl, ht, hrv, rfl, rfl, k1, k2⟩
  | inr j =>
    rw [hres] at hc
    obtain ⟨rfl, hw⟩ := hc
    rw [show i3 0 = (0 : Int32) from rfl, done_0, Option.bind_some, if_pos rfl]
    dsimp only
    obtain ⟨t', ht', hks⟩ := keepSpare_w (n := n) (fu := fu) (f0 := f0) (v1 := v1) (v2 := v2) (f3 := f3) (v4 := v4) (v5 := v5) (f9 := f9) (f10 := f10) (p11 := p11) (f12 := f12) (p13 := p13) (f14 := f14) (v15 := v15) (v19 := v19) (v20 := v20) (t := t) hn (by omega) (by omega) h1 ⟨rfl, rfl⟩ (hok j hres) hw
    rcases hks with ⟨g1, g2, g3, g4, g5⟩ | ⟨g1, g2⟩
    · rw [g2]
      exact ⟨0, t', r', v20, rfl, ht', hrv, rfl, Or.inl ⟨g1, rfl, g3, g4, g5⟩⟩
    · rw [g2]
      exact ⟨1, t', r', v20, rfl, ht', hrv, rfl, Or.inr ⟨g1, rfl⟩⟩
theorem l_binarya_n (h : ¬ (isR x1 ∧ (¬ x2 < 0 ∧ ¬ (4 : Int32) < x2) ∧ isR x3 ∧ isR x4)) : fL_binarya fu n x1 x2 x3 x4 f0 v1 v2 f3 v4 v5 t.1 (i3 t.2.1) t.2.2 f9 f10 p11 f12 p13 f14 v15 f16 v17 v18 v19 v20 f (i3 v) o = some (1, t.1, i3 t.2.1, t.2.2, f16, v17, v18, v20) := by
  unfold fL_binarya fB_binarya
  by_cases h1 : isR x1
  · rw [reg_T h1, Option.bind_some, if_neg (by decide), within_w, Option.bind_some]
    by_cases h2 : ¬ x2 < 0 ∧ ¬ (4 : Int32) < x2
    · rw [if_pos h2, if_neg (by decide)]
      by_cases h3 : isR x3
      · rw [reg_T h3, Option.bind_some, if_neg (by decide), reg_F (fun h4 => h ⟨h1, h2, h3, h4⟩)]
        rfl
      · rw [reg_F h3]
        rfl
    · rw [if_neg h2]
      rfl
  · rw [reg_F h1]
    rfl
theorem l_binarya_w (hn : 140000 < n) (he : 70 ≤ e) (hfu : e + 2 ≤ fu) (he' : e + 2 ≤ 1000) {k : Nat} (h1 : isR x1) (h2 : x2 = i3 k) (hk : k ≤ 4) (h3 : isR x3) (h4 : isR x4) {a : JT (e + 2)} (ha : At f v 0 (jc (e + 2) a)) (hoa : jok (e + 2) a) (hja : jd (e + 2) a ≤ 60) (hta : (jt (e + 2) a).length ≤ 4096) (ht : RV t) : ∃ (c : Nat) (t' : TS) (r' : RS) (z : Int32), fL_binarya fu n x1 x2 x3 x4 f0 v1 v2 f3 v4 v5 t.1 (i3 t.2.1) t.2.2 f9 f10 p11 f12 p13 f14 v15 f16 v17 v18 v19 v20 f (i3 v) o = some (lc c, t'.1, i3 t'.2.1, t'.2.2, r'.1, i3 r'.2.1, r'.2.2, z) ∧ RV t' ∧ KO c r' z (oBin k a a) v20 := by
  have h2' : ¬ x2 < 0 ∧ ¬ (4 : Int32) < x2 := by
    rw [h2, show (4 : Int32) = i3 4 from rfl, i3_lt (by omega) (by omega)]
    exact ⟨i3_nn (by omega), by omega⟩
  have hok := oBin_ok (op := k) hoa hoa
  unfold fL_binarya fB_binarya
  rw [reg_T h1, Option.bind_some, if_neg (by decide), within_w, Option.bind_some, if_pos h2', if_neg (by decide), reg_T h3, Option.bind_some, if_neg (by decide), reg_T h4, Option.bind_some, if_neg (by decide), dem1, Option.bind_some, if_pos rfl]
  unfold fR_clear
  rw [Option.bind_some, if_neg (reg_i h3).1, if_neg (reg_i h4).1]
  dsimp only
  obtain ⟨c, r', e1, hrv, hc⟩ := binarya_w (n := n) (fu := fu) (o := o) (r := (f16, 0, 0)) (by omega) hfu (by omega) hk ha hoa hja ⟨by simp, Or.inl rfl⟩
  have e1' : fA_applya fu n x2 f (i3 v) o f16 0 0 = some (i3 c, r'.1, i3 r'.2.1, r'.2.2) := by rw [h2]; exact e1
  rw [e1', Option.bind_some]
  dsimp only
  cases hres : oBin k a a with
  | inl m =>
    rw [hres] at hc
    obtain ⟨rfl, k1, k2⟩ := hc
    rw [done_k k1 k2]
    exact ⟨2, t, r', i3 c, rfl, ht, hrv, rfl, rfl, k1, k2⟩
  | inr j =>
    rw [hres] at hc
    obtain ⟨rfl, hw⟩ := hc
    rw [show i3 0 = (0 : Int32) from rfl, done_0, Option.bind_some, if_pos rfl]
    dsimp only
    obtain ⟨t', ht', hks⟩ := keepSpare_w (n := n) (fu := fu) (f0 := f0) (v1 := v1) (v2 := v2) (f3 := f3) (v4 := v4) (v5 := v5) (f9 := f9) (f10 := f10) (p11 := p11) (f12 := f12) (p13 := p13) (f14 := f14) (v15 := v15) (v19 := v19) (v20 := v20) (t := t) hn (by omega) (by omega) h1 ⟨rfl, rfl⟩ (hok j hres) hw
    rcases hks with ⟨g1, g2, g3, g4, g5⟩ | ⟨g1, g2⟩
    · rw [g2]
      exact ⟨0, t', r', v20, rfl, ht', hrv, rfl, Or.inl ⟨g1, rfl, g3, g4, g5⟩⟩
    · rw [g2]
      exact ⟨1, t', r', v20, rfl, ht', hrv, rfl, Or.inr ⟨g1, rfl⟩⟩
theorem l_two_n (h : ¬ (isR x1 ∧ (¬ x2 < 0 ∧ ¬ (9 : Int32) < x2) ∧ isR x3 ∧ isR x4)) : fL_two fu n x1 x2 x3 x4 f0 v1 v2 f3 v4 v5 t.1 (i3 t.2.1) t.2.2 f9 f10 p11 f12 p13 f14 v15 f16 v17 v18 v19 v20 f (i3 v) o g (i3 u) o' = some (1, t.1, i3 t.2.1, t.2.2, f16, v17, v18, v20) := by
  unfold fL_two fB_two
  by_cases h1 : isR x1
  · rw [reg_T h1, Option.bind_some, if_neg (by decide), within_w, Option.bind_some]
    by_cases h2 : ¬ x2 < 0 ∧ ¬ (9 : Int32) < x2
    · rw [if_pos h2, if_neg (by decide)]
      by_cases h3 : isR x3
      · rw [reg_T h3, Option.bind_some, if_neg (by decide), reg_F (fun h4 => h ⟨h1, h2, h3, h4⟩)]
        rfl
      · rw [reg_F h3]
        rfl
    · rw [if_neg h2]
      rfl
  · rw [reg_F h1]
    rfl
theorem l_two_w (hn : 140000 < n) (he : 70 ≤ e) (hfu : e + 2 ≤ fu) (he' : e + 2 ≤ 1000) {k : Nat} (h1 : isR x1) (h2 : x2 = i3 k) (hk : k ≤ 9) (h3 : isR x3) (h4 : isR x4) {a : JT (e + 2)} (ha : At f v 0 (jc (e + 2) a)) (hoa : jok (e + 2) a) (hja : jd (e + 2) a ≤ 60) (hta : (jt (e + 2) a).length ≤ 4096) {b : JT (e + 2)} (hb : At g u 0 (jc (e + 2) b)) (hob : jok (e + 2) b) (hjb : jd (e + 2) b ≤ 60) (htb : (jt (e + 2) b).length ≤ 4096) {t0 : TS} (ht0 : RV t0) : ∃ (c : Nat) (t' : TS) (r' : RS) (z : Int32), fL_two fu n x1 x2 x3 x4 f0 v1 v2 f3 v4 v5 t0.1 (i3 t0.2.1) t0.2.2 f9 f10 p11 f12 p13 f14 v15 f16 v17 v18 v19 v20 f (i3 v) o g (i3 u) o' = some (lc c, t'.1, i3 t'.2.1, t'.2.2, r'.1, i3 r'.2.1, r'.2.2, z) ∧ RV t' ∧ KO c r' z (oTwo k a b) v20 := by
  have h2' : ¬ x2 < 0 ∧ ¬ (9 : Int32) < x2 := by
    rw [h2, show (9 : Int32) = i3 9 from rfl, i3_lt (by omega) (by omega)]
    exact ⟨i3_nn (by omega), by omega⟩
  have hok := oTwo_ok (k := k) hoa hob (two_le a hta)
  unfold fL_two fB_two
  rw [reg_T h1, Option.bind_some, if_neg (by decide), within_w, Option.bind_some, if_pos h2', if_neg (by decide), reg_T h3, Option.bind_some, if_neg (by decide), reg_T h4, Option.bind_some, if_neg (by decide), dem1, Option.bind_some, if_pos rfl]
  unfold fR_clear
  rw [Option.bind_some, if_neg (reg_i h3).1, if_neg (reg_i h4).1]
  dsimp only
  obtain ⟨c, t, r', e1, ht, c', r'', e2, hrv, hc⟩ := two_op (n := n) (fu := fu) (o := o) (o' := o') (r := (f16, 0, 0)) (by omega) hfu he' hk ha hoa hb hob hja ht0 ⟨by simp, Or.inl rfl⟩
  have e1' : fH_apply fu n x2 f (i3 v) o g (i3 u) o' t0.1 (i3 t0.2.1) t0.2.2 f16 0 0 = some (i3 c, t.1, i3 t.2.1, t.2.2, r'.1, i3 r'.2.1, r'.2.2) := by rw [h2]; exact e1
  have e2' := Option.some.inj e2
  have q1 : i3 c = i3 c' := congrArg (fun x => x.1) e2'
  have q2 : r'.1 = r''.1 := congrArg (fun x => x.2.1) e2'
  have q3 : i3 r'.2.1 = i3 r''.2.1 := congrArg (fun x => x.2.2.1) e2'
  have q4 : r'.2.2 = r''.2.2 := congrArg (fun x => x.2.2.2) e2'
  rw [q1, q2, q3, q4] at e1'
  clear e1 e2 e2' q1 q2 q3 q4
  rw [e1', Option.bind_some]
  dsimp only
  cases hres : oTwo k a b with
  | inl m =>
    rw [hres] at hc
    obtain ⟨rfl, k1, k2⟩ := hc
    rw [done_k k1 k2]
    exact ⟨2, t, r'', i3 c', rfl, ht, hrv, rfl, rfl, k1, k2⟩
  | inr j =>
    rw [hres] at hc
    obtain ⟨rfl, hw⟩ := hc
    rw [show i3 0 = (0 : Int32) from rfl, done_0, Option.bind_some, if_pos rfl]
    dsimp only
    obtain ⟨t', ht', hks⟩ := keepSpare_w (n := n) (fu := fu) (f0 := f0) (v1 := v1) (v2 := v2) (f3 := f3) (v4 := v4) (v5 := v5) (f9 := f9) (f10 := f10) (p11 := p11) (f12 := f12) (p13 := p13) (f14 := f14) (v15 := v15) (v19 := v19) (v20 := v20) (t := t) hn (by omega) (by omega) h1 ⟨rfl, rfl⟩ (hok j hres) hw
    rcases hks with ⟨g1, g2, g3, g4, g5⟩ | ⟨g1, g2⟩
    · rw [g2]
      exact ⟨0, t', r'', v20, rfl, ht', hrv, rfl, Or.inl ⟨g1, rfl, g3, g4, g5⟩⟩
    · rw [g2]
      exact ⟨1, t', r'', v20, rfl, ht', hrv, rfl, Or.inr ⟨g1, rfl⟩⟩
theorem l_twoa_n (h : ¬ (isR x1 ∧ (¬ x2 < 0 ∧ ¬ (9 : Int32) < x2) ∧ isR x3 ∧ isR x4)) : fL_twoa fu n x1 x2 x3 x4 f0 v1 v2 f3 v4 v5 t.1 (i3 t.2.1) t.2.2 f9 f10 p11 f12 p13 f14 v15 f16 v17 v18 v19 v20 f (i3 v) o = some (1, t.1, i3 t.2.1, t.2.2, f16, v17, v18, v20) := by
  unfold fL_twoa fB_twoa
  by_cases h1 : isR x1
  · rw [reg_T h1, Option.bind_some, if_neg (by decide), within_w, Option.bind_some]
    by_cases h2 : ¬ x2 < 0 ∧ ¬ (9 : Int32) < x2
    · rw [if_pos h2, if_neg (by decide)]
      by_cases h3 : isR x3
      · rw [reg_T h3, Option.bind_some, if_neg (by decide), reg_F (fun h4 => h ⟨h1, h2, h3, h4⟩)]
        rfl
      · rw [reg_F h3]
        rfl
    · rw [if_neg h2]
      rfl
  · rw [reg_F h1]
    rfl
theorem l_twoa_w (hn : 140000 < n) (he : 70 ≤ e) (hfu : e + 2 ≤ fu) (he' : e + 2 ≤ 1000) {k : Nat} (h1 : isR x1) (h2 : x2 = i3 k) (hk : k ≤ 9) (h3 : isR x3) (h4 : isR x4) {a : JT (e + 2)} (ha : At f v 0 (jc (e + 2) a)) (hoa : jok (e + 2) a) (hja : jd (e + 2) a ≤ 60) (hta : (jt (e + 2) a).length ≤ 4096) {t0 : TS} (ht0 : RV t0) : ∃ (c : Nat) (t' : TS) (r' : RS) (z : Int32), fL_twoa fu n x1 x2 x3 x4 f0 v1 v2 f3 v4 v5 t0.1 (i3 t0.2.1) t0.2.2 f9 f10 p11 f12 p13 f14 v15 f16 v17 v18 v19 v20 f (i3 v) o = some (lc c, t'.1, i3 t'.2.1, t'.2.2, r'.1, i3 r'.2.1, r'.2.2, z) ∧ RV t' ∧ KO c r' z (oTwo k a a) v20 := by
  have h2' : ¬ x2 < 0 ∧ ¬ (9 : Int32) < x2 := by
    rw [h2, show (9 : Int32) = i3 9 from rfl, i3_lt (by omega) (by omega)]
    exact ⟨i3_nn (by omega), by omega⟩
  have hok := oTwo_ok (k := k) hoa hoa (two_le a hta)
  unfold fL_twoa fB_twoa
  rw [reg_T h1, Option.bind_some, if_neg (by decide), within_w, Option.bind_some, if_pos h2', if_neg (by decide), reg_T h3, Option.bind_some, if_neg (by decide), reg_T h4, Option.bind_some, if_neg (by decide), dem1, Option.bind_some, if_pos rfl]
  unfold fR_clear
  rw [Option.bind_some, if_neg (reg_i h3).1, if_neg (reg_i h4).1]
  dsimp only
  obtain ⟨c, t, r', e1, ht, c', r'', e2, hrv, hc⟩ := two_op (n := n) (fu := fu) (o := o) (o' := o) (r := (f16, 0, 0)) (by omega) hfu he' hk ha hoa ha hoa hja ht0 ⟨by simp, Or.inl rfl⟩
  have e1' : fH_applya fu n x2 f (i3 v) o t0.1 (i3 t0.2.1) t0.2.2 f16 0 0 = some (i3 c, t.1, i3 t.2.1, t.2.2, r'.1, i3 r'.2.1, r'.2.2) := by rw [h2]; rw [al_H_apply]; exact e1
  have e2' := Option.some.inj e2
  have q1 : i3 c = i3 c' := congrArg (fun x => x.1) e2'
  have q2 : r'.1 = r''.1 := congrArg (fun x => x.2.1) e2'
  have q3 : i3 r'.2.1 = i3 r''.2.1 := congrArg (fun x => x.2.2.1) e2'
  have q4 : r'.2.2 = r''.2.2 := congrArg (fun x => x.2.2.2) e2'
  rw [q1, q2, q3, q4] at e1'
  clear e1 e2 e2' q1 q2 q3 q4
  rw [e1', Option.bind_some]
  dsimp only
  cases hres : oTwo k a a with
  | inl m =>
    rw [hres] at hc
    obtain ⟨rfl, k1, k2⟩ := hc
    rw [done_k k1 k2]
    exact ⟨2, t, r'', i3 c', rfl, ht, hrv, rfl, rfl, k1, k2⟩
  | inr j =>
    rw [hres] at hc
    obtain ⟨rfl, hw⟩ := hc
    rw [show i3 0 = (0 : Int32) from rfl, done_0, Option.bind_some, if_pos rfl]
    dsimp only
    obtain ⟨t', ht', hks⟩ := keepSpare_w (n := n) (fu := fu) (f0 := f0) (v1 := v1) (v2 := v2) (f3 := f3) (v4 := v4) (v5 := v5) (f9 := f9) (f10 := f10) (p11 := p11) (f12 := f12) (p13 := p13) (f14 := f14) (v15 := v15) (v19 := v19) (v20 := v20) (t := t) hn (by omega) (by omega) h1 ⟨rfl, rfl⟩ (hok j hres) hw
    rcases hks with ⟨g1, g2, g3, g4, g5⟩ | ⟨g1, g2⟩
    · rw [g2]
      exact ⟨0, t', r'', v20, rfl, ht', hrv, rfl, Or.inl ⟨g1, rfl, g3, g4, g5⟩⟩
    · rw [g2]
      exact ⟨1, t', r'', v20, rfl, ht', hrv, rfl, Or.inr ⟨g1, rfl⟩⟩
theorem l_one_n (h : ¬ (isR x1 ∧ (¬ x2 < 0 ∧ ¬ (13 : Int32) < x2) ∧ isR x3)) : fL_one fu n x1 x2 x3 f0 v1 v2 f3 v4 v5 t.1 (i3 t.2.1) t.2.2 f9 f10 p11 f12 p13 f14 v15 f16 v17 v18 v19 v20 f (i3 v) o = some (1, t.1, i3 t.2.1, t.2.2, f9, f12, p11, f14, p13, v15, f16, v17, v18, v20) := by
  unfold fL_one fB_one
  by_cases h1 : isR x1
  · rw [reg_T h1, Option.bind_some, if_neg (by decide), within_w, Option.bind_some]
    by_cases h2 : ¬ x2 < 0 ∧ ¬ (13 : Int32) < x2
    · rw [if_pos h2, if_neg (by decide)]
      by_cases h3 : isR x3
      · exact absurd ⟨h1, h2, h3⟩ h
      · rw [reg_F h3]
        rfl
    · rw [if_neg h2]
      rfl
  · rw [reg_F h1]
    rfl
theorem l_one_w (hn : 140000 < n) (he : 70 ≤ e) (hfu : e + 2 ≤ fu) (he' : e + 2 ≤ 1000) {k : Nat} (h1 : isR x1) (h2 : x2 = i3 k) (hk : k ≤ 13) (h3 : isR x3) {a : JT (e + 2)} (ha : At f v 0 (jc (e + 2) a)) (hoa : jok (e + 2) a) (hja : jd (e + 2) a ≤ 60) (hta : (jt (e + 2) a).length ≤ 4096) (hlA : ∀ l, a = ja l → l.length ≤ 2048) (hlO : ∀ l, a = jo l → l.length ≤ 2048) {t0 : TS} (ht0 : RV t0) : ∃ (c : Nat) (t' : TS) (a1 a2 : Nat → Int32) (b1 : Nat) (a3 : Nat → Int32) (b2 : Nat) (a4 : Int32) (r' : RS) (z : Int32), fL_one fu n x1 x2 x3 f0 v1 v2 f3 v4 v5 t0.1 (i3 t0.2.1) t0.2.2 f9 f10 p11 f12 p13 f14 v15 f16 v17 v18 v19 v20 f (i3 v) o = some (lc c, t'.1, i3 t'.2.1, t'.2.2, a1, a2, b1, a3, b2, a4, r'.1, i3 r'.2.1, r'.2.2, z) ∧ RV t' ∧ KO c r' z (oOne k a) v20 := by
  have h2' : ¬ x2 < 0 ∧ ¬ (13 : Int32) < x2 := by
    rw [h2, show (13 : Int32) = i3 13 from rfl, i3_lt (by omega) (by omega)]
    exact ⟨i3_nn (by omega), by omega⟩
  have hok := oOne_ok (k := k) (by omega) hoa (two_le a hta)
  unfold fL_one fB_one
  rw [reg_T h1, Option.bind_some, if_neg (by decide), within_w, Option.bind_some, if_pos h2', if_neg (by decide), reg_T h3, Option.bind_some, if_neg (by decide), dem1, Option.bind_some, if_pos rfl]
  unfold fR_clear
  rw [Option.bind_some, if_neg (reg_i h3).1]
  dsimp only
  obtain ⟨c, t, a1, a2, b1, a3, b2, a4, r', e1, ht, c', r'', e2, hrv, hc⟩ := one_op (n := n) (fu := fu) (o := o) (r := (f16, 0, 0)) (f6 := f9) (f7 := f10) (p8 := p11) (f9 := f12) (p10 := p13) (f11 := f14) (v12 := v15) (by omega) hfu (by omega) he' hk ha hoa hja hlA hlO ht0 ⟨by simp, Or.inl rfl⟩ ⟨rfl, rfl⟩
  have e1' : fG_apply fu n x2 f (i3 v) o t0.1 (i3 t0.2.1) t0.2.2 f9 f10 p11 f12 p13 f14 v15 f16 0 0 = some (i3 c, t.1, i3 t.2.1, t.2.2, a1, a2, b1, a3, b2, a4, r'.1, i3 r'.2.1, r'.2.2) := by rw [h2]; exact e1
  have e2' := Option.some.inj e2
  have q1 : i3 c = i3 c' := congrArg (fun x => x.1) e2'
  have q2 : r'.1 = r''.1 := congrArg (fun x => x.2.1) e2'
  have q3 : i3 r'.2.1 = i3 r''.2.1 := congrArg (fun x => x.2.2.1) e2'
  have q4 : r'.2.2 = r''.2.2 := congrArg (fun x => x.2.2.2) e2'
  rw [q1, q2, q3, q4] at e1'
  clear e1 e2 e2' q1 q2 q3 q4
  rw [e1', Option.bind_some]
  dsimp only
  cases hres : oOne k a with
  | inl m =>
    rw [hres] at hc
    obtain ⟨rfl, k1, k2⟩ := hc
    rw [done_k k1 k2]
    exact ⟨2, t, a1, a2, b1, a3, b2, a4, r'', i3 c', rfl, ht, hrv, rfl, rfl, k1, k2⟩
  | inr j =>
    rw [hres] at hc
    obtain ⟨rfl, hw⟩ := hc
    rw [show i3 0 = (0 : Int32) from rfl, done_0, Option.bind_some, if_pos rfl]
    dsimp only
    obtain ⟨t', ht', hks⟩ := keepSpare_w (n := n) (fu := fu) (f0 := f0) (v1 := v1) (v2 := v2) (f3 := f3) (v4 := v4) (v5 := v5) (f9 := a1) (f10 := f10) (p11 := b1) (f12 := a2) (p13 := b2) (f14 := a3) (v15 := a4) (v19 := v19) (v20 := v20) (t := t) hn (by omega) (by omega) h1 ⟨rfl, rfl⟩ (hok j hres) hw
    rcases hks with ⟨g1, g2, g3, g4, g5⟩ | ⟨g1, g2⟩
    · rw [g2]
      exact ⟨0, t', a1, a2, b1, a3, b2, a4, r'', v20, rfl, ht', hrv, rfl, Or.inl ⟨g1, rfl, g3, g4, g5⟩⟩
    · rw [g2]
      exact ⟨1, t', a1, a2, b1, a3, b2, a4, r'', v20, rfl, ht', hrv, rfl, Or.inr ⟨g1, rfl⟩⟩
theorem l_sort_n (h : ¬ (isR x1 ∧ (¬ x2 < 0 ∧ ¬ (4 : Int32) < x2) ∧ isR x3 ∧ isR x4)) : fL_sort fu n x1 x2 x3 x4 f0 v1 v2 f3 v4 v5 t.1 (i3 t.2.1) t.2.2 f9 f10 p11 f12 p13 f14 v15 f16 v17 v18 v19 v20 f (i3 v) o g (i3 u) o' = some (1, t.1, i3 t.2.1, t.2.2, f9, f10, f12, p11, f14, p13, v15, f16, v17, v18, v20) := by
  unfold fL_sort fB_sort
  by_cases h1 : isR x1
  · rw [reg_T h1, Option.bind_some, if_neg (by decide), within_w, Option.bind_some]
    by_cases h2 : ¬ x2 < 0 ∧ ¬ (4 : Int32) < x2
    · rw [if_pos h2, if_neg (by decide)]
      by_cases h3 : isR x3
      · rw [reg_T h3, Option.bind_some, if_neg (by decide), reg_F (fun h4 => h ⟨h1, h2, h3, h4⟩)]
        rfl
      · rw [reg_F h3]
        rfl
    · rw [if_neg h2]
      rfl
  · rw [reg_F h1]
    rfl
theorem l_sort_w (hn : 140000 < n) (he : 70 ≤ e) (hfu : e + 2 ≤ fu) (he' : e + 2 ≤ 1000) {k : Nat} (h1 : isR x1) (h2 : x2 = i3 k) (hk : k ≤ 4) (h3 : isR x3) (h4 : isR x4) {a : JT (e + 1)} (ha : At f v 0 (jc (e + 1) a)) (hoa : jok (e + 1) a) (hja : jd (e + 1) a ≤ 60) (hta : (jt (e + 1) a).length ≤ 4096) (hlA : ∀ l, a = ja l → l.length ≤ 2048) {b : JT (e + 1)} (hb : At g u 0 (jc (e + 1) b)) (hob : jok (e + 1) b) (hjb : jd (e + 1) b ≤ 60) (htb : (jt (e + 1) b).length ≤ 4096) (ht : RV t) : ∃ (c : Nat) (t' : TS) (a1 a2 a3 : Nat → Int32) (b1 : Nat) (a4 : Nat → Int32) (b2 : Nat) (a5 : Int32) (r' : RS) (z : Int32), fL_sort fu n x1 x2 x3 x4 f0 v1 v2 f3 v4 v5 t.1 (i3 t.2.1) t.2.2 f9 f10 p11 f12 p13 f14 v15 f16 v17 v18 v19 v20 f (i3 v) o g (i3 u) o' = some (lc c, t'.1, i3 t'.2.1, t'.2.2, a1, a2, a3, b1, a4, b2, a5, r'.1, i3 r'.2.1, r'.2.2, z) ∧ RV t' ∧ KO c r' z (oKeyed k a b) v20 := by
  have h2' : ¬ x2 < 0 ∧ ¬ (4 : Int32) < x2 := by
    rw [h2, show (4 : Int32) = i3 4 from rfl, i3_lt (by omega) (by omega)]
    exact ⟨i3_nn (by omega), by omega⟩
  have hok := oKeyed_ok (k := k) (x := b) hoa
  unfold fL_sort fB_sort
  rw [reg_T h1, Option.bind_some, if_neg (by decide), within_w, Option.bind_some, if_pos h2', if_neg (by decide), reg_T h3, Option.bind_some, if_neg (by decide), reg_T h4, Option.bind_some, if_neg (by decide), dem1, Option.bind_some, if_pos rfl]
  unfold fR_clear
  rw [Option.bind_some, if_neg (reg_i h3).1, if_neg (reg_i h4).1]
  dsimp only
  obtain ⟨c, a1, a2, a3, b1, a4, b2, a5, r', e1, c', r'', e2, hrv, hc⟩ := keyed_op (n := n) (fu := fu) (o := o) (o' := o') (r := (f16, 0, 0)) (f6 := f9) (f7 := f10) (p8 := p11) (f9 := f12) (p10 := p13) (f11 := f14) (v12 := v15) (by omega) (by omega) (by omega) hk ha hoa hb hob hja hjb hlA ⟨by simp, Or.inl rfl⟩
  have e1' : fK_apply fu n x2 f (i3 v) o g (i3 u) o' f9 f10 p11 f12 p13 f14 v15 f16 0 0 = some (i3 c, a1, a2, a3, b1, a4, b2, a5, r'.1, i3 r'.2.1, r'.2.2) := by rw [h2]; exact e1
  have e2' := Option.some.inj e2
  have q1 : i3 c = i3 c' := congrArg (fun x => x.1) e2'
  have q2 : r'.1 = r''.1 := congrArg (fun x => x.2.1) e2'
  have q3 : i3 r'.2.1 = i3 r''.2.1 := congrArg (fun x => x.2.2.1) e2'
  have q4 : r'.2.2 = r''.2.2 := congrArg (fun x => x.2.2.2) e2'
  rw [q1, q2, q3, q4] at e1'
  clear e1 e2 e2' q1 q2 q3 q4
  rw [e1', Option.bind_some]
  dsimp only
  cases hres : oKeyed k a b with
  | inl m =>
    rw [hres] at hc
    obtain ⟨rfl, k1, k2⟩ := hc
    rw [done_k k1 k2]
    exact ⟨2, t, a1, a2, a3, b1, a4, b2, a5, r'', i3 c', rfl, ht, hrv, rfl, rfl, k1, k2⟩
  | inr j =>
    rw [hres] at hc
    obtain ⟨rfl, hw⟩ := hc
    rw [show i3 0 = (0 : Int32) from rfl, done_0, Option.bind_some, if_pos rfl]
    dsimp only
    obtain ⟨t', ht', hks⟩ := keepSpare_w (n := n) (fu := fu) (f0 := f0) (v1 := v1) (v2 := v2) (f3 := f3) (v4 := v4) (v5 := v5) (f9 := a1) (f10 := a2) (p11 := b1) (f12 := a3) (p13 := b2) (f14 := a4) (v15 := a5) (v19 := v19) (v20 := v20) (t := t) hn (by omega) (by omega) h1 ⟨rfl, rfl⟩ (hok j hres) hw
    rcases hks with ⟨g1, g2, g3, g4, g5⟩ | ⟨g1, g2⟩
    · rw [g2]
      exact ⟨0, t', a1, a2, a3, b1, a4, b2, a5, r'', v20, rfl, ht', hrv, rfl, Or.inl ⟨g1, rfl, g3, g4, g5⟩⟩
    · rw [g2]
      exact ⟨1, t', a1, a2, a3, b1, a4, b2, a5, r'', v20, rfl, ht', hrv, rfl, Or.inr ⟨g1, rfl⟩⟩
theorem l_sorta_n (h : ¬ (isR x1 ∧ (¬ x2 < 0 ∧ ¬ (4 : Int32) < x2) ∧ isR x3 ∧ isR x4)) : fL_sorta fu n x1 x2 x3 x4 f0 v1 v2 f3 v4 v5 t.1 (i3 t.2.1) t.2.2 f9 f10 p11 f12 p13 f14 v15 f16 v17 v18 v19 v20 f (i3 v) o = some (1, t.1, i3 t.2.1, t.2.2, f9, f10, f12, p11, f14, p13, v15, f16, v17, v18, v20) := by
  unfold fL_sorta fB_sorta
  by_cases h1 : isR x1
  · rw [reg_T h1, Option.bind_some, if_neg (by decide), within_w, Option.bind_some]
    by_cases h2 : ¬ x2 < 0 ∧ ¬ (4 : Int32) < x2
    · rw [if_pos h2, if_neg (by decide)]
      by_cases h3 : isR x3
      · rw [reg_T h3, Option.bind_some, if_neg (by decide), reg_F (fun h4 => h ⟨h1, h2, h3, h4⟩)]
        rfl
      · rw [reg_F h3]
        rfl
    · rw [if_neg h2]
      rfl
  · rw [reg_F h1]
    rfl
theorem l_sorta_w (hn : 140000 < n) (he : 70 ≤ e) (hfu : e + 2 ≤ fu) (he' : e + 2 ≤ 1000) {k : Nat} (h1 : isR x1) (h2 : x2 = i3 k) (hk : k ≤ 4) (h3 : isR x3) (h4 : isR x4) {a : JT (e + 1)} (ha : At f v 0 (jc (e + 1) a)) (hoa : jok (e + 1) a) (hja : jd (e + 1) a ≤ 60) (hta : (jt (e + 1) a).length ≤ 4096) (hlA : ∀ l, a = ja l → l.length ≤ 2048) (ht : RV t) : ∃ (c : Nat) (t' : TS) (a1 a2 a3 : Nat → Int32) (b1 : Nat) (a4 : Nat → Int32) (b2 : Nat) (a5 : Int32) (r' : RS) (z : Int32), fL_sorta fu n x1 x2 x3 x4 f0 v1 v2 f3 v4 v5 t.1 (i3 t.2.1) t.2.2 f9 f10 p11 f12 p13 f14 v15 f16 v17 v18 v19 v20 f (i3 v) o = some (lc c, t'.1, i3 t'.2.1, t'.2.2, a1, a2, a3, b1, a4, b2, a5, r'.1, i3 r'.2.1, r'.2.2, z) ∧ RV t' ∧ KO c r' z (oKeyed k a a) v20 := by
  have h2' : ¬ x2 < 0 ∧ ¬ (4 : Int32) < x2 := by
    rw [h2, show (4 : Int32) = i3 4 from rfl, i3_lt (by omega) (by omega)]
    exact ⟨i3_nn (by omega), by omega⟩
  have hok := oKeyed_ok (k := k) (x := a) hoa
  unfold fL_sorta fB_sorta
  rw [reg_T h1, Option.bind_some, if_neg (by decide), within_w, Option.bind_some, if_pos h2', if_neg (by decide), reg_T h3, Option.bind_some, if_neg (by decide), reg_T h4, Option.bind_some, if_neg (by decide), dem1, Option.bind_some, if_pos rfl]
  unfold fR_clear
  rw [Option.bind_some, if_neg (reg_i h3).1, if_neg (reg_i h4).1]
  dsimp only
  obtain ⟨c, a1, a2, a3, b1, a4, b2, a5, r', e1, c', r'', e2, hrv, hc⟩ := keyed_op (n := n) (fu := fu) (o := o) (o' := o) (r := (f16, 0, 0)) (f6 := f9) (f7 := f10) (p8 := p11) (f9 := f12) (p10 := p13) (f11 := f14) (v12 := v15) (by omega) (by omega) (by omega) hk ha hoa ha hoa hja hja hlA ⟨by simp, Or.inl rfl⟩
  have e1' : fK_applya fu n x2 f (i3 v) o f9 f10 p11 f12 p13 f14 v15 f16 0 0 = some (i3 c, a1, a2, a3, b1, a4, b2, a5, r'.1, i3 r'.2.1, r'.2.2) := by rw [h2]; rw [al_K_apply]; exact e1
  have e2' := Option.some.inj e2
  have q1 : i3 c = i3 c' := congrArg (fun x => x.1) e2'
  have q2 : r'.1 = r''.1 := congrArg (fun x => x.2.1) e2'
  have q3 : i3 r'.2.1 = i3 r''.2.1 := congrArg (fun x => x.2.2.1) e2'
  have q4 : r'.2.2 = r''.2.2 := congrArg (fun x => x.2.2.2) e2'
  rw [q1, q2, q3, q4] at e1'
  clear e1 e2 e2' q1 q2 q3 q4
  rw [e1', Option.bind_some]
  dsimp only
  cases hres : oKeyed k a a with
  | inl m =>
    rw [hres] at hc
    obtain ⟨rfl, k1, k2⟩ := hc
    rw [done_k k1 k2]
    exact ⟨2, t, a1, a2, a3, b1, a4, b2, a5, r'', i3 c', rfl, ht, hrv, rfl, rfl, k1, k2⟩
  | inr j =>
    rw [hres] at hc
    obtain ⟨rfl, hw⟩ := hc
    rw [show i3 0 = (0 : Int32) from rfl, done_0, Option.bind_some, if_pos rfl]
    dsimp only
    obtain ⟨t', ht', hks⟩ := keepSpare_w (n := n) (fu := fu) (f0 := f0) (v1 := v1) (v2 := v2) (f3 := f3) (v4 := v4) (v5 := v5) (f9 := a1) (f10 := a2) (p11 := b1) (f12 := a3) (p13 := b2) (f14 := a4) (v15 := a5) (v19 := v19) (v20 := v20) (t := t) hn (by omega) (by omega) h1 ⟨rfl, rfl⟩ (hok j hres) hw
    rcases hks with ⟨g1, g2, g3, g4, g5⟩ | ⟨g1, g2⟩
    · rw [g2]
      exact ⟨0, t', a1, a2, a3, b1, a4, b2, a5, r'', v20, rfl, ht', hrv, rfl, Or.inl ⟨g1, rfl, g3, g4, g5⟩⟩
    · rw [g2]
      exact ⟨1, t', a1, a2, a3, b1, a4, b2, a5, r'', v20, rfl, ht', hrv, rfl, Or.inr ⟨g1, rfl⟩⟩
end BL
