section ZLaw43
/-! ===== the bench's calls that make a value ===== -/
def lc (c : Nat) : Int32 := if c = 0 then 0 else if c = 1 then 3 else if c = 2 then 2 else 1
/-- what such a call leaves: code, spare row, reason -/
def KO {d : Nat} (c : Nat) (r' : RS) (z : Int32) (res : Nat ⊕ JT d) (v20 : Int32) : Prop := RV r' ∧ (match res with
  | .inl k => c = 2 ∧ z = i3 k ∧ 1 ≤ k ∧ k ≤ 5
  | .inr j => z = v20 ∧ ((fit j ∧ c = 0 ∧ r'.2.1 = (jc d j).length ∧ r'.2.2 = 0 ∧ At r'.1 r'.2.1 0 (jc d j)) ∨ (¬ fit j ∧ c = 1)))
abbrev isR (x : Int32) : Prop := ¬ x < 0 ∧ ¬ (7 : Int32) < x
section BL
variable {n fu : Nat} {f0 : Nat → Int32} {v1 v2 : Int32} {f3 : Nat → Int32} {v4 v5 : Int32} {f9 f10 f12 f14 : Nat → Int32} {p11 p13 : Nat} {v15 v19 v20 : Int32} {f16 : Nat → Int64} {v17 v18 : Int32} {t : TS} {f g : Nat → Int64} {v u e : Nat} {o o' : Int32} {x1 x2 x3 x4 : Int32}
theorem two_le (j : JT (e + 1)) (hl : (jt (e + 1) j).length ≤ 4096) : (jc (e + 1) j).length ≤ 4096 := by
  have := jc_le_jt _ j
  omega
theorem l_binary_n (h : ¬ (isR x1 ∧ (¬ x2 < 0 ∧ ¬ (4 : Int32) < x2) ∧ isR x3 ∧ isR x4)) : fL_binary fu n x1 x2 x3 x4 f0 v1 v2 f3 v4 v5 t.1 (i3 t.2.1) t.2.2 f9 f10 p11 f12 p13 f14 v15 f16 v17 v18 v19 v20 f (i3 v) o g (i3 u) o' = some (1, t.1, i3 t.2.1, t.2.2, f16, v17, v18, v20) := by
  unfold fL_binary fB_binary
  by_cases h1 : isR x1
  · rw [reg_T h1, Option.bind_some, if_neg (by decide), within_w, Option.bind_some]
    by_cases h2 : ¬ x2 < 0 ∧ ¬ (4 : Int32) < x2
    · rw [if_pos h2, if_neg (by decide)]
      by_cases h3 : isR x3
      · rw [reg_T h3, Option.bind_some, if_neg (by decide), reg_F (fun h4 => h ⟨h1, h2, h3, h4⟩)]
        rfl
      · rw [reg_F h3]
        rfl
    · rw [if_neg h2]
      rfl
  · rw [reg_F h1]
    rfl
theorem l_binary_w (hn : 140000 < n) (he : 70 ≤ e) (hfu : e + 2 ≤ fu) (he' : e + 2 ≤ 1000) {k : Nat} (h1 : isR x1) (h2 : x2 = i3 k) (hk : k ≤ 4) (h3 : isR x3) (h4 : isR x4) {a : JT (e + 2)} (ha : At f v 0 (jc (e + 2) a)) (hoa : jok (e + 2) a) (hja : jd (e + 2) a ≤ 60) (hta : (jt (e + 2) a).length ≤ 4096) {b : JT (e + 2)} (hb : At g u 0 (jc (e + 2) b)) (hob : jok (e + 2) b) (hjb : jd (e + 2) b ≤ 60) (htb : (jt (e + 2) b).length ≤ 4096) (ht : RV t) : ∃ (c : Nat) (t' : TS) (r' : RS) (z : Int32), fL_binary fu n x1 x2 x3 x4 f0 v1 v2 f3 v4 v5 t.1 (i3 t.2.1) t.2.2 f9 f10 p11 f12 p13 f14 v15 f16 v17 v18 v19 v20 f (i3 v) o g (i3 u) o' = some (lc c, t'.1, i3 t'.2.1, t'.2.2, r'.1, i3 r'.2.1, r'.2.2, z) ∧ RV t' ∧ KO c r' z (oBin k a b) v20 := by
  have h2' : ¬ x2 < 0 ∧ ¬ (4 : Int32) < x2 := by
    rw [h2, show (4 : Int32) = i3 4 from rfl, i3_lt (by omega) (by omega)]
    exact ⟨i3_nn (by omega), by omega⟩
  have hok := oBin_ok (op := k) hoa hob
  unfold fL_binary fB_binary
  rw [reg_T h1, Option.bind_some, if_neg (by decide), within_w, Option.bind_some, if_pos h2', if_neg (by decide), reg_T h3, Option.bind_some, if_neg (by decide), reg_T h4, Option.bind_some, if_neg (by decide), dem1, Option.bind_some, if_pos rfl]
  unfold fR_clear
  rw [Option.bind_some, if_neg (reg_i h3).1, if_neg (reg_i h4).1]
  dsimp only
  obtain ⟨c, r', e1, hrv, hc⟩ := binary_w (n := n) (fu := fu) (o := o) (o' := o') (r := (f16, 0, 0)) (by omega) hfu (by omega) hk ha hoa hb hob hja hjb ⟨by simp, Or.inl rfl⟩
  have e1' : fA_apply fu n x2 f (i3 v) o g (i3 u) o' f16 0 0 = some (i3 c, r'.1, i3 r'.2.1, r'.2.2) := by rw [h2]; exact e1
  rw [e1', Option.bind_some]
  dsimp only
  cases hres : oBin k a b with
  | inl m =>
    rw [hres] at hc
    obtain ⟨rfl, k1, k2⟩ := hc
    rw [done_k k1 k2]
    exact ⟨2, t, r', i3 c, rfl, ht, hrv, rfl, rfl, k1, k2⟩
  | inr j =>
    rw [hres] at hc
    obtain ⟨rfl, hw⟩ := hc
    rw [show i3 0 = (0 : Int32) from rfl, done_0, Option.bind_some, if_pos rfl]
    dsimp only
    obtain ⟨t', ht', hks⟩ := keepSpare_w (n := n) (fu := fu) (f0 := f0) (v1 := v1) (v2 := v2) (f3 := f3) (v4 := v4) (v5 := v5) (f9 := f9) (f10 := f10) (p11 := p11) (f12 := f12) (p13 := p13) (f14 := f14) (v15 := v15) (v19 := v19) (v20 := v20) (t := t) hn (by omega) (by omega) h1 ⟨rfl, rfl⟩ (hok j hres) hw
    rcases hks with ⟨g1, g2, g3, g4, g5⟩ | ⟨g1, g2⟩
    · rw [g2]
      exact ⟨0, t', r', v20, rfl, ht', hrv, rfl, Or.inl ⟨g1, rfl, g3, g4, g5⟩⟩
    · rw [g2]
      exact ⟨1, t', r', v20, rfl, ht', hrv, rfl, Or.inr ⟨g1, rfl⟩⟩
theorem l_binarya_n (h : ¬ (isR x1 ∧ (¬ x2 < 0 ∧ ¬ (4 : Int32) < x2) ∧ isR x3 ∧ isR x4)) : fL_binarya fu n x1 x2 x3 x4 f0 v1 v2 f3 v4 v5 t.1 (i3 t.2.1) t.2.2 f9 f10 p11 f12 p13 f14 v15 f16 v17 v18 v19 v20 f (i3 v) o = some (1, t.1, i3 t.2.1, t.2.2, f16, v17, v18, v20) := by
  unfold fL_binarya fB_binarya
  by_cases h1 : isR x1
  · rw [reg_T h1, Option.bind_some, if_neg (by decide), within_w, Option.bind_some]
    by_cases h2 : ¬ x2 < 0 ∧ ¬ (4 : Int32) < x2
    · rw [if_pos h2, if_neg (by decide)]
      by_cases h3 : isR x3
      · rw [reg_T h3, Option.bind_some, if_neg (by decide), reg_F (fun h4 => h ⟨h1, h2, h3, h4⟩)]
        rfl
      · rw [reg_F h3]
        rfl
    · rw [if_neg h2]
      rfl
  · rw [reg_F h1]
    rfl
theorem l_binarya_w (hn : 140000 < n) (he : 70 ≤ e) (hfu : e + 2 ≤ fu) (he' : e + 2 ≤ 1000) {k : Nat} (h1 : isR x1) (h2 : x2 = i3 k) (hk : k ≤ 4) (h3 : isR x3) (h4 : isR x4) {a : JT (e + 2)} (ha : At f v 0 (jc (e + 2) a)) (hoa : jok (e + 2) a) (hja : jd (e + 2) a ≤ 60) (hta : (jt (e + 2) a).length ≤ 4096) (ht : RV t) : ∃ (c : Nat) (t' : TS) (r' : RS) (z : Int32), fL_binarya fu n x1 x2 x3 x4 f0 v1 v2 f3 v4 v5 t.1 (i3 t.2.1) t.2.2 f9 f10 p11 f12 p13 f14 v15 f16 v17 v18 v19 v20 f (i3 v) o = some (lc c, t'.1, i3 t'.2.1, t'.2.2, r'.1, i3 r'.2.1, r'.2.2, z) ∧ RV t' ∧ KO c r' z (oBin k a a) v20 := by
  have h2' : ¬ x2 < 0 ∧ ¬ (4 : Int32) < x2 := by
    rw [h2, show (4 : Int32) = i3 4 from rfl, i3_lt (by omega) (by omega)]
    exact ⟨i3_nn (by omega), by omega⟩
  have hok := oBin_ok (op := k) hoa hoa
  unfold fL_binarya fB_binarya
  rw [reg_T h1, Option.bind_some, if_neg (by decide), within_w, Option.bind_some, if_pos h2', if_neg (by decide), reg_T h3, Option.bind_some, if_neg (by decide), reg_T h4, Option.bind_some, if_neg (by decide), dem1, Option.bind_some, if_pos rfl]
  unfold fR_clear
  rw [Option.bind_some, if_neg (reg_i h3).1, if_neg (reg_i h4).1]
  dsimp only
  obtain ⟨c, r', e1, hrv, hc⟩ := binarya_w (n := n) (fu := fu) (o := o) (r := (f16, 0, 0)) (by omega) hfu (by omega) hk ha hoa hja ⟨by simp, Or.inl rfl⟩
  have e1' : fA_applya fu n x2 f (i3 v) o f16 0 0 = some (i3 c, r'.1, i3 r'.2.1, r'.2.2) := by rw [h2]; exact e1
  rw [e1', Option.bind_some]
  dsimp only
  cases hres : oBin k a a with
  | inl m =>
    rw [hres] at hc
    obtain ⟨rfl, k1, k2⟩ := hc
    rw [done_k k1 k2]
    exact ⟨2, t, r', i3 c, rfl, ht, hrv, rfl, rfl, k1, k2⟩
  | inr j =>
    rw [hres] at hc
    obtain ⟨rfl, hw⟩ := hc
    rw [show i3 0 = (0 : Int32) from rfl, done_0, Option.bind_some, if_pos rfl]
    dsimp only
    obtain ⟨t', ht', hks⟩ := keepSpare_w (n := n) (fu := fu) (f0 := f0) (v1 := v1) (v2 := v2) (f3 := f3) (v4 := v4) (v5 := v5) (f9 := f9) (f10 := f10) (p11 := p11) (f12 := f12) (p13 := p13) (f14 := f14) (v15 := v15) (v19 := v19) (v20 := v20) (t := t) hn (by omega) (by omega) h1 ⟨rfl, rfl⟩ (hok j hres) hw
    rcases hks with ⟨g1, g2, g3, g4, g5⟩ | ⟨g1, g2⟩
    · rw [g2]
      exact ⟨0, t', r', v20, rfl, ht', hrv, rfl, Or.inl ⟨g1, rfl, g3, g4, g5⟩⟩
    · rw [g2]
      exact ⟨1, t', r', v20, rfl, ht', hrv, rfl, Or.inr ⟨g1, rfl⟩⟩
theorem l_two_n (h : ¬ (isR x1 ∧ (¬ x2 < 0 ∧ ¬ (9 : Int32) < x2) ∧ isR x3 ∧ isR x4)) : fL_two fu n x1 x2 x3 x4 f0 v1 v2 f3 v4 v5 t.1 (i3 t.2.1) t.2.2 f9 f10 p11 f12 p13 f14 v15 f16 v17 v18 v19 v20 f (i3 v) o g (i3 u) o' = some (1, t.1, i3 t.2.1, t.2.2, f16, v17, v18, v20) := by
  unfold fL_two fB_two
  by_cases h1 : isR x1
  · rw [reg_T h1, Option.bind_some, if_neg (by decide), within_w, Option.bind_some]
    by_cases h2 : ¬ x2 < 0 ∧ ¬ (9 : Int32) < x2
    · rw [if_pos h2, if_neg (by decide)]
      by_cases h3 : isR x3
      · rw [reg_T h3, Option.bind_some, if_neg (by decide), reg_F (fun h4 => h ⟨h1, h2, h3, h4⟩)]
        rfl
      · rw [reg_F h3]
        rfl
    · rw [if_neg h2]
      rfl
  · rw [reg_F h1]
    rfl
theorem l_two_w (hn : 140000 < n) (he : 70 ≤ e) (hfu : e + 2 ≤ fu) (he' : e + 2 ≤ 1000) {k : Nat} (h1 : isR x1) (h2 : x2 = i3 k) (hk : k ≤ 9) (h3 : isR x3) (h4 : isR x4) {a : JT (e + 2)} (ha : At f v 0 (jc (e + 2) a)) (hoa : jok (e + 2) a) (hja : jd (e + 2) a ≤ 60) (hta : (jt (e + 2) a).length ≤ 4096) {b : JT (e + 2)} (hb : At g u 0 (jc (e + 2) b)) (hob : jok (e + 2) b) (hjb : jd (e + 2) b ≤ 60) (htb : (jt (e + 2) b).length ≤ 4096) {t0 : TS} (ht0 : RV t0) : ∃ (c : Nat) (t' : TS) (r' : RS) (z : Int32), fL_two fu n x1 x2 x3 x4 f0 v1 v2 f3 v4 v5 t0.1 (i3 t0.2.1) t0.2.2 f9 f10 p11 f12 p13 f14 v15 f16 v17 v18 v19 v20 f (i3 v) o g (i3 u) o' = some (lc c, t'.1, i3 t'.2.1, t'.2.2, r'.1, i3 r'.2.1, r'.2.2, z) ∧ RV t' ∧ KO c r' z (oTwo k a b) v20 := by
  have h2' : ¬ x2 < 0 ∧ ¬ (9 : Int32) < x2 := by
    rw [h2, show (9 : Int32) = i3 9 from rfl, i3_lt (by omega) (by omega)]
    exact ⟨i3_nn (by omega), by omega⟩
  have hok := oTwo_ok (k := k) hoa hob (two_le a hta)
  unfold fL_two fB_two
  rw [reg_T h1, Option.bind_some, if_neg (by decide), within_w, Option.bind_some, if_pos h2', if_neg (by decide), reg_T h3, Option.bind_some, if_neg (by decide), reg_T h4, Option.bind_some, if_neg (by decide), dem1, Option.bind_some, if_pos rfl]
  unfold fR_clear
  rw [Option.bind_some, if_neg (reg_i h3).1, if_neg (reg_i h4).1]
  dsimp only
  obtain ⟨c, t, r', e1, ht, c', r'', e2, hrv, hc⟩ := two_op (n := n) (fu := fu) (o := o) (o' := o') (r := (f16, 0, 0)) (by omega) hfu he' hk ha hoa hb hob hja ht0 ⟨by simp, Or.inl rfl⟩
  have e1' : fH_apply fu n x2 f (i3 v) o g (i3 u) o' t0.1 (i3 t0.2.1) t0.2.2 f16 0 0 = some (i3 c, t.1, i3 t.2.1, t.2.2, r'.1, i3 r'.2.1, r'.2.2) := by rw [h2]; exact e1
  have e2' := Option.some.inj e2
  have q1 : i3 c = i3 c' := congrArg (fun x => x.1) e2'
  have q2 : r'.1 = r''.1 := congrArg (fun x => x.2.1) e2'
  have q3 : i3 r'.2.1 = i3 r''.2.1 := congrArg (fun x => x.2.2.1) e2'
  have q4 : r'.2.2 = r''.2.2 := congrArg (fun x => x.2.2.2) e2'
  rw [q1, q2, q3, q4] at e1'
  clear e1 e2 e2' q1 q2 q3 q4
  rw [e1', Option.bind_some]
  dsimp only
  cases hres : oTwo k a b with
  | inl m =>
    rw [hres] at hc
    obtain ⟨rfl, k1, k2⟩ := hc
    rw [done_k k1 k2]
    exact ⟨2, t, r'', i3 c', rfl, ht, hrv, rfl, rfl, k1, k2⟩
  | inr j =>
    rw [hres] at hc
    obtain ⟨rfl, hw⟩ := hc
    rw [show i3 0 = (0 : Int32) from rfl, done_0, Option.bind_some, if_pos rfl]
    dsimp only
    obtain ⟨t', ht', hks⟩ := keepSpare_w (n := n) (fu := fu) (f0 := f0) (v1 := v1) (v2 := v2) (f3 := f3) (v4 := v4) (v5 := v5) (f9 := f9) (f10 := f10) (p11 := p11) (f12 := f12) (p13 := p13) (f14 := f14) (v15 := v15) (v19 := v19) (v20 := v20) (t := t) hn (by omega) (by omega) h1 ⟨rfl, rfl⟩ (hok j hres) hw
    rcases hks with ⟨g1, g2, g3, g4, g5⟩ | ⟨g1, g2⟩
    · rw [g2]
      exact ⟨0, t', r'', v20, rfl, ht', hrv, rfl, Or.inl ⟨g1, rfl, g3, g4, g5⟩⟩
    · rw [g2]
      exact ⟨1, t', r'', v20, rfl, ht', hrv, rfl, Or.inr ⟨g1, rfl⟩⟩
theorem l_twoa_n (h : ¬ (isR x1 ∧ (¬ x2 < 0 ∧ ¬ (9 : Int32) < x2) ∧ isR x3 ∧ isR x4)) : fL_twoa fu n x1 x2 x3 x4 f0 v1 v2 f3 v4 v5 t.1 (i3 t.2.1) t.2.2 f9 f10 p11 f12 p13 f14 v15 f16 v17 v18 v19 v20 f (i3 v) o = some (1, t.1, i3 t.2.1, t.2.2, f16, v17, v18, v20) := by
  unfold fL_twoa fB_twoa
  by_cases h1 : isR x1
  · rw [reg_T h1, Option.bind_some, if_neg (by decide), within_w, Option.bind_some]
    by_cases h2 : ¬ x2 < 0 ∧ ¬ (9 : Int32) < x2
    · rw [if_pos h2, if_neg (by decide)]
      by_cases h3 : isR x3
      · rw [reg_T h3, Option.bind_some, if_neg (by decide), reg_F (fun h4 => h ⟨h1, h2, h3, h4⟩)]
        rfl
      · rw [reg_F h3]
        rfl
    · rw [if_neg h2]
      rfl
  · rw [reg_F h1]
    rfl
theorem l_twoa_w (hn : 140000 < n) (he : 70 ≤ e) (hfu : e + 2 ≤ fu) (he' : e + 2 ≤ 1000) {k : Nat} (h1 : isR x1) (h2 : x2 = i3 k) (hk : k ≤ 9) (h3 : isR x3) (h4 : isR x4) {a : JT (e + 2)} (ha : At f v 0 (jc (e + 2) a)) (hoa : jok (e + 2) a) (hja : jd (e + 2) a ≤ 60) (hta : (jt (e + 2) a).length ≤ 4096) {t0 : TS} (ht0 : RV t0) : ∃ (c : Nat) (t' : TS) (r' : RS) (z : Int32), fL_twoa fu n x1 x2 x3 x4 f0 v1 v2 f3 v4 v5 t0.1 (i3 t0.2.1) t0.2.2 f9 f10 p11 f12 p13 f14 v15 f16 v17 v18 v19 v20 f (i3 v) o = some (lc c, t'.1, i3 t'.2.1, t'.2.2, r'.1, i3 r'.2.1, r'.2.2, z) ∧ RV t' ∧ KO c r' z (oTwo k a a) v20 := by
  have h2' : ¬ x2 < 0 ∧ ¬ (9 : Int32) < x2 := by
    rw [h2, show (9 : Int32) = i3 9 from rfl, i3_lt (by omega) (by omega)]
    exact ⟨i3_nn (by omega), by omega⟩
  have hok := oTwo_ok (k := k) hoa hoa (two_le a hta)
  unfold fL_twoa fB_twoa
  rw [reg_T h1, Option.bind_some, if_neg (by decide), within_w, Option.bind_some, if_pos h2', if_neg (by decide), reg_T h3, Option.bind_some, if_neg (by decide), reg_T h4, Option.bind_some, if_neg (by decide), dem1, Option.bind_some, if_pos rfl]
  unfold fR_clear
  rw [Option.bind_some, if_neg (reg_i h3).1, if_neg (reg_i h4).1]
  dsimp only
  obtain ⟨c, t, r', e1, ht, c', r'', e2, hrv, hc⟩ := two_op (n := n) (fu := fu) (o := o) (o' := o) (r := (f16, 0, 0)) (by omega) hfu he' hk ha hoa ha hoa hja ht0 ⟨by simp, Or.inl rfl⟩
  have e1' : fH_applya fu n x2 f (i3 v) o t0.1 (i3 t0.2.1) t0.2.2 f16 0 0 = some (i3 c, t.1, i3 t.2.1, t.2.2, r'.1, i3 r'.2.1, r'.2.2) := by rw [h2]; rw [al_H_apply]; exact e1
  have e2' := Option.some.inj e2
  have q1 : i3 c = i3 c' := congrArg (fun x => x.1) e2'
  have q2 : r'.1 = r''.1 := congrArg (fun x => x.2.1) e2'
  have q3 : i3 r'.2.1 = i3 r''.2.1 := congrArg (fun x => x.2.2.1) e2'
  have q4 : r'.2.2 = r''.2.2 := congrArg (fun x => x.2.2.2) e2'
  rw [q1, q2, q3, q4] at e1'
  clear e1 e2 e2' q1 q2 q3 q4
  rw [e1', Option.bind_some]
  dsimp only
  cases hres : oTwo k a a with
  | inl m =>
    rw [hres] at hc
    obtain ⟨rfl, k1, k2⟩ := hc
    rw [done_k k1 k2]
    exact ⟨2, t, r'', i3 c', rfl, ht, hrv, rfl, rfl, k1, k2⟩
  | inr j =>
    rw [hres] at hc
    obtain ⟨rfl, hw⟩ := hc
    rw [show i3 0 = (0 : Int32) from rfl, done_0, Option.bind_some, if_pos rfl]
    dsimp only
    obtain ⟨t', ht', hks⟩ := keepSpare_w (n := n) (fu := fu) (f0 := f0) (v1 := v1) (v2 := v2) (f3 := f3) (v4 := v4) (v5 := v5) (f9 := f9) (f10 := f10) (p11 := p11) (f12 := f12) (p13 := p13) (f14 := f14) (v15 := v15) (v19 := v19) (v20 := v20) (t := t) hn (by omega) (by omega) h1 ⟨rfl, rfl⟩ (hok j hres) hw
    rcases hks with ⟨g1, g2, g3, g4, g5⟩ | ⟨g1, g2⟩
    · rw [g2]
      exact ⟨0, t', r'', v20, rfl, ht', hrv, rfl, Or.inl ⟨g1, rfl, g3, g4, g5⟩⟩
    · rw [g2]
      exact ⟨1, t', r'', v20, rfl, ht', hrv, rfl, Or.inr ⟨g1, rfl⟩⟩
theorem l_one_n (h : ¬ (isR x1 ∧ (¬ x2 < 0 ∧ ¬ (13 : Int32) < x2) ∧ isR x3)) : fL_one fu n x1 x2 x3 f0 v1 v2 f3 v4 v5 t.1 (i3 t.2.1) t.2.2 f9 f10 p11 f12 p13 f14 v15 f16 v17 v18 v19 v20 f (i3 v) o = some (1, t.1, i3 t.2.1, t.2.2, f9, f12, p11, f14, p13, v15, f16, v17, v18, v20) := by
  unfold fL_one fB_one
  by_cases h1 : isR x1
  · rw [reg_T h1, Option.bind_some, if_neg (by decide), within_w, Option.bind_some]
    by_cases h2 : ¬ x2 < 0 ∧ ¬ (13 : Int32) < x2
    · rw [if_pos h2, if_neg (by decide)]
      by_cases h3 : isR x3
      · exact absurd ⟨h1, h2, h3⟩ h
      · rw [reg_F h3]
        rfl
    · rw [if_neg h2]
      rfl
  · rw [reg_F h1]
    rfl
theorem l_one_w (hn : 140000 < n) (he : 70 ≤ e) (hfu : e + 2 ≤ fu) (he' : e + 2 ≤ 1000) {k : Nat} (h1 : isR x1) (h2 : x2 = i3 k) (hk : k ≤ 13) (h3 : isR x3) {a : JT (e + 2)} (ha : At f v 0 (jc (e + 2) a)) (hoa : jok (e + 2) a) (hja : jd (e + 2) a ≤ 60) (hta : (jt (e + 2) a).length ≤ 4096) (hlA : ∀ l, a = ja l → l.length ≤ 2048) (hlO : ∀ l, a = jo l → l.length ≤ 2048) {t0 : TS} (ht0 : RV t0) : ∃ (c : Nat) (t' : TS) (a1 a2 : Nat → Int32) (b1 : Nat) (a3 : Nat → Int32) (b2 : Nat) (a4 : Int32) (r' : RS) (z : Int32), fL_one fu n x1 x2 x3 f0 v1 v2 f3 v4 v5 t0.1 (i3 t0.2.1) t0.2.2 f9 f10 p11 f12 p13 f14 v15 f16 v17 v18 v19 v20 f (i3 v) o = some (lc c, t'.1, i3 t'.2.1, t'.2.2, a1, a2, b1, a3, b2, a4, r'.1, i3 r'.2.1, r'.2.2, z) ∧ RV t' ∧ KO c r' z (oOne k a) v20 := by
  have h2' : ¬ x2 < 0 ∧ ¬ (13 : Int32) < x2 := by
    rw [h2, show (13 : Int32) = i3 13 from rfl, i3_lt (by omega) (by omega)]
    exact ⟨i3_nn (by omega), by omega⟩
  have hok := oOne_ok (k := k) (by omega) hoa (two_le a hta)
  unfold fL_one fB_one
  rw [reg_T h1, Option.bind_some, if_neg (by decide), within_w, Option.bind_some, if_pos h2', if_neg (by decide), reg_T h3, Option.bind_some, if_neg (by decide), dem1, Option.bind_some, if_pos rfl]
  unfold fR_clear
  rw [Option.bind_some, if_neg (reg_i h3).1]
  dsimp only
  obtain ⟨c, t, a1, a2, b1, a3, b2, a4, r', e1, ht, c', r'', e2, hrv, hc⟩ := one_op (n := n) (fu := fu) (o := o) (r := (f16, 0, 0)) (f6 := f9) (f7 := f10) (p8 := p11) (f9 := f12) (p10 := p13) (f11 := f14) (v12 := v15) (by omega) hfu (by omega) he' hk ha hoa hja hlA hlO ht0 ⟨by simp, Or.inl rfl⟩ ⟨rfl, rfl⟩
  have e1' : fG_apply fu n x2 f (i3 v) o t0.1 (i3 t0.2.1) t0.2.2 f9 f10 p11 f12 p13 f14 v15 f16 0 0 = some (i3 c, t.1, i3 t.2.1, t.2.2, a1, a2, b1, a3, b2, a4, r'.1, i3 r'.2.1, r'.2.2) := by rw [h2]; exact e1
  have e2' := Option.some.inj e2
  have q1 : i3 c = i3 c' := congrArg (fun x => x.1) e2'
  have q2 : r'.1 = r''.1 := congrArg (fun x => x.2.1) e2'
  have q3 : i3 r'.2.1 = i3 r''.2.1 := congrArg (fun x => x.2.2.1) e2'
  have q4 : r'.2.2 = r''.2.2 := congrArg (fun x => x.2.2.2) e2'
  rw [q1, q2, q3, q4] at e1'
  clear e1 e2 e2' q1 q2 q3 q4
  rw [e1', Option.bind_some]
  dsimp only
  cases hres : oOne k a with
  | inl m =>
    rw [hres] at hc
    obtain ⟨rfl, k1, k2⟩ := hc
    rw [done_k k1 k2]
    exact ⟨2, t, a1, a2, b1, a3, b2, a4, r'', i3 c', rfl, ht, hrv, rfl, rfl, k1, k2⟩
  | inr j =>
    rw [hres] at hc
    obtain ⟨rfl, hw⟩ := hc
    rw [show i3 0 = (0 : Int32) from rfl, done_0, Option.bind_some, if_pos rfl]
    dsimp only
    obtain ⟨t', ht', hks⟩ := keepSpare_w (n := n) (fu := fu) (f0 := f0) (v1 := v1) (v2 := v2) (f3 := f3) (v4 := v4) (v5 := v5) (f9 := a1) (f10 := f10) (p11 := b1) (f12 := a2) (p13 := b2) (f14 := a3) (v15 := a4) (v19 := v19) (v20 := v20) (t := t) hn (by omega) (by omega) h1 ⟨rfl, rfl⟩ (hok j hres) hw
    rcases hks with ⟨g1, g2, g3, g4, g5⟩ | ⟨g1, g2⟩
    · rw [g2]
      exact ⟨0, t', a1, a2, b1, a3, b2, a4, r'', v20, rfl, ht', hrv, rfl, Or.inl ⟨g1, rfl, g3, g4, g5⟩⟩
    · rw [g2]
      exact ⟨1, t', a1, a2, b1, a3, b2, a4, r'', v20, rfl, ht', hrv, rfl, Or.inr ⟨g1, rfl⟩⟩
theorem l_sort_n (h : ¬ (isR x1 ∧ (¬ x2 < 0 ∧ ¬ (4 : Int32) < x2) ∧ isR x3 ∧ isR x4)) : fL_sort fu n x1 x2 x3 x4 f0 v1 v2 f3 v4 v5 t.1 (i3 t.2.1) t.2.2 f9 f10 p11 f12 p13 f14 v15 f16 v17 v18 v19 v20 f (i3 v) o g (i3 u) o' = some (1, t.1, i3 t.2.1, t.2.2, f9, f10, f12, p11, f14, p13, v15, f16, v17, v18, v20) := by
  unfold fL_sort fB_sort
  by_cases h1 : isR x1
  · rw [reg_T h1, Option.bind_some, if_neg (by decide), within_w, Option.bind_some]
    by_cases h2 : ¬ x2 < 0 ∧ ¬ (4 : Int32) < x2
    · rw [if_pos h2, if_neg (by decide)]
      by_cases h3 : isR x3
      · rw [reg_T h3, Option.bind_some, if_neg (by decide), reg_F (fun h4 => h ⟨h1, h2, h3, h4⟩)]
        rfl
      · rw [reg_F h3]
        rfl
    · rw [if_neg h2]
      rfl
  · rw [reg_F h1]
    rfl
theorem l_sort_w (hn : 140000 < n) (he : 70 ≤ e) (hfu : e + 2 ≤ fu) (he' : e + 2 ≤ 1000) {k : Nat} (h1 : isR x1) (h2 : x2 = i3 k) (hk : k ≤ 4) (h3 : isR x3) (h4 : isR x4) {a : JT (e + 1)} (ha : At f v 0 (jc (e + 1) a)) (hoa : jok (e + 1) a) (hja : jd (e + 1) a ≤ 60) (hta : (jt (e + 1) a).length ≤ 4096) (hlA : ∀ l, a = ja l → l.length ≤ 2048) {b : JT (e + 1)} (hb : At g u 0 (jc (e + 1) b)) (hob : jok (e + 1) b) (hjb : jd (e + 1) b ≤ 60) (htb : (jt (e + 1) b).length ≤ 4096) (ht : RV t) : ∃ (c : Nat) (t' : TS) (a1 a2 a3 : Nat → Int32) (b1 : Nat) (a4 : Nat → Int32) (b2 : Nat) (a5 : Int32) (r' : RS) (z : Int32), fL_sort fu n x1 x2 x3 x4 f0 v1 v2 f3 v4 v5 t.1 (i3 t.2.1) t.2.2 f9 f10 p11 f12 p13 f14 v15 f16 v17 v18 v19 v20 f (i3 v) o g (i3 u) o' = some (lc c, t'.1, i3 t'.2.1, t'.2.2, a1, a2, a3, b1, a4, b2, a5, r'.1, i3 r'.2.1, r'.2.2, z) ∧ RV t' ∧ KO c r' z (oKeyed k a b) v20 := by
  have h2' : ¬ x2 < 0 ∧ ¬ (4 : Int32) < x2 := by
    rw [h2, show (4 : Int32) = i3 4 from rfl, i3_lt (by omega) (by omega)]
    exact ⟨i3_nn (by omega), by omega⟩
  have hok := oKeyed_ok (k := k) (x := b) hoa
  unfold fL_sort fB_sort
  rw [reg_T h1, Option.bind_some, if_neg (by decide), within_w, Option.bind_some, if_pos h2', if_neg (by decide), reg_T h3, Option.bind_some, if_neg (by decide), reg_T h4, Option.bind_some, if_neg (by decide), dem1, Option.bind_some, if_pos rfl]
  unfold fR_clear
  rw [Option.bind_some, if_neg (reg_i h3).1, if_neg (reg_i h4).1]
  dsimp only
  obtain ⟨c, a1, a2, a3, b1, a4, b2, a5, r', e1, c', r'', e2, hrv, hc⟩ := keyed_op (n := n) (fu := fu) (o := o) (o' := o') (r := (f16, 0, 0)) (f6 := f9) (f7 := f10) (p8 := p11) (f9 := f12) (p10 := p13) (f11 := f14) (v12 := v15) (by omega) (by omega) (by omega) hk ha hoa hb hob hja hjb hlA ⟨by simp, Or.inl rfl⟩
  have e1' : fK_apply fu n x2 f (i3 v) o g (i3 u) o' f9 f10 p11 f12 p13 f14 v15 f16 0 0 = some (i3 c, a1, a2, a3, b1, a4, b2, a5, r'.1, i3 r'.2.1, r'.2.2) := by rw [h2]; exact e1
  have e2' := Option.some.inj e2
  have q1 : i3 c = i3 c' := congrArg (fun x => x.1) e2'
  have q2 : r'.1 = r''.1 := congrArg (fun x => x.2.1) e2'
  have q3 : i3 r'.2.1 = i3 r''.2.1 := congrArg (fun x => x.2.2.1) e2'
  have q4 : r'.2.2 = r''.2.2 := congrArg (fun x => x.2.2.2) e2'
  rw [q1, q2, q3, q4] at e1'
  clear e1 e2 e2' q1 q2 q3 q4
  rw [e1', Option.bind_some]
  dsimp only
  cases hres : oKeyed k a b with
  | inl m =>
    rw [hres] at hc
    obtain ⟨rfl, k1, k2⟩ := hc
    rw [done_k k1 k2]
    exact ⟨2, t, a1, a2, a3, b1, a4, b2, a5, r'', i3 c', rfl, ht, hrv, rfl, rfl, k1, k2⟩
  | inr j =>
    rw [hres] at hc
    obtain ⟨rfl, hw⟩ := hc
    rw [show i3 0 = (0 : Int32) from rfl, done_0, Option.bind_some, if_pos rfl]
    dsimp only
    obtain ⟨t', ht', hks⟩ := keepSpare_w (n := n) (fu := fu) (f0 := f0) (v1 := v1) (v2 := v2) (f3 := f3) (v4 := v4) (v5 := v5) (f9 := a1) (f10 := a2) (p11 := b1) (f12 := a3) (p13 := b2) (f14 := a4) (v15 := a5) (v19 := v19) (v20 := v20) (t := t) hn (by omega) (by omega) h1 ⟨rfl, rfl⟩ (hok j hres) hw
    rcases hks with ⟨g1, g2, g3, g4, g5⟩ | ⟨g1, g2⟩
    · rw [g2]
      exact ⟨0, t', a1, a2, a3, b1, a4, b2, a5, r'', v20, rfl, ht', hrv, rfl, Or.inl ⟨g1, rfl, g3, g4, g5⟩⟩
    · rw [g2]
      exact ⟨1, t', a1, a2, a3, b1, a4, b2, a5, r'', v20, rfl, ht', hrv, rfl, Or.inr ⟨g1, rfl⟩⟩
theorem l_sorta_n (h : ¬ (isR x1 ∧ (¬ x2 < 0 ∧ ¬ (4 : Int32) < x2) ∧ isR x3 ∧ isR x4)) : fL_sorta fu n x1 x2 x3 x4 f0 v1 v2 f3 v4 v5 t.1 (i3 t.2.1) t.2.2 f9 f10 p11 f12 p13 f14 v15 f16 v17 v18 v19 v20 f (i3 v) o = some (1, t.1, i3 t.2.1, t.2.2, f9, f10, f12, p11, f14, p13, v15, f16, v17, v18, v20) := by
  unfold fL_sorta fB_sorta
  by_cases h1 : isR x1
  · rw [reg_T h1, Option.bind_some, if_neg (by decide), within_w, Option.bind_some]
    by_cases h2 : ¬ x2 < 0 ∧ ¬ (4 : Int32) < x2
    · rw [if_pos h2, if_neg (by decide)]
      by_cases h3 : isR x3
      · rw [reg_T h3, Option.bind_some, if_neg (by decide), reg_F (fun h4 => h ⟨h1, h2, h3, h4⟩)]
        rfl
      · rw [reg_F h3]
        rfl
    · rw [if_neg h2]
      rfl
  · rw [reg_F h1]
    rfl
theorem l_sorta_w (hn : 140000 < n) (he : 70 ≤ e) (hfu : e + 2 ≤ fu) (he' : e + 2 ≤ 1000) {k : Nat} (h1 : isR x1) (h2 : x2 = i3 k) (hk : k ≤ 4) (h3 : isR x3) (h4 : isR x4) {a : JT (e + 1)} (ha : At f v 0 (jc (e + 1) a)) (hoa : jok (e + 1) a) (hja : jd (e + 1) a ≤ 60) (hta : (jt (e + 1) a).length ≤ 4096) (hlA : ∀ l, a = ja l → l.length ≤ 2048) (ht : RV t) : ∃ (c : Nat) (t' : TS) (a1 a2 a3 : Nat → Int32) (b1 : Nat) (a4 : Nat → Int32) (b2 : Nat) (a5 : Int32) (r' : RS) (z : Int32), fL_sorta fu n x1 x2 x3 x4 f0 v1 v2 f3 v4 v5 t.1 (i3 t.2.1) t.2.2 f9 f10 p11 f12 p13 f14 v15 f16 v17 v18 v19 v20 f (i3 v) o = some (lc c, t'.1, i3 t'.2.1, t'.2.2, a1, a2, a3, b1, a4, b2, a5, r'.1, i3 r'.2.1, r'.2.2, z) ∧ RV t' ∧ KO c r' z (oKeyed k a a) v20 := by
  have h2' : ¬ x2 < 0 ∧ ¬ (4 : Int32) < x2 := by
    rw [h2, show (4 : Int32) = i3 4 from rfl, i3_lt (by omega) (by omega)]
    exact ⟨i3_nn (by omega), by omega⟩
  have hok := oKeyed_ok (k := k) (x := a) hoa
  unfold fL_sorta fB_sorta
  rw [reg_T h1, Option.bind_some, if_neg (by decide), within_w, Option.bind_some, if_pos h2', if_neg (by decide), reg_T h3, Option.bind_some, if_neg (by decide), reg_T h4, Option.bind_some, if_neg (by decide), dem1, Option.bind_some, if_pos rfl]
  unfold fR_clear
  rw [Option.bind_some, if_neg (reg_i h3).1, if_neg (reg_i h4).1]
  dsimp only
  obtain ⟨c, a1, a2, a3, b1, a4, b2, a5, r', e1, c', r'', e2, hrv, hc⟩ := keyed_op (n := n) (fu := fu) (o := o) (o' := o) (r := (f16, 0, 0)) (f6 := f9) (f7 := f10) (p8 := p11) (f9 := f12) (p10 := p13) (f11 := f14) (v12 := v15) (by omega) (by omega) (by omega) hk ha hoa ha hoa hja hja hlA ⟨by simp, Or.inl rfl⟩
  have e1' : fK_applya fu n x2 f (i3 v) o f9 f10 p11 f12 p13 f14 v15 f16 0 0 = some (i3 c, a1, a2, a3, b1, a4, b2, a5, r'.1, i3 r'.2.1, r'.2.2) := by rw [h2]; rw [al_K_apply]; exact e1
  have e2' := Option.some.inj e2
  have q1 : i3 c = i3 c' := congrArg (fun x => x.1) e2'
  have q2 : r'.1 = r''.1 := congrArg (fun x => x.2.1) e2'
  have q3 : i3 r'.2.1 = i3 r''.2.1 := congrArg (fun x => x.2.2.1) e2'
  have q4 : r'.2.2 = r''.2.2 := congrArg (fun x => x.2.2.2) e2'
  rw [q1, q2, q3, q4] at e1'
  clear e1 e2 e2' q1 q2 q3 q4
  rw [e1', Option.bind_some]
  dsimp only
  cases hres : oKeyed k a a with
  | inl m =>
    rw [hres] at hc
    obtain ⟨rfl, k1, k2⟩ := hc
    rw [done_k k1 k2]
    exact ⟨2, t, a1, a2, a3, b1, a4, b2, a5, r'', i3 c', rfl, ht, hrv, rfl, rfl, k1, k2⟩
  | inr j =>
    rw [hres] at hc
    obtain ⟨rfl, hw⟩ := hc
    rw [show i3 0 = (0 : Int32) from rfl, done_0, Option.bind_some, if_pos rfl]
    dsimp only
    obtain ⟨t', ht', hks⟩ := keepSpare_w (n := n) (fu := fu) (f0 := f0) (v1 := v1) (v2 := v2) (f3 := f3) (v4 := v4) (v5 := v5) (f9 := a1) (f10 := a2) (p11 := b1) (f12 := a3) (p13 := b2) (f14 := a4) (v15 := a5) (v19 := v19) (v20 := v20) (t := t) hn (by omega) (by omega) h1 ⟨rfl, rfl⟩ (hok j hres) hw
    rcases hks with ⟨g1, g2, g3, g4, g5⟩ | ⟨g1, g2⟩
    · rw [g2]
      exact ⟨0, t', a1, a2, a3, b1, a4, b2, a5, r'', v20, rfl, ht', hrv, rfl, Or.inl ⟨g1, rfl, g3, g4, g5⟩⟩
    · rw [g2]
      exact ⟨1, t', a1, a2, a3, b1, a4, b2, a5, r'', v20, rfl, ht', hrv, rfl, Or.inr ⟨g1, rfl⟩⟩
end BL
end ZLaw43
section ZLawb44
/-! ===== the bench's other calls ===== -/
def by4 (x : Int32) : List Nat := [((x >>> ((24 : Int32) &&& 31)).toInt % 256).toNat, ((x >>> ((16 : Int32) &&& 31)).toInt % 256).toNat, ((x >>> ((8 : Int32) &&& 31)).toInt % 256).toNat, ((x >>> ((0 : Int32) &&& 31)).toInt % 256).toNat]
theorem by4_lt (x : Int32) : ∀ c ∈ by4 x, c < 256 := by
  intro c hc
  unfold by4 at hc
  simp only [List.mem_cons, List.not_mem_nil, or_false] at hc
  rcases hc with rfl | rfl | rfl | rfl <;> omega
theorem by4_len (x : Int32) : (by4 x).length = 4 := rfl
section BM
variable {n fu : Nat}
theorem addInt_w {t : TS} (ht : RV t) (hn : 6 < n) (x : Int32) : ∃ t' : TS, fT_addInt n x t.1 (i3 t.2.1) t.2.2 = some (t'.1, i3 t'.2.1, t'.2.2) ∧ Wr t ((by4 x).map sb) t' := by
  obtain ⟨n, rfl⟩ : ∃ j, n = j + 5 := ⟨n - 5, by omega⟩
  obtain ⟨t1, e1, w1⟩ := add_x (n := n + 4) ht (x >>> ((24 : Int32) &&& 31))
  obtain ⟨t2, e2, w2⟩ := add_x (n := n + 3) w1.v (x >>> ((16 : Int32) &&& 31))
  obtain ⟨t3, e3, w3⟩ := add_x (n := n + 2) w2.v (x >>> ((8 : Int32) &&& 31))
  obtain ⟨t4, e4, w4⟩ := add_x (n := n + 1) w3.v (x >>> ((0 : Int32) &&& 31))
  refine ⟨t4, ?_, ((w1.app w2).app w3).app w4⟩
  unfold fT_addInt
  rw [fT_addInt_b, if_neg (by decide), e1, Option.bind_some]
  dsimp only
  rw [show (24 : Int32) + -8 = 16 by decide, fT_addInt_b, if_neg (by decide), e2, Option.bind_some]
  dsimp only
  rw [show (16 : Int32) + -8 = 8 by decide, fT_addInt_b, if_neg (by decide), e3, Option.bind_some]
  dsimp only
  rw [show (8 : Int32) + -8 = 0 by decide, fT_addInt_b, if_neg (by decide), e4, Option.bind_some]
  dsimp only
  rw [show (0 : Int32) + -8 = -8 by decide, fT_addInt_b, if_pos (by decide)]
/-- the tape holds these bytes -/
def TP (t : TS) (src : List Nat) : Prop := TSrc t src ∧ t.2.2 = 0
theorem TP.rv {t : TS} {src : List Nat} (h : TP t src) : RV t := ⟨h.1.2.2.2, Or.inl h.2⟩
theorem TP.add {t t' : TS} {src w : List Nat} (h : TP t src) (hw : Wr t (w.map sb) t') (hl : src.length + w.length ≤ 4096) (hc : ∀ c ∈ w, c < 256) : TP t' (src ++ w) := by
  obtain ⟨⟨h1, h2, h3, h4⟩, h5⟩ := h
  have hz := hw.fits h5 (by rw [List.length_map]; omega)
  obtain ⟨z1, _, z3⟩ := hw.end0 hz
  rw [List.length_map] at z1
  refine ⟨⟨fun c hc' => ?_, ?_, by rw [List.length_append]; omega, z3⟩, hz⟩
  · rcases List.mem_append.mp hc' with hc' | hc'
    · exact h1 c hc'
    · exact hc c hc'
  · rcases hw.2 with ⟨_, _, _, _, g1, g2⟩ | ⟨_, g⟩
    · rw [List.map_append]
      refine seg_app.mpr ⟨seg_of h2 (fun i hi => ?_), ?_⟩
      · rw [List.length_map] at hi
        exact g1 _ (by omega)
      · rw [List.length_map, Nat.zero_add, h3]
        exact g2
    · rw [hz] at g
      exact absurd g (by decide)
variable {f3 : Nat → Int32} {v4 v5 : Int32} {f6 : Nat → Int32} {v7 v8 : Int32} {f9 f10 f12 f14 : Nat → Int32} {p11 p13 : Nat} {v15 v19 v20 : Int32} {f16 : Nat → Int64} {v17 v18 : Int32} {ov : Nat → Int64} {t : TS} {src : List Nat}
theorem l_feed_w (hn : 6 < n) (h : TP t src) (x1 x2 x3 x4 x5 : Int32) : ∃ t' : TS, fL_feed n x1 x2 x3 x4 x5 t.1 (i3 t.2.1) t.2.2 f3 v4 v5 f6 v7 v8 f9 f10 p11 f12 p13 f14 v15 f16 v17 v18 v19 v20 ov = some (if src.length + 20 ≤ 4096 then (0, t'.1, i3 t'.2.1, t'.2.2, vp_updL ov 0 (i3 (src.length + 20)).toInt64) else (1, t.1, i3 t.2.1, t.2.2, ov)) ∧ (src.length + 20 ≤ 4096 → TP t' (src ++ (by4 x1 ++ by4 x2 ++ by4 x3 ++ by4 x4 ++ by4 x5))) := by
  have hl : src.length = t.2.1 := h.1.2.2.1
  have h4 := h.1.2.2.2
  unfold fL_feed fB_feed
  rw [show fT_size n t.1 (i3 t.2.1) t.2.2 = some (i3 t.2.1) from rfl, Option.bind_some]
  by_cases hc : src.length + 20 ≤ 4096
  · rw [if_pos (by rw [show (20 : Int32) = i3 20 from rfl, i3_add, show (4096 : Int32) = i3 4096 from rfl, i3_le (by omega) (by omega)]; omega)]
    obtain ⟨t1, e1, w1⟩ := addInt_w (n := n) h.rv hn x1
    obtain ⟨t2, e2, w2⟩ := addInt_w (n := n) w1.v hn x2
    obtain ⟨t3, e3, w3⟩ := addInt_w (n := n) w2.v hn x3
    obtain ⟨t4, e4, w4⟩ := addInt_w (n := n) w3.v hn x4
    obtain ⟨t5, e5, w5⟩ := addInt_w (n := n) w4.v hn x5
    have hw := (((w1.app w2).app w3).app w4).app w5
    rw [← List.map_append, ← List.map_append, ← List.map_append, ← List.map_append] at hw
    have hT := h.add hw (by simp only [List.length_append, by4_len]; omega) (fun c hc => by
      rcases List.mem_append.mp hc with hc | hc
      · rcases List.mem_append.mp hc with hc | hc
        · rcases List.mem_append.mp hc with hc | hc
          · rcases List.mem_append.mp hc with hc | hc
            · exact by4_lt _ c hc
            · exact by4_lt _ c hc
          · exact by4_lt _ c hc
        · exact by4_lt _ c hc
      · exact by4_lt _ c hc)
    refine ⟨t5, ?_, fun _ => hT⟩
    rw [if_pos hc, e1, Option.bind_some]
    dsimp only
    rw [e2, Option.bind_some]
    dsimp only
    rw [e3, Option.bind_some]
    dsimp only
    rw [e4, Option.bind_some]
    dsimp only
    rw [e5, Option.bind_some]
    dsimp only
    have hz : t5.2.1 = src.length + 20 := by
      rw [← hT.1.2.2.1]
      simp only [List.length_append, by4_len]
    rw [show fT_size n t5.1 (i3 t5.2.1) t5.2.2 = some (i3 t5.2.1) from rfl, Option.bind_some, Option.bind_some, if_pos rfl, ← hz]
  · rw [if_neg (by rw [show (20 : Int32) = i3 20 from rfl, i3_add, show (4096 : Int32) = i3 4096 from rfl, i3_le (by omega) (by omega)]; omega)]
    exact ⟨t, by rw [if_neg hc]; rfl, fun h => absurd h hc⟩
theorem l_end_w (h : TP t src) (x : Int32) : (∀ k, x = i3 k → k ≤ src.length → fL_end n x t.1 (i3 t.2.1) t.2.2 f3 v4 v5 f6 v7 v8 f9 f10 p11 f12 p13 f14 v15 f16 v17 v18 v19 v20 ov = some (0, i3 k, vp_updL ov 0 (i3 k).toInt64) ∧ TP (t.1, k, t.2.2) (src.take k)) ∧ (¬ (¬ x < 0 ∧ ¬ i3 src.length < x) → fL_end n x t.1 (i3 t.2.1) t.2.2 f3 v4 v5 f6 v7 v8 f9 f10 p11 f12 p13 f14 v15 f16 v17 v18 v19 v20 ov = some (1, i3 t.2.1, ov)) := by
  have hl : src.length = t.2.1 := h.1.2.2.1
  have h4 := h.1.2.2.2
  constructor
  · rintro k rfl hk
    refine ⟨?_, ⟨⟨fun c hc => h.1.1 c (List.mem_of_mem_take hc), ?_, ?_, ?_⟩, h.2⟩⟩
    · unfold fL_end fB_end
      rw [show fT_size n t.1 (i3 t.2.1) t.2.2 = some (i3 t.2.1) from rfl, Option.bind_some, within_w, Option.bind_some, if_pos ⟨i3_nn (by omega), by rw [i3_lt (by omega) (by omega)]; omega⟩, dem1, Option.bind_some, if_pos rfl]
      unfold fT_keep
      have hm : (if i3 t.2.1 < i3 k then i3 t.2.1 else i3 k) = i3 k := if_neg (by rw [i3_lt (by omega) (by omega)]; omega)
      have hm2 : (if 0 < i3 k then i3 k else 0) = i3 k := by
        by_cases h0 : k = 0
        · subst h0; rfl
        · exact if_pos (by rw [show (0 : Int32) = i3 0 from rfl, i3_lt (by omega) (by omega)]; omega)
      rw [hm, hm2]
      rfl
    · have h2 := h.1.2.1
      rw [← List.take_append_drop k src, List.map_append] at h2
      exact (seg_app.mp h2).1
    · rw [List.length_take]
      show _ = k
      omega
    · show k ≤ 4096
      omega
  · intro hx
    rw [hl] at hx
    unfold fL_end fB_end
    rw [show fT_size n t.1 (i3 t.2.1) t.2.2 = some (i3 t.2.1) from rfl, Option.bind_some, within_w, Option.bind_some, if_neg hx]
    rfl
/-- what read does -/
theorem l_read_n {x1 : Int32} (h : ¬ isR x1) {f0 : Nat → Int32} {v1 v2 : Int32} : fL_read fu n x1 f0 v1 v2 f3 v4 v5 f6 v7 v8 f9 f10 p11 f12 p13 f14 v15 f16 v17 v18 v19 v20 ov = some (1, v1, v2, f6, v7, v8, f16, v17, v18, v19, ov) := by
  unfold fL_read fB_read
  rw [reg_F h]
  rfl
theorem l_read_w (hn : 140000 < n) {k : Nat} (hk : 70 ≤ k) (hfu : k < fu) {x1 : Int32} (h1 : isR x1) (h : TP t src) {t2 : TS} (ht2 : RV t2) : ∃ (t' : TS) (r' : RS), RV t' ∧ RV r' ∧ (match pT k 40 src with
    | .inl x => fL_read fu n x1 t.1 (i3 t.2.1) t.2.2 f3 v4 v5 t2.1 (i3 t2.2.1) t2.2.2 f9 f10 p11 f12 p13 f14 v15 f16 v17 v18 v19 v20 ov = some (2, 0, 0, t'.1, i3 t'.2.1, t'.2.2, r'.1, i3 r'.2.1, r'.2.2, i3 (src.length - x.length), ov)
    | .inr j => jok (k + 1) j ∧ jd (k + 1) j ≤ 40 ∧ ((fit j ∧ fL_read fu n x1 t.1 (i3 t.2.1) t.2.2 f3 v4 v5 t2.1 (i3 t2.2.1) t2.2.2 f9 f10 p11 f12 p13 f14 v15 f16 v17 v18 v19 v20 ov = some (0, 0, 0, t'.1, i3 t'.2.1, t'.2.2, r'.1, i3 r'.2.1, r'.2.2, -1, vp_updL ov 0 (i3 (jt (k + 1) j).length).toInt64) ∧ r'.2.1 = (jc (k + 1) j).length ∧ r'.2.2 = 0 ∧ At r'.1 r'.2.1 0 (jc (k + 1) j)) ∨ (¬ fit j ∧ fL_read fu n x1 t.1 (i3 t.2.1) t.2.2 f3 v4 v5 t2.1 (i3 t2.2.1) t2.2.2 f9 f10 p11 f12 p13 f14 v15 f16 v17 v18 v19 v20 ov = some (3, 0, 0, t'.1, i3 t'.2.1, t'.2.2, r'.1, i3 r'.2.1, r'.2.2, -1, ov)))) := by
  obtain ⟨r', a, g1, g2⟩ := readValue_w (n := n) (row := (f16, 0, 0)) h.1 (by omega) (k := k) (fu := fu) (by omega) hfu ⟨by simp, Or.inl rfl⟩ ⟨rfl, rfl⟩
  unfold fL_read fB_read
  rw [reg_T h1, Option.bind_some, dem1, Option.bind_some, if_pos rfl]
  unfold fR_clear fT_clear
  rw [Option.bind_some]
  dsimp only
  cases hp : pT k 40 src with
  | inl x =>
    rw [hp] at g2
    obtain ⟨g2, g3⟩ := g2
    refine ⟨t2, r', ht2, g1, ?_⟩
    have g2' : fD_readValue fu n t.1 (i3 t.2.1) t.2.2 f16 0 0 0 (-1) = some (pos src x, r'.1, i3 r'.2.1, r'.2.2, a, pos src x) := g2
    dsimp only
    rw [g2', Option.bind_some, Option.bind_some, if_neg (by rw [pos_m1 h.1 g3]; exact id), Option.bind_some]
    rfl
  | inr j =>
    rw [hp] at g2
    obtain ⟨g2, g3, g4, g5⟩ := g2
    have g2' : fD_readValue fu n t.1 (i3 t.2.1) t.2.2 f16 0 0 0 (-1) = some (-1, r'.1, i3 r'.2.1, r'.2.2, a, -1) := g2
    obtain ⟨t', ht', hks⟩ := keepSpare_w (n := n) (fu := fu) (f0 := t.1) (v1 := 0) (v2 := 0) (f3 := f3) (v4 := v4) (v5 := v5) (f9 := f9) (f10 := f10) (p11 := p11) (f12 := f12) (p13 := p13) (f14 := f14) (v15 := v15) (v19 := -1) (v20 := v20) (t := t2) hn (by omega) (by omega) h1 (r0 := (f16, 0, 0)) ⟨rfl, rfl⟩ g4 g3
    refine ⟨t', r', ht', g1, g4, g5, ?_⟩
    rw [g2', Option.bind_some, Option.bind_some, if_pos rfl]
    dsimp only
    rcases hks with ⟨k1, k2, k3, k4, k5⟩ | ⟨k1, k2⟩
    · refine Or.inl ⟨k1, ?_, k3, k4, k5⟩
      rw [k2]
      rfl
    · refine Or.inr ⟨k1, ?_⟩
      rw [k2]
      rfl
variable {f0 : Nat → Int32} {v1 v2 : Int32} {f g : Nat → Int64} {v u e : Nat} {o o' : Int32}
theorem l_print_n {x1 : Int32} (h : ¬ isR x1) {f21 : Nat → Int64} {v22 v23 : Int32} : fL_print fu n x1 f0 v1 v2 f3 v4 v5 f6 v7 v8 f9 f10 p11 f12 p13 f14 v15 f16 v17 v18 v19 v20 f21 v22 v23 ov = some (1, f3, v4, v5, ov) := by
  unfold fL_print fB_print
  rw [reg_F h]
  rfl
theorem l_print_w (hn : 10000 < n) (hfu : e + 1 ≤ fu) {x1 : Int32} (h1 : isR x1) {a : JT (e + 1)} (ha : At f v 0 (jc (e + 1) a)) (hoa : jok (e + 1) a) (hfa : fit a) {t1 : TS} : ∃ t' : TS, fL_print fu n x1 f0 v1 v2 t1.1 (i3 t1.2.1) t1.2.2 f6 v7 v8 f9 f10 p11 f12 p13 f14 v15 f16 v17 v18 v19 v20 f (i3 v) o ov = some (0, t'.1, i3 t'.2.1, t'.2.2, vp_updL ov 0 (i3 (jt (e + 1) a).length).toInt64) ∧ TP t' (jt (e + 1) a) := by
  obtain ⟨t', e1, k1, k2, _⟩ := write_w (n := n) hn (e + 1) fu a f 0 v 0 o (t1.1, 0, 0) hoa ha hfu (by omega) ⟨by simp, Or.inl rfl⟩
  have hw := k2 (Or.inr (by have := hfa.1; omega))
  have hlt := jt_lt _ a hoa
  have hT : TP t' ([] ++ jt (e + 1) a) := TP.add (t := (t1.1, 0, 0)) ⟨⟨fun c hc => absurd hc (by simp), seg_nil, rfl, by simp⟩, rfl⟩ hw (by have := hfa.2; simpa using this) (fun c hc => by have := hlt c hc; omega)
  rw [List.nil_append] at hT
  refine ⟨t', ?_, hT⟩
  have e1' : fP_write fu n 0 0 f (i3 v) o t1.1 0 0 = some (t'.1, i3 t'.2.1, t'.2.2) := e1
  unfold fL_print fB_print
  rw [reg_T h1, Option.bind_some, dem1, Option.bind_some, if_pos rfl]
  unfold fT_clear
  rw [Option.bind_some, if_neg (reg_i h1).1]
  dsimp only
  rw [e1', Option.bind_some]
  dsimp only
  rw [show fT_size n t'.1 (i3 t'.2.1) t'.2.2 = some (i3 t'.2.1) from rfl, Option.bind_some, Option.bind_some, if_pos rfl, ← hT.1.2.2.1]
def bt (pr : List Nat) (i : Nat) : Nat := pr.getD i 0
def wA (pr : List Nat) (i : Nat) : Nat → Nat
  | 0 => 0
  | k + 1 => wA pr i k * 256 + bt pr (i + k)
theorem word_loop {t1 : TS} {pr : List Nat} (h : TP t1 pr) {i : Nat} (hi : i < pr.length) : ∀ (m k n : Nat), k + m = 8 → m < n → fB_word_b f0 v1 v2 t1.1 (i3 t1.2.1) t1.2.2 f6 v7 v8 f9 f10 p11 f12 p13 f14 v15 f16 v17 v18 v19 v20 n 1 (i3 k) (cW (wA pr i k : Nat)) (i3 i) = some (0, cW (wA pr i 8 : Nat)) := by
  obtain ⟨⟨h1, h2, h3, h4⟩, h5⟩ := h
  intro m
  induction m with
  | zero =>
    intro k n hk hn
    obtain ⟨n, rfl⟩ : ∃ j, n = j + 1 := ⟨n - 1, by omega⟩
    obtain rfl : k = 8 := by omega
    rw [fB_word_b, if_pos (by decide)]
  | succ m ih =>
    intro k n hk hn
    obtain ⟨n, rfl⟩ : ∃ j, n = j + 1 := ⟨n - 1, by omega⟩
    rw [fB_word_b, if_neg (by rw [show (8 : Int32) = i3 8 from rfl, i3_le (by omega) (by omega)]; omega), i3_add]
    have hat : ∃ x : Int32, fT_at n (i3 (i + k)) t1.1 (i3 t1.2.1) t1.2.2 = some x ∧ (if x < 0 then 0 else x) = i3 (bt pr (i + k)) ∧ bt pr (i + k) < 256 := by
      by_cases hb : i + k < pr.length
      · have hc := h1 _ (List.getElem_mem hb)
        have hbt : bt pr (i + k) = pr[i + k] := by
          unfold bt
          rw [List.getD_eq_getElem?_getD, List.getElem?_eq_getElem hb]
          rfl
        refine ⟨_, text_at (n := n) h1 h2 h3 h4 hb, ?_, by omega⟩
        rw [hbt, if_neg (i3_nn (by omega))]
      · refine ⟨_, text_end (n := n) h4 (by omega) (by omega), ?_, ?_⟩
        · rw [if_pos (by decide)]
          unfold bt
          rw [List.getD_eq_getElem?_getD, List.getElem?_eq_none (by omega)]
          rfl
        · unfold bt
          rw [List.getD_eq_getElem?_getD, List.getElem?_eq_none (by omega)]
          simp
    obtain ⟨x, e1, e2, e3⟩ := hat
    rw [e1, Option.bind_some, e2, i3_one, i3_64 (by omega), cW_shl (m := 8) (by decide), cW_or (k := 8) (by omega)]
    exact ih (k + 1) n (by omega) (by omega)
theorem l_word_w (hn : 20 < n) {t1 : TS} {pr : List Nat} (h : TP t1 pr) (x : Int32) : (∀ k, x = i3 k → k < pr.length → fL_word n x f0 v1 v2 t1.1 (i3 t1.2.1) t1.2.2 f6 v7 v8 f9 f10 p11 f12 p13 f14 v15 f16 v17 v18 v19 v20 ov = some (0, vp_updL ov 0 (cW (wA pr k 8 : Nat)))) ∧ (¬ (¬ x < 0 ∧ x < i3 pr.length) → fL_word n x f0 v1 v2 t1.1 (i3 t1.2.1) t1.2.2 f6 v7 v8 f9 f10 p11 f12 p13 f14 v15 f16 v17 v18 v19 v20 ov = some (1, ov)) := by
  have hl : pr.length = t1.2.1 := h.1.2.2.1
  have h4 := h.1.2.2.2
  unfold fL_word fB_word
  constructor
  · rintro k rfl hk
    rw [if_neg (i3_nn (by omega)), show fT_size n t1.1 (i3 t1.2.1) t1.2.2 = some (i3 t1.2.1) from rfl, Option.bind_some, if_pos (by rw [i3_lt (by omega) (by omega)]; omega)]
    have := word_loop (f0 := f0) (v1 := v1) (v2 := v2) (f6 := f6) (v7 := v7) (v8 := v8) (f9 := f9) (f10 := f10) (p11 := p11) (f12 := f12) (p13 := p13) (f14 := f14) (v15 := v15) (f16 := f16) (v17 := v17) (v18 := v18) (v19 := v19) (v20 := v20) h hk 8 0 n (by omega) (by omega)
    have this' : fB_word_b f0 v1 v2 t1.1 (i3 t1.2.1) t1.2.2 f6 v7 v8 f9 f10 p11 f12 p13 f14 v15 f16 v17 v18 v19 v20 n 1 0 0 (i3 k) = some (0, cW (wA pr k 8 : Nat)) := this
    rw [this']
    rfl
  · intro hx
    by_cases h0 : x < 0
    · rw [if_pos h0]
      rfl
    · rw [if_neg h0, show fT_size n t1.1 (i3 t1.2.1) t1.2.2 = some (i3 t1.2.1) from rfl, Option.bind_some, if_neg (by rw [← hl]; exact fun h => hx ⟨h0, h⟩)]
      rfl
theorem l_count_w {t0 t1 : TS} (x : Int32) : (∀ k, x = i3 k → k ≤ 3 → fL_count n x t0.1 (i3 t0.2.1) t0.2.2 t1.1 (i3 t1.2.1) t1.2.2 f6 v7 v8 f9 f10 p11 f12 p13 f14 v15 f16 v17 v18 v19 v20 ov = some (0, vp_updL ov 0 (if k = 0 then i3 t0.2.1 else if k = 1 then i3 t1.2.1 else if k = 2 then v19 else v20).toInt64)) ∧ (¬ (¬ x < 0 ∧ ¬ (3 : Int32) < x) → fL_count n x t0.1 (i3 t0.2.1) t0.2.2 t1.1 (i3 t1.2.1) t1.2.2 f6 v7 v8 f9 f10 p11 f12 p13 f14 v15 f16 v17 v18 v19 v20 ov = some (1, ov)) := by
  unfold fL_count fB_count
  constructor
  · rintro k rfl hk
    rw [within_w, Option.bind_some, if_pos ⟨i3_nn (by omega), by rw [show (3 : Int32) = i3 3 from rfl, i3_lt (by omega) (by omega)]; omega⟩, dem1, Option.bind_some, if_pos rfl]
    obtain rfl | rfl | rfl | rfl : k = 0 ∨ k = 1 ∨ k = 2 ∨ k = 3 := by omega
    all_goals rfl
  · intro hx
    rw [within_w, Option.bind_some, if_neg hx]
    rfl
theorem l_compare_w (hn : 20000 < n) (hfu : e ≤ fu) (he : e ≤ 1000) {x1 x2 : Int32} (h1 : isR x1) (h2 : isR x2) {a b : JT e} (ha : At f v 0 (jc e a)) (hoa : jok e a) (hb : At g u 0 (jc e b)) (hob : jok e b) (hja : jd e a ≤ 60) : fL_compare fu n x1 x2 f0 v1 v2 f3 v4 v5 f6 v7 v8 f9 f10 p11 f12 p13 f14 v15 f16 v17 v18 v19 v20 f (i3 v) o g (i3 u) o' ov = some (0, vp_updL ov 0 (iz (jcmp e a b)).toInt64) := by
  have e1 := of0_w (n := n) (o := o) (o' := o') hn hoa hob ha hb hfu he hja
  have e1' : fO_of fu n 0 0 0 f (i3 v) o g (i3 u) o' = some (iz (jcmp e a b)) := e1
  unfold fL_compare fB_compare
  rw [reg_T h1, Option.bind_some, if_neg (by decide), reg_T h2, Option.bind_some, if_neg (by decide), dem1, Option.bind_some, if_pos rfl, if_neg (reg_i h1).1, if_neg (reg_i h2).1, e1']
  rfl
theorem l_comparea_w (hn : 20000 < n) (hfu : e ≤ fu) (he : e ≤ 1000) {x1 x2 : Int32} (h1 : isR x1) (h2 : isR x2) {a : JT e} (ha : At f v 0 (jc e a)) (hoa : jok e a) (hja : jd e a ≤ 60) : fL_comparea fu n x1 x2 f0 v1 v2 f3 v4 v5 f6 v7 v8 f9 f10 p11 f12 p13 f14 v15 f16 v17 v18 v19 v20 f (i3 v) o ov = some (0, vp_updL ov 0 (iz (jcmp e a a)).toInt64) := by
  have e1 := of0_w (n := n) (o := o) (o' := o) hn hoa hoa ha ha hfu he hja
  have e1' : fO_ofa fu n 0 0 0 f (i3 v) o = some (iz (jcmp e a a)) := by rw [al_of]; exact e1
  unfold fL_comparea fB_comparea
  rw [reg_T h1, Option.bind_some, if_neg (by decide), reg_T h2, Option.bind_some, if_neg (by decide), dem1, Option.bind_some, if_pos rfl, if_neg (reg_i h1).1, if_neg (reg_i h2).1, e1']
  rfl
theorem l_same_w (hn : 20000 < n) (hfu : e ≤ fu) (he : e ≤ 1000) {x1 x2 : Int32} (h1 : isR x1) (h2 : isR x2) {a b : JT e} (ha : At f v 0 (jc e a)) (hoa : jok e a) (hb : At g u 0 (jc e b)) (hob : jok e b) (hja : jd e a ≤ 60) : fL_same fu n x1 x2 f0 v1 v2 f3 v4 v5 f6 v7 v8 f9 f10 p11 f12 p13 f14 v15 f16 v17 v18 v19 v20 f (i3 v) o g (i3 u) o' ov = some (0, vp_updL ov 0 (if jcmp e a b = 0 then 1 else 0)) := by
  have e1 := same_w (n := n) (o := o) (o' := o') hn hoa hob ha hb hfu he hja
  have e1' : fO_isSame fu n 0 0 f (i3 v) o g (i3 u) o' = some (if jcmp e a b = 0 then 1 else 0) := e1
  unfold fL_same fB_same
  rw [reg_T h1, Option.bind_some, if_neg (by decide), reg_T h2, Option.bind_some, if_neg (by decide), dem1, Option.bind_some, if_pos rfl, if_neg (reg_i h1).1, if_neg (reg_i h2).1, e1']
  by_cases hc : jcmp e a b = 0
  · rw [if_pos hc, if_pos hc]
    rfl
  · rw [if_neg hc, if_neg hc]
    rfl
theorem l_samea_w (hn : 20000 < n) (hfu : e ≤ fu) (he : e ≤ 1000) {x1 x2 : Int32} (h1 : isR x1) (h2 : isR x2) {a : JT e} (ha : At f v 0 (jc e a)) (hoa : jok e a) (hja : jd e a ≤ 60) : fL_samea fu n x1 x2 f0 v1 v2 f3 v4 v5 f6 v7 v8 f9 f10 p11 f12 p13 f14 v15 f16 v17 v18 v19 v20 f (i3 v) o ov = some (0, vp_updL ov 0 (if jcmp e a a = 0 then 1 else 0)) := by
  have e1 := same_w (n := n) (o := o) (o' := o) hn hoa hoa ha ha hfu he hja
  have e1' : fO_isSamea fu n 0 0 f (i3 v) o = some (if jcmp e a a = 0 then 1 else 0) := by rw [al_same]; exact e1
  unfold fL_samea fB_samea
  rw [reg_T h1, Option.bind_some, if_neg (by decide), reg_T h2, Option.bind_some, if_neg (by decide), dem1, Option.bind_some, if_pos rfl, if_neg (reg_i h1).1, if_neg (reg_i h2).1, e1']
  by_cases hc : jcmp e a a = 0
  · rw [if_pos hc, if_pos hc]
    rfl
  · rw [if_neg hc, if_neg hc]
    rfl
theorem l_compare_n {x1 x2 : Int32} (h : ¬ (isR x1 ∧ isR x2)) {f21 : Nat → Int64} {v22 v23 : Int32} {f24 : Nat → Int64} {v25 v26 : Int32} : fL_compare fu n x1 x2 f0 v1 v2 f3 v4 v5 f6 v7 v8 f9 f10 p11 f12 p13 f14 v15 f16 v17 v18 v19 v20 f21 v22 v23 f24 v25 v26 ov = some (1, ov) ∧ fL_comparea fu n x1 x2 f0 v1 v2 f3 v4 v5 f6 v7 v8 f9 f10 p11 f12 p13 f14 v15 f16 v17 v18 v19 v20 f21 v22 v23 ov = some (1, ov) ∧ fL_same fu n x1 x2 f0 v1 v2 f3 v4 v5 f6 v7 v8 f9 f10 p11 f12 p13 f14 v15 f16 v17 v18 v19 v20 f21 v22 v23 f24 v25 v26 ov = some (1, ov) ∧ fL_samea fu n x1 x2 f0 v1 v2 f3 v4 v5 f6 v7 v8 f9 f10 p11 f12 p13 f14 v15 f16 v17 v18 v19 v20 f21 v22 v23 ov = some (1, ov) := by
  unfold fL_compare fB_compare fL_comparea fB_comparea fL_same fB_same fL_samea fB_samea
  by_cases h1 : isR x1
  · have h2 : ¬ isR x2 := fun h2 => h ⟨h1, h2⟩
    refine ⟨?_, ?_, ?_, ?_⟩
    all_goals
      rw [reg_T h1, Option.bind_some, if_neg (by decide), reg_F h2]
      rfl
  · refine ⟨?_, ?_, ?_, ?_⟩
    all_goals
      rw [reg_F h1]
      rfl
end BM
end ZLawb44
section ZRt45
/-! ===== what is printed is read again ===== -/
theorem pw_rt : ∀ (w r : List Nat), pw w (w ++ r) = .inr r := by
  intro w
  induction w with
  | nil => intro r; rfl
  | cons c w ih =>
    intro r
    rw [List.cons_append, pw, if_pos rfl, ih]
theorem esc_c : ∀ c, c < 128 → (esc c = [c] ∧ c ≠ 92 ∧ c ≠ 34 ∧ 32 ≤ c ∧ c < 127) ∨ (∃ x, x ≠ 117 ∧ esc c = [92, x] ∧ cof x = some c) ∨ (∃ a b, esc c = [92, 117, 48, 48, a, b] ∧ ∃ u v, hexv a = some u ∧ hexv b = some v ∧ 16 * u + v = c) := by
  intro c hc
  by_cases h1 : 32 ≤ c ∧ c < 127 ∧ c ≠ 34 ∧ c ≠ 92
  · left
    refine ⟨?_, h1.2.2.2, h1.2.2.1, h1.1, h1.2.1⟩
    unfold esc
    rw [if_neg (by omega), if_neg (by omega), if_neg (by omega), if_neg (by omega), if_neg (by omega), if_neg (by omega), if_neg (by omega), if_neg (by omega)]
  · right
    by_cases h2 : c = 34 ∨ c = 92 ∨ c = 8 ∨ c = 9 ∨ c = 10 ∨ c = 12 ∨ c = 13
    · left
      rcases h2 with rfl | rfl | rfl | rfl | rfl | rfl | rfl
      · exact ⟨34, by decide, rfl, rfl⟩
      · exact ⟨92, by decide, rfl, rfl⟩
      · exact ⟨98, by decide, rfl, rfl⟩
      · exact ⟨116, by decide, rfl, rfl⟩
      · exact ⟨110, by decide, rfl, rfl⟩
      · exact ⟨102, by decide, rfl, rfl⟩
      · exact ⟨114, by decide, rfl, rfl⟩
    · right
      refine ⟨hx (c / 16), hx (c % 16), ?_, c / 16, c % 16, ?_, ?_, by omega⟩
      · unfold esc
        rw [if_neg (by omega), if_neg (by omega), if_neg (by omega), if_neg (by omega), if_neg (by omega), if_neg (by omega), if_neg (by omega), if_pos (by omega)]
      · unfold hx hexv
        split
        · rw [if_pos (by omega)]
          congr 1
          omega
        · omega
      · unfold hx hexv
        split
        · rw [if_pos (by omega)]
          congr 1
          omega
        · rw [if_neg (by omega), if_pos (by omega)]
          congr 1
          omega
theorem pc_rt {c : Nat} (hc : c < 128) (r : List Nat) : pc (esc c ++ r) = .inr (c, r) ∧ (esc c ++ r).head? ≠ some 34 := by
  rcases esc_c c hc with ⟨h1, h2, h3, h4, h5⟩ | ⟨x, h0, h1, h2⟩ | ⟨a, b, h1, u, v, h2, h3, h4⟩
  · rw [h1]
    refine ⟨?_, fun h => h3 (Option.some.inj h)⟩
    rw [List.singleton_append, pc, if_neg h2, if_pos ⟨h4, h5⟩]
  · rw [h1]
    refine ⟨?_, fun h => absurd (Option.some.inj h) (by decide)⟩
    rw [List.cons_append, List.singleton_append, pc, if_pos rfl, pcE, if_neg h0]
    simp only [h2]
  · rw [h1]
    refine ⟨?_, fun h => absurd (Option.some.inj h) (by decide)⟩
    simp only [List.cons_append, List.nil_append]
    rw [pc, if_pos rfl, pcE, if_pos rfl, hex4]
    simp only [show hexv 48 = some 0 from rfl]
    rw [hex4]
    simp only [show hexv 48 = some 0 from rfl]
    rw [hex4]
    simp only [h2]
    rw [hex4]
    simp only [h3]
    rw [hex4, if_neg (by omega)]
    congr 2
    omega
theorem pS_rt : ∀ (s : Sx) (n : Nat) (r : List Nat), sok s → s.length < n → pS n (s.flatMap esc ++ 34 :: r) = .inr (s, r) := by
  intro s
  induction s with
  | nil =>
    intro n r _ hn
    obtain ⟨n, rfl⟩ : ∃ j, n = j + 1 := ⟨n - 1, by omega⟩
    rw [List.flatMap_nil, List.nil_append, pS, List.head?_cons, if_pos rfl]
    rfl
  | cons c s ih =>
    intro n r hs hn
    obtain ⟨n, rfl⟩ : ∃ j, n = j + 1 := ⟨n - 1, by omega⟩
    rw [List.length_cons] at hn
    obtain ⟨h1, h2⟩ := pc_rt (hs c (List.mem_cons_self ..)) (s.flatMap esc ++ 34 :: r)
    rw [List.flatMap_cons, List.append_assoc, pS, if_neg h2, h1]
    dsimp only
    rw [ih n r (fun x hx => hs x (List.mem_cons_of_mem _ hx)) (by omega)]
/-- not a digit first -/
def ND (r : List Nat) : Prop := ∀ c, r.head? = some c → isD c = false
theorem dv_rt : ∀ (k m v : Nat) (r : List Nat), ND r → dv v (dgs k m ++ r) = (v * 10 ^ k + m % 10 ^ k, r) := by
  intro k
  induction k with
  | zero =>
    intro m v r hr
    rw [dgs, List.nil_append, Nat.pow_zero, Nat.mod_one]
    cases r with
    | nil => rw [dv]; simp
    | cons c r =>
      rw [dv, if_neg (by rw [hr c rfl]; simp)]
      simp
  | succ k ih =>
    intro m v r hr
    have hd : m / 10 ^ k % 10 < 10 := Nat.mod_lt _ (by omega)
    rw [dgs, List.cons_append, dv, if_pos (by unfold isD; simp; omega), show 48 + m / 10 ^ k % 10 - 48 = m / 10 ^ k % 10 by omega, ih _ _ _ hr]
    congr 1
    have h1 : m % 10 ^ (k + 1) = m % 10 ^ k + 10 ^ k * (m / 10 ^ k % 10) := by
      rw [Nat.pow_succ, Nat.mod_mul]
    rw [h1, Nat.add_mul, Nat.pow_succ, Nat.mul_comm 10 v, Nat.mul_assoc, Nat.mul_comm 10 (10 ^ k), Nat.mul_comm (10 ^ k) (m / 10 ^ k % 10)]
    omega
theorem nlA_s : ∀ (f k m : Nat), 1 ≤ k → (k = 1 ∨ 10 ^ (k - 1) ≤ m) → m < 10 ^ (k + f) → m < 10 ^ nlA f k m ∧ 1 ≤ nlA f k m ∧ (nlA f k m = 1 ∨ 10 ^ (nlA f k m - 1) ≤ m) := by
  intro f
  induction f with
  | zero => intro k m h1 h2 h3; exact ⟨h3, h1, h2⟩
  | succ f ih =>
    intro k m h1 h2 h3
    rw [nlA]
    split
    · rename_i h
      exact ⟨h, h1, h2⟩
    · rename_i h
      refine ih (k + 1) m (by omega) (Or.inr ?_) (by rw [show k + 1 + f = k + (f + 1) by omega]; exact h3)
      rw [Nat.add_sub_cancel]
      omega
theorem pD_rt {m : Nat} (hm : m ≤ 9007199254740991) {r : List Nat} (hr : ND r) : pD (dgs (nl m) m ++ r) = some (m, r) := by
  obtain ⟨h1, h2, h3⟩ := nlA_s 15 1 m (by omega) (Or.inl rfl) (by
    have : (10 : Nat) ^ (1 + 15) = 10000000000000000 := by decide
    omega)
  unfold nl
  obtain ⟨k, hk⟩ : ∃ k, nlA 15 1 m = k + 1 := ⟨nlA 15 1 m - 1, by omega⟩
  rw [hk] at h1 h3 ⊢
  rw [Nat.add_sub_cancel] at h3
  have hpos : 0 < 10 ^ k := Nat.pow_pos (by omega)
  have hlt : m / 10 ^ k < 10 := by
    rw [Nat.div_lt_iff_lt_mul hpos, Nat.mul_comm, ← Nat.pow_succ]
    exact h1
  have hd : m / 10 ^ k % 10 = m / 10 ^ k := Nat.mod_eq_of_lt hlt
  rw [dgs, List.cons_append, pD, hd, if_pos (by unfold isD; simp; omega)]
  by_cases hz : m / 10 ^ k = 0
  · have hk0 : k = 0 := by
      rcases h3 with h3 | h3
      · omega
      · have := Nat.div_pos h3 hpos
        omega
    subst hk0
    rw [Nat.pow_zero, Nat.div_one] at hz
    subst hz
    rw [if_pos (by rfl)]
    rfl
  · rw [if_neg (by omega), show 48 + m / 10 ^ k - 48 = m / 10 ^ k by omega, dv_rt k m _ r hr]
    congr 2
    exact Nat.div_add_mod' m (10 ^ k)
theorem pN_rt {z : Int} (h1 : -9007199254740991 ≤ z) (h2 : z ≤ 9007199254740991) {r : List Nat} (hr : ND r) : pN (nt z ++ r) = .inr (z, r) := by
  have hp := pD_rt (m := z.natAbs) (by omega) hr
  unfold nt pN
  by_cases hz : z < 0
  · rw [if_pos hz, List.append_assoc, List.singleton_append, List.head?_cons, if_pos rfl, List.tail_cons, pNd, hp]
    dsimp only
    rw [if_neg (by omega)]
    congr 2
    omega
  · rw [if_neg hz, List.nil_append]
    have hh : (dgs (nl z.natAbs) z.natAbs ++ r).head? ≠ some 45 := by
      intro h
      cases hd : dgs (nl z.natAbs) z.natAbs with
      | nil =>
        have := dgs_len (nl z.natAbs) z.natAbs
        have h3 := nlA_pos 15 1 z.natAbs (by omega)
        unfold nl at *
        rw [hd] at this
        simp at this
        omega
      | cons c w =>
        rw [hd] at h
        have := dgs_lt _ _ c (by rw [hd]; exact List.mem_cons_self ..)
        simp at h
        omega
    rw [if_neg hh, pNd, hp]
    dsimp only
    rw [if_neg (by omega)]
    congr 2
    omega
section RT
variable {α : Type} {rec : List Nat → List Nat ⊕ (α × List Nat)} {g : α → List Nat}
theorem blk_c {c : Nat} {r : List Nat} (h : isB c = false) : blk (c :: r) = c :: r := by
  rw [blk, if_neg (by rw [h]; simp)]
theorem nd_c {c : Nat} {r : List Nat} (h : isD c = false) : ND (c :: r) := fun x hx => by
  rw [← Option.some.inj hx]
  exact h
theorem pE_rt {l0 : List α} (hrec : ∀ x ∈ l0, ∀ r, ND r → rec (g x ++ r) = .inr (x, r)) : ∀ (l : List α) (x : α) (n : Nat) (r : List Nat), x ∈ l0 → (∀ y ∈ l, y ∈ l0) → l.length < n → pE rec n (g x ++ (l.map g).flatMap (fun y => 44 :: y) ++ 93 :: r) = .inr (x :: l, r) := by
  intro l
  induction l with
  | nil =>
    intro x n r hx _ hn
    obtain ⟨n, rfl⟩ : ∃ j, n = j + 1 := ⟨n - 1, by omega⟩
    rw [List.map_nil, List.flatMap_nil, List.append_nil, pE, hrec x hx _ (nd_c (by decide))]
    dsimp only
    rw [blk_c (by decide), List.head?_cons, if_neg (by decide), if_pos rfl]
    rfl
  | cons y l ih =>
    intro x n r hx hl hn
    obtain ⟨n, rfl⟩ : ∃ j, n = j + 1 := ⟨n - 1, by omega⟩
    rw [List.length_cons] at hn
    rw [List.map_cons, List.flatMap_cons, List.append_assoc, List.append_assoc, List.cons_append, pE, hrec x hx _ (nd_c (by decide))]
    dsimp only
    rw [blk_c (by decide), List.head?_cons, if_pos rfl, List.tail_cons, ← List.append_assoc, ih y n r (hl y (List.mem_cons_self ..)) (fun z hz => hl z (List.mem_cons_of_mem _ hz)) (by omega)]
theorem flat_ge (l : List (List Nat)) : l.length ≤ (l.flatMap (fun y => 44 :: y)).length := by
  rw [fm44]
  omega
/-- a text that begins a value -/
def BV (w : List Nat) : Prop := ∃ c w', w = c :: w' ∧ isB c = false ∧ c ≠ 93 ∧ c ≠ 125
theorem pA_rt {l : List α} (hrec : ∀ x ∈ l, ∀ r, ND r → rec (g x ++ r) = .inr (x, r)) (hbv : ∀ x ∈ l, BV (g x)) (r : List Nat) : pA rec (cj (l.map g) ++ 93 :: r) = .inr (l, r) := by
  unfold pA
  cases l with
  | nil =>
    rw [List.map_nil, cj, List.nil_append, blk_c (by decide), List.head?_cons, if_pos rfl]
    rfl
  | cons x l =>
    obtain ⟨c, w, hw, h1, h2, _⟩ := hbv x (List.mem_cons_self ..)
    have hb : blk (cj ((x :: l).map g) ++ 93 :: r) = cj ((x :: l).map g) ++ 93 :: r := by
      rw [List.map_cons, cj, hw]
      simp only [List.cons_append]
      exact blk_c h1
    rw [hb, if_neg (by rw [List.map_cons, cj, hw]; simp only [List.cons_append, List.head?_cons]; exact fun h => h2 (Option.some.inj h)), List.map_cons, cj]
    exact pE_rt hrec l x _ r (List.mem_cons_self ..) (fun y hy => List.mem_cons_of_mem _ hy) (by
      have := flat_ge (l.map g)
      rw [List.length_map] at this
      simp only [List.length_append, List.length_cons]
      omega)
theorem pM_rt {seen : List Sx} {s : Sx} {x : α} (hs : sok s) (hns : s ∉ seen) {r : List Nat} (hrec : rec (g x ++ r) = .inr (x, r)) : pM rec seen (qt s ++ 58 :: g x ++ r) = .inr ((s, x), r) := by
  unfold pM qt
  simp only [List.cons_append, List.append_assoc, List.nil_append]
  rw [blk_c (by decide), List.head?_cons, if_pos rfl, List.tail_cons, pS_rt s _ _ hs (by
    have := escs_len s
    simp only [List.length_cons, List.length_append]
    omega)]
  dsimp only
  rw [if_neg hns, blk_c (by decide), List.head?_cons, if_pos rfl, List.tail_cons, hrec]
theorem pF_rt {l0 : List (Sx × α)} (hrec : ∀ p ∈ l0, ∀ r, ND r → rec (g p.2 ++ r) = .inr (p.2, r)) (hok : ∀ p ∈ l0, sok p.1) : ∀ (l : List (Sx × α)) (p : Sx × α) (n : Nat) (seen : List Sx) (r : List Nat), p ∈ l0 → (∀ y ∈ l, y ∈ l0) → (seen ++ (p :: l).map (fun y => y.1)).Nodup → l.length < n → pF rec n seen ((qt p.1 ++ 58 :: g p.2) ++ (l.map (fun y => qt y.1 ++ 58 :: g y.2)).flatMap (fun y => 44 :: y) ++ 125 :: r) = .inr (p :: l, r) := by
  intro l
  induction l with
  | nil =>
    intro p n seen r hp _ hnd hn
    obtain ⟨n, rfl⟩ : ∃ j, n = j + 1 := ⟨n - 1, by omega⟩
    have hns : p.1 ∉ seen := fun h => (List.nodup_append.mp hnd).2.2 _ h _ (by simp) rfl
    rw [List.map_nil, List.flatMap_nil, List.append_nil, pF, pM_rt (hok p hp) hns (hrec p hp _ (nd_c (by decide)))]
    dsimp only
    rw [blk_c (by decide), List.head?_cons, if_neg (by decide), if_pos rfl]
    rfl
  | cons y l ih =>
    intro p n seen r hp hl hnd hn
    obtain ⟨n, rfl⟩ : ∃ j, n = j + 1 := ⟨n - 1, by omega⟩
    rw [List.length_cons] at hn
    have hns : p.1 ∉ seen := fun h => (List.nodup_append.mp hnd).2.2 _ h _ (by simp) rfl
    rw [show (qt p.1 ++ 58 :: g p.2) ++ ((y :: l).map (fun y => qt y.1 ++ 58 :: g y.2)).flatMap (fun y => 44 :: y) ++ 125 :: r = (qt p.1 ++ 58 :: g p.2) ++ 44 :: ((qt y.1 ++ 58 :: g y.2) ++ (l.map (fun y => qt y.1 ++ 58 :: g y.2)).flatMap (fun y => 44 :: y) ++ 125 :: r) by simp, pF, pM_rt (hok p hp) hns (hrec p hp _ (nd_c (by decide)))]
    dsimp only
    rw [blk_c (by decide), List.head?_cons, if_pos rfl, List.tail_cons, ih y n (seen ++ [p.1]) r (hl y (List.mem_cons_self ..)) (fun z hz => hl z (List.mem_cons_of_mem _ hz)) (by
      rw [List.append_assoc]
      exact hnd) (by omega)]
theorem pO_rt {l : List (Sx × α)} (hrec : ∀ p ∈ l, ∀ r, ND r → rec (g p.2 ++ r) = .inr (p.2, r)) (hok : ∀ p ∈ l, sok p.1) (hnd : (l.map (fun p => p.1)).Nodup) (r : List Nat) : pO rec (cj (l.map (fun p => qt p.1 ++ 58 :: g p.2)) ++ 125 :: r) = .inr (l, r) := by
  unfold pO
  cases l with
  | nil =>
    rw [List.map_nil, cj, List.nil_append, blk_c (by decide), List.head?_cons, if_pos rfl]
    rfl
  | cons p l =>
    have hb : ∃ w, cj ((p :: l).map (fun p => qt p.1 ++ 58 :: g p.2)) ++ 125 :: r = 34 :: w := by
      rw [List.map_cons, cj]
      unfold qt
      simp only [List.cons_append]
      exact ⟨_, rfl⟩
    obtain ⟨w, hw⟩ := hb
    rw [hw, blk_c (by decide), List.head?_cons, if_neg (by decide), ← hw, List.map_cons, cj]
    exact pF_rt hrec hok l p _ [] r (List.mem_cons_self ..) (fun y hy => List.mem_cons_of_mem _ hy) hnd (by
      have := flat_ge (l.map (fun p => qt p.1 ++ 58 :: g p.2))
      rw [List.length_map] at this
      simp only [List.length_append, List.length_cons]
      omega)
end RT
theorem nt_head (z : Int) : ∃ c w, nt z = c :: w ∧ (c = 45 ∨ (48 ≤ c ∧ c < 58)) := by
  unfold nt
  split
  · exact ⟨45, _, rfl, Or.inl rfl⟩
  · have h1 := dgs_len (nl z.natAbs) z.natAbs
    have h3 := nlA_pos 15 1 z.natAbs (by omega)
    cases hd : dgs (nl z.natAbs) z.natAbs with
    | nil =>
      rw [hd] at h1
      unfold nl at h1
      simp at h1
      omega
    | cons c w =>
      exact ⟨c, w, rfl, Or.inr (dgs_lt _ _ c (by rw [hd]; exact List.mem_cons_self ..))⟩
theorem jt_bv {d : Nat} (j : JT (d + 1)) (hj : jok (d + 1) j) : BV (jt (d + 1) j) := by
  rcases jcases j with ⟨k, rfl⟩ | ⟨z, rfl⟩ | ⟨s, rfl⟩ | ⟨l, rfl⟩ | ⟨l, rfl⟩
  · have hk : k < 3 := hj
    rw [jt_k]
    obtain rfl | rfl | rfl : k = 0 ∨ k = 1 ∨ k = 2 := by omega
    · exact ⟨110, _, rfl, by decide, by decide, by decide⟩
    · exact ⟨102, _, rfl, by decide, by decide, by decide⟩
    · exact ⟨116, _, rfl, by decide, by decide, by decide⟩
  · rw [jt_n]
    obtain ⟨c, w, h, hc⟩ := nt_head z
    refine ⟨c, w, h, ?_, by omega, by omega⟩
    unfold isB
    simp
    omega
  · exact ⟨34, _, rfl, by decide, by decide, by decide⟩
  · exact ⟨91, _, rfl, by decide, by decide, by decide⟩
  · exact ⟨123, _, rfl, by decide, by decide, by decide⟩
theorem rt : ∀ (k o : Nat) (j : JT (k + 1)), o ≤ k → jok (k + 1) j → jd (k + 1) j ≤ o → ∀ r, ND r → pV k o (jt (k + 1) j ++ r) = .inr (j, r) := by
  intro k
  induction k with
  | zero =>
    intro o j ho hj hd r hr
    rcases jcases j with ⟨w, rfl⟩ | ⟨z, rfl⟩ | ⟨s, rfl⟩ | ⟨l, rfl⟩ | ⟨l, rfl⟩
    · have hk : w < 3 := hj
      rw [jt_k]
      obtain rfl | rfl | rfl : w = 0 ∨ w = 1 ∨ w = 2 := by omega
      · exact congrArg (fun x => match x with | .inl x => Sum.inl x | .inr r1 => Sum.inr ((jk 0 : JT (0 + 1)), r1)) (pw_rt (wd 0) r)
      · exact congrArg (fun x => match x with | .inl x => Sum.inl x | .inr r1 => Sum.inr ((jk 1 : JT (0 + 1)), r1)) (pw_rt (wd 1) r)
      · exact congrArg (fun x => match x with | .inl x => Sum.inl x | .inr r1 => Sum.inr ((jk 2 : JT (0 + 1)), r1)) (pw_rt (wd 2) r)
    · rw [jok_n] at hj
      have h := pN_rt hj.1 hj.2 hr
      rw [jt_n]
      obtain ⟨c, w, hw, hc⟩ := nt_head z
      rw [hw, List.cons_append] at h ⊢
      rw [pV, blk_c (by unfold isB; simp; omega)]
      simp only [List.head?_cons, Option.some.injEq]
      rw [if_neg (by omega), if_neg (by omega), if_neg (by omega), if_neg (by omega), if_neg (by omega), h]
      rfl
    · rw [jt_s]
      unfold qt
      rw [List.cons_append, List.append_assoc, pV, blk_c (by decide)]
      simp only [List.head?_cons, Option.some.injEq, List.tail_cons]
      rw [if_neg (by decide), if_neg (by decide), if_neg (by decide), if_pos trivial, List.singleton_append, pS_rt s _ _ hj (by
        have := escs_len s
        simp only [List.length_cons, List.length_append]
        omega)]
      rfl
    · have := jd_a_pos (l := l)
      omega
    · have := jd_o_pos (l := l)
      omega
  | succ k ih =>
    intro o j ho hj hd r hr
    rcases jcases j with ⟨w, rfl⟩ | ⟨z, rfl⟩ | ⟨s, rfl⟩ | ⟨l, rfl⟩ | ⟨l, rfl⟩
    · have hk : w < 3 := hj
      rw [jt_k]
      obtain rfl | rfl | rfl : w = 0 ∨ w = 1 ∨ w = 2 := by omega
      · exact congrArg (fun x => match x with | .inl x => Sum.inl x | .inr r1 => Sum.inr ((jk 0 : JT (k + 1 + 1)), r1)) (pw_rt (wd 0) r)
      · exact congrArg (fun x => match x with | .inl x => Sum.inl x | .inr r1 => Sum.inr ((jk 1 : JT (k + 1 + 1)), r1)) (pw_rt (wd 1) r)
      · exact congrArg (fun x => match x with | .inl x => Sum.inl x | .inr r1 => Sum.inr ((jk 2 : JT (k + 1 + 1)), r1)) (pw_rt (wd 2) r)
    · rw [jok_n] at hj
      have h := pN_rt hj.1 hj.2 hr
      rw [jt_n]
      obtain ⟨c, w, hw, hc⟩ := nt_head z
      rw [hw, List.cons_append] at h ⊢
      rw [pV, blk_c (by unfold isB; simp; omega)]
      simp only [List.head?_cons, Option.some.injEq]
      rw [if_neg (by omega), if_neg (by omega), if_neg (by omega), if_neg (by omega), if_neg (by omega), if_neg (by omega), h]
      rfl
    · rw [jt_s]
      unfold qt
      rw [List.cons_append, List.append_assoc, pV, blk_c (by decide)]
      simp only [List.head?_cons, Option.some.injEq, List.tail_cons]
      rw [if_neg (by decide), if_neg (by decide), if_neg (by decide), if_pos trivial, List.singleton_append, pS_rt s _ _ hj (by
        have := escs_len s
        simp only [List.length_cons, List.length_append]
        omega)]
      rfl
    · have hp := jd_a_pos (l := l)
      obtain ⟨o, rfl⟩ : ∃ q, o = q + 1 := ⟨o - 1, by omega⟩
      have hdl := jd_a_le.mp hd
      rw [jt_a, List.cons_append, List.append_assoc, pV, blk_c (by decide)]
      simp only [List.head?_cons, Option.some.injEq, List.tail_cons]
      rw [if_neg (by decide), if_neg (by decide), if_neg (by decide), if_neg (by decide), if_pos trivial, if_neg (by omega), List.singleton_append, Nat.add_sub_cancel, pA_rt (g := jt (k + 1)) (fun x hx r hr => ih o x (by omega) (hj x hx) (hdl x hx) r hr) (fun x hx => jt_bv x (hj x hx))]
      rfl
    · have hp := jd_o_pos (l := l)
      obtain ⟨o, rfl⟩ : ∃ q, o = q + 1 := ⟨o - 1, by omega⟩
      have hdl := jd_o_le.mp hd
      rw [jt_o, List.cons_append, List.append_assoc, pV, blk_c (by decide)]
      simp only [List.head?_cons, Option.some.injEq, List.tail_cons]
      rw [if_neg (by decide), if_neg (by decide), if_neg (by decide), if_neg (by decide), if_neg (by decide), if_pos trivial, if_neg (by omega), List.singleton_append, Nat.add_sub_cancel, pO_rt (g := jt (k + 1)) (fun p hp r hr => ih o p.2 (by omega) (hj.1 p hp).2 (hdl p hp) r hr) (fun p hp => (hj.1 p hp).1) hj.2]
      rfl
theorem rtT {k o : Nat} {j : JT (k + 1)} (ho : o ≤ k) (hj : jok (k + 1) j) (hd : jd (k + 1) j ≤ o) : pV k o (jt (k + 1) j) = .inr (j, []) := by
  have := rt k o j ho hj hd [] (fun c h => by simp at h)
  rwa [List.append_nil] at this
end ZRt45
