/-! ===== what is written to a row ===== -/
abbrev BS (α : Type) : Type := (Nat → α) × Nat × Int32
abbrev RS : Type := BS Int64
abbrev TS : Type := BS Int32
def RV {α : Type} (r : BS α) : Prop := r.2.1 ≤ 4096 ∧ (r.2.2 = 0 ∨ r.2.2 = 1)
def Wr {α : Type} (r : BS α) (w : List α) (r' : BS α) : Prop :=
  RV r' ∧ ((r.2.2 = 0 ∧ r.2.1 + w.length ≤ 4096 ∧ r'.2.2 = 0 ∧ r'.2.1 = r.2.1 + w.length ∧ (∀ i, i < r.2.1 → r'.1 i = r.1 i) ∧ seg r'.1 r.2.1 w) ∨ ((r.2.2 = 1 ∨ 4096 < r.2.1 + w.length) ∧ r'.2.2 = 1))
theorem Wr.nil {α : Type} {r : BS α} (h : RV r) : Wr r [] r := by
  refine ⟨h, ?_⟩
  rcases h.2 with h2 | h2
  · exact Or.inl ⟨h2, by simpa using h.1, h2, rfl, fun _ _ => rfl, seg_nil⟩
  · exact Or.inr ⟨Or.inl h2, h2⟩
theorem Wr.app {α : Type} {r r1 r2 : BS α} {a b : List α} (h1 : Wr r a r1) (h2 : Wr r1 b r2) : Wr r (a ++ b) r2 := by
  obtain ⟨v1, h1⟩ := h1
  obtain ⟨v2, h2⟩ := h2
  refine ⟨v2, ?_⟩
  have n01 : ¬ (0 : Int32) = 1 := by decide
  rcases h1 with ⟨a1, a2, a3, a4, a5, a6⟩ | ⟨a1, a2⟩
  · rcases h2 with ⟨b1, b2, b3, b4, b5, b6⟩ | ⟨b1, b2⟩
    · refine Or.inl ⟨a1, by rw [List.length_append]; omega, b3, by rw [List.length_append]; omega, fun i hi => by rw [b5 i (by omega), a5 i hi], seg_app.mpr ⟨seg_of a6 (fun i hi => b5 _ (by omega)), ?_⟩⟩
      rw [a4] at b6
      exact b6
    · refine Or.inr ⟨Or.inr ?_, b2⟩
      rw [List.length_append]
      rcases b1 with b1 | b1
      · rw [a3] at b1
        exact absurd b1 n01
      · omega
  · rcases h2 with ⟨b1, b2, b3, b4, b5, b6⟩ | ⟨b1, b2⟩
    · rw [a2] at b1
      exact absurd b1.symm n01
    · refine Or.inr ⟨?_, b2⟩
      rcases a1 with a1 | a1
      · exact Or.inl a1
      · right
        rw [List.length_append]
        omega
theorem Wr.v {α : Type} {r r1 : BS α} {w : List α} (h : Wr r w r1) : RV r1 := h.1
/-- a value that was written stands there -/
theorem Wr.at0 {r r1 : RS} {w : List Int64} (h : Wr r w r1) (h0 : r1.2.2 = 0) : At r1.1 r1.2.1 r.2.1 w ∧ r1.2.1 = r.2.1 + w.length ∧ r.2.2 = 0 := by
  obtain ⟨v1, h1⟩ := h
  rcases h1 with ⟨a1, a2, a3, a4, a5, a6⟩ | ⟨_, a2⟩
  · exact ⟨⟨a6, by omega, v1.1⟩, a4, a1⟩
  · rw [h0] at a2
    exact absurd a2 (by decide)
section PW
variable {n : Nat} {r : RS}
theorem put_w (hr : RV r) (x : Int64) : ∃ r' : RS, fR_put n x r.1 (i3 r.2.1) r.2.2 = some (r'.1, i3 r'.2.1, r'.2.2) ∧ Wr r [x] r' := by
  obtain ⟨f, v, o⟩ := r
  obtain ⟨hv, ho⟩ := hr
  simp only at hv ho
  unfold fR_put
  dsimp only
  rcases ho with rfl | rfl
  · rw [if_pos rfl]
    by_cases h : v < 4096
    · rw [if_pos (by rw [show (4096 : Int32) = i3 4096 from rfl, i3_lt (by omega) (by omega)]; exact h), if_neg (i3_idx (by omega) (by omega)), i3_N (by omega), i3_one]
      refine ⟨(vp_updL f v x, v + 1, 0), rfl, ⟨by show v + 1 ≤ 4096; omega, Or.inl rfl⟩, Or.inl ⟨rfl, by show v + 1 ≤ 4096; omega, rfl, rfl, fun i hi => ?_, seg_one.mpr ?_⟩⟩
      · show vp_updL f v x i = f i
        unfold vp_updL
        rw [if_neg]
        simp only at hi
        omega
      · show vp_updL f v x v = x
        unfold vp_updL
        rw [if_pos rfl]
    · rw [if_neg (by rw [show (4096 : Int32) = i3 4096 from rfl, i3_lt (by omega) (by omega)]; exact h)]
      exact ⟨(f, v, 1), rfl, ⟨hv, Or.inr rfl⟩, Or.inr ⟨Or.inr (by show 4096 < v + 1; omega), rfl⟩⟩
  · rw [if_neg (by decide)]
    exact ⟨(f, v, 1), rfl, ⟨hv, Or.inr rfl⟩, Or.inr ⟨Or.inl rfl, rfl⟩⟩
theorem putNumber_w (hr : RV r) (z : Int) : ∃ r' : RS, fR_putNumber n (cW z) r.1 (i3 r.2.1) r.2.2 = some (r'.1, i3 r'.2.1, r'.2.2) ∧ Wr r [cW (z * 8 + 3)] r' := by
  obtain ⟨r', e, h⟩ := put_w (n := n) hr (cW (z * 8 + 3))
  refine ⟨r', ?_, h⟩
  unfold fR_putNumber
  rw [num_mk, e]
  rfl
theorem putNull_w (hr : RV r) : ∃ r' : RS, fR_putNull n r.1 (i3 r.2.1) r.2.2 = some (r'.1, i3 r'.2.1, r'.2.2) ∧ Wr r [cW (0 : Nat)] r' := by
  obtain ⟨r', e, h⟩ := put_w (n := n) hr (cW (0 : Nat))
  refine ⟨r', ?_, h⟩
  unfold fR_putNull
  rw [show (0 : Int64) = cW (0 : Nat) from rfl, e]
  rfl
theorem putTruth_w (hr : RV r) (b : Bool) : ∃ r' : RS, fR_putTruth n (if b then 1 else 0) r.1 (i3 r.2.1) r.2.2 = some (r'.1, i3 r'.2.1, r'.2.2) ∧ Wr r [cW ((if b then 2 else 1 : Nat) : Nat)] r' := by
  unfold fR_putTruth
  cases b with
  | true =>
    obtain ⟨r', e, h⟩ := put_w (n := n) hr (cW (2 : Nat))
    refine ⟨r', ?_, h⟩
    rw [if_neg (by decide), show (2 : Int64) = cW (2 : Nat) from rfl, e]
    rfl
  | false =>
    obtain ⟨r', e, h⟩ := put_w (n := n) hr (cW (1 : Nat))
    refine ⟨r', ?_, h⟩
    rw [if_pos (by decide), show (1 : Int64) = cW (1 : Nat) from rfl, e]
    rfl
theorem open_w (hr : RV r) : ∃ r' : RS, fR_open n r.1 (i3 r.2.1) r.2.2 = some (i3 r'.2.1 - 1, r'.1, i3 r'.2.1, r'.2.2) ∧ Wr r [cW (0 : Nat)] r' := by
  obtain ⟨r', e, h⟩ := put_w (n := n) hr (cW (0 : Nat))
  refine ⟨r', ?_, h⟩
  unfold fR_open
  rw [show (0 : Int64) = cW (0 : Nat) from rfl, e]
  rfl
theorem close_w {r1 r2 : RS} {x : Int64} {w : List Int64} {k len : Nat} (h1 : Wr r [x] r1) (h2 : Wr r1 w r2) (hk : k < 8) (hl : r2.2.2 = 0 → len < 65536) : ∃ f3, fR_close n (i3 r1.2.1 - 1) (i3 k) (i3 len) r2.1 (i3 r2.2.1) r2.2.2 = some f3 ∧ Wr r (lst k len w) (f3, r2.2.1, r2.2.2) := by
  obtain ⟨v2, h2'⟩ := h2
  obtain ⟨v1, h1'⟩ := h1
  obtain ⟨f1, v1', o1⟩ := r1
  obtain ⟨f2, v2', o2⟩ := r2
  obtain ⟨f0, v0, o0⟩ := r
  simp only at *
  unfold fR_close
  have n01 : ¬ (0 : Int32) = 1 := by decide
  rcases v2.2 with ho | ho
  · simp only at ho
    subst ho
    rw [if_pos rfl]
    rcases h2' with ⟨a1, a2, a3, a4, a5, a6⟩ | ⟨_, a2⟩
    · rcases h1' with ⟨b1, b2, b3, b4, b5, b6⟩ | ⟨_, b2⟩
      · simp only [List.length_singleton] at *
        have hv := v2.1
        simp only at hv
        have hl := hl (by trivial)
        rw [i3_pred (by omega), if_neg (i3_nn (by omega)), if_neg (i3_nle (by omega) (by omega)), if_neg (i3_idx (by omega) (by omega)), i3_sub (by omega), head_mk (by omega) hl hk, i3_N (by omega)]
        refine ⟨_, rfl, ⟨hv, Or.inl rfl⟩, Or.inl ⟨b1, ?_, rfl, ?_, fun i hi => ?_, seg_cons.mpr ⟨?_, ?_⟩⟩⟩
        · rw [lst_len]; simp only; omega
        · rw [lst_len]; simp only; omega
        · simp only at hi ⊢
          unfold vp_updL
          rw [if_neg (by omega), a5 i (by omega), b5 i hi]
        · simp only
          unfold vp_updL hd
          rw [if_pos (by omega)]
          have : v2' - (v1' - 1) = w.length + 1 := by omega
          rw [this]
        · have : v0 + 1 = v1' := by omega
          simp only
          rw [this]
          refine seg_of a6 (fun i hi => ?_)
          unfold vp_updL
          rw [if_neg (by omega)]
      · exact absurd (a1.symm.trans b2) n01
    · exact absurd a2 n01
  · simp only at ho
    subst ho
    rw [if_neg (by decide)]
    refine ⟨_, rfl, ⟨v2.1, Or.inr rfl⟩, Or.inr ⟨?_, rfl⟩⟩
    rcases h2' with ⟨_, _, a3, _⟩ | ⟨a1, _⟩
    · exact absurd a3.symm n01
    · rcases h1' with ⟨b1, b2, b3, b4, b5, b6⟩ | ⟨b1, _⟩
      · rcases a1 with a1 | a1
        · exact absurd (b3.symm.trans a1) n01
        · right
          rw [lst_len]
          simp only [List.length_singleton] at *
          omega
      · rcases b1 with b1 | b1
        · exact Or.inl b1
        · right
          rw [lst_len]
          simp only [List.length_singleton] at *
          omega
theorem putCells_w (hr : RV r) {g : Nat → Int64} {u q : Nat} {o' : Int32} {w : List Int64} (h : At g u q w) : ∃ r' : RS, fR_putCells n (i3 q) (i3 w.length) r.1 (i3 r.2.1) r.2.2 g (i3 u) o' = some (r'.1, i3 r'.2.1, r'.2.2) ∧ Wr r w r' := by
  obtain ⟨f, v, o⟩ := r
  obtain ⟨hv, ho⟩ := hr
  obtain ⟨h1, h2, h3⟩ := h
  simp only at hv ho
  unfold fR_putCells
  dsimp only
  rcases ho with rfl | rfl
  · rw [if_pos rfl, if_neg (i3_nn (by omega)), if_neg (i3_nn (by omega)), i3_add, if_neg (by rw [i3_lt (by omega) (by omega)]; omega), i3_add]
    by_cases h4 : v + w.length ≤ 4096
    · rw [if_pos (by rw [show (4096 : Int32) = i3 4096 from rfl, i3_le (by omega) (by omega)]; exact h4), if_neg, i3_N (by omega), i3_N (by omega), i3_N (by omega)]
      · refine ⟨(va_cpy g f q v w.length, v + w.length, 0), rfl, ⟨by simpa using h4, Or.inl rfl⟩, Or.inl ⟨rfl, by simpa using h4, rfl, rfl, fun i hi => ?_, seg_of h1 (fun i hi => ?_)⟩⟩
        · simp only at hi ⊢
          unfold va_cpy
          rw [if_neg (by omega)]
        · simp only
          unfold va_cpy
          rw [if_pos (by omega)]
          congr 1
          omega
      · rw [i3_N (by omega), i3_N (by omega), i3_N (by omega)]
        rintro (h5 | h5 | h5 | h5 | h5)
        · exact i3_nn (by omega) h5
        · exact i3_nn (by omega) h5
        · exact i3_nn (by omega) h5
        · omega
        · omega
    · rw [if_neg (by rw [show (4096 : Int32) = i3 4096 from rfl, i3_le (by omega) (by omega)]; exact h4)]
      exact ⟨(f, v, 1), rfl, ⟨hv, Or.inr rfl⟩, Or.inr ⟨Or.inr (by simp only; omega), rfl⟩⟩
  · rw [if_neg (by decide)]
    exact ⟨(f, v, 1), rfl, ⟨hv, Or.inr rfl⟩, Or.inr ⟨Or.inl rfl, rfl⟩⟩
theorem putCopy_w (hr : RV r) {g : Nat → Int64} {u q d : Nat} {o' : Int32} {j : JT d} (h : At g u q (jc d j)) (hok : jok d j) : ∃ r' : RS, fR_putCopy n (i3 q) r.1 (i3 r.2.1) r.2.2 g (i3 u) o' = some (r'.1, i3 r'.2.1, r'.2.2) ∧ Wr r (jc d j) r' := by
  obtain ⟨r', e, hw⟩ := putCells_w (n := n) (o' := o') hr h
  refine ⟨r', ?_, hw⟩
  unfold fR_putCopy
  rw [h.after hok, Option.bind_some, i3_sub (by omega), show q + (jc d j).length - q = (jc d j).length by omega, e]
  rfl
theorem putCopyS_w (hr : RV r) {g : Nat → Int64} {u q : Nat} {o' : Int32} {s : Sx} (h : At g u q (strc s)) : ∃ r' : RS, fR_putCopy n (i3 q) r.1 (i3 r.2.1) r.2.2 g (i3 u) o' = some (r'.1, i3 r'.2.1, r'.2.2) ∧ Wr r (strc s) r' := by
  obtain ⟨r', e, hw⟩ := putCells_w (n := n) (o' := o') hr h
  refine ⟨r', ?_, hw⟩
  unfold fR_putCopy
  rw [h.safter, Option.bind_some, i3_sub (by omega), show q + (s.length + 1) - q = (strc s).length by rw [strc_len]; omega, e]
  rfl
end PW
