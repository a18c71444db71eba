/-! ===== the printer over any cells ===== -/
section TO
variable {n : Nat} {f : Nat → Int64} {v : Nat} {o : Int32}
theorem low16 (x : Int32) : ∃ k, k < 65536 ∧ x &&& 65535 = i3 k := by
  refine ⟨(x.toInt % 65536).toNat, by omega, ?_⟩
  have := iz_and16 x.toInt
  rw [← x_iz] at this
  exact this
theorem kindT (hv : v ≤ 4096) (x : Int32) : ∃ y, fR_kind n x f (i3 v) o = some y := by
  rcases i3_cases x with h | ⟨p, hp, rfl⟩
  · unfold fR_kind
    rw [if_pos h]
    exact ⟨_, rfl⟩
  · by_cases h : p < v
    · exact ⟨_, kind_in h hv⟩
    · unfold fR_kind
      rw [if_neg (i3_nn hp), if_pos (by rw [i3_le (by omega) hp]; omega)]
      exact ⟨_, rfl⟩
theorem isT (hv : v ≤ 4096) (x k : Int32) : fR_is n x k f (i3 v) o = some 1 ∨ fR_is n x k f (i3 v) o = some 0 := by
  obtain ⟨y, hy⟩ := kindT (n := n) (f := f) (o := o) hv x
  unfold fR_is
  rw [hy, Option.bind_some]
  by_cases h : y = k
  · rw [if_pos h]
    exact Or.inl rfl
  · rw [if_neg h]
    exact Or.inr rfl
theorem lengthT (hv : v ≤ 4096) (x : Int32) : ∃ k, k < 65536 ∧ ∀ n, fR_length n x f (i3 v) o = some (i3 k) := by
  rcases i3_cases x with h | ⟨p, hp, rfl⟩
  · refine ⟨0, by omega, fun n => ?_⟩
    unfold fR_length
    rw [if_pos h]
    rfl
  · by_cases h : p < v
    · obtain ⟨k, hk, e⟩ := low16 (f p >>> ((3 : Int32).toInt64 &&& 63)).toInt32
      refine ⟨k, hk, fun n => ?_⟩
      rw [length_in h hv, e]
    · refine ⟨0, by omega, fun n => ?_⟩
      unfold fR_length
      rw [if_neg (i3_nn hp), if_pos (by rw [i3_le (by omega) hp]; omega)]
      rfl
theorem numberT (hv : v ≤ 4096) (x : Int32) : ∃ y, fR_number n x f (i3 v) o = some y := by
  rcases i3_cases x with h | ⟨p, hp, rfl⟩
  · unfold fR_number
    rw [if_pos h]
    exact ⟨_, rfl⟩
  · by_cases h : p < v
    · exact ⟨_, number_in h hv⟩
    · unfold fR_number
      rw [if_neg (i3_nn hp), if_pos (by rw [i3_le (by omega) hp]; omega)]
      exact ⟨_, rfl⟩
theorem cellT (hv : v ≤ 4096) (x : Int32) : ∃ y, fR_cell n x f (i3 v) o = some y := by
  rcases i3_cases x with h | ⟨p, hp, rfl⟩
  · unfold fR_cell
    rw [if_pos h]
    exact ⟨_, rfl⟩
  · by_cases h : p < v
    · exact ⟨_, cell_in h hv⟩
    · unfold fR_cell
      rw [if_neg (i3_nn hp), if_pos (by rw [i3_le (by omega) hp]; omega)]
      exact ⟨_, rfl⟩
theorem codeT (hv : v ≤ 4096) (x y : Int32) : ∃ z, fR_code n x y f (i3 v) o = some z := by
  unfold fR_code
  generalize (x + 1) + y = w
  rcases i3_cases w with h | ⟨p, hp, rfl⟩
  · rw [if_pos h]
    exact ⟨_, rfl⟩
  · rw [if_neg (i3_nn hp)]
    by_cases h : p < v
    · rw [if_neg (i3_nle h (by omega)), if_neg (i3_idx (by omega) hp)]
      exact ⟨_, rfl⟩
    · rw [if_pos (by rw [i3_le (by omega) hp]; omega)]
      exact ⟨_, rfl⟩
theorem afterT (hv : v ≤ 4096) (x : Int32) : ∃ y, fR_after n x f (i3 v) o = some y := by
  rcases i3_cases x with h | ⟨p, hp, rfl⟩
  · unfold fR_after
    rw [if_pos h]
    exact ⟨_, rfl⟩
  · by_cases h : p < v
    · rw [after_in h hv]
      split <;> exact ⟨_, rfl⟩
    · unfold fR_after
      rw [if_neg (i3_nn hp), if_pos (by rw [i3_le (by omega) hp]; omega)]
      exact ⟨_, rfl⟩
end TO
theorem an2T {y z : Int64} : ∀ (k n : Nat) (t : TS), k ≤ 15 → k + 2 < n → RV t → ∃ t' : TS, fT_addNumber_b n 2 (cW ((10 ^ k : Nat) : Int)) y z t.1 (i3 t.2.1) t.2.2 = some (t'.1, i3 t'.2.1, t'.2.2) ∧ RV t' := by
  intro k
  induction k with
  | zero =>
    intro n t _ hn ht
    obtain ⟨n, rfl⟩ : ∃ j, n = j + 2 := ⟨n - 2, by omega⟩
    obtain ⟨t1, e1, h1⟩ := add_x (n := n + 1) ht ((48 : Int64) + (y / cW ((10 ^ 0 : Nat) : Int) - y / cW ((10 ^ 0 : Nat) : Int) / 10 * 10)).toInt32
    refine ⟨t1, ?_, h1.v⟩
    rw [fT_addNumber_b, if_neg (by decide), if_neg (by decide), if_neg (by decide), e1, Option.bind_some]
    dsimp only
    rw [show cW ((10 ^ 0 : Nat) : Int) / 10 = 0 by decide, fT_addNumber_b, if_neg (by decide), if_pos (by decide)]
  | succ k ih =>
    intro n t hk hn ht
    obtain ⟨n, rfl⟩ : ∃ j, n = j + 1 := ⟨n - 1, by omega⟩
    have h15 := ten_le hk
    have hp := ten_pos (k + 1)
    have hp' := ten_pos k
    have hs : 10 ^ (k + 1) = 10 ^ k * 10 := Nat.pow_succ 10 k
    obtain ⟨t1, e1, h1⟩ := add_x (n := n) ht ((48 : Int64) + (y / cW ((10 ^ (k + 1) : Nat) : Int) - y / cW ((10 ^ (k + 1) : Nat) : Int) / 10 * 10)).toInt32
    obtain ⟨t2, e2, h2⟩ := ih n t1 (by omega) (by omega) h1.v
    refine ⟨t2, ?_, h2⟩
    have hc : ¬ lg_cmp (cW ((10 ^ (k + 1) : Nat) : Int)) 0 ≤ 0 := by
      rw [show (0 : Int64) = cW 0 from rfl, lg_cW (by omega) (by omega) (by omega) (by omega), izs_le0]
      omega
    have hc2 : ¬ cW ((10 ^ (k + 1) : Nat) : Int) = 0 := by
      rw [show (0 : Int64) = cW 0 from rfl, cW_eq (by omega) (by omega) (by omega) (by omega)]
      omega
    have hd : cW ((10 ^ (k + 1) : Nat) : Int) / 10 = cW ((10 ^ k : Nat) : Int) := by
      rw [show (10 : Int64) = cW ((10 : Nat) : Int) from rfl, q_div (by omega) (by omega), hs, Nat.mul_div_cancel _ (by omega)]
    rw [fT_addNumber_b, if_neg (by decide), if_neg hc, if_neg hc2, e1, Option.bind_some]
    dsimp only
    rw [hd, e2]
theorem an1T {y z : Int64} : ∀ (f k n : Nat) (t : TS), k + f = 15 → 40 < n + k → RV t → ∃ t' : TS, fT_addNumber_b n 1 (cW ((10 ^ k : Nat) : Int)) y z t.1 (i3 t.2.1) t.2.2 = some (t'.1, i3 t'.2.1, t'.2.2) ∧ RV t' := by
  intro f
  induction f with
  | zero =>
    intro k n t hk hn ht
    obtain rfl : k = 15 := by omega
    obtain ⟨n, rfl⟩ : ∃ j, n = j + 1 := ⟨n - 1, by omega⟩
    obtain ⟨t1, e1, h1⟩ := an2T (y := y) (z := z) 15 n t (by omega) (by omega) ht
    refine ⟨t1, ?_, h1⟩
    rw [fT_addNumber_b, if_pos rfl, if_pos (by decide)]
    exact e1
  | succ f ih =>
    intro k n t hk hn ht
    obtain ⟨n, rfl⟩ : ∃ j, n = j + 1 := ⟨n - 1, by omega⟩
    have h14 : 10 ^ k ≤ 100000000000000 := Nat.pow_le_pow_right (n := 10) (by omega) (show k ≤ 14 by omega)
    have hp := ten_pos k
    have hs : 10 ^ (k + 1) = 10 ^ k * 10 := Nat.pow_succ 10 k
    have hc1 : ¬ 0 < lg_cmp (cW ((10 ^ k : Nat) : Int)) 900719925474099 := by
      rw [show (900719925474099 : Int64) = cW 900719925474099 from rfl, lg_cW (by omega) (by omega) (by omega) (by omega), izs_gt0]
      omega
    have hc2 : ¬ cW ((10 ^ k : Nat) : Int) = 0 := by
      rw [show (0 : Int64) = cW 0 from rfl, cW_eq (by omega) (by omega) (by omega) (by omega)]
      omega
    rw [fT_addNumber_b, if_pos rfl, if_neg hc1, if_neg hc2]
    split
    · exact an2T k n t (by omega) (by omega) ht
    · have e : cW ((10 ^ k : Nat) : Int) * 10 = cW ((10 ^ (k + 1) : Nat) : Int) := by
        rw [show (10 : Int64) = cW 10 from rfl, cW_mul, hs]
        rfl
      rw [e]
      exact ih (k + 1) n t (by omega) (by omega) ht
theorem addNumberT {n : Nat} {t : TS} (hn : 40 < n) (ht : RV t) (x : Int64) : ∃ t' : TS, fT_addNumber n x t.1 (i3 t.2.1) t.2.2 = some (t'.1, i3 t'.2.1, t'.2.2) ∧ RV t' := by
  unfold fT_addNumber
  split
  · exact an1T 15 0 n t (by omega) (by omega) ht
  · obtain ⟨t1, e1, g1⟩ := add_c (n := n) ht (c := 45) (by omega)
    rw [show (45 : Int32) = i3 45 from rfl, e1, Option.bind_some]
    exact an1T 15 0 n t1 (by omega) (by omega) g1.v
section WT
variable {f : Nat → Int64} {v : Nat} {o : Int32}
theorem wsT (hv : v ≤ 4096) {x : Int32} {k : Nat} (hk : k < 65536) (hlen : ∀ n, fR_length n x f (i3 v) o = some (i3 k)) : ∀ (m n i : Nat) (t : TS), i + m = k → m < n → RV t → ∃ t' : TS, fP_writeString_b f (i3 v) o n 1 (i3 i) x t.1 (i3 t.2.1) t.2.2 = some (t'.1, i3 t'.2.1, t'.2.2) ∧ RV t' := by
  intro m
  induction m with
  | zero =>
    intro n i t hi hn ht
    obtain ⟨n, rfl⟩ : ∃ j, n = j + 1 := ⟨n - 1, by omega⟩
    obtain ⟨t1, e1, g1⟩ := add_c (n := n) ht (c := 34) (by omega)
    refine ⟨t1, ?_, g1.v⟩
    rw [fP_writeString_b, hlen, Option.bind_some, if_pos (by rw [i3_le (by omega) (by omega)]; omega), show (34 : Int32) = i3 34 from rfl, e1]
    rfl
  | succ m ih =>
    intro n i t hi hn ht
    obtain ⟨n, rfl⟩ : ∃ j, n = j + 1 := ⟨n - 1, by omega⟩
    obtain ⟨c, hc⟩ := codeT (n := n) (f := f) (o := o) hv x (i3 i)
    obtain ⟨t1, e1, g0, _⟩ := writeCode_w (n := n) ht c
    obtain ⟨t2, e2, g2⟩ := ih n (i + 1) t1 (by omega) (by omega) g0
    refine ⟨t2, ?_, g2⟩
    rw [fP_writeString_b, hlen, Option.bind_some, if_neg (by rw [i3_le (by omega) (by omega)]; omega), hc, Option.bind_some, e1, Option.bind_some]
    dsimp only
    rw [i3_one, e2]
theorem writeStringT {n : Nat} {t : TS} (hv : v ≤ 4096) (x : Int32) (hn : 65536 < n) (ht : RV t) : ∃ t' : TS, fP_writeString n x f (i3 v) o t.1 (i3 t.2.1) t.2.2 = some (t'.1, i3 t'.2.1, t'.2.2) ∧ RV t' := by
  obtain ⟨k, hk, hlen⟩ := lengthT (f := f) (o := o) hv x
  obtain ⟨t1, e1, g1⟩ := add_c (n := n) ht (c := 34) (by omega)
  obtain ⟨t2, e2, g2⟩ := wsT hv hk hlen k n 0 t1 (by omega) (by omega) g1.v
  refine ⟨t2, ?_, g2⟩
  unfold fP_writeString
  rw [show (34 : Int32) = i3 34 from rfl, e1, Option.bind_some]
  exact e2
theorem wlT (hv : v ≤ 4096) {rec : RecW} {x y3 y4 : Int32} {k : Nat} (hk : k < 65536) (hlen : ∀ n, fR_length n x f (i3 v) o = some (i3 k)) (hrec : ∀ (q : Int32) (t : TS), RV t → ∃ t' : TS, rec q (y3 + 1) f (i3 v) o t.1 (i3 t.2.1) t.2.2 = some (t'.1, i3 t'.2.1, t'.2.2) ∧ RV t') : ∀ (m n i : Nat) (q : Int32) (t : TS), i + m = k → 65537 + m < n → RV t → ∃ t' : TS, fP_writeList_b rec f (i3 v) o n 1 (i3 i) q y4 x y3 t.1 (i3 t.2.1) t.2.2 = some (t'.1, i3 t'.2.1, t'.2.2) ∧ RV t' := by
  intro m
  induction m with
  | zero =>
    intro n i q t hi hn ht
    obtain ⟨n, rfl⟩ : ∃ j, n = j + 1 := ⟨n - 1, by omega⟩
    obtain ⟨t1, e1, g1⟩ := add_c (n := n) ht (c := 93) (by omega)
    obtain ⟨t2, e2, g2⟩ := add_c (n := n) ht (c := 125) (by omega)
    rw [fP_writeList_b, hlen, Option.bind_some, if_pos (by rw [i3_le (by omega) (by omega)]; omega), show (93 : Int32) = i3 93 from rfl, show (125 : Int32) = i3 125 from rfl, e1, e2]
    split
    · exact ⟨t1, rfl, g1.v⟩
    · exact ⟨t2, rfl, g2.v⟩
  | succ m ih =>
    intro n i q t hi hn ht
    obtain ⟨n, rfl⟩ : ∃ j, n = j + 1 := ⟨n - 1, by omega⟩
    have rest : ∀ (q : Int32) (t : TS), RV t → ∃ t' : TS, ((rec q (y3 + 1) f (i3 v) o t.1 (i3 t.2.1) t.2.2).bind fun o4 => (fR_after n q f (i3 v) o).bind fun o6 => fP_writeList_b rec f (i3 v) o n 1 (i3 i + 1) o6 y4 x y3 o4.1 o4.2.1 o4.2.2) = some (t'.1, i3 t'.2.1, t'.2.2) ∧ RV t' := fun q t ht => by
      obtain ⟨t1, e1, g1⟩ := hrec q t ht
      obtain ⟨q2, e2⟩ := afterT (n := n) (f := f) (o := o) hv q
      obtain ⟨t3, e3, g3⟩ := ih n (i + 1) q2 t1 (by omega) (by omega) g1
      refine ⟨t3, ?_, g3⟩
      rw [e1, Option.bind_some, e2, Option.bind_some, i3_one]
      exact e3
    have rest2 : ∀ (t : TS), RV t → ∃ t' : TS, ((fP_writeString n q f (i3 v) o t.1 (i3 t.2.1) t.2.2).bind fun o4 => (fT_add n (58 : Int32) o4.1 o4.2.1 o4.2.2).bind fun o6 => (fR_after n q f (i3 v) o).bind fun o8 => (rec o8 (y3 + (1 : Int32)) f (i3 v) o o6.1 o6.2.1 o6.2.2).bind fun o11 => (fR_after n o8 f (i3 v) o).bind fun o13 => fP_writeList_b rec f (i3 v) o n 1 (i3 i + 1) o13 y4 x y3 o11.1 o11.2.1 o11.2.2) = some (t'.1, i3 t'.2.1, t'.2.2) ∧ RV t' := fun t ht => by
      obtain ⟨t1, e1, g1⟩ := writeStringT (n := n) (f := f) (o := o) hv q (by omega) ht
      obtain ⟨t2, e2, g2⟩ := add_c (n := n) g1 (c := 58) (by omega)
      obtain ⟨q2, e3⟩ := afterT (n := n) (f := f) (o := o) hv q
      obtain ⟨t4, e4, g4⟩ := rest q2 t2 g2.v
      refine ⟨t4, ?_, g4⟩
      rw [e1, Option.bind_some]
      dsimp only
      rw [show (58 : Int32) = i3 58 from rfl, e2, Option.bind_some, e3, Option.bind_some]
      exact e4
    rw [fP_writeList_b, hlen, Option.bind_some, if_neg (by rw [i3_le (by omega) (by omega)]; omega)]
    split
    · split
      · exact rest q t ht
      · exact rest2 t ht
    · obtain ⟨t0, e0, g0⟩ := add_c (n := n) ht (c := 44) (by omega)
      rw [show (44 : Int32) = i3 44 from rfl, e0, Option.bind_some]
      split
      · exact rest q t0 g0.v
      · exact rest2 t0 g0.v
theorem writeT {n : Nat} (hn : 140000 < n) (hv : v ≤ 4096) : ∀ (d k : Nat) (x : Int32) (t : TS), 61 ≤ d + k → 1 ≤ d → k ≤ 1000 → RV t → ∃ t' : TS, fP_write d n x (i3 k) f (i3 v) o t.1 (i3 t.2.1) t.2.2 = some (t'.1, i3 t'.2.1, t'.2.2) ∧ RV t' := by
  intro d
  induction d with
  | zero => intro k x t _ h; omega
  | succ d ih =>
    intro k x t hd _ hk ht
    obtain ⟨w0, w1, w2⟩ := word_w (n := n) ht
    obtain ⟨y, hy⟩ := kindT (n := n) (f := f) (o := o) hv x
    rw [fP_write, hy, Option.bind_some]
    split
    · obtain ⟨t', e, g⟩ := w0
      exact ⟨t', b3 e, g.v⟩
    split
    · obtain ⟨t', e, g⟩ := w1
      exact ⟨t', b3 e, g.v⟩
    split
    · obtain ⟨t', e, g⟩ := w2
      exact ⟨t', b3 e, g.v⟩
    split
    · obtain ⟨z, hz⟩ := numberT (n := n) (f := f) (o := o) hv x
      obtain ⟨t', e, g⟩ := addNumberT (n := n) (by omega) ht z
      rw [hz, Option.bind_some]
      exact ⟨t', b3 e, g⟩
    split
    · obtain ⟨t', e, g⟩ := writeStringT (n := n) (f := f) (o := o) hv x (by omega) ht
      exact ⟨t', b3 e, g⟩
    · unfold fP_writeList
      by_cases h60 : k < 60
      · rw [if_pos (by rw [show (60 : Int32) = i3 60 from rfl, i3_lt (by omega) (by omega)]; exact h60)]
        obtain ⟨m, hm, hlen⟩ := lengthT (f := f) (o := o) hv x
        have hr : ∀ (q : Int32) (t : TS), RV t → ∃ t' : TS, fP_write d n q (i3 k + 1) f (i3 v) o t.1 (i3 t.2.1) t.2.2 = some (t'.1, i3 t'.2.1, t'.2.2) ∧ RV t' := fun q t ht => by
          rw [i3_one]
          exact ih (k + 1) q t (by omega) (by omega) (by omega) ht
        obtain ⟨t1, e1, g1⟩ := add_c (n := n) ht (c := 91) (by omega)
        obtain ⟨t2, e2, g2⟩ := add_c (n := n) ht (c := 123) (by omega)
        rcases isT (n := n) (f := f) (o := o) hv x 6 with e | e
        · rw [e, Option.bind_some, if_neg (by decide), show (123 : Int32) = i3 123 from rfl, e2, Option.bind_some]
          obtain ⟨t3, e3, g3⟩ := wlT (y4 := 1) hv hm hlen hr m n 0 (x + 1) t2 (by omega) (by omega) g2.v
          exact ⟨t3, b3 e3, g3⟩
        · rw [e, Option.bind_some, if_pos rfl, show (91 : Int32) = i3 91 from rfl, e1, Option.bind_some]
          obtain ⟨t3, e3, g3⟩ := wlT (y4 := 0) hv hm hlen hr m n 0 (x + 1) t1 (by omega) (by omega) g1.v
          exact ⟨t3, b3 e3, g3⟩
      · rw [if_neg (by rw [show (60 : Int32) = i3 60 from rfl, i3_lt (by omega) (by omega)]; exact h60)]
        exact ⟨(t.1, t.2.1, 1), rfl, ⟨ht.1, Or.inr rfl⟩⟩
end WT
