section ZWr9
/-! ===== what is written to a row ===== -/
abbrev BS (α : Type) : Type := (Nat → α) × Nat × Int32
abbrev RS : Type := BS Int64
abbrev TS : Type := BS Int32
def RV {α : Type} (r : BS α) : Prop := r.2.1 ≤ 4096 ∧ (r.2.2 = 0 ∨ r.2.2 = 1)
def Wr {α : Type} (r : BS α) (w : List α) (r' : BS α) : Prop :=
  RV r' ∧ ((r.2.2 = 0 ∧ r.2.1 + w.length ≤ 4096 ∧ r'.2.2 = 0 ∧ r'.2.1 = r.2.1 + w.length ∧ (∀ i, i < r.2.1 → r'.1 i = r.1 i) ∧ seg r'.1 r.2.1 w) ∨ ((r.2.2 = 1 ∨ 4096 < r.2.1 + w.length) ∧ r'.2.2 = 1))
theorem Wr.nil {α : Type} {r : BS α} (h : RV r) : Wr r [] r := by
  refine ⟨h, ?_⟩
  rcases h.2 with h2 | h2
  · exact Or.inl ⟨h2, by simpa using h.1, h2, rfl, fun _ _ => rfl, seg_nil⟩
  · exact Or.inr ⟨Or.inl h2, h2⟩
theorem Wr.app {α : Type} {r r1 r2 : BS α} {a b : List α} (h1 : Wr r a r1) (h2 : Wr r1 b r2) : Wr r (a ++ b) r2 := by
  obtain ⟨v1, h1⟩ := h1
  obtain ⟨v2, h2⟩ := h2
  refine ⟨v2, ?_⟩
  have n01 : ¬ (0 : Int32) = 1 := by decide
  rcases h1 with ⟨a1, a2, a3, a4, a5, a6⟩ | ⟨a1, a2⟩
  · rcases h2 with ⟨b1, b2, b3, b4, b5, b6⟩ | ⟨b1, b2⟩
    · refine Or.inl ⟨a1, by rw [List.length_append]; omega, b3, by rw [List.length_append]; omega, fun i hi => by rw [b5 i (by omega), a5 i hi], seg_app.mpr ⟨seg_of a6 (fun i hi => b5 _ (by omega)), ?_⟩⟩
      rw [a4] at b6
      exact b6
    · refine Or.inr ⟨Or.inr ?_, b2⟩
      rw [List.length_append]
      rcases b1 with b1 | b1
      · rw [a3] at b1
        exact absurd b1 n01
      · omega
  · rcases h2 with ⟨b1, b2, b3, b4, b5, b6⟩ | ⟨b1, b2⟩
    · rw [a2] at b1
      exact absurd b1.symm n01
    · refine Or.inr ⟨?_, b2⟩
      rcases a1 with a1 | a1
      · exact Or.inl a1
      · right
        rw [List.length_append]
        omega
theorem Wr.v {α : Type} {r r1 : BS α} {w : List α} (h : Wr r w r1) : RV r1 := h.1
/-- a value that was written stands there -/
theorem Wr.at0 {r r1 : RS} {w : List Int64} (h : Wr r w r1) (h0 : r1.2.2 = 0) : At r1.1 r1.2.1 r.2.1 w ∧ r1.2.1 = r.2.1 + w.length ∧ r.2.2 = 0 := by
  obtain ⟨v1, h1⟩ := h
  rcases h1 with ⟨a1, a2, a3, a4, a5, a6⟩ | ⟨_, a2⟩
  · exact ⟨⟨a6, by omega, v1.1⟩, a4, a1⟩
  · rw [h0] at a2
    exact absurd a2 (by decide)
section PW
variable {n : Nat} {r : RS}
theorem put_w (hr : RV r) (x : Int64) : ∃ r' : RS, fR_put n x r.1 (i3 r.2.1) r.2.2 = some (r'.1, i3 r'.2.1, r'.2.2) ∧ Wr r [x] r' := by
  obtain ⟨f, v, o⟩ := r
  obtain ⟨hv, ho⟩ := hr
  simp only at hv ho
  unfold fR_put
  dsimp only
  rcases ho with rfl | rfl
  · rw [if_pos rfl]
    by_cases h : v < 4096
    · rw [if_pos (by rw [show (4096 : Int32) = i3 4096 from rfl, i3_lt (by omega) (by omega)]; exact h), if_neg (i3_idx (by omega) (by omega)), i3_N (by omega), i3_one]
      refine ⟨(vp_updL f v x, v + 1, 0), rfl, ⟨by show v + 1 ≤ 4096; omega, Or.inl rfl⟩, Or.inl ⟨rfl, by show v + 1 ≤ 4096; omega, rfl, rfl, fun i hi => ?_, seg_one.mpr ?_⟩⟩
      · show vp_updL f v x i = f i
        unfold vp_updL
        rw [if_neg]
        simp only at hi
        omega
      · show vp_updL f v x v = x
        unfold vp_updL
        rw [if_pos rfl]
    · rw [if_neg (by rw [show (4096 : Int32) = i3 4096 from rfl, i3_lt (by omega) (by omega)]; exact h)]
      exact ⟨(f, v, 1), rfl, ⟨hv, Or.inr rfl⟩, Or.inr ⟨Or.inr (by show 4096 < v + 1; omega), rfl⟩⟩
  · rw [if_neg (by decide)]
    exact ⟨(f, v, 1), rfl, ⟨hv, Or.inr rfl⟩, Or.inr ⟨Or.inl rfl, rfl⟩⟩
theorem putNumber_w (hr : RV r) (z : Int) : ∃ r' : RS, fR_putNumber n (cW z) r.1 (i3 r.2.1) r.2.2 = some (r'.1, i3 r'.2.1, r'.2.2) ∧ Wr r [cW (z * 8 + 3)] r' := by
  obtain ⟨r', e, h⟩ := put_w (n := n) hr (cW (z * 8 + 3))
  refine ⟨r', ?_, h⟩
  unfold fR_putNumber
  rw [num_mk, e]
  rfl
theorem putNull_w (hr : RV r) : ∃ r' : RS, fR_putNull n r.1 (i3 r.2.1) r.2.2 = some (r'.1, i3 r'.2.1, r'.2.2) ∧ Wr r [cW (0 : Nat)] r' := by
  obtain ⟨r', e, h⟩ := put_w (n := n) hr (cW (0 : Nat))
  refine ⟨r', ?_, h⟩
  unfold fR_putNull
  rw [show (0 : Int64) = cW (0 : Nat) from rfl, e]
  rfl
theorem putTruth_w (hr : RV r) (b : Bool) : ∃ r' : RS, fR_putTruth n (if b then 1 else 0) r.1 (i3 r.2.1) r.2.2 = some (r'.1, i3 r'.2.1, r'.2.2) ∧ Wr r [cW ((if b then 2 else 1 : Nat) : Nat)] r' := by
  unfold fR_putTruth
  cases b with
  | true =>
    obtain ⟨r', e, h⟩ := put_w (n := n) hr (cW (2 : Nat))
    refine ⟨r', ?_, h⟩
    rw [if_neg (by decide), show (2 : Int64) = cW (2 : Nat) from rfl, e]
    rfl
  | false =>
    obtain ⟨r', e, h⟩ := put_w (n := n) hr (cW (1 : Nat))
    refine ⟨r', ?_, h⟩
    rw [if_pos (by decide), show (1 : Int64) = cW (1 : Nat) from rfl, e]
    rfl
theorem open_w (hr : RV r) : ∃ r' : RS, fR_open n r.1 (i3 r.2.1) r.2.2 = some (i3 r'.2.1 - 1, r'.1, i3 r'.2.1, r'.2.2) ∧ Wr r [cW (0 : Nat)] r' := by
  obtain ⟨r', e, h⟩ := put_w (n := n) hr (cW (0 : Nat))
  refine ⟨r', ?_, h⟩
  unfold fR_open
  rw [show (0 : Int64) = cW (0 : Nat) from rfl, e]
  rfl
theorem close_w {r1 r2 : RS} {x : Int64} {w : List Int64} {k len : Nat} (h1 : Wr r [x] r1) (h2 : Wr r1 w r2) (hk : k < 8) (hl : r2.2.2 = 0 → len < 65536) : ∃ f3, fR_close n (i3 r1.2.1 - 1) (i3 k) (i3 len) r2.1 (i3 r2.2.1) r2.2.2 = some f3 ∧ Wr r (lst k len w) (f3, r2.2.1, r2.2.2) := by
  obtain ⟨v2, h2'⟩ := h2
  obtain ⟨v1, h1'⟩ := h1
  obtain ⟨f1, v1', o1⟩ := r1
  obtain ⟨f2, v2', o2⟩ := r2
  obtain ⟨f0, v0, o0⟩ := r
  simp only at *
  unfold fR_close
  have n01 : ¬ (0 : Int32) = 1 := by decide
  rcases v2.2 with ho | ho
  · simp only at ho
    subst ho
    rw [if_pos rfl]
    rcases h2' with ⟨a1, a2, a3, a4, a5, a6⟩ | ⟨_, a2⟩
    · rcases h1' with ⟨b1, b2, b3, b4, b5, b6⟩ | ⟨_, b2⟩
      · simp only [List.length_singleton] at *
        have hv := v2.1
        simp only at hv
        have hl := hl (by trivial)
        rw [i3_pred (by omega), if_neg (i3_nn (by omega)), if_neg (i3_nle (by omega) (by omega)), if_neg (i3_idx (by omega) (by omega)), i3_sub (by omega), head_mk (by omega) hl hk, i3_N (by omega)]
        refine ⟨_, rfl, ⟨hv, Or.inl rfl⟩, Or.inl ⟨b1, ?_, rfl, ?_, fun i hi => ?_, seg_cons.mpr ⟨?_, ?_⟩⟩⟩
        · rw [lst_len]; simp only; omega
        · rw [lst_len]; simp only; omega
        · simp only at hi ⊢
          unfold vp_updL
          rw [if_neg (by omega), a5 i (by omega), b5 i hi]
        · simp only
          unfold vp_updL hd
          rw [if_pos (by omega)]
          have : v2' - (v1' - 1) = w.length + 1 := by omega
          rw [this]
        · have : v0 + 1 = v1' := by omega
          simp only
          rw [this]
          refine seg_of a6 (fun i hi => ?_)
          unfold vp_updL
          rw [if_neg (by omega)]
      · exact absurd (a1.symm.trans b2) n01
    · exact absurd a2 n01
  · simp only at ho
    subst ho
    rw [if_neg (by decide)]
    refine ⟨_, rfl, ⟨v2.1, Or.inr rfl⟩, Or.inr ⟨?_, rfl⟩⟩
    rcases h2' with ⟨_, _, a3, _⟩ | ⟨a1, _⟩
    · exact absurd a3.symm n01
    · rcases h1' with ⟨b1, b2, b3, b4, b5, b6⟩ | ⟨b1, _⟩
      · rcases a1 with a1 | a1
        · exact absurd (b3.symm.trans a1) n01
        · right
          rw [lst_len]
          simp only [List.length_singleton] at *
          omega
      · rcases b1 with b1 | b1
        · exact Or.inl b1
        · right
          rw [lst_len]
          simp only [List.length_singleton] at *
          omega
theorem putCells_w (hr : RV r) {g : Nat → Int64} {u q : Nat} {o' : Int32} {w : List Int64} (h : At g u q w) : ∃ r' : RS, fR_putCells n (i3 q) (i3 w.length) r.1 (i3 r.2.1) r.2.2 g (i3 u) o' = some (r'.1, i3 r'.2.1, r'.2.2) ∧ Wr r w r' := by
  obtain ⟨f, v, o⟩ := r
  obtain ⟨hv, ho⟩ := hr
  obtain ⟨h1, h2, h3⟩ := h
  simp only at hv ho
  unfold fR_putCells
  dsimp only
  rcases ho with rfl | rfl
  · rw [if_pos rfl, if_neg (i3_nn (by omega)), if_neg (i3_nn (by omega)), i3_add, if_neg (by rw [i3_lt (by omega) (by omega)]; omega), i3_add]
    by_cases h4 : v + w.length ≤ 4096
    · rw [if_pos (by rw [show (4096 : Int32) = i3 4096 from rfl, i3_le (by omega) (by omega)]; exact h4), if_neg, i3_N (by omega), i3_N (by omega), i3_N (by omega)]
      · refine ⟨(va_cpy g f q v w.length, v + w.length, 0), rfl, ⟨by simpa using h4, Or.inl rfl⟩, Or.inl ⟨rfl, by simpa using h4, rfl, rfl, fun i hi => ?_, seg_of h1 (fun i hi => ?_)⟩⟩
        · simp only at hi ⊢
          unfold va_cpy
          rw [if_neg (by omega)]
        · simp only
          unfold va_cpy
          rw [if_pos (by omega)]
          congr 1
          omega
      · rw [i3_N (by omega), i3_N (by omega), i3_N (by omega)]
        rintro (h5 | h5 | h5 | h5 | h5)
        · exact i3_nn (by omega) h5
        · exact i3_nn (by omega) h5
        · exact i3_nn (by omega) h5
        · omega
        · omega
    · rw [if_neg (by rw [show (4096 : Int32) = i3 4096 from rfl, i3_le (by omega) (by omega)]; exact h4)]
      exact ⟨(f, v, 1), rfl, ⟨hv, Or.inr rfl⟩, Or.inr ⟨Or.inr (by simp only; omega), rfl⟩⟩
  · rw [if_neg (by decide)]
    exact ⟨(f, v, 1), rfl, ⟨hv, Or.inr rfl⟩, Or.inr ⟨Or.inl rfl, rfl⟩⟩
theorem putCopy_w (hr : RV r) {g : Nat → Int64} {u q d : Nat} {o' : Int32} {j : JT d} (h : At g u q (jc d j)) (hok : jok d j) : ∃ r' : RS, fR_putCopy n (i3 q) r.1 (i3 r.2.1) r.2.2 g (i3 u) o' = some (r'.1, i3 r'.2.1, r'.2.2) ∧ Wr r (jc d j) r' := by
  obtain ⟨r', e, hw⟩ := putCells_w (n := n) (o' := o') hr h
  refine ⟨r', ?_, hw⟩
  unfold fR_putCopy
  rw [h.after hok, Option.bind_some, i3_sub (by omega), show q + (jc d j).length - q = (jc d j).length by omega, e]
  rfl
theorem putCopyS_w (hr : RV r) {g : Nat → Int64} {u q : Nat} {o' : Int32} {s : Sx} (h : At g u q (strc s)) : ∃ r' : RS, fR_putCopy n (i3 q) r.1 (i3 r.2.1) r.2.2 g (i3 u) o' = some (r'.1, i3 r'.2.1, r'.2.2) ∧ Wr r (strc s) r' := by
  obtain ⟨r', e, hw⟩ := putCells_w (n := n) (o' := o') hr h
  refine ⟨r', ?_, hw⟩
  unfold fR_putCopy
  rw [h.safter, Option.bind_some, i3_sub (by omega), show q + (s.length + 1) - q = (strc s).length by rw [strc_len]; omega, e]
  rfl
end PW
end ZWr9
section ZTx10
/-! ===== texts ===== -/
def sb (b : Nat) : Int32 := if b < 128 then i3 b else iz ((b : Int) - 256)
theorem sb_lt {b : Nat} (h : b < 128) : sb b = i3 b := if_pos h
theorem sb_int {b : Nat} (h : b < 256) : (sb b).toInt = if b < 128 then (b : Int) else (b : Int) - 256 := by
  unfold sb
  split
  · rw [i3_int (by omega)]
  · rw [iz_int (by omega) (by omega)]
theorem vp_nb (x : Int32) : vp_nar .byte x = x.toInt8.toInt32 := rfl
theorem nar_sb (z : Int) : vp_nar .byte (iz z).toInt8.toInt32 = sb (z % 256).toNat := by
  rw [vp_nb]
  apply Int32.toInt_inj.mp
  rw [sb_int (by omega)]
  have e1 : (iz z).toInt = z.bmod 4294967296 := Int32.toInt_ofInt
  have e2 : ∀ x : Int32, x.toInt8.toInt = x.toInt.bmod (2 ^ 8) := fun x => Int32.toInt_toInt8 x
  rw [Int8.toInt_toInt32, e2, Int8.toInt_toInt32, e2, e1]
  have h1 : ∀ x : Int, (x.bmod (2 ^ 8)).bmod (2 ^ 8) = x.bmod (2 ^ 8) := fun x => Int.bmod_bmod
  rw [h1]
  rw [Int.bmod_def, Int.bmod_def]
  omega
theorem i3_iz (n : Nat) : i3 n = iz n := (iz_nat n).symm
theorem sb_and {b : Nat} (h : b < 256) : sb b &&& 255 = i3 b := by
  unfold sb
  split
  · rw [i3_iz, iz_and8]
    congr 1
    omega
  · rw [iz_and8]
    congr 1
    omega
theorem x_iz (x : Int32) : x = iz x.toInt := (Int32.ofInt_toInt x).symm
section TX
variable {n : Nat} {t : TS}
theorem add_w (ht : RV t) (z : Int) : ∃ t' : TS, fT_add n (iz z) t.1 (i3 t.2.1) t.2.2 = some (t'.1, i3 t'.2.1, t'.2.2) ∧ Wr t [sb (z % 256).toNat] t' := by
  obtain ⟨f, v, o⟩ := t
  obtain ⟨hv, ho⟩ := ht
  simp only at hv ho
  unfold fT_add
  dsimp only
  by_cases h : v < 4096
  · rw [if_pos (by rw [show (4096 : Int32) = i3 4096 from rfl, i3_lt (by omega) (by omega)]; exact h), if_neg (i3_idx (by omega) (by omega)), i3_N (by omega), i3_one, nar_sb]
    refine ⟨(upd f v (sb (z % 256).toNat), v + 1, o), rfl, ⟨by show v + 1 ≤ 4096; omega, ho⟩, ?_⟩
    rcases ho with rfl | rfl
    · refine Or.inl ⟨rfl, by show v + 1 ≤ 4096; omega, rfl, rfl, fun i hi => ?_, seg_one.mpr ?_⟩
      · show upd f v _ i = f i
        unfold upd
        rw [if_neg]
        simp only at hi
        omega
      · show upd f v _ v = _
        unfold upd
        rw [if_pos rfl]
    · exact Or.inr ⟨Or.inl rfl, rfl⟩
  · rw [if_neg (by rw [show (4096 : Int32) = i3 4096 from rfl, i3_lt (by omega) (by omega)]; exact h)]
    exact ⟨(f, v, 1), rfl, ⟨hv, Or.inr rfl⟩, Or.inr ⟨Or.inr (by show 4096 < v + 1; omega), rfl⟩⟩
theorem add_c (ht : RV t) {c : Nat} (hc : c < 128) : ∃ t' : TS, fT_add n (i3 c) t.1 (i3 t.2.1) t.2.2 = some (t'.1, i3 t'.2.1, t'.2.2) ∧ Wr t [sb c] t' := by
  obtain ⟨t', e, h⟩ := add_w (n := n) ht (c : Int)
  rw [show ((c : Int) % 256).toNat = c by omega] at h
  exact ⟨t', by rw [← iz_nat]; exact e, h⟩
theorem add_x (ht : RV t) (x : Int32) : ∃ t' : TS, fT_add n x t.1 (i3 t.2.1) t.2.2 = some (t'.1, i3 t'.2.1, t'.2.2) ∧ Wr t [sb (x.toInt % 256).toNat] t' := by
  obtain ⟨t', e, h⟩ := add_w (n := n) ht x.toInt
  rw [← x_iz] at e
  exact ⟨t', e, h⟩
theorem word_w (ht : RV t) : (∃ t' : TS, fT_addWord n t.1 (i3 t.2.1) t.2.2 = some (t'.1, i3 t'.2.1, t'.2.2) ∧ Wr t ((wd 0).map sb) t') ∧ (∃ t' : TS, fT_addWorda n t.1 (i3 t.2.1) t.2.2 = some (t'.1, i3 t'.2.1, t'.2.2) ∧ Wr t ((wd 1).map sb) t') ∧ (∃ t' : TS, fT_addWordb n t.1 (i3 t.2.1) t.2.2 = some (t'.1, i3 t'.2.1, t'.2.2) ∧ Wr t ((wd 2).map sb) t') := by
  refine ⟨?_, ?_, ?_⟩
  · obtain ⟨t1, e1, h1⟩ := add_c (n := n) ht (c := 110) (by omega)
    obtain ⟨t2, e2, h2⟩ := add_c (n := n) h1.v (c := 117) (by omega)
    obtain ⟨t3, e3, h3⟩ := add_c (n := n) h2.v (c := 108) (by omega)
    obtain ⟨t4, e4, h4⟩ := add_c (n := n) h3.v (c := 108) (by omega)
    refine ⟨t4, ?_, ((h1.app h2).app h3).app h4⟩
    unfold fT_addWord
    rw [show (110 : Int32) = i3 110 from rfl, show (117 : Int32) = i3 117 from rfl, show (108 : Int32) = i3 108 from rfl, e1, Option.bind_some]
    dsimp only
    rw [e2, Option.bind_some]
    dsimp only
    rw [e3, Option.bind_some]
    dsimp only
    rw [e4, Option.bind_some]
  · obtain ⟨t1, e1, h1⟩ := add_c (n := n) ht (c := 102) (by omega)
    obtain ⟨t2, e2, h2⟩ := add_c (n := n) h1.v (c := 97) (by omega)
    obtain ⟨t3, e3, h3⟩ := add_c (n := n) h2.v (c := 108) (by omega)
    obtain ⟨t4, e4, h4⟩ := add_c (n := n) h3.v (c := 115) (by omega)
    obtain ⟨t5, e5, h5⟩ := add_c (n := n) h4.v (c := 101) (by omega)
    refine ⟨t5, ?_, (((h1.app h2).app h3).app h4).app h5⟩
    unfold fT_addWorda
    rw [show (102 : Int32) = i3 102 from rfl, show (97 : Int32) = i3 97 from rfl, show (108 : Int32) = i3 108 from rfl, show (115 : Int32) = i3 115 from rfl, show (101 : Int32) = i3 101 from rfl, e1, Option.bind_some]
    dsimp only
    rw [e2, Option.bind_some]
    dsimp only
    rw [e3, Option.bind_some]
    dsimp only
    rw [e4, Option.bind_some]
    dsimp only
    rw [e5, Option.bind_some]
  · obtain ⟨t1, e1, h1⟩ := add_c (n := n) ht (c := 116) (by omega)
    obtain ⟨t2, e2, h2⟩ := add_c (n := n) h1.v (c := 114) (by omega)
    obtain ⟨t3, e3, h3⟩ := add_c (n := n) h2.v (c := 117) (by omega)
    obtain ⟨t4, e4, h4⟩ := add_c (n := n) h3.v (c := 101) (by omega)
    refine ⟨t4, ?_, ((h1.app h2).app h3).app h4⟩
    unfold fT_addWordb
    rw [show (116 : Int32) = i3 116 from rfl, show (114 : Int32) = i3 114 from rfl, show (117 : Int32) = i3 117 from rfl, show (101 : Int32) = i3 101 from rfl, e1, Option.bind_some]
    dsimp only
    rw [e2, Option.bind_some]
    dsimp only
    rw [e3, Option.bind_some]
    dsimp only
    rw [e4, Option.bind_some]
end TX
/-! digits -/
theorem cW_add (a b : Int) : cW a + cW b = cW (a + b) := (Int64.ofInt_add a b).symm
theorem cW_mul (a b : Int) : cW a * cW b = cW (a * b) := (Int64.ofInt_mul a b).symm
theorem cW_div {a b : Int} (h1 : -9223372036854775808 < a) (h2 : a < 9223372036854775808) (h3 : -9223372036854775808 ≤ b) (h4 : b < 9223372036854775808) : cW a / cW b = cW (a.tdiv b) := by
  apply Int64.toInt_inj.mp
  rw [Int64.toInt_div, cW_int (by omega) h2, cW_int h3 h4]
  exact (Int64.toInt_ofInt).symm
theorem ten_le {k : Nat} (h : k ≤ 15) : 10 ^ k ≤ 1000000000000000 := Nat.pow_le_pow_right (n := 10) (by omega) h
theorem ten_pos (k : Nat) : 1 ≤ 10 ^ k := Nat.one_le_pow _ _ (by omega)
theorem q_div {m b : Nat} (hm : m < 9223372036854775808) (hb : b < 9223372036854775808) : cW (m : Int) / cW (b : Int) = cW ((m / b : Nat) : Int) := by
  rw [cW_div (by omega) (by omega) (by omega) (by omega)]
  rfl
theorem dig_code {q : Nat} (hq : q < 9223372036854775808) : ((48 : Int64) + (cW (q : Int) - cW (q : Int) / 10 * 10)).toInt32 = i3 (48 + q % 10) := by
  rw [show (10 : Int64) = cW ((10 : Nat) : Int) from rfl, q_div hq (by omega), cW_mul, cW_sub, show (48 : Int64) = cW 48 from rfl, cW_add, cW_32, ← iz_nat]
  congr 1
  omega
section AN
variable {t : TS}
theorem an2 {m : Nat} (hm : m < 10000000000000000) {z : Int64} : ∀ (k n : Nat) (t : TS), k ≤ 15 → k + 2 < n → RV t → ∃ t' : TS, fT_addNumber_b n 2 (cW ((10 ^ k : Nat) : Int)) (cW (m : Int)) z t.1 (i3 t.2.1) t.2.2 = some (t'.1, i3 t'.2.1, t'.2.2) ∧ Wr t ((dgs (k + 1) m).map sb) t' := by
  intro k
  induction k with
  | zero =>
    intro n t _ hn ht
    obtain ⟨n, rfl⟩ : ∃ j, n = j + 2 := ⟨n - 2, by omega⟩
    have hq := Nat.div_le_self m (10 ^ 0)
    obtain ⟨t1, e1, h1⟩ := add_c (n := n + 1) ht (c := 48 + m / 10 ^ 0 % 10) (by omega)
    refine ⟨t1, ?_, h1⟩
    have hc : ¬ lg_cmp (cW ((10 ^ 0 : Nat) : Int)) 0 ≤ 0 := by
      rw [show (0 : Int64) = cW 0 from rfl, lg_cW (by omega) (by omega) (by omega) (by omega), izs_le0]
      omega
    rw [fT_addNumber_b, if_neg (by decide), if_neg hc, if_neg (by decide), q_div (by omega) (by omega), dig_code (by omega), e1, Option.bind_some]
    dsimp only
    rw [show cW ((10 ^ 0 : Nat) : Int) / 10 = 0 by decide, fT_addNumber_b, if_neg (by decide), if_pos (by decide)]
  | succ k ih =>
    intro n t hk hn ht
    obtain ⟨n, rfl⟩ : ∃ j, n = j + 1 := ⟨n - 1, by omega⟩
    have hq := Nat.div_le_self m (10 ^ (k + 1))
    have h15 := ten_le hk
    have hp := ten_pos (k + 1)
    have hp' := ten_pos k
    have hs : 10 ^ (k + 1) = 10 ^ k * 10 := Nat.pow_succ 10 k
    obtain ⟨t1, e1, h1⟩ := add_c (n := n) ht (c := 48 + m / 10 ^ (k + 1) % 10) (by omega)
    obtain ⟨t2, e2, h2⟩ := ih n t1 (by omega) (by omega) h1.v
    refine ⟨t2, ?_, h1.app h2⟩
    have hc : ¬ lg_cmp (cW ((10 ^ (k + 1) : Nat) : Int)) 0 ≤ 0 := by
      rw [show (0 : Int64) = cW 0 from rfl, lg_cW (by omega) (by omega) (by omega) (by omega), izs_le0]
      omega
    have hc2 : ¬ cW ((10 ^ (k + 1) : Nat) : Int) = 0 := by
      rw [show (0 : Int64) = cW 0 from rfl, cW_eq (by omega) (by omega) (by omega) (by omega)]
      omega
    have hd : cW ((10 ^ (k + 1) : Nat) : Int) / 10 = cW ((10 ^ k : Nat) : Int) := by
      rw [show (10 : Int64) = cW ((10 : Nat) : Int) from rfl, q_div (by omega) (by omega), hs, Nat.mul_div_cancel _ (by omega)]
    rw [fT_addNumber_b, if_neg (by decide), if_neg hc, if_neg hc2, q_div (by omega) (by omega), dig_code (by omega), e1, Option.bind_some]
    dsimp only
    rw [hd, e2]
theorem an1 {m : Nat} (hm : m < 10000000000000000) {z : Int64} : ∀ (f k n : Nat) (t : TS), k + f = 15 → 40 < n + k → RV t → ∃ t' : TS, fT_addNumber_b n 1 (cW ((10 ^ k : Nat) : Int)) (cW (m : Int)) z t.1 (i3 t.2.1) t.2.2 = some (t'.1, i3 t'.2.1, t'.2.2) ∧ Wr t ((dgs (nlA f (k + 1) m) m).map sb) t' := by
  intro f
  induction f with
  | zero =>
    intro k n t hk hn ht
    obtain rfl : k = 15 := by omega
    obtain ⟨n, rfl⟩ : ∃ j, n = j + 1 := ⟨n - 1, by omega⟩
    obtain ⟨t1, e1, h1⟩ := an2 hm (z := z) 15 n t (by omega) (by omega) ht
    refine ⟨t1, ?_, h1⟩
    rw [fT_addNumber_b, if_pos rfl, if_pos (by decide)]
    exact e1
  | succ f ih =>
    intro k n t hk hn ht
    obtain ⟨n, rfl⟩ : ∃ j, n = j + 1 := ⟨n - 1, by omega⟩
    have h14 : 10 ^ k ≤ 100000000000000 := Nat.pow_le_pow_right (n := 10) (by omega) (show k ≤ 14 by omega)
    have hp := ten_pos k
    have hs : 10 ^ (k + 1) = 10 ^ k * 10 := Nat.pow_succ 10 k
    have hq := Nat.div_le_self m (10 ^ k)
    have hc1 : ¬ 0 < lg_cmp (cW ((10 ^ k : Nat) : Int)) 900719925474099 := by
      rw [show (900719925474099 : Int64) = cW 900719925474099 from rfl, lg_cW (by omega) (by omega) (by omega) (by omega), izs_gt0]
      omega
    have hc2 : ¬ cW ((10 ^ k : Nat) : Int) = 0 := by
      rw [show (0 : Int64) = cW 0 from rfl, cW_eq (by omega) (by omega) (by omega) (by omega)]
      omega
    have hlt : m / 10 ^ k < 10 ↔ m < 10 ^ (k + 1) := by
      rw [Nat.div_lt_iff_lt_mul (by omega), hs, Nat.mul_comm]
    have hc3 : (lg_cmp (cW ((m / 10 ^ k : Nat) : Int)) 10 < 0) = (m < 10 ^ (k + 1)) := by
      rw [← propext hlt]
      generalize m / 10 ^ k = q at hq
      rw [show (10 : Int64) = cW 10 from rfl, lg_cW (by omega) (by omega) (by omega) (by omega), izs_lt0]
      exact propext (by omega)
    unfold nlA
    rw [fT_addNumber_b, if_pos rfl, if_neg hc1, if_neg hc2, q_div (by omega) (by omega)]
    by_cases h : m < 10 ^ (k + 1)
    · rw [if_pos h, if_pos (by rw [hc3]; exact h)]
      exact an2 hm k n t (by omega) (by omega) ht
    · rw [if_neg h, if_neg (by rw [hc3]; exact h)]
      have e : cW ((10 ^ k : Nat) : Int) * 10 = cW ((10 ^ (k + 1) : Nat) : Int) := by
        rw [show (10 : Int64) = cW 10 from rfl, cW_mul, hs]
        rfl
      rw [e]
      exact ih (k + 1) n t (by omega) (by omega) ht
theorem cW_neg (a : Int) : - cW a = cW (-a) := (Int64.ofInt_neg a).symm
theorem abs_cW {z : Int} (h1 : -9223372036854775807 ≤ z) (h2 : z ≤ 9223372036854775807) : (if 0 < cW z then cW z else - cW z) = cW (z.natAbs : Nat) := by
  by_cases h : 0 < z
  · rw [if_pos (by rw [show (0 : Int64) = cW 0 from rfl, cW_lt (by omega) (by omega) (by omega) (by omega)]; exact h)]
    congr 1
    omega
  · rw [if_neg (by rw [show (0 : Int64) = cW 0 from rfl, cW_lt (by omega) (by omega) (by omega) (by omega)]; exact h), cW_neg]
    congr 1
    omega
theorem addNumber_w {n : Nat} (hn : 40 < n) (ht : RV t) {z : Int} (h1 : -9007199254740991 ≤ z) (h2 : z ≤ 9007199254740991) : ∃ t' : TS, fT_addNumber n (cW z) t.1 (i3 t.2.1) t.2.2 = some (t'.1, i3 t'.2.1, t'.2.2) ∧ Wr t ((nt z).map sb) t' := by
  unfold fT_addNumber nt nl
  rw [abs_cW (by omega) (by omega)]
  have hc : (0 ≤ lg_cmp (cW z) 0) = (0 ≤ z) := by
    rw [show (0 : Int64) = cW 0 from rfl, lg_cW (by omega) (by omega) (by omega) (by omega), izs_ge0, Int.sub_zero]
  by_cases h : z < 0
  · rw [if_neg (by rw [hc]; omega), if_pos h]
    obtain ⟨t1, e1, g1⟩ := add_c (n := n) ht (c := 45) (by omega)
    obtain ⟨t2, e2, g2⟩ := an1 (m := z.natAbs) (by omega) (z := cW z) 15 0 n t1 (by omega) (by omega) g1.v
    refine ⟨t2, ?_, by rw [List.map_append]; exact g1.app g2⟩
    rw [show (45 : Int32) = i3 45 from rfl, e1, Option.bind_some]
    exact e2
  · rw [if_pos (by rw [hc]; omega), if_neg h]
    exact an1 (m := z.natAbs) (by omega) (z := cW z) 15 0 n t (by omega) (by omega) ht
end AN
end ZTx10
section ZPr11
/-! ===== the printer of ValueBench ===== -/
theorem hexd_all : ∀ c, c < 128 → fJS_charAt13 0 ((i3 c >>> ((4 : Int32) &&& 31)) &&& 15) = some (i3 (hx (c / 16))) ∧ fJS_charAt13 0 (i3 c &&& 15) = some (i3 (hx (c % 16))) := by decide +kernel
theorem hx_lt {d : Nat} (h : d < 16) : hx d < 128 := by unfold hx; split <;> omega
theorem and15 (x : Int32) : ∃ k, k < 16 ∧ x &&& 15 = i3 k := by
  refine ⟨((x.toInt % 4294967296).toNat % 4294967296 % 2 ^ 4 % 4294967296), by omega, ?_⟩
  have := i3_and (x.toInt % 4294967296).toNat 4
  rw [show (15 : Int32) = i3 (2 ^ 4 - 1) from rfl, ← this, ← iz_mod, ← x_iz]
theorem char13 {n : Nat} (x : Int32) : ∃ y, fJS_charAt13 n (x &&& 15) = some y := by
  obtain ⟨k, hk, e⟩ := and15 x
  rw [e]
  unfold fJS_charAt13
  rw [if_neg (i3_idx hk (by omega))]
  exact ⟨_, rfl⟩
section WC
variable {n : Nat} {t : TS}
theorem letterOf_c {c : Nat} (hc : c < 128) : fP_letterOf n (i3 c) = some (if c = 34 then 34 else if c = 92 then 92 else if c = 8 then 98 else if c = 9 then 116 else if c = 10 then 110 else if c = 12 then 102 else if c = 13 then 114 else -1) := by
  unfold fP_letterOf
  rw [show (8 : Int32) = i3 8 from rfl, show (9 : Int32) = i3 9 from rfl, show (10 : Int32) = i3 10 from rfl, show (12 : Int32) = i3 12 from rfl, show (13 : Int32) = i3 13 from rfl, show (34 : Int32) = i3 34 from rfl, show (92 : Int32) = i3 92 from rfl]
  simp only [i3_eq (show c < 2147483648 by omega) (show 8 < 2147483648 by omega), i3_eq (show c < 2147483648 by omega) (show 9 < 2147483648 by omega), i3_eq (show c < 2147483648 by omega) (show 10 < 2147483648 by omega), i3_eq (show c < 2147483648 by omega) (show 12 < 2147483648 by omega), i3_eq (show c < 2147483648 by omega) (show 13 < 2147483648 by omega), i3_eq (show c < 2147483648 by omega) (show 34 < 2147483648 by omega), i3_eq (show c < 2147483648 by omega) (show 92 < 2147483648 by omega)]
  by_cases h1 : c = 8
  · subst h1; rfl
  by_cases h2 : c = 9
  · subst h2; rfl
  by_cases h3 : c = 10
  · subst h3; rfl
  by_cases h4 : c = 12
  · subst h4; rfl
  by_cases h5 : c = 13
  · subst h5; rfl
  by_cases h6 : c = 34
  · subst h6; rfl
  by_cases h7 : c = 92
  · subst h7; rfl
  simp only [h1, h2, h3, h4, h5, h6, h7, if_false]
theorem two_w (ht : RV t) {c : Nat} (hc : c < 128) : ∃ t' : TS, ((fT_add n 92 t.1 (i3 t.2.1) t.2.2).bind fun o4 => (fT_add n (i3 c) o4.1 o4.2.1 o4.2.2).bind fun o6 => some (o6.1, o6.2.1, o6.2.2)) = some (t'.1, i3 t'.2.1, t'.2.2) ∧ Wr t ([92, c].map sb) t' := by
  obtain ⟨t1, e1, h1⟩ := add_c (n := n) ht (c := 92) (by omega)
  obtain ⟨t2, e2, h2⟩ := add_c (n := n) h1.v hc
  refine ⟨t2, ?_, h1.app h2⟩
  rw [show (92 : Int32) = i3 92 from rfl, e1, Option.bind_some]
  dsimp only
  rw [e2, Option.bind_some]
theorem six_w (ht : RV t) {x y : Int32} {a b : Option Int32} {c e : Nat} (ha : a = some x) (hb : b = some y) : ∃ t' : TS, ((fT_add n 92 t.1 (i3 t.2.1) t.2.2).bind fun o4 => (fT_add n 117 o4.1 o4.2.1 o4.2.2).bind fun o6 => (fT_add n 48 o6.1 o6.2.1 o6.2.2).bind fun o8 => (fT_add n 48 o8.1 o8.2.1 o8.2.2).bind fun o10 => a.bind fun o12 => (fT_add n o12 o10.1 o10.2.1 o10.2.2).bind fun o15 => b.bind fun o17 => (fT_add n o17 o15.1 o15.2.1 o15.2.2).bind fun o20 => some (o20.1, o20.2.1, o20.2.2)) = some (t'.1, i3 t'.2.1, t'.2.2) ∧ RV t' ∧ (c < 128 → e < 128 → x = i3 c → y = i3 e → Wr t ([92, 117, 48, 48, c, e].map sb) t') := by
  obtain ⟨t1, e1, h1⟩ := add_c (n := n) ht (c := 92) (by omega)
  obtain ⟨t2, e2, h2⟩ := add_c (n := n) h1.v (c := 117) (by omega)
  obtain ⟨t3, e3, h3⟩ := add_c (n := n) h2.v (c := 48) (by omega)
  obtain ⟨t4, e4, h4⟩ := add_c (n := n) h3.v (c := 48) (by omega)
  obtain ⟨t5, e5, h5⟩ := add_x (n := n) h4.v x
  obtain ⟨t6, e6, h6⟩ := add_x (n := n) h5.v y
  refine ⟨t6, ?_, h6.v, fun hc he hx hy => ?_⟩
  · rw [ha, hb, show (92 : Int32) = i3 92 from rfl, show (117 : Int32) = i3 117 from rfl, show (48 : Int32) = i3 48 from rfl, e1, Option.bind_some]
    dsimp only
    rw [e2, Option.bind_some]
    dsimp only
    rw [e3, Option.bind_some]
    dsimp only
    rw [e4, Option.bind_some]
    dsimp only
    rw [Option.bind_some, e5, Option.bind_some]
    dsimp only
    rw [Option.bind_some, e6, Option.bind_some]
  · rw [hx, i3_int (by omega), show ((c : Int) % 256).toNat = c by omega] at h5
    rw [hy, i3_int (by omega), show ((e : Int) % 256).toNat = e by omega] at h6
    exact ((((h1.app h2).app h3).app h4).app h5).app h6
/-- any code is written; one below 128 as printed -/
theorem writeCode_w (ht : RV t) (x : Int32) : ∃ t' : TS, fP_writeCode n x t.1 (i3 t.2.1) t.2.2 = some (t'.1, i3 t'.2.1, t'.2.2) ∧ RV t' ∧ (∀ c, c < 128 → x = i3 c → Wr t ((esc c).map sb) t') := by
  unfold fP_writeCode
  by_cases hx : ∃ c, c < 128 ∧ x = i3 c
  · obtain ⟨c, hc, rfl⟩ := hx
    rw [letterOf_c hc, Option.bind_some]
    have fin : ∀ t' : TS, Wr t ((esc c).map sb) t' → ∀ c', c' < 128 → i3 c = i3 c' → Wr t ((esc c').map sb) t' := fun t' h c' hc' he => by
      rw [i3_eq (by omega) (by omega)] at he
      rw [← he]
      exact h
    by_cases h1 : c = 34 ∨ c = 92 ∨ c = 8 ∨ c = 9 ∨ c = 10 ∨ c = 12 ∨ c = 13
    · obtain ⟨e, he, h2, h3⟩ : ∃ e, e < 128 ∧ esc c = [92, e] ∧ (if c = 34 then 34 else if c = 92 then 92 else if c = 8 then 98 else if c = 9 then 116 else if c = 10 then 110 else if c = 12 then 102 else if c = 13 then 114 else -1 : Int32) = i3 e := by
        rcases h1 with rfl | rfl | rfl | rfl | rfl | rfl | rfl
        · exact ⟨34, by decide⟩
        · exact ⟨92, by decide⟩
        · exact ⟨98, by decide⟩
        · exact ⟨116, by decide⟩
        · exact ⟨110, by decide⟩
        · exact ⟨102, by decide⟩
        · exact ⟨114, by decide⟩
      obtain ⟨t', e1, g1⟩ := two_w (n := n) ht he
      rw [h3, if_neg (by rw [i3_m1 (by omega)]; exact not_false)]
      exact ⟨t', e1, g1.v, fin t' (by rw [h2]; exact g1)⟩
    · have h2 : (if c = 34 then 34 else if c = 92 then 92 else if c = 8 then 98 else if c = 9 then 116 else if c = 10 then 110 else if c = 12 then 102 else if c = 13 then 114 else -1 : Int32) = -1 := by
        rw [if_neg (by omega), if_neg (by omega), if_neg (by omega), if_neg (by omega), if_neg (by omega), if_neg (by omega), if_neg (by omega)]
      rw [h2, if_pos rfl]
      obtain ⟨d1, d2⟩ := hexd_all c hc
      obtain ⟨t', e1, g1, g2⟩ := six_w (n := n) ht (c := hx (c / 16)) (e := hx (c % 16)) (show fJS_charAt13 n ((i3 c >>> ((4 : Int32) &&& 31)) &&& 15) = _ from d1) (show fJS_charAt13 n (i3 c &&& 15) = _ from d2)
      have g3 := g2 (hx_lt (by omega)) (hx_lt (by omega)) rfl rfl
      by_cases h3 : c < 32
      · have h4 : esc c = [92, 117, 48, 48, hx (c / 16), hx (c % 16)] := by
          unfold esc
          rw [if_neg (by omega), if_neg (by omega), if_neg (by omega), if_neg (by omega), if_neg (by omega), if_neg (by omega), if_neg (by omega), if_pos (by omega)]
        rw [if_pos (by rw [show (32 : Int32) = i3 32 from rfl, i3_lt (by omega) (by omega)]; exact h3)]
        exact ⟨t', e1, g1, fin t' (by rw [h4]; exact g3)⟩
      · rw [if_neg (by rw [show (32 : Int32) = i3 32 from rfl, i3_lt (by omega) (by omega)]; exact h3)]
        by_cases h5 : c = 127
        · have h4 : esc c = [92, 117, 48, 48, hx (c / 16), hx (c % 16)] := by
            unfold esc
            rw [if_neg (by omega), if_neg (by omega), if_neg (by omega), if_neg (by omega), if_neg (by omega), if_neg (by omega), if_neg (by omega), if_pos (by omega)]
          rw [if_pos (by rw [h5]; rfl)]
          exact ⟨t', e1, g1, fin t' (by rw [h4]; exact g3)⟩
        · have h4 : esc c = [c] := by
            unfold esc
            rw [if_neg (by omega), if_neg (by omega), if_neg (by omega), if_neg (by omega), if_neg (by omega), if_neg (by omega), if_neg (by omega), if_neg (by omega)]
          obtain ⟨t', e1, g1⟩ := add_c (n := n) ht hc
          rw [if_neg (by rw [show (127 : Int32) = i3 127 from rfl, i3_eq (by omega) (by omega)]; exact h5), e1]
          exact ⟨t', rfl, g1.v, fin t' (by rw [h4]; exact g1)⟩
  · have nn : ∀ t' : TS, ∀ c, c < 128 → x = i3 c → Wr t ((esc c).map sb) t' := fun t' c hc e => absurd ⟨c, hc, e⟩ hx
    obtain ⟨y, hy⟩ : ∃ y, fP_letterOf n x = some y := by
      unfold fP_letterOf
      split <;> (try split) <;> (try split) <;> (try split) <;> (try split) <;> (try split) <;> (try split) <;> exact ⟨_, rfl⟩
    rw [hy, Option.bind_some]
    obtain ⟨a, ha⟩ := char13 (n := n) (x >>> ((4 : Int32) &&& 31))
    obtain ⟨b, hb⟩ := char13 (n := n) x
    obtain ⟨t', e1, g1, _⟩ := six_w (n := n) ht (c := 0) (e := 0) ha hb
    by_cases h1 : y = -1
    · rw [if_pos h1]
      by_cases h2 : x < 32
      · rw [if_pos h2]
        exact ⟨t', e1, g1, nn t'⟩
      · rw [if_neg h2]
        by_cases h3 : x = 127
        · rw [if_pos h3]
          exact ⟨t', e1, g1, nn t'⟩
        · rw [if_neg h3]
          obtain ⟨t', e1, g1⟩ := add_x (n := n) ht x
          rw [e1]
          exact ⟨t', rfl, g1.v, nn t'⟩
    · rw [if_neg h1]
      obtain ⟨t1, e1, g1⟩ := add_c (n := n) ht (c := 92) (by omega)
      obtain ⟨t2, e2, g2⟩ := add_x (n := n) g1.v y
      rw [show (92 : Int32) = i3 92 from rfl, e1, Option.bind_some]
      dsimp only
      rw [e2]
      exact ⟨t2, rfl, g2.v, nn t2⟩
end WC
section WS
variable {f : Nat → Int64} {p v : Nat} {o : Int32} {s : Sx}
theorem ws_loop (h : At f v p (strc s)) (hs : sok s) : ∀ (s' : Sx) (n i : Nat) (t : TS), s.drop i = s' → i + s'.length = s.length → s'.length < n → RV t → ∃ t' : TS, fP_writeString_b f (i3 v) o n 1 (i3 i) (i3 p) t.1 (i3 t.2.1) t.2.2 = some (t'.1, i3 t'.2.1, t'.2.2) ∧ Wr t ((s'.flatMap esc ++ [34]).map sb) t' := by
  have hle := h.le
  intro s'
  induction s' with
  | nil =>
    intro n i t hd hi hn ht
    rw [List.length_nil] at hi
    obtain ⟨n, rfl⟩ : ∃ j, n = j + 1 := ⟨n - 1, by omega⟩
    obtain ⟨t1, e1, g1⟩ := add_c (n := n) ht (c := 34) (by omega)
    refine ⟨t1, ?_, g1⟩
    rw [fP_writeString_b, h.slen, Option.bind_some, if_pos (by rw [i3_le (by omega) (by omega)]; omega), show (34 : Int32) = i3 34 from rfl, e1]
    rfl
  | cons c s' ih =>
    intro n i t hd hi hn ht
    rw [List.length_cons] at hi hn
    obtain ⟨n, rfl⟩ : ∃ j, n = j + 1 := ⟨n - 1, by omega⟩
    have hc : s[i]'(by omega) = c := by
      have := List.getElem_drop (xs := s) (i := i) (j := 0) (h := by rw [List.length_drop]; omega)
      simp only [hd] at this
      simpa using this.symm
    have hc1 : c < 128 := by rw [← hc]; exact hs _ (List.getElem_mem _)
    obtain ⟨t1, e1, g0, g1⟩ := writeCode_w (n := n) ht (i3 c)
    obtain ⟨t2, e2, g2⟩ := ih n (i + 1) t1 (by rw [← List.drop_drop, hd]; rfl) (by omega) (by omega) g0
    refine ⟨t2, ?_, ?_⟩
    · rw [fP_writeString_b, h.slen, Option.bind_some, if_neg (by rw [i3_le (by omega) (by omega)]; omega), h.scode (i := i) (by omega), Option.bind_some, hc, e1, Option.bind_some]
      dsimp only
      rw [i3_one, e2]
    · rw [List.flatMap_cons, List.append_assoc, List.map_append]
      exact (g1 c hc1 rfl).app g2
theorem writeString_w {n : Nat} {t : TS} (h : At f v p (strc s)) (hs : sok s) (hn : 4096 < n) (ht : RV t) : ∃ t' : TS, fP_writeString n (i3 p) f (i3 v) o t.1 (i3 t.2.1) t.2.2 = some (t'.1, i3 t'.2.1, t'.2.2) ∧ Wr t ((qt s).map sb) t' := by
  have hle := h.le
  obtain ⟨t1, e1, g1⟩ := add_c (n := n) ht (c := 34) (by omega)
  obtain ⟨t2, e2, g2⟩ := ws_loop (o := o) h hs s n 0 t1 rfl (by omega) (by omega) g1.v
  refine ⟨t2, ?_, g1.app g2⟩
  unfold fP_writeString
  rw [show (34 : Int32) = i3 34 from rfl, e1, Option.bind_some]
  exact e2
end WS
end ZPr11
section ZWl12
/-! ===== the printer over lists ===== -/
def Wo (t : TS) (w : List Int32) (ok : Prop) (t' : TS) : Prop := RV t' ∧ (ok → Wr t w t') ∧ (¬ ok → t'.2.2 = 1)
theorem Wr.stick {α : Type} {t t' : BS α} {w : List α} (h : Wr t w t') (h1 : t.2.2 = 1) : t'.2.2 = 1 := by
  obtain ⟨_, h⟩ := h
  rcases h with ⟨a, _⟩ | ⟨_, b⟩
  · rw [h1] at a
    exact absurd a (by decide)
  · exact b
theorem Wr.wo {t t' : TS} {w : List Int32} (h : Wr t w t') : Wo t w True t' := ⟨h.1, fun _ => h, fun h => absurd trivial h⟩
theorem Wo.stick {t t' : TS} {w : List Int32} {ok : Prop} (h : Wo t w ok t') (h1 : t.2.2 = 1) : t'.2.2 = 1 := by
  by_cases hk : ok
  · exact (h.2.1 hk).stick h1
  · exact h.2.2 hk
theorem Wo.app {t t1 t2 : TS} {a b : List Int32} {A B : Prop} (h1 : Wo t a A t1) (h2 : Wo t1 b B t2) : Wo t (a ++ b) (A ∧ B) t2 := by
  refine ⟨h2.1, fun h => (h1.2.1 h.1).app (h2.2.1 h.2), fun h => ?_⟩
  by_cases hA : A
  · exact h2.2.2 (fun hB => h ⟨hA, hB⟩)
  · exact h2.stick (h1.2.2 hA)
theorem Wo.cong {t t' : TS} {w : List Int32} {A B : Prop} (h : Wo t w A t') (hab : A ↔ B) : Wo t w B t' := ⟨h.1, fun b => h.2.1 (hab.mpr b), fun b => h.2.2 (fun a => b (hab.mp a))⟩
theorem cj_map {α : Type} {g : α → List Nat} {x : List Nat} {l : List α} : cj (x :: l.map g) = x ++ l.flatMap (fun y => 44 :: g y) := by
  show x ++ (l.map g).flatMap _ = _
  rw [List.flatMap_map]
theorem b3 {α β γ : Type} {o : Option (α × β × γ)} {x : α × β × γ} (h : o = some x) : (o.bind fun y => some (y.1, y.2.1, y.2.2)) = some x := by
  rw [h]
  rfl
abbrev RecW : Type := Int32 → Int32 → (Nat → Int64) → Int32 → Int32 → (Nat → Int32) → Int32 → Int32 → Option ((Nat → Int32) × Int32 × Int32)
section WL
variable {f : Nat → Int64} {p v k e : Nat} {o : Int32} {rec : RecW}
theorem wl_a (hk : k < 60) {l : List (JT e)} (hl : l.length < 65536) (hlen : ∀ n, fR_length n (i3 p) f (i3 v) o = some (i3 l.length)) : ∀ (l' : List (JT e)) (n i q : Nat) (t : TS), (∀ x ∈ l', jok e x) → (∀ x ∈ l', ∀ q t, At f v q (jc e x) → RV t → ∃ t' : TS, rec (i3 q) (i3 (k + 1)) f (i3 v) o t.1 (i3 t.2.1) t.2.2 = some (t'.1, i3 t'.2.1, t'.2.2) ∧ Wo t ((jt e x).map sb) (jd e x + (k + 1) ≤ 60) t') → i + l'.length = l.length → At f v q (l'.flatMap (jc e)) → l'.length < n → RV t →
    ∃ t' : TS, fP_writeList_b rec f (i3 v) o n 1 (i3 i) (i3 q) 0 (i3 p) (i3 k) t.1 (i3 t.2.1) t.2.2 = some (t'.1, i3 t'.2.1, t'.2.2) ∧ Wo t (((if i = 0 then cj (l'.map (jt e)) else l'.flatMap (fun x => 44 :: jt e x)) ++ [93]).map sb) (∀ x ∈ l', jd e x + (k + 1) ≤ 60) t' := by
  intro l'
  induction l' with
  | nil =>
    intro n i q t _ _ hi _ hn ht
    rw [List.length_nil] at hi
    obtain ⟨n, rfl⟩ : ∃ j, n = j + 1 := ⟨n - 1, by omega⟩
    obtain ⟨t1, e1, g1⟩ := add_c (n := n) ht (c := 93) (by omega)
    refine ⟨t1, ?_, ?_⟩
    · rw [fP_writeList_b, hlen, Option.bind_some, if_pos (by rw [i3_le (by omega) (by omega)]; omega), if_pos rfl, show (93 : Int32) = i3 93 from rfl, e1]
      rfl
    · have : (if i = 0 then cj ([].map (jt e)) else [].flatMap (fun x => 44 :: jt e x)) = [] := by split <;> rfl
      rw [this]
      exact g1.wo.cong (by simp)
  | cons x l' ih =>
    intro n i q t hok hrec hi hat hn ht
    rw [List.length_cons] at hi hn
    obtain ⟨n, rfl⟩ : ∃ j, n = j + 1 := ⟨n - 1, by omega⟩
    obtain ⟨at1, at2⟩ := hat.acons
    have hx := hok x (List.mem_cons_self ..)
    by_cases h0 : i = 0
    · subst h0
      obtain ⟨t1, e1, g1⟩ := hrec x (List.mem_cons_self ..) q t at1 ht
      obtain ⟨t2, e2, g2⟩ := ih n 1 _ t1 (fun y hy => hok y (List.mem_cons_of_mem _ hy)) (fun y hy => hrec y (List.mem_cons_of_mem _ hy)) (by omega) at2 (by omega) g1.1
      refine ⟨t2, ?_, ?_⟩
      · rw [fP_writeList_b, hlen, Option.bind_some, if_neg (by rw [i3_le (by omega) (by omega)]; omega), if_pos (by decide), if_pos rfl, i3_one, e1, Option.bind_some, at1.after hx, Option.bind_some]
        exact e2
      · rw [if_pos rfl]
        rw [if_neg (by omega)] at g2
        have g3 := g1.app g2
        rw [← List.map_append, ← List.append_assoc] at g3
        rw [List.map_cons, cj_map]
        exact g3.cong (by simp)
    · obtain ⟨t0, e0, g0⟩ := add_c (n := n) ht (c := 44) (by omega)
      obtain ⟨t1, e1, g1⟩ := hrec x (List.mem_cons_self ..) q t0 at1 g0.v
      obtain ⟨t2, e2, g2⟩ := ih n (i + 1) _ t1 (fun y hy => hok y (List.mem_cons_of_mem _ hy)) (fun y hy => hrec y (List.mem_cons_of_mem _ hy)) (by omega) at2 (by omega) g1.1
      refine ⟨t2, ?_, ?_⟩
      · rw [fP_writeList_b, hlen, Option.bind_some, if_neg (by rw [i3_le (by omega) (by omega)]; omega), if_neg (by rw [show (0 : Int32) = i3 0 from rfl, i3_le (by omega) (by omega)]; omega), show (44 : Int32) = i3 44 from rfl, e0, Option.bind_some, if_pos rfl]
        dsimp only
        rw [i3_one, e1, Option.bind_some, at1.after hx, Option.bind_some, i3_one]
        exact e2
      · rw [if_neg h0]
        rw [if_neg (by omega)] at g2
        have g3 := (g0.wo.app g1).app g2
        rw [List.flatMap_cons, List.append_assoc, List.map_append]
        exact g3.cong (by simp)
theorem wl_o (hk : k < 60) {l : List (Sx × JT e)} (hl : l.length < 65536) (hlen : ∀ n, fR_length n (i3 p) f (i3 v) o = some (i3 l.length)) : ∀ (l' : List (Sx × JT e)) (n i q : Nat) (t : TS), (∀ x ∈ l', sok x.1 ∧ jok e x.2) → (∀ x ∈ l', ∀ q t, At f v q (jc e x.2) → RV t → ∃ t' : TS, rec (i3 q) (i3 (k + 1)) f (i3 v) o t.1 (i3 t.2.1) t.2.2 = some (t'.1, i3 t'.2.1, t'.2.2) ∧ Wo t ((jt e x.2).map sb) (jd e x.2 + (k + 1) ≤ 60) t') → i + l'.length = l.length → At f v q (l'.flatMap (fun x => strc x.1 ++ jc e x.2)) → 4097 + l'.length < n → RV t →
    ∃ t' : TS, fP_writeList_b rec f (i3 v) o n 1 (i3 i) (i3 q) 1 (i3 p) (i3 k) t.1 (i3 t.2.1) t.2.2 = some (t'.1, i3 t'.2.1, t'.2.2) ∧ Wo t (((if i = 0 then cj (l'.map (fun x : Sx × JT e => qt x.1 ++ 58 :: jt e x.2)) else l'.flatMap (fun x : Sx × JT e => 44 :: (qt x.1 ++ 58 :: jt e x.2))) ++ [125]).map sb) (∀ x ∈ l', jd e x.2 + (k + 1) ≤ 60) t' := by
  intro l'
  induction l' with
  | nil =>
    intro n i q t _ _ hi _ hn ht
    rw [List.length_nil] at hi
    obtain ⟨n, rfl⟩ : ∃ j, n = j + 1 := ⟨n - 1, by omega⟩
    obtain ⟨t1, e1, g1⟩ := add_c (n := n) ht (c := 125) (by omega)
    refine ⟨t1, ?_, ?_⟩
    · rw [fP_writeList_b, hlen, Option.bind_some, if_pos (by rw [i3_le (by omega) (by omega)]; omega), if_neg (by decide), show (125 : Int32) = i3 125 from rfl, e1]
      rfl
    · have : (if i = 0 then cj ([].map (fun x : Sx × JT e => qt x.1 ++ 58 :: jt e x.2)) else [].flatMap (fun x : Sx × JT e => 44 :: (qt x.1 ++ 58 :: jt e x.2))) = [] := by split <;> rfl
      rw [this]
      exact g1.wo.cong (by simp)
  | cons x l' ih =>
    intro n i q t hok hrec hi hat hn ht
    rw [List.length_cons] at hi hn
    obtain ⟨n, rfl⟩ : ∃ j, n = j + 1 := ⟨n - 1, by omega⟩
    obtain ⟨at0, at1, at2⟩ := hat.ocons
    obtain ⟨hs, hx⟩ := hok x (List.mem_cons_self ..)
    by_cases h0 : i = 0
    · subst h0
      obtain ⟨t1, e1, g1⟩ := writeString_w (n := n) (o := o) at0 hs (by omega) ht
      obtain ⟨t2, e2, g2⟩ := add_c (n := n) g1.v (c := 58) (by omega)
      obtain ⟨t3, e3, g3⟩ := hrec x (List.mem_cons_self ..) _ t2 at1 g2.v
      obtain ⟨t4, e4, g4⟩ := ih n 1 _ t3 (fun y hy => hok y (List.mem_cons_of_mem _ hy)) (fun y hy => hrec y (List.mem_cons_of_mem _ hy)) (by omega) at2 (by omega) g3.1
      refine ⟨t4, ?_, ?_⟩
      · rw [fP_writeList_b, hlen, Option.bind_some, if_neg (by rw [i3_le (by omega) (by omega)]; omega), if_pos (by decide), if_neg (by decide), e1, Option.bind_some]
        dsimp only
        rw [show (58 : Int32) = i3 58 from rfl, e2, Option.bind_some, at0.safter, Option.bind_some]
        dsimp only
        rw [i3_one, e3, Option.bind_some, at1.after hx, Option.bind_some]
        exact e4
      · rw [if_pos rfl]
        rw [if_neg (by omega)] at g4
        have g5 := ((g1.wo.app g2.wo).app g3).app g4
        rw [List.map_cons, cj_map]
        rw [List.append_assoc, List.map_append, List.map_append, List.map_cons]
        rw [List.append_assoc] at g5
        simp only [List.append_assoc, List.singleton_append, List.cons_append, List.nil_append] at g5 ⊢
        exact g5.cong (by simp)
    · obtain ⟨t0, e0, g0⟩ := add_c (n := n) ht (c := 44) (by omega)
      obtain ⟨t1, e1, g1⟩ := writeString_w (n := n) (o := o) at0 hs (by omega) g0.v
      obtain ⟨t2, e2, g2⟩ := add_c (n := n) g1.v (c := 58) (by omega)
      obtain ⟨t3, e3, g3⟩ := hrec x (List.mem_cons_self ..) _ t2 at1 g2.v
      obtain ⟨t4, e4, g4⟩ := ih n (i + 1) _ t3 (fun y hy => hok y (List.mem_cons_of_mem _ hy)) (fun y hy => hrec y (List.mem_cons_of_mem _ hy)) (by omega) at2 (by omega) g3.1
      refine ⟨t4, ?_, ?_⟩
      · rw [fP_writeList_b, hlen, Option.bind_some, if_neg (by rw [i3_le (by omega) (by omega)]; omega), if_neg (by rw [show (0 : Int32) = i3 0 from rfl, i3_le (by omega) (by omega)]; omega), show (44 : Int32) = i3 44 from rfl, e0, Option.bind_some, if_neg (by decide)]
        dsimp only
        rw [e1, Option.bind_some]
        dsimp only
        rw [show (58 : Int32) = i3 58 from rfl, e2, Option.bind_some, at0.safter, Option.bind_some]
        dsimp only
        rw [i3_one, e3, Option.bind_some, at1.after hx, Option.bind_some, i3_one]
        exact e4
      · rw [if_neg h0]
        rw [if_neg (by omega)] at g4
        have g5 := (((g0.wo.app g1.wo).app g2.wo).app g3).app g4
        rw [List.flatMap_cons]
        simp only [List.append_assoc, List.singleton_append, List.cons_append, List.nil_append, List.map_append, List.map_cons] at g5 ⊢
        exact g5.cong (by simp)
end WL
theorem write_w {n : Nat} (hn : 10000 < n) : ∀ (e d : Nat) (j : JT e) (f : Nat → Int64) (p v k : Nat) (o : Int32) (t : TS), jok e j → At f v p (jc e j) → e ≤ d → k ≤ 61 → RV t → ∃ t' : TS, fP_write d n (i3 p) (i3 k) f (i3 v) o t.1 (i3 t.2.1) t.2.2 = some (t'.1, i3 t'.2.1, t'.2.2) ∧ Wo t ((jt e j).map sb) (kd e j < 5 ∨ jd e j + k ≤ 60) t' := by
  intro e
  induction e with
  | zero => exact fun d j => (j0 j).elim
  | succ e ih =>
    intro d j f p v k o t hok hat hd hk ht
    obtain ⟨d, rfl⟩ : ∃ m, d = m + 1 := ⟨d - 1, by omega⟩
    have hw := word_w (n := n) ht
    rw [fP_write, hat.kind hok, Option.bind_some, show (0 : Int32) = i3 0 from rfl, show (1 : Int32) = i3 1 from rfl, show (2 : Int32) = i3 2 from rfl, show (3 : Int32) = i3 3 from rfl, show (4 : Int32) = i3 4 from rfl]
    rcases jcases j with ⟨c, rfl⟩ | ⟨z, rfl⟩ | ⟨s, rfl⟩ | ⟨l, rfl⟩ | ⟨l, rfl⟩
    · rw [jok_k] at hok
      rw [kd_k, jt_k]
      obtain rfl | rfl | rfl : c = 0 ∨ c = 1 ∨ c = 2 := by omega
      · obtain ⟨t', e1, g1⟩ := hw.1
        rw [if_pos rfl, e1]
        exact ⟨t', rfl, g1.wo.cong (by simp)⟩
      · obtain ⟨t', e1, g1⟩ := hw.2.1
        rw [if_neg (by decide), if_pos rfl, e1]
        exact ⟨t', rfl, g1.wo.cong (by simp)⟩
      · obtain ⟨t', e1, g1⟩ := hw.2.2
        rw [if_neg (by decide), if_neg (by decide), if_pos rfl, e1]
        exact ⟨t', rfl, g1.wo.cong (by simp)⟩
    · rw [jok_n] at hok
      obtain ⟨t', e1, g1⟩ := addNumber_w (n := n) (by omega) ht hok.1 hok.2
      rw [kd_n, jt_n, if_neg (by decide), if_neg (by decide), if_neg (by decide), if_pos rfl, hat.num hok.1 hok.2, Option.bind_some, e1]
      exact ⟨t', rfl, g1.wo.cong (by simp)⟩
    · rw [jok_s] at hok
      obtain ⟨t', e1, g1⟩ := writeString_w (n := n) (o := o) hat hok (by omega) ht
      rw [kd_s, jt_s, if_neg (by decide), if_neg (by decide), if_neg (by decide), if_neg (by decide), if_pos rfl, e1]
      exact ⟨t', rfl, g1.wo.cong (by simp)⟩
    · have hsz := hat.asz
      rw [kd_a, jt_a, if_neg (by decide), if_neg (by decide), if_neg (by decide), if_neg (by decide), if_neg (by decide)]
      unfold fP_writeList
      by_cases h60 : k < 60
      · obtain ⟨t1, e1, g1⟩ := add_c (n := n) ht (c := 91) (by omega)
        obtain ⟨t2, e2, g2⟩ := wl_a (rec := fP_write d n) h60 (l := l) (by omega) (fun n => hat.alen (o := o)) l n 0 (p + 1) t1 hok (fun x hx q t hq hr => by
          obtain ⟨t', e3, g3⟩ := ih d x f q v (k + 1) o t (hok x hx) hq (by omega) (by omega) hr
          refine ⟨t', e3, g3.cong ⟨fun h => ?_, fun h => Or.inr h⟩⟩
          rcases h with h | h
          · cases e with
            | zero => exact (j0 x).elim
            | succ e =>
              rcases jcases x with ⟨c, rfl⟩ | ⟨z, rfl⟩ | ⟨s, rfl⟩ | ⟨l, rfl⟩ | ⟨l, rfl⟩
              · rw [jd_k]; omega
              · rw [jd_n]; omega
              · rw [jd_s]; omega
              · rw [kd_a] at h; omega
              · rw [kd_o] at h; omega
          · exact h) (by omega) hat.abody (by omega) g1.v
        refine ⟨t2, ?_, ?_⟩
        · rw [if_pos (by rw [show (60 : Int32) = i3 60 from rfl, i3_lt (by omega) (by omega)]; exact h60), show (6 : Int32) = i3 6 from rfl, hat.is hok (by omega), kd_a, if_neg (by decide), Option.bind_some, if_pos rfl, show (91 : Int32) = i3 91 from rfl, e1, Option.bind_some, i3_one]
          exact b3 e2
        · have g3 := g1.wo.app g2
          rw [if_pos rfl] at g3
          refine g3.cong ?_
          rw [show jd (e + 1) (ja l) + k ≤ 60 ↔ jd (e + 1) (ja l) ≤ (59 - k) + 1 by omega, jd_a_le]
          refine ⟨fun h => Or.inr (fun x hx => by have := h.2 x hx; omega), fun h => ⟨trivial, fun x hx => ?_⟩⟩
          rcases h with h | h
          · omega
          · have := h x hx
            omega
      · rw [if_neg (by rw [show (60 : Int32) = i3 60 from rfl, i3_lt (by omega) (by omega)]; exact h60)]
        unfold fT_setOver
        refine ⟨(t.1, t.2.1, 1), rfl, ⟨⟨ht.1, Or.inr rfl⟩, fun h => ?_, fun _ => rfl⟩⟩
        have := jd_a_pos (l := l)
        omega
    · have hsz := hat.osz
      rw [kd_o, jt_o, if_neg (by decide), if_neg (by decide), if_neg (by decide), if_neg (by decide), if_neg (by decide)]
      unfold fP_writeList
      by_cases h60 : k < 60
      · obtain ⟨t1, e1, g1⟩ := add_c (n := n) ht (c := 123) (by omega)
        obtain ⟨t2, e2, g2⟩ := wl_o (rec := fP_write d n) h60 (l := l) (by omega) (fun n => hat.olen (o := o)) l n 0 (p + 1) t1 hok.1 (fun x hx q t hq hr => by
          obtain ⟨t', e3, g3⟩ := ih d x.2 f q v (k + 1) o t (hok.1 x hx).2 hq (by omega) (by omega) hr
          refine ⟨t', e3, g3.cong ⟨fun h => ?_, fun h => Or.inr h⟩⟩
          obtain ⟨x1, x⟩ := x
          simp only at *
          rcases h with h | h
          · cases e with
            | zero => exact (j0 x).elim
            | succ e =>
              rcases jcases x with ⟨c, rfl⟩ | ⟨z, rfl⟩ | ⟨s, rfl⟩ | ⟨l, rfl⟩ | ⟨l, rfl⟩
              · rw [jd_k]; omega
              · rw [jd_n]; omega
              · rw [jd_s]; omega
              · rw [kd_a] at h; omega
              · rw [kd_o] at h; omega
          · exact h) (by omega) hat.obody (by omega) g1.v
        refine ⟨t2, ?_, ?_⟩
        · rw [if_pos (by rw [show (60 : Int32) = i3 60 from rfl, i3_lt (by omega) (by omega)]; exact h60), show (6 : Int32) = i3 6 from rfl, hat.is hok (by omega), kd_o, if_pos rfl, Option.bind_some, if_neg (by decide), show (123 : Int32) = i3 123 from rfl, e1, Option.bind_some, i3_one]
          exact b3 e2
        · have g3 := g1.wo.app g2
          rw [if_pos rfl] at g3
          refine g3.cong ?_
          rw [show jd (e + 1) (jo l) + k ≤ 60 ↔ jd (e + 1) (jo l) ≤ (59 - k) + 1 by omega, jd_o_le]
          refine ⟨fun h => Or.inr (fun x hx => by have := h.2 x hx; omega), fun h => ⟨trivial, fun x hx => ?_⟩⟩
          rcases h with h | h
          · omega
          · have := h x hx
            omega
      · rw [if_neg (by rw [show (60 : Int32) = i3 60 from rfl, i3_lt (by omega) (by omega)]; exact h60)]
        unfold fT_setOver
        refine ⟨(t.1, t.2.1, 1), rfl, ⟨⟨ht.1, Or.inr rfl⟩, fun h => ?_, fun _ => rfl⟩⟩
        have := jd_o_pos (l := l)
        omega
end ZWl12
section ZTot13
/-! ===== the printer over any cells ===== -/
section TO
variable {n : Nat} {f : Nat → Int64} {v : Nat} {o : Int32}
theorem low16 (x : Int32) : ∃ k, k < 65536 ∧ x &&& 65535 = i3 k := by
  refine ⟨(x.toInt % 65536).toNat, by omega, ?_⟩
  have := iz_and16 x.toInt
  rw [← x_iz] at this
  exact this
theorem kindT (hv : v ≤ 4096) (x : Int32) : ∃ y, fR_kind n x f (i3 v) o = some y := by
  rcases i3_cases x with h | ⟨p, hp, rfl⟩
  · unfold fR_kind
    rw [if_pos h]
    exact ⟨_, rfl⟩
  · by_cases h : p < v
    · exact ⟨_, kind_in h hv⟩
    · unfold fR_kind
      rw [if_neg (i3_nn hp), if_pos (by rw [i3_le (by omega) hp]; omega)]
      exact ⟨_, rfl⟩
theorem isT (hv : v ≤ 4096) (x k : Int32) : fR_is n x k f (i3 v) o = some 1 ∨ fR_is n x k f (i3 v) o = some 0 := by
  obtain ⟨y, hy⟩ := kindT (n := n) (f := f) (o := o) hv x
  unfold fR_is
  rw [hy, Option.bind_some]
  by_cases h : y = k
  · rw [if_pos h]
    exact Or.inl rfl
  · rw [if_neg h]
    exact Or.inr rfl
theorem lengthT (hv : v ≤ 4096) (x : Int32) : ∃ k, k < 65536 ∧ ∀ n, fR_length n x f (i3 v) o = some (i3 k) := by
  rcases i3_cases x with h | ⟨p, hp, rfl⟩
  · refine ⟨0, by omega, fun n => ?_⟩
    unfold fR_length
    rw [if_pos h]
    rfl
  · by_cases h : p < v
    · obtain ⟨k, hk, e⟩ := low16 (f p >>> ((3 : Int32).toInt64 &&& 63)).toInt32
      refine ⟨k, hk, fun n => ?_⟩
      rw [length_in h hv, e]
    · refine ⟨0, by omega, fun n => ?_⟩
      unfold fR_length
      rw [if_neg (i3_nn hp), if_pos (by rw [i3_le (by omega) hp]; omega)]
      rfl
theorem numberT (hv : v ≤ 4096) (x : Int32) : ∃ y, fR_number n x f (i3 v) o = some y := by
  rcases i3_cases x with h | ⟨p, hp, rfl⟩
  · unfold fR_number
    rw [if_pos h]
    exact ⟨_, rfl⟩
  · by_cases h : p < v
    · exact ⟨_, number_in h hv⟩
    · unfold fR_number
      rw [if_neg (i3_nn hp), if_pos (by rw [i3_le (by omega) hp]; omega)]
      exact ⟨_, rfl⟩
theorem cellT (hv : v ≤ 4096) (x : Int32) : ∃ y, fR_cell n x f (i3 v) o = some y := by
  rcases i3_cases x with h | ⟨p, hp, rfl⟩
  · unfold fR_cell
    rw [if_pos h]
    exact ⟨_, rfl⟩
  · by_cases h : p < v
    · exact ⟨_, cell_in h hv⟩
    · unfold fR_cell
      rw [if_neg (i3_nn hp), if_pos (by rw [i3_le (by omega) hp]; omega)]
      exact ⟨_, rfl⟩
theorem codeT (hv : v ≤ 4096) (x y : Int32) : ∃ z, fR_code n x y f (i3 v) o = some z := by
  unfold fR_code
  generalize (x + 1) + y = w
  rcases i3_cases w with h | ⟨p, hp, rfl⟩
  · rw [if_pos h]
    exact ⟨_, rfl⟩
  · rw [if_neg (i3_nn hp)]
    by_cases h : p < v
    · rw [if_neg (i3_nle h (by omega)), if_neg (i3_idx (by omega) hp)]
      exact ⟨_, rfl⟩
    · rw [if_pos (by rw [i3_le (by omega) hp]; omega)]
      exact ⟨_, rfl⟩
theorem afterT (hv : v ≤ 4096) (x : Int32) : ∃ y, fR_after n x f (i3 v) o = some y := by
  rcases i3_cases x with h | ⟨p, hp, rfl⟩
  · unfold fR_after
    rw [if_pos h]
    exact ⟨_, rfl⟩
  · by_cases h : p < v
    · rw [after_in h hv]
      split <;> exact ⟨_, rfl⟩
    · unfold fR_after
      rw [if_neg (i3_nn hp), if_pos (by rw [i3_le (by omega) hp]; omega)]
      exact ⟨_, rfl⟩
end TO
theorem an2T {y z : Int64} : ∀ (k n : Nat) (t : TS), k ≤ 15 → k + 2 < n → RV t → ∃ t' : TS, fT_addNumber_b n 2 (cW ((10 ^ k : Nat) : Int)) y z t.1 (i3 t.2.1) t.2.2 = some (t'.1, i3 t'.2.1, t'.2.2) ∧ RV t' := by
  intro k
  induction k with
  | zero =>
    intro n t _ hn ht
    obtain ⟨n, rfl⟩ : ∃ j, n = j + 2 := ⟨n - 2, by omega⟩
    obtain ⟨t1, e1, h1⟩ := add_x (n := n + 1) ht ((48 : Int64) + (y / cW ((10 ^ 0 : Nat) : Int) - y / cW ((10 ^ 0 : Nat) : Int) / 10 * 10)).toInt32
    refine ⟨t1, ?_, h1.v⟩
    rw [fT_addNumber_b, if_neg (by decide), if_neg (by decide), if_neg (by decide), e1, Option.bind_some]
    dsimp only
    rw [show cW ((10 ^ 0 : Nat) : Int) / 10 = 0 by decide, fT_addNumber_b, if_neg (by decide), if_pos (by decide)]
  | succ k ih =>
    intro n t hk hn ht
    obtain ⟨n, rfl⟩ : ∃ j, n = j + 1 := ⟨n - 1, by omega⟩
    have h15 := ten_le hk
    have hp := ten_pos (k + 1)
    have hp' := ten_pos k
    have hs : 10 ^ (k + 1) = 10 ^ k * 10 := Nat.pow_succ 10 k
    obtain ⟨t1, e1, h1⟩ := add_x (n := n) ht ((48 : Int64) + (y / cW ((10 ^ (k + 1) : Nat) : Int) - y / cW ((10 ^ (k + 1) : Nat) : Int) / 10 * 10)).toInt32
    obtain ⟨t2, e2, h2⟩ := ih n t1 (by omega) (by omega) h1.v
    refine ⟨t2, ?_, h2⟩
    have hc : ¬ lg_cmp (cW ((10 ^ (k + 1) : Nat) : Int)) 0 ≤ 0 := by
      rw [show (0 : Int64) = cW 0 from rfl, lg_cW (by omega) (by omega) (by omega) (by omega), izs_le0]
      omega
    have hc2 : ¬ cW ((10 ^ (k + 1) : Nat) : Int) = 0 := by
      rw [show (0 : Int64) = cW 0 from rfl, cW_eq (by omega) (by omega) (by omega) (by omega)]
      omega
    have hd : cW ((10 ^ (k + 1) : Nat) : Int) / 10 = cW ((10 ^ k : Nat) : Int) := by
      rw [show (10 : Int64) = cW ((10 : Nat) : Int) from rfl, q_div (by omega) (by omega), hs, Nat.mul_div_cancel _ (by omega)]
    rw [fT_addNumber_b, if_neg (by decide), if_neg hc, if_neg hc2, e1, Option.bind_some]
    dsimp only
    rw [hd, e2]
theorem an1T {y z : Int64} : ∀ (f k n : Nat) (t : TS), k + f = 15 → 40 < n + k → RV t → ∃ t' : TS, fT_addNumber_b n 1 (cW ((10 ^ k : Nat) : Int)) y z t.1 (i3 t.2.1) t.2.2 = some (t'.1, i3 t'.2.1, t'.2.2) ∧ RV t' := by
  intro f
  induction f with
  | zero =>
    intro k n t hk hn ht
    obtain rfl : k = 15 := by omega
    obtain ⟨n, rfl⟩ : ∃ j, n = j + 1 := ⟨n - 1, by omega⟩
    obtain ⟨t1, e1, h1⟩ := an2T (y := y) (z := z) 15 n t (by omega) (by omega) ht
    refine ⟨t1, ?_, h1⟩
    rw [fT_addNumber_b, if_pos rfl, if_pos (by decide)]
    exact e1
  | succ f ih =>
    intro k n t hk hn ht
    obtain ⟨n, rfl⟩ : ∃ j, n = j + 1 := ⟨n - 1, by omega⟩
    have h14 : 10 ^ k ≤ 100000000000000 := Nat.pow_le_pow_right (n := 10) (by omega) (show k ≤ 14 by omega)
    have hp := ten_pos k
    have hs : 10 ^ (k + 1) = 10 ^ k * 10 := Nat.pow_succ 10 k
    have hc1 : ¬ 0 < lg_cmp (cW ((10 ^ k : Nat) : Int)) 900719925474099 := by
      rw [show (900719925474099 : Int64) = cW 900719925474099 from rfl, lg_cW (by omega) (by omega) (by omega) (by omega), izs_gt0]
      omega
    have hc2 : ¬ cW ((10 ^ k : Nat) : Int) = 0 := by
      rw [show (0 : Int64) = cW 0 from rfl, cW_eq (by omega) (by omega) (by omega) (by omega)]
      omega
    rw [fT_addNumber_b, if_pos rfl, if_neg hc1, if_neg hc2]
    split
    · exact an2T k n t (by omega) (by omega) ht
    · have e : cW ((10 ^ k : Nat) : Int) * 10 = cW ((10 ^ (k + 1) : Nat) : Int) := by
        rw [show (10 : Int64) = cW 10 from rfl, cW_mul, hs]
        rfl
      rw [e]
      exact ih (k + 1) n t (by omega) (by omega) ht
theorem addNumberT {n : Nat} {t : TS} (hn : 40 < n) (ht : RV t) (x : Int64) : ∃ t' : TS, fT_addNumber n x t.1 (i3 t.2.1) t.2.2 = some (t'.1, i3 t'.2.1, t'.2.2) ∧ RV t' := by
  unfold fT_addNumber
  split
  · exact an1T 15 0 n t (by omega) (by omega) ht
  · obtain ⟨t1, e1, g1⟩ := add_c (n := n) ht (c := 45) (by omega)
    rw [show (45 : Int32) = i3 45 from rfl, e1, Option.bind_some]
    exact an1T 15 0 n t1 (by omega) (by omega) g1.v
section WT
variable {f : Nat → Int64} {v : Nat} {o : Int32}
theorem wsT (hv : v ≤ 4096) {x : Int32} {k : Nat} (hk : k < 65536) (hlen : ∀ n, fR_length n x f (i3 v) o = some (i3 k)) : ∀ (m n i : Nat) (t : TS), i + m = k → m < n → RV t → ∃ t' : TS, fP_writeString_b f (i3 v) o n 1 (i3 i) x t.1 (i3 t.2.1) t.2.2 = some (t'.1, i3 t'.2.1, t'.2.2) ∧ RV t' := by
  intro m
  induction m with
  | zero =>
    intro n i t hi hn ht
    obtain ⟨n, rfl⟩ : ∃ j, n = j + 1 := ⟨n - 1, by omega⟩
    obtain ⟨t1, e1, g1⟩ := add_c (n := n) ht (c := 34) (by omega)
    refine ⟨t1, ?_, g1.v⟩
    rw [fP_writeString_b, hlen, Option.bind_some, if_pos (by rw [i3_le (by omega) (by omega)]; omega), show (34 : Int32) = i3 34 from rfl, e1]
    rfl
  | succ m ih =>
    intro n i t hi hn ht
    obtain ⟨n, rfl⟩ : ∃ j, n = j + 1 := ⟨n - 1, by omega⟩
    obtain ⟨c, hc⟩ := codeT (n := n) (f := f) (o := o) hv x (i3 i)
    obtain ⟨t1, e1, g0, _⟩ := writeCode_w (n := n) ht c
    obtain ⟨t2, e2, g2⟩ := ih n (i + 1) t1 (by omega) (by omega) g0
    refine ⟨t2, ?_, g2⟩
    rw [fP_writeString_b, hlen, Option.bind_some, if_neg (by rw [i3_le (by omega) (by omega)]; omega), hc, Option.bind_some, e1, Option.bind_some]
    dsimp only
    rw [i3_one, e2]
theorem writeStringT {n : Nat} {t : TS} (hv : v ≤ 4096) (x : Int32) (hn : 65536 < n) (ht : RV t) : ∃ t' : TS, fP_writeString n x f (i3 v) o t.1 (i3 t.2.1) t.2.2 = some (t'.1, i3 t'.2.1, t'.2.2) ∧ RV t' := by
  obtain ⟨k, hk, hlen⟩ := lengthT (f := f) (o := o) hv x
  obtain ⟨t1, e1, g1⟩ := add_c (n := n) ht (c := 34) (by omega)
  obtain ⟨t2, e2, g2⟩ := wsT hv hk hlen k n 0 t1 (by omega) (by omega) g1.v
  refine ⟨t2, ?_, g2⟩
  unfold fP_writeString
  rw [show (34 : Int32) = i3 34 from rfl, e1, Option.bind_some]
  exact e2
theorem wlT (hv : v ≤ 4096) {rec : RecW} {x y3 y4 : Int32} {k : Nat} (hk : k < 65536) (hlen : ∀ n, fR_length n x f (i3 v) o = some (i3 k)) (hrec : ∀ (q : Int32) (t : TS), RV t → ∃ t' : TS, rec q (y3 + 1) f (i3 v) o t.1 (i3 t.2.1) t.2.2 = some (t'.1, i3 t'.2.1, t'.2.2) ∧ RV t') : ∀ (m n i : Nat) (q : Int32) (t : TS), i + m = k → 65537 + m < n → RV t → ∃ t' : TS, fP_writeList_b rec f (i3 v) o n 1 (i3 i) q y4 x y3 t.1 (i3 t.2.1) t.2.2 = some (t'.1, i3 t'.2.1, t'.2.2) ∧ RV t' := by
  intro m
  induction m with
  | zero =>
    intro n i q t hi hn ht
    obtain ⟨n, rfl⟩ : ∃ j, n = j + 1 := ⟨n - 1, by omega⟩
    obtain ⟨t1, e1, g1⟩ := add_c (n := n) ht (c := 93) (by omega)
    obtain ⟨t2, e2, g2⟩ := add_c (n := n) ht (c := 125) (by omega)
    rw [fP_writeList_b, hlen, Option.bind_some, if_pos (by rw [i3_le (by omega) (by omega)]; omega), show (93 : Int32) = i3 93 from rfl, show (125 : Int32) = i3 125 from rfl, e1, e2]
    split
    · exact ⟨t1, rfl, g1.v⟩
    · exact ⟨t2, rfl, g2.v⟩
  | succ m ih =>
    intro n i q t hi hn ht
    obtain ⟨n, rfl⟩ : ∃ j, n = j + 1 := ⟨n - 1, by omega⟩
    have rest : ∀ (q : Int32) (t : TS), RV t → ∃ t' : TS, ((rec q (y3 + 1) f (i3 v) o t.1 (i3 t.2.1) t.2.2).bind fun o4 => (fR_after n q f (i3 v) o).bind fun o6 => fP_writeList_b rec f (i3 v) o n 1 (i3 i + 1) o6 y4 x y3 o4.1 o4.2.1 o4.2.2) = some (t'.1, i3 t'.2.1, t'.2.2) ∧ RV t' := fun q t ht => by
      obtain ⟨t1, e1, g1⟩ := hrec q t ht
      obtain ⟨q2, e2⟩ := afterT (n := n) (f := f) (o := o) hv q
      obtain ⟨t3, e3, g3⟩ := ih n (i + 1) q2 t1 (by omega) (by omega) g1
      refine ⟨t3, ?_, g3⟩
      rw [e1, Option.bind_some, e2, Option.bind_some, i3_one]
      exact e3
    have rest2 : ∀ (t : TS), RV t → ∃ t' : TS, ((fP_writeString n q f (i3 v) o t.1 (i3 t.2.1) t.2.2).bind fun o4 => (fT_add n (58 : Int32) o4.1 o4.2.1 o4.2.2).bind fun o6 => (fR_after n q f (i3 v) o).bind fun o8 => (rec o8 (y3 + (1 : Int32)) f (i3 v) o o6.1 o6.2.1 o6.2.2).bind fun o11 => (fR_after n o8 f (i3 v) o).bind fun o13 => fP_writeList_b rec f (i3 v) o n 1 (i3 i + 1) o13 y4 x y3 o11.1 o11.2.1 o11.2.2) = some (t'.1, i3 t'.2.1, t'.2.2) ∧ RV t' := fun t ht => by
      obtain ⟨t1, e1, g1⟩ := writeStringT (n := n) (f := f) (o := o) hv q (by omega) ht
      obtain ⟨t2, e2, g2⟩ := add_c (n := n) g1 (c := 58) (by omega)
      obtain ⟨q2, e3⟩ := afterT (n := n) (f := f) (o := o) hv q
      obtain ⟨t4, e4, g4⟩ := rest q2 t2 g2.v
      refine ⟨t4, ?_, g4⟩
      rw [e1, Option.bind_some]
      dsimp only
      rw [show (58 : Int32) = i3 58 from rfl, e2, Option.bind_some, e3, Option.bind_some]
      exact e4
    rw [fP_writeList_b, hlen, Option.bind_some, if_neg (by rw [i3_le (by omega) (by omega)]; omega)]
    split
    · split
      · exact rest q t ht
      · exact rest2 t ht
    · obtain ⟨t0, e0, g0⟩ := add_c (n := n) ht (c := 44) (by omega)
      rw [show (44 : Int32) = i3 44 from rfl, e0, Option.bind_some]
      split
      · exact rest q t0 g0.v
      · exact rest2 t0 g0.v
theorem writeT {n : Nat} (hn : 140000 < n) (hv : v ≤ 4096) : ∀ (d k : Nat) (x : Int32) (t : TS), 61 ≤ d + k → 1 ≤ d → k ≤ 1000 → RV t → ∃ t' : TS, fP_write d n x (i3 k) f (i3 v) o t.1 (i3 t.2.1) t.2.2 = some (t'.1, i3 t'.2.1, t'.2.2) ∧ RV t' := by
  intro d
  induction d with
  | zero => intro k x t _ h; omega
  | succ d ih =>
    intro k x t hd _ hk ht
    obtain ⟨w0, w1, w2⟩ := word_w (n := n) ht
    obtain ⟨y, hy⟩ := kindT (n := n) (f := f) (o := o) hv x
    rw [fP_write, hy, Option.bind_some]
    split
    · obtain ⟨t', e, g⟩ := w0
      exact ⟨t', b3 e, g.v⟩
    split
    · obtain ⟨t', e, g⟩ := w1
      exact ⟨t', b3 e, g.v⟩
    split
    · obtain ⟨t', e, g⟩ := w2
      exact ⟨t', b3 e, g.v⟩
    split
    · obtain ⟨z, hz⟩ := numberT (n := n) (f := f) (o := o) hv x
      obtain ⟨t', e, g⟩ := addNumberT (n := n) (by omega) ht z
      rw [hz, Option.bind_some]
      exact ⟨t', b3 e, g⟩
    split
    · obtain ⟨t', e, g⟩ := writeStringT (n := n) (f := f) (o := o) hv x (by omega) ht
      exact ⟨t', b3 e, g⟩
    · unfold fP_writeList
      by_cases h60 : k < 60
      · rw [if_pos (by rw [show (60 : Int32) = i3 60 from rfl, i3_lt (by omega) (by omega)]; exact h60)]
        obtain ⟨m, hm, hlen⟩ := lengthT (f := f) (o := o) hv x
        have hr : ∀ (q : Int32) (t : TS), RV t → ∃ t' : TS, fP_write d n q (i3 k + 1) f (i3 v) o t.1 (i3 t.2.1) t.2.2 = some (t'.1, i3 t'.2.1, t'.2.2) ∧ RV t' := fun q t ht => by
          rw [i3_one]
          exact ih (k + 1) q t (by omega) (by omega) (by omega) ht
        obtain ⟨t1, e1, g1⟩ := add_c (n := n) ht (c := 91) (by omega)
        obtain ⟨t2, e2, g2⟩ := add_c (n := n) ht (c := 123) (by omega)
        rcases isT (n := n) (f := f) (o := o) hv x 6 with e | e
        · rw [e, Option.bind_some, if_neg (by decide), show (123 : Int32) = i3 123 from rfl, e2, Option.bind_some]
          obtain ⟨t3, e3, g3⟩ := wlT (y4 := 1) hv hm hlen hr m n 0 (x + 1) t2 (by omega) (by omega) g2.v
          exact ⟨t3, b3 e3, g3⟩
        · rw [e, Option.bind_some, if_pos rfl, show (91 : Int32) = i3 91 from rfl, e1, Option.bind_some]
          obtain ⟨t3, e3, g3⟩ := wlT (y4 := 0) hv hm hlen hr m n 0 (x + 1) t1 (by omega) (by omega) g1.v
          exact ⟨t3, b3 e3, g3⟩
      · rw [if_neg (by rw [show (60 : Int32) = i3 60 from rfl, i3_lt (by omega) (by omega)]; exact h60)]
        exact ⟨(t.1, t.2.1, 1), rfl, ⟨ht.1, Or.inr rfl⟩⟩
end WT
end ZTot13
