/-! ===== cells in a row ===== -/
def seg {α : Type} (f : Nat → α) (p : Nat) (w : List α) : Prop := ∀ i x, w[i]? = some x → f (p + i) = x
section SG
variable {α : Type} {f g : Nat → α} {p q : Nat} {w u : List α} {x : α}
theorem seg_nil : seg f p [] := fun i x h => by simp at h
theorem seg_cons : seg f p (x :: w) ↔ f p = x ∧ seg f (p + 1) w := by
  constructor
  · intro h
    refine ⟨h 0 x rfl, fun i y hy => ?_⟩
    have := h (i + 1) y (by simpa using hy)
    rw [← this]
    congr 1
    omega
  · rintro ⟨h1, h2⟩ i y hy
    cases i with
    | zero =>
      have := Option.some.inj hy
      rw [← this]
      exact h1
    | succ i =>
      have := h2 i y (by simpa using hy)
      rw [← this]
      congr 1
      omega
theorem seg_app : seg f p (w ++ u) ↔ seg f p w ∧ seg f (p + w.length) u := by
  induction w generalizing p with
  | nil => simp [seg_nil]
  | cons y w ih =>
    rw [List.cons_append, seg_cons, ih, seg_cons, List.length_cons, and_assoc, show p + 1 + w.length = p + (w.length + 1) by omega]
theorem seg_one : seg f p [x] ↔ f p = x := by rw [seg_cons]; simp [seg_nil]
theorem seg_get (h : seg f p w) {i : Nat} (hi : i < w.length) : f (p + i) = w[i] := h i _ (List.getElem?_eq_getElem hi)
/-- a row that agrees there -/
theorem seg_of (h : seg f p w) (he : ∀ i, i < w.length → g (q + i) = f (p + i)) : seg g q w := fun i y hy => by
  obtain ⟨hi, _⟩ := List.getElem?_eq_some_iff.mp hy
  rw [he i hi]
  exact h i y hy
theorem seg_eqs (h : seg f p w) (h' : seg g q w) {i : Nat} (hi : i < w.length) : f (p + i) = g (q + i) := (seg_get h hi).trans (seg_get h' hi).symm
end SG
/-! sizes -/
theorem jc_pos : ∀ (d : Nat) (j : JT d), 1 ≤ (jc d j).length := by
  intro d j
  cases d with
  | zero => exact (j0 j).elim
  | succ d => rcases jcases j with ⟨k, rfl⟩ | ⟨z, rfl⟩ | ⟨s, rfl⟩ | ⟨l, rfl⟩ | ⟨l, rfl⟩ <;> exact Nat.le_add_left 1 _
theorem strc_len (s : Sx) : (strc s).length = s.length + 1 := by simp [strc]
theorem lst_len (k n : Nat) (b : List Int64) : (lst k n b).length = b.length + 1 := rfl
theorem flat_len {β : Type} {l : List β} {c : β → List Int64} (h : ∀ x ∈ l, 1 ≤ (c x).length) : l.length ≤ (l.flatMap c).length := by
  induction l with
  | nil => simp
  | cons x l ih =>
    rw [List.flatMap_cons, List.length_append, List.length_cons]
    have := h x (List.mem_cons_self ..)
    have := ih (fun y hy => h y (List.mem_cons_of_mem _ hy))
    omega
/-! the row's own questions, at a cell that is known -/
section RW
variable {n : Nat} {f : Nat → Int64} {p v : Nat} {o : Int32}
theorem kind_in (hp : p < v) (hv : v ≤ 4096) : fR_kind n (i3 p) f (i3 v) o = some ((f p).toInt32 &&& 7) := by
  unfold fR_kind
  rw [if_neg (i3_nn (by omega)), if_neg (i3_nle (by omega) (by omega)), if_neg (i3_idx (by omega) (by omega)), i3_N (by omega)]
theorem cell_in (hp : p < v) (hv : v ≤ 4096) : fR_cell n (i3 p) f (i3 v) o = some (f p) := by
  unfold fR_cell
  rw [if_neg (i3_nn (by omega)), if_neg (i3_nle (by omega) (by omega)), if_neg (i3_idx (by omega) (by omega)), i3_N (by omega)]
theorem number_in (hp : p < v) (hv : v ≤ 4096) : fR_number n (i3 p) f (i3 v) o = some (f p >>> ((3 : Int32).toInt64 &&& 63)) := by
  unfold fR_number
  rw [if_neg (i3_nn (by omega)), if_neg (i3_nle (by omega) (by omega)), if_neg (i3_idx (by omega) (by omega)), i3_N (by omega)]
theorem length_in (hp : p < v) (hv : v ≤ 4096) : fR_length n (i3 p) f (i3 v) o = some ((f p >>> ((3 : Int32).toInt64 &&& 63)).toInt32 &&& 65535) := by
  unfold fR_length
  rw [if_neg (i3_nn (by omega)), if_neg (i3_nle (by omega) (by omega)), if_neg (i3_idx (by omega) (by omega)), i3_N (by omega)]
theorem code_in {i : Nat} (hp : p + 1 + i < v) (hv : v ≤ 4096) : fR_code n (i3 p) (i3 i) f (i3 v) o = some ((f (p + 1 + i)).toInt32) := by
  unfold fR_code
  rw [i3_one, i3_add, if_neg (i3_nn (by omega)), if_neg (i3_nle (by omega) (by omega)), if_neg (i3_idx (by omega) (by omega)), i3_N (by omega)]
theorem after_in (hp : p < v) (hv : v ≤ 4096) : fR_after n (i3 p) f (i3 v) o = if 0 ≤ lg_cmp (f p &&& 7) 4 then some (i3 p + (f p >>> ((19 : Int32).toInt64 &&& 63)).toInt32) else some (i3 (p + 1)) := by
  unfold fR_after
  rw [if_neg (i3_nn (by omega)), if_neg (i3_nle (by omega) (by omega)), if_neg (i3_idx (by omega) (by omega)), if_neg (i3_idx (by omega) (by omega)), i3_N (by omega), i3_one]
end RW
/-! heads -/
theorem hd_kind {k l s : Nat} (hk : k < 8) : (hd k l s).toInt32 &&& 7 = i3 k := by
  unfold hd
  rw [cW_32, iz_and7]
  congr 1
  omega
theorem hd_len {k l s : Nat} (hk : k < 8) (hl : l < 65536) (hs : s < 2147483648) : (hd k l s >>> ((3 : Int32).toInt64 &&& 63)).toInt32 &&& 65535 = i3 l := by
  unfold hd
  rw [cW_shr3 (by omega) (by omega), cW_32, iz_and16]
  congr 1
  omega
theorem hd_span {k l s : Nat} (hk : k < 8) (hl : l < 65536) (hs : s < 2147483648) : (hd k l s >>> ((19 : Int32).toInt64 &&& 63)).toInt32 = i3 s := by
  unfold hd
  rw [cW_shr19 (by omega) (by omega), cW_32, ← iz_nat]
  congr 1
  omega
theorem hd_and {k l s : Nat} (hk : k < 8) : hd k l s &&& 7 = cW (k : Nat) := by
  unfold hd
  rw [cW_and7]
  congr 1
  omega
theorem nc_kind {z : Int} : (cW (z * 8 + 3)).toInt32 &&& 7 = i3 3 := by
  rw [cW_32, iz_and7]
  congr 1
  omega
theorem nc_num {z : Int} (h : -9007199254740991 ≤ z) (h' : z ≤ 9007199254740991) : cW (z * 8 + 3) >>> ((3 : Int32).toInt64 &&& 63) = cW z := by
  rw [cW_shr3 (by omega) (by omega)]
  congr 1
  omega
theorem kc_kind {k : Nat} (h : k < 8) : (cW (k : Nat)).toInt32 &&& 7 = i3 k := by
  rw [cW_32, iz_and7]
  congr 1
  omega
/-! a value in a row: v cells in use, the value's at p -/
def At (f : Nat → Int64) (v p : Nat) (w : List Int64) : Prop := seg f p w ∧ p + w.length ≤ v ∧ v ≤ 4096
section AT
variable {n : Nat} {f : Nat → Int64} {p v d : Nat} {o : Int32}
theorem jc_head (j : JT d) (hok : jok d j) (hl : (jc d j).length ≤ 4096) : ∃ x w, jc d j = x :: w ∧ x.toInt32 &&& 7 = i3 (kd d j) ∧ (kd d j < 4 → w = []) ∧ x &&& 7 = cW (kd d j : Nat) ∧ (4 ≤ kd d j → (x >>> ((19 : Int32).toInt64 &&& 63)).toInt32 = i3 (w.length + 1)) := by
  cases d with
  | zero => exact (j0 j).elim
  | succ d =>
    rcases jcases j with ⟨k, rfl⟩ | ⟨z, rfl⟩ | ⟨s, rfl⟩ | ⟨l, rfl⟩ | ⟨l, rfl⟩
    · rw [jok_k] at hok
      refine ⟨_, _, jc_k, kc_kind (by omega), fun _ => rfl, ?_, fun h => ?_⟩
      · rw [cW_and7, kd_k]
        congr 1
        omega
      · rw [kd_k] at h
        omega
    · refine ⟨_, _, jc_n, nc_kind, fun _ => rfl, ?_, fun h => by rw [kd_n] at h; omega⟩
      rw [cW_and7, kd_n]
      congr 1
      omega
    · have e : (jc (d + 1) (js s)).length = s.length + 1 := strc_len s
      refine ⟨_, _, jc_s, hd_kind (by omega), fun h => by rw [kd_s] at h; omega, hd_and (by omega), fun _ => ?_⟩
      rw [hd_span (by omega) (by omega) (by omega), List.length_map]
    · have e : (jc (d + 1) (ja l)).length = (l.flatMap (jc d)).length + 1 := rfl
      have := flat_len (l := l) (c := jc d) (fun x _ => jc_pos d x)
      refine ⟨_, _, jc_a, hd_kind (by omega), fun h => by rw [kd_a] at h; omega, hd_and (by omega), fun _ => ?_⟩
      rw [hd_span (by omega) (by omega) (by omega)]
    · have e : (jc (d + 1) (jo l)).length = (l.flatMap (fun p => strc p.1 ++ jc d p.2)).length + 1 := rfl
      have := flat_len (l := l) (c := fun p => strc p.1 ++ jc d p.2) (fun x _ => by rw [List.length_append, strc_len]; omega)
      refine ⟨_, _, jc_o, hd_kind (by omega), fun h => by rw [kd_o] at h; omega, hd_and (by omega), fun _ => ?_⟩
      rw [hd_span (by omega) (by omega) (by omega)]
theorem At.kind {j : JT d} (h : At f v p (jc d j)) (hok : jok d j) : fR_kind n (i3 p) f (i3 v) o = some (i3 (kd d j)) := by
  obtain ⟨h1, h2, h3⟩ := h
  obtain ⟨x, w, e, hk, _⟩ := jc_head j hok (by omega)
  rw [e] at h1 h2
  rw [kind_in (by rw [List.length_cons] at h2; omega) h3, (seg_cons.mp h1).1, hk]
theorem At.after {j : JT d} (h : At f v p (jc d j)) (hok : jok d j) : fR_after n (i3 p) f (i3 v) o = some (i3 (p + (jc d j).length)) := by
  obtain ⟨h1, h2, h3⟩ := h
  obtain ⟨x, w, e, hk, h4, h5, h6⟩ := jc_head j hok (by omega)
  rw [e] at h1 h2 ⊢
  rw [List.length_cons] at h2
  have hk8 : kd d j < 8 := by
    cases d with
    | zero => exact (j0 j).elim
    | succ d =>
      rcases jcases j with ⟨k, rfl⟩ | ⟨z, rfl⟩ | ⟨s, rfl⟩ | ⟨l, rfl⟩ | ⟨l, rfl⟩
      · rw [jok_k] at hok; rw [kd_k]; omega
      · rw [kd_n]; omega
      · rw [kd_s]; omega
      · rw [kd_a]; omega
      · rw [kd_o]; omega
  rw [after_in (by omega) h3, (seg_cons.mp h1).1, h5, show (4 : Int64) = cW ((4 : Nat) : Int) from rfl, lg_cW (by omega) (by omega) (by omega) (by omega)]
  by_cases h7 : 4 ≤ kd d j
  · rw [if_pos (by rw [izs_ge0]; omega), h6 h7, i3_add, List.length_cons]
  · rw [if_neg (by rw [izs_ge0]; omega), h4 (by omega)]
    rfl
end AT
