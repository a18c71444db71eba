/-! ===== the reader of ValueBench ===== -/
def TSrc (t : TS) (src : List Nat) : Prop := (∀ c ∈ src, c < 256) ∧ seg t.1 0 (src.map sb) ∧ src.length = t.2.1 ∧ t.2.1 ≤ 4096
def pos (src r : List Nat) : Int32 := i3 (src.length - r.length)
def hv (r : List Nat) : Int32 := match r with
  | [] => -1
  | c :: _ => i3 c
theorem hv_eq {r : List Nat} {k : Nat} (hr : ∀ c ∈ r, c < 256) (hk : k < 256) : (hv r = i3 k) = (r.head? = some k) := by
  cases r with
  | nil => exact propext ⟨fun h => absurd h.symm (by rw [show hv [] = -1 from rfl, i3_m1 (by omega)]; exact not_false), fun h => by simp at h⟩
  | cons c r =>
    have := hr c (List.mem_cons_self ..)
    show (i3 c = i3 k) = _
    rw [i3_eq (by omega) (by omega)]
    exact propext ⟨fun h => by simp [h], fun h => by simpa using h⟩
def hD (r : List Nat) : Bool := match r with
  | [] => false
  | c :: _ => isD c
section RD
variable {t : TS} {src : List Nat} {n : Nat}
theorem suf_lt {r : List Nat} (hs : TSrc t src) (h : r <:+ src) : (∀ c ∈ r, c < 256) ∧ r.length ≤ src.length ∧ src.length ≤ 4096 := ⟨fun c hc => hs.1 c (h.subset hc), h.length_le, by have := hs.2.2; omega⟩
theorem at_h {r : List Nat} (hs : TSrc t src) (h : r <:+ src) : fT_at n (pos src r) t.1 (i3 t.2.1) t.2.2 = some (hv r) := by
  obtain ⟨h1, h2, h3⟩ := suf_lt hs h
  obtain ⟨a1, a2, a3, a4⟩ := hs
  unfold pos
  cases r with
  | nil =>
    rw [List.length_nil, Nat.sub_zero, text_end a4 (by omega) (by omega)]
    rfl
  | cons c r =>
    rw [List.length_cons] at h2 ⊢
    rw [text_at a1 a2 a3 a4 (i := src.length - (r.length + 1)) (by omega)]
    obtain ⟨p, rfl⟩ := h
    congr 2
    have e1 : (p ++ c :: r).length - (r.length + 1) = p.length := by simp
    rw [List.getElem_append_right (by omega)]
    simp
theorem pos_c {c : Nat} {r : List Nat} (hs : TSrc t src) (h : (c :: r) <:+ src) : pos src (c :: r) + 1 = pos src r := by
  obtain ⟨h1, h2, h3⟩ := suf_lt hs h
  unfold pos
  rw [List.length_cons] at h2 ⊢
  rw [i3_one]
  congr 1
  omega
theorem pos_t {r : List Nat} {c : Nat} (hs : TSrc t src) (h : r <:+ src) (hc : r.head? = some c) : pos src r + 1 = pos src r.tail := by
  cases r with
  | nil => simp at hc
  | cons d r => exact pos_c hs h
theorem size_le {r : List Nat} (hs : TSrc t src) (h : r <:+ src) : (i3 t.2.1 ≤ pos src r) = (r = []) := by
  obtain ⟨h1, h2, h3⟩ := suf_lt hs h
  have := hs.2.2.1
  unfold pos
  rw [i3_le (by omega) (by omega)]
  refine propext ⟨fun h => List.length_eq_zero_iff.mp (by omega), fun h => ?_⟩
  rw [h, List.length_nil]
  omega
theorem pos_inj {r x : List Nat} (hs : TSrc t src) (h : r <:+ src) (h' : x <:+ src) (e : pos src r = pos src x) : r.length = x.length := by
  obtain ⟨_, h2, h3⟩ := suf_lt hs h
  obtain ⟨_, h4, _⟩ := suf_lt hs h'
  unfold pos at e
  rw [i3_eq (by omega) (by omega)] at e
  omega
theorem pos_m1 {r : List Nat} (hs : TSrc t src) (h : r <:+ src) : (pos src r = -1) = False := by
  obtain ⟨_, h2, h3⟩ := suf_lt hs h
  exact i3_m1 (by omega)
theorem isBlank_c {c : Nat} (hc : c < 256) : fD_isBlank n (i3 c) = some (if isB c then 1 else 0) := by
  unfold fD_isBlank isB
  rw [show (32 : Int32) = i3 32 from rfl, show (9 : Int32) = i3 9 from rfl, show (10 : Int32) = i3 10 from rfl, show (13 : Int32) = i3 13 from rfl]
  simp only [i3_eq (show c < 2147483648 by omega) (show 32 < 2147483648 by omega), i3_eq (show c < 2147483648 by omega) (show 9 < 2147483648 by omega), i3_eq (show c < 2147483648 by omega) (show 10 < 2147483648 by omega), i3_eq (show c < 2147483648 by omega) (show 13 < 2147483648 by omega)]
  by_cases h1 : c = 32
  · simp [h1]
  · by_cases h2 : c = 9
    · simp [h2]
    · by_cases h3 : c = 10
      · simp [h3]
      · by_cases h4 : c = 13
        · simp [h4]
        · simp [h1, h2, h3, h4]
theorem blanks_w (hs : TSrc t src) {f3 : Nat → Int64} {v4 v5 v7 : Int32} : ∀ (r : List Nat) (n : Nat), r <:+ src → r.length < n → fD_skipBlanks_b t.1 (i3 t.2.1) t.2.2 f3 v4 v5 v7 n 1 (pos src r) = some (pos src (blk r)) := by
  intro r
  induction r with
  | nil =>
    intro n h hn
    obtain ⟨n, rfl⟩ : ∃ j, n = j + 1 := ⟨n - 1, by omega⟩
    rw [fD_skipBlanks_b, show fT_size n t.1 (i3 t.2.1) t.2.2 = some (i3 t.2.1) from rfl, Option.bind_some, if_pos (by rw [size_le hs h])]
    rfl
  | cons c r ih =>
    intro n h hn
    obtain ⟨n, rfl⟩ : ∃ j, n = j + 1 := ⟨n - 1, by omega⟩
    rw [List.length_cons] at hn
    obtain ⟨h1, h2, h3⟩ := suf_lt hs h
    rw [fD_skipBlanks_b, show fT_size n t.1 (i3 t.2.1) t.2.2 = some (i3 t.2.1) from rfl, Option.bind_some, if_neg (by rw [size_le hs h]; simp), at_h hs h, Option.bind_some, show hv (c :: r) = i3 c from rfl, isBlank_c (h1 c (List.mem_cons_self ..)), Option.bind_some, blk]
    cases hb : isB c with
    | true =>
      rw [if_neg (by decide), if_pos rfl, pos_c hs h]
      exact ih n ((List.suffix_cons c r).trans h) (by omega)
    | false =>
      rw [if_pos (by decide), if_neg (by decide : ¬ (false = true))]
theorem skip_w (hs : TSrc t src) {f3 : Nat → Int64} {v4 v5 v7 : Int32} {r : List Nat} (h : r <:+ src) (hn : 4096 < n) : fD_skipBlanks n t.1 (i3 t.2.1) t.2.2 f3 v4 v5 (pos src r) v7 = some (pos src (blk r)) := by
  obtain ⟨h1, h2, h3⟩ := suf_lt hs h
  exact blanks_w hs r n h (by omega)
theorem take_w (hs : TSrc t src) {f3 : Nat → Int64} {v4 v5 v7 : Int32} {r : List Nat} {k : Nat} (hk : k < 256) (h : r <:+ src) : fD_take n (i3 k) t.1 (i3 t.2.1) t.2.2 f3 v4 v5 (pos src r) v7 = if r.head? = some k then some (1, pos src r.tail, v7) else some (0, pos src r, pos src r) := by
  obtain ⟨h1, h2, h3⟩ := suf_lt hs h
  unfold fD_take
  rw [at_h hs h, Option.bind_some]
  by_cases hc : r.head? = some k
  · rw [if_pos (by rw [hv_eq h1 hk]; exact hc), if_pos hc, pos_t hs h hc]
  · rw [if_neg (by rw [hv_eq h1 hk]; exact hc), if_neg hc]
    rfl
/-- what a part of the reader answers -/
abbrev Out6 : Type := Int32 × (Nat → Int64) × Int32 × Int32 × Int32 × Int32
def RO (r0 : RS) (src : List Nat) (v7 : Int32) (out : Option Out6) (res : List Nat ⊕ (List Int64 × List Nat)) : Prop := match res with
  | .inl x => ∃ (r' : RS) (a : Int32), out = some (0, r'.1, i3 r'.2.1, r'.2.2, a, pos src x) ∧ RV r' ∧ x <:+ src
  | .inr (w, rest) => ∃ r' : RS, out = some (1, r'.1, i3 r'.2.1, r'.2.2, pos src rest, v7) ∧ Wr r0 w r' ∧ rest <:+ src
theorem RO.chk {r0 : RS} {v7 : Int32} {out : Option Out6} {res : List Nat ⊕ (List Int64 × List Nat)} (h : RO r0 src v7 out res) : RO r0 src v7 (out.bind fun o => if ¬ (o.1 = 0 ∨ o.1 = 1) then none else some (o.1, o.2.1, o.2.2.1, o.2.2.2.1, o.2.2.2.2.1, o.2.2.2.2.2)) res := by
  cases res with
  | inl x =>
    obtain ⟨r', a, e, h1, h2⟩ := h
    refine ⟨r', a, ?_, h1, h2⟩
    rw [e, Option.bind_some, if_neg (by simp)]
  | inr q =>
    obtain ⟨w, rest⟩ := q
    obtain ⟨r', e, h1, h2⟩ := h
    refine ⟨r', ?_, h1, h2⟩
    rw [e, Option.bind_some, if_neg (by simp)]
theorem word_r (hs : TSrc t src) {r0 : RS} (hr0 : RV r0) {v7 : Int32} {r : List Nat} (h : r <:+ src) : RO r0 src v7 (fD_lettersa n 0 t.1 (i3 t.2.1) t.2.2 r0.1 (i3 r0.2.1) r0.2.2 (pos src r) v7) (match pw (wd 0) r with | .inl x => .inl x | .inr r1 => .inr ([cW (0 : Nat)], r1)) ∧ RO r0 src v7 (fD_letters n 1 t.1 (i3 t.2.1) t.2.2 r0.1 (i3 r0.2.1) r0.2.2 (pos src r) v7) (match pw (wd 1) r with | .inl x => .inl x | .inr r1 => .inr ([cW (1 : Nat)], r1)) ∧ RO r0 src v7 (fD_lettersb n 2 t.1 (i3 t.2.1) t.2.2 r0.1 (i3 r0.2.1) r0.2.2 (pos src r) v7) (match pw (wd 2) r with | .inl x => .inl x | .inr r1 => .inr ([cW (2 : Nat)], r1)) := by
  -- one letter
  have step : ∀ (k : Nat) (w : List Nat) (j : Nat) (r : List Nat) (K : Int32 × Int32 × Int32 → Option Out6), k < 256 → r <:+ src → (∀ r1, r1 <:+ src → RO r0 src v7 (K (1, pos src r1, v7)) (match pw w r1 with | .inl x => .inl x | .inr r1 => .inr ([cW (j : Nat)], r1))) → RO r0 src v7 ((fD_take n (i3 k) t.1 (i3 t.2.1) t.2.2 r0.1 (i3 r0.2.1) r0.2.2 (pos src r) v7).bind fun o3 => if o3.1 = 0 then some (0, r0.1, i3 r0.2.1, r0.2.2, o3.2.1, o3.2.2) else K o3) (match pw (k :: w) r with | .inl x => .inl x | .inr r1 => .inr ([cW (j : Nat)], r1)) := by
    intro k w j r K hk hsuf hK
    rw [take_w hs hk hsuf]
    cases r with
    | nil =>
      rw [if_neg (by simp), Option.bind_some, if_pos rfl]
      exact ⟨r0, _, rfl, hr0, hsuf⟩
    | cons d r =>
      rw [pw]
      by_cases hd : d = k
      · subst hd
        rw [if_pos (by simp), if_pos rfl, Option.bind_some, if_neg (show ¬ (1 : Int32) = 0 by decide)]
        exact hK r ((List.suffix_cons d r).trans hsuf)
      · rw [if_neg (by simp; exact hd), if_neg hd, Option.bind_some, if_pos rfl]
        exact ⟨r0, _, rfl, hr0, hsuf⟩
  have last : ∀ (j : Nat) (hj : j < 3) (r1 : List Nat), r1 <:+ src → RO r0 src v7 ((fR_put n (i3 j).toInt64 r0.1 (i3 r0.2.1) r0.2.2).bind fun o27 => some (1, o27.1, o27.2.1, o27.2.2, pos src r1, v7)) (match pw [] r1 with | .inl x => .inl x | .inr r1 => .inr ([cW (j : Nat)], r1)) := by
    intro j hj r1 hr1
    obtain ⟨r2, e2, w2⟩ := put_w (n := n) hr0 (cW (j : Nat))
    rw [i3_64 (by omega), e2]
    exact ⟨r2, rfl, w2, hr1⟩
  refine ⟨?_, ?_, ?_⟩
  · unfold fD_lettersa
    refine step 110 [117, 108, 108] 0 r _ (by omega) h (fun r1 h1 => ?_)
    refine step 117 [108, 108] 0 r1 _ (by omega) h1 (fun r2 h2 => ?_)
    refine step 108 [108] 0 r2 _ (by omega) h2 (fun r3 h3 => ?_)
    refine step 108 [] 0 r3 _ (by omega) h3 (fun r4 h4 => ?_)
    exact last 0 (by omega) r4 h4
  · unfold fD_letters
    refine step 102 [97, 108, 115, 101] 1 r _ (by omega) h (fun r1 h1 => ?_)
    refine step 97 [108, 115, 101] 1 r1 _ (by omega) h1 (fun r2 h2 => ?_)
    refine step 108 [115, 101] 1 r2 _ (by omega) h2 (fun r3 h3 => ?_)
    refine step 115 [101] 1 r3 _ (by omega) h3 (fun r4 h4 => ?_)
    refine step 101 [] 1 r4 _ (by omega) h4 (fun r5 h5 => ?_)
    exact last 1 (by omega) r5 h5
  · unfold fD_lettersb
    refine step 116 [114, 117, 101] 2 r _ (by omega) h (fun r1 h1 => ?_)
    refine step 114 [117, 101] 2 r1 _ (by omega) h1 (fun r2 h2 => ?_)
    refine step 117 [101] 2 r2 _ (by omega) h2 (fun r3 h3 => ?_)
    refine step 101 [] 2 r3 _ (by omega) h3 (fun r4 h4 => ?_)
    exact last 2 (by omega) r4 h4
/-! numbers -/
theorem isDigit_h {r : List Nat} (hr : ∀ c ∈ r, c < 256) : fD_isDigit n (hv r) = some (if hD r then 1 else 0) := by
  cases r with
  | nil => rfl
  | cons c r =>
    have hc := hr c (List.mem_cons_self ..)
    show fD_isDigit n (i3 c) = some (if isD c then 1 else 0)
    unfold fD_isDigit isD
    by_cases h1 : c < 48
    · rw [if_pos (by rw [show (48 : Int32) = i3 48 from rfl, i3_lt (by omega) (by omega)]; exact h1)]
      simp; omega
    · rw [if_neg (by rw [show (48 : Int32) = i3 48 from rfl, i3_lt (by omega) (by omega)]; exact h1)]
      by_cases h2 : 57 < c
      · rw [if_pos (by rw [show (57 : Int32) = i3 57 from rfl, i3_lt (by omega) (by omega)]; exact h2)]
        simp; omega
      · rw [if_neg (by rw [show (57 : Int32) = i3 57 from rfl, i3_lt (by omega) (by omega)]; exact h2)]
        simp; omega
theorem digits_l (hs : TSrc t src) {f3 : Nat → Int64} {v4 v5 v7 : Int32} : ∀ (r : List Nat) (n v y : Nat), r <:+ src → r.length < n → 1 ≤ y → y ≤ 90071992547409919 → ((y = v ∧ v ≤ 9007199254740991) ∨ (9007199254740991 < y ∧ 9007199254740991 < v)) →
    ∃ y' : Nat, fD_digits_b t.1 (i3 t.2.1) t.2.2 f3 v4 v5 v7 n 1 (cW (y : Int)) (pos src r) = some (cW (y' : Int), pos src (dv v r).2) ∧ y' ≤ 90071992547409919 ∧ ((y' = (dv v r).1 ∧ (dv v r).1 ≤ 9007199254740991) ∨ (9007199254740991 < y' ∧ 9007199254740991 < (dv v r).1)) := by
  intro r
  induction r with
  | nil =>
    intro n v y h hn hy hy2 hvy
    obtain ⟨n, rfl⟩ : ∃ j, n = j + 1 := ⟨n - 1, by omega⟩
    refine ⟨y, ?_, hy2, hvy⟩
    rw [fD_digits_b, show (0 : Int64) = cW 0 from rfl, lg_cW (by omega) (by omega) (by omega) (by omega), if_neg (by rw [izs_le0]; omega), show fT_size n t.1 (i3 t.2.1) t.2.2 = some (i3 t.2.1) from rfl, Option.bind_some, if_pos (by rw [size_le hs h])]
    rfl
  | cons c r ih =>
    intro n v y h hn hy hy2 hvy
    obtain ⟨n, rfl⟩ : ∃ j, n = j + 1 := ⟨n - 1, by omega⟩
    rw [List.length_cons] at hn
    obtain ⟨h1, h2, h3⟩ := suf_lt hs h
    have hc := h1 c (List.mem_cons_self ..)
    rw [fD_digits_b, show (0 : Int64) = cW 0 from rfl, lg_cW (by omega) (by omega) (by omega) (by omega), if_neg (by rw [izs_le0]; omega), show fT_size n t.1 (i3 t.2.1) t.2.2 = some (i3 t.2.1) from rfl, Option.bind_some, if_neg (by rw [size_le hs h]; simp), at_h hs h, Option.bind_some, isDigit_h h1, Option.bind_some, dv, show hD (c :: r) = isD c from rfl]
    by_cases hd : isD c = true
    case neg =>
      rw [if_neg hd, if_pos (by decide), if_neg hd]
      exact ⟨y, rfl, hy2, hvy⟩
    case pos =>
      have hd2 : 48 ≤ c ∧ c < 58 := by
        unfold isD at hd
        simpa using hd
      rw [if_pos hd, if_neg (by decide), if_pos hd, show (9007199254740991 : Int64) = cW 9007199254740991 from rfl, lg_cW (by omega) (by omega) (by omega) (by omega), pos_c hs h]
      by_cases hG : y ≤ 9007199254740991
      · have hyv : y = v ∧ v ≤ 9007199254740991 := by omega
        rw [if_pos (by rw [izs_le0]; omega), Option.bind_some, show hv (c :: r) = i3 c from rfl, i3_64 (by omega), show (10 : Int64) = cW 10 from rfl, cW_mul, cW_add, show (48 : Int64) = cW 48 from rfl, cW_sub]
        have e1 : ((y : Int) * 10 + (c : Nat) - 48) = ((10 * v + (c - 48) : Nat) : Int) := by omega
        rw [e1]
        exact ih n (10 * v + (c - 48)) (10 * v + (c - 48)) ((List.suffix_cons c r).trans h) (by omega) (by omega) (by omega) (by omega)
      · rw [if_neg (by rw [izs_le0]; omega)]
        exact ih n (10 * v + (c - 48)) y ((List.suffix_cons c r).trans h) (by omega) hy hy2 (by omega)
theorem digits_w (hs : TSrc t src) {f3 : Nat → Int64} {v4 v5 v7 : Int32} (hn : 5000 < n) {r : List Nat} {v : Nat} {r2 : List Nat} (h : r <:+ src) (hp : pD r = some (v, r2)) : ∃ y' : Nat, fD_digits n t.1 (i3 t.2.1) t.2.2 f3 v4 v5 (pos src r) v7 = some (cW (y' : Int), pos src r2) ∧ y' ≤ 90071992547409919 ∧ ((y' = v ∧ v ≤ 9007199254740991) ∨ (9007199254740991 < y' ∧ 9007199254740991 < v)) := by
  obtain ⟨h1, h2, h3⟩ := suf_lt hs h
  cases r with
  | nil => simp [pD] at hp
  | cons c r =>
    have hc := h1 c (List.mem_cons_self ..)
    rw [pD] at hp
    cases hd : isD c with
    | false => rw [hd, if_neg (by decide : ¬ (false = true))] at hp; simp at hp
    | true =>
      have hd2 : 48 ≤ c ∧ c < 58 := by
        unfold isD at hd
        simpa using hd
      rw [hd, if_pos rfl] at hp
      have hsub : (i3 c - (48 : Int32)).toInt64 = cW ((c - 48 : Nat) : Int) := by
        rw [show (48 : Int32) = i3 48 from rfl, i3_sub (by omega), i3_64 (by omega)]
      unfold fD_digits
      rw [at_h hs h, Option.bind_some, show hv (c :: r) = i3 c from rfl, hsub, pos_c hs h]
      by_cases h48 : c = 48
      · rw [if_pos h48] at hp
        obtain ⟨rfl, rfl⟩ := Prod.mk.inj (Option.some.inj hp)
        obtain ⟨n, rfl⟩ : ∃ j, n = j + 1 := ⟨n - 1, by omega⟩
        refine ⟨0, ?_, by omega, by omega⟩
        subst h48
        rw [fD_digits_b, if_pos (by decide)]
      · rw [if_neg h48] at hp
        have hp2 := Option.some.inj hp
        have := digits_l hs (f3 := f3) (v4 := v4) (v5 := v5) (v7 := v7) r n (c - 48) (c - 48) ((List.suffix_cons c r).trans h) (by rw [List.length_cons] at h2; omega) (by omega) (by omega) (by omega)
        rw [hp2] at this
        exact this
theorem pD_none {r : List Nat} : pD r = none ↔ hD r = false := by
  cases r with
  | nil => exact ⟨fun _ => rfl, fun _ => rfl⟩
  | cons c r =>
    rw [pD, show hD (c :: r) = isD c from rfl]
    by_cases h : isD c = true
    · rw [if_pos h, h]
      split <;> simp
    · rw [if_neg h]
      simpa using h
theorem number_r (hs : TSrc t src) (hn : 5000 < n) {r0 : RS} (hr0 : RV r0) {v7 : Int32} {r : List Nat} (h : r <:+ src) : RO r0 src v7 (fD_number n t.1 (i3 t.2.1) t.2.2 r0.1 (i3 r0.2.1) r0.2.2 (pos src r) v7) (mp (fun z => [cW (z * 8 + 3)]) (pN r)) := by
  obtain ⟨h1, h2, h3⟩ := suf_lt hs h
  unfold fD_number
  rw [at_h hs h, Option.bind_some, Option.bind_some]
  -- with the digits at r1, the number begun at r
  have core : ∀ (r1 : List Nat) (sgn : Int), r1 <:+ src → (sgn = 1 ∨ sgn = -1) → RO r0 src v7 ((fD_isDigit n (hv r1)).bind fun o7 => (if o7 = 0 then (fD_broken n (pos src r1) t.1 (i3 t.2.1) t.2.2 r0.1 (i3 r0.2.1) r0.2.2 (pos src r1) v7).bind fun o10 => if ¬ (o10.1 = 0 ∨ o10.1 = 1) then none else some (o10.1, r0.1, i3 r0.2.1, r0.2.2, (pos src r1), o10.2) else (fD_digits n t.1 (i3 t.2.1) t.2.2 r0.1 (i3 r0.2.1) r0.2.2 (pos src r1) v7).bind fun o10 => (if (lg_cmp o10.1 9007199254740991) ≤ 0 then (fR_putNumber n (if sgn = 1 then o10.1 else - o10.1) r0.1 (i3 r0.2.1) r0.2.2).bind fun o13 => some (1, o13.1, o13.2.1, o13.2.2, o10.2, v7) else (fD_broken n (pos src r) t.1 (i3 t.2.1) t.2.2 r0.1 (i3 r0.2.1) r0.2.2 o10.2 v7).bind fun o13 => if ¬ (o13.1 = 0 ∨ o13.1 = 1) then none else some (o13.1, r0.1, i3 r0.2.1, r0.2.2, o10.2, o13.2)))) (mp (fun z => [cW (z * 8 + 3)]) (pNd r r1 sgn)) := by
    intro r1 sgn hr1 hsg
    unfold pNd
    obtain ⟨k1, k2, k3⟩ := suf_lt hs hr1
    rw [isDigit_h k1, Option.bind_some]
    cases hp : pD r1 with
    | none =>
      rw [pD_none.mp hp, if_neg (by decide : ¬ (false = true)), if_pos rfl]
      exact ⟨r0, _, rfl, hr0, hr1⟩
    | some q =>
      obtain ⟨v, r2⟩ := q
      have hd : hD r1 = true := by
        cases hb : hD r1 with
        | true => rfl
        | false => rw [pD_none.mpr hb] at hp; simp at hp
      obtain ⟨y, e1, y1, y2⟩ := digits_w hs (n := n) (f3 := r0.1) (v4 := i3 r0.2.1) (v5 := r0.2.2) (v7 := v7) hn hr1 hp
      have hsuf2 := (pD_suf hp).1
      rw [hd, if_pos rfl, if_neg (by decide), e1, Option.bind_some]
      dsimp only
      rw [show (9007199254740991 : Int64) = cW 9007199254740991 from rfl, lg_cW (by omega) (by omega) (by omega) (by omega)]
      by_cases hv9 : 9007199254740991 < v
      · rw [if_neg (by rw [izs_le0]; omega), if_pos hv9]
        exact ⟨r0, _, rfl, hr0, h⟩
      · rw [if_pos (by rw [izs_le0]; omega), if_neg hv9]
        have hyv : y = v := by omega
        obtain ⟨r3, e3, w3⟩ := putNumber_w (n := n) hr0 (sgn * (v : Int))
        have e4 : (if sgn = 1 then cW (y : Int) else - cW (y : Int)) = cW (sgn * (v : Int)) := by
          rcases hsg with rfl | rfl
          · rw [if_pos rfl, hyv, Int.one_mul]
          · rw [if_neg (by decide), cW_neg, hyv]
            congr 1
            omega
        rw [e4, e3]
        exact ⟨r3, rfl, w3, hsuf2.trans hr1⟩
  unfold pN
  cases r with
  | nil =>
    rw [if_neg (by decide), if_neg (by simp)]
    exact core [] 1 h (Or.inl rfl)
  | cons c r1 =>
    by_cases hc : c = 45
    · subst hc
      have hsf := (List.suffix_cons 45 r1).trans h
      rw [if_pos (by rfl), pos_c hs h, at_h hs hsf, Option.bind_some, if_pos (by rfl)]
      have := core r1 (-1) hsf (Or.inr rfl)
      simp only [show ¬ ((-1 : Int) = 1) by decide, if_false] at this
      exact this
    · have hcl := h1 c (List.mem_cons_self ..)
      rw [if_neg (by rw [show hv (c :: r1) = i3 c from rfl, show (45 : Int32) = i3 45 from rfl, i3_eq (by omega) (by omega)]; exact hc), if_neg (by simpa using hc)]
      have := core (c :: r1) 1 h (Or.inl rfl)
      simp only [if_true] at this
      exact this
end RD
