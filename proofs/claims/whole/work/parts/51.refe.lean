/-! ===== the reference's reader: where it is ===== -/
theorem xsI_xsI {st : xS} {k : Nat} {a b : Int32} : xsI (xsI st k a) k b = xsI st k b := by
  have : va_up (va_up st.1 k a) k b = va_up st.1 k b := by
    funext i
    by_cases h : i = k
    · rw [h, up_eq, up_eq]
    · rw [up_ne h, up_ne h, up_ne h]
  show (va_up (va_up st.1 k a) k b, st.2) = (va_up st.1 k b, st.2)
  rw [this]
theorem xsI_id {st : xS} {k : Nat} {a : Int32} (h : xsi st k = a) : xsI st k a = st := by
  have : va_up st.1 k a = st.1 := by
    funext i
    by_cases h' : i = k
    · rw [h', up_eq, ← h]
    · rw [up_ne h']
  show (va_up st.1 k a, st.2) = st
  rw [this]
/-- the place of the rest -/
def rp (base : Nat) (src r : List Nat) : Int32 := i3 (base + (src.length - r.length))
def atR (base : Nat) (src : List Nat) (st : xS) (r : List Nat) : xS := xsI st 16 (rp base src r)
/-- the source is there -/
def PB (base : Nat) (src : List Nat) (st : xS) : Prop := (∀ c ∈ src, c < 256) ∧ (∃ f : Nat → Int32, SV st f (base + src.length) ∧ seg f base (src.map sb)) ∧ xsi st 17 = i3 (base + src.length) ∧ base + src.length ≤ 1000000
section RE
variable {base : Nat} {src : List Nat} {st : xS} {n : Nat}
theorem atR_atR {r r' : List Nat} : atR base src (atR base src st r) r' = atR base src st r' := xsI_xsI
theorem PB.at (h : PB base src st) (v : Int32) : PB base src (xsI st 16 v) := by
  obtain ⟨h1, ⟨f, h2, h3⟩, h4, h5⟩ := h
  exact ⟨h1, ⟨f, h2, h3⟩, h4, h5⟩
theorem PB.step {st' : xS} (h : PB base src st) (hf : Fr0 st st') (hs : SK st st') : PB base src st' := by
  obtain ⟨h1, ⟨f, h2, h3⟩, h4, h5⟩ := h
  refine ⟨h1, ⟨f, hs.1 _ _ h2, h3⟩, ?_, h5⟩
  rw [hf.1 17 (by decide) (by decide) (by decide) (by decide)]
  exact h4
theorem rp_s {c : Nat} {r : List Nat} (h : (c :: r) <:+ src) : rp base src (c :: r) + 1 = rp base src r := by
  have := h.length_le
  unfold rp
  rw [List.length_cons] at *
  rw [i3_one]
  congr 1
  omega
theorem peek_w (h : PB base src st) {r : List Nat} (hr : r <:+ src) : fM_peek n (atR base src st r) = some (hv r) := by
  obtain ⟨h1, ⟨f, ⟨s1, s2, s3, s4⟩, h3⟩, h4, h5⟩ := h
  have hl := hr.length_le
  have e16 : xsi (atR base src st r) 16 = rp base src r := rfl
  have e17 : xsi (atR base src st r) 17 = xsi st 17 := rfl
  unfold fM_peek
  rw [e16, e17, h4]
  unfold rp
  cases r with
  | nil =>
    rw [List.length_nil, if_pos (show i3 (base + src.length) ≤ i3 (base + (src.length - 0)) by rw [i3_le (by omega) (by omega)]; omega)]
    rfl
  | cons c r =>
    rw [List.length_cons] at hl ⊢
    rw [if_neg (by rw [i3_le (by omega) (by omega)]; omega), if_neg (fun hh => hh s1)]
    have hsr : xrl (atR base src st (c :: r)) (xsr (atR base src st (c :: r))) = xrl st (xsr st) := rfl
    have hsb : xrb (atR base src st (c :: r)) (xsr (atR base src st (c :: r))) = xrb st (xsr st) := rfl
    rw [hsr, hsb, if_neg (i3_idx (by omega) (by omega)), i3_N (by omega), s3 _ (by omega)]
    have hc : (src.map sb)[src.length - (r.length + 1)]? = some (sb c) := by
      obtain ⟨p, hp⟩ := hr
      rw [← hp, List.map_append, List.getElem?_append_right (by rw [List.length_map, List.length_append, List.length_cons]; omega), List.length_map, List.length_append, List.length_cons, show p.length + (r.length + 1) - (r.length + 1) - p.length = 0 by omega]
      rfl
    rw [h3 _ _ hc, sb_and (h1 c (hr.subset (List.mem_cons_self ..)))]
    rfl
theorem hv_c {c : Nat} {r : List Nat} : hv (c :: r) = i3 c := rfl
theorem blanksM_l (h : PB base src st) : ∀ (r : List Nat) (n : Nat), r <:+ src → r.length < n → fM_blanks_b n 1 (atR base src st r) = some (atR base src st (blk r)) := by
  intro r
  induction r with
  | nil =>
    intro n hr hn
    obtain ⟨n, rfl⟩ : ∃ j, n = j + 1 := ⟨n - 1, by omega⟩
    rw [fM_blanks_b, peek_w h hr, Option.bind_some, if_neg (by decide), Option.bind_some, if_pos (by decide)]
    rfl
  | cons c r ih =>
    intro n hr hn
    obtain ⟨n, rfl⟩ : ∃ j, n = j + 1 := ⟨n - 1, by omega⟩
    have hc : c < 256 := h.1 c (hr.subset (List.mem_cons_self ..))
    have e16 : xsi (atR base src st (c :: r)) 16 = rp base src (c :: r) := rfl
    have hst : xsI (atR base src st (c :: r)) 16 (rp base src r) = atR base src st r := xsI_xsI
    have hre := ih n ((List.suffix_cons c r).trans hr) (by rw [List.length_cons] at hn; omega)
    rw [fM_blanks_b, peek_w h hr, Option.bind_some, Option.bind_some, Option.bind_some, Option.bind_some, Option.bind_some, e16, rp_s hr, hst, hre, blk]
    have c32 : (hv (c :: r) = 32) = (c = 32) := i3_eq (a := c) (b := 32) (by omega) (by omega)
    have c9 : (hv (c :: r) < 9) = (c < 9) := i3_lt (a := c) (b := 9) (by omega) (by omega)
    have c13 : ((13 : Int32) < hv (c :: r)) = (13 < c) := i3_lt (a := 13) (b := c) (by omega) (by omega)
    have c11 : (hv (c :: r) = 11) = (c = 11) := i3_eq (a := c) (b := 11) (by omega) (by omega)
    have c12 : (hv (c :: r) = 12) = (c = 12) := i3_eq (a := c) (b := 12) (by omega) (by omega)
    by_cases hb : isB c = true
    · rw [if_pos hb]
      unfold isB at hb
      simp only [Bool.or_eq_true, decide_eq_true_eq] at hb
      by_cases h32 : c = 32
      · rw [if_pos (by rw [c32]; exact h32)]
      · rw [if_neg (by rw [c32]; exact h32), if_neg (by rw [c9]; omega), if_neg (by rw [c13]; omega), if_neg (by rw [c11]; omega), if_neg (by rw [c12]; omega)]
    · rw [if_neg hb]
      unfold isB at hb
      simp only [Bool.or_eq_true, decide_eq_true_eq] at hb
      rw [if_neg (by rw [c32]; omega)]
      by_cases h9 : c < 9
      · rw [if_pos (by rw [c9]; exact h9)]
      · rw [if_neg (by rw [c9]; exact h9)]
        by_cases h13 : 13 < c
        · rw [if_pos (by rw [c13]; exact h13)]
        · rw [if_neg (by rw [c13]; exact h13)]
          by_cases h11 : c = 11
          · rw [if_pos (by rw [c11]; exact h11)]
          · rw [if_neg (by rw [c11]; exact h11), if_pos (by rw [c12]; omega)]
theorem blanksM (h : PB base src st) {r : List Nat} (hr : r <:+ src) (hn : 1000000 < n) : fM_blanks n (atR base src st r) = some (atR base src st (blk r)) := blanksM_l h r n hr (by have := hr.length_le; have := h.2.2.2; omega)
end RE
