/-! ===== the reference: its stacks as lists ===== -/
/-- a value's record: kind, from, size, depth, weight, number -/
abbrev VR : Type := Nat × Nat × Nat × Nat × Nat × Int
abbrev NP : Type := Nat × Nat
/-- the limits that its stacks never pass -/
def bV : Nat := 32000
def bC : Nat := 100000
def bK : Nat := 32000
def pt (st : xS) : Nat := 2 * (xln st 1 + xln st 3 + xln st 5 + xln st 6 + xln st 10 + xln st 11 + xln st 13 + xln st 14 + xln st 21) + 6 * xct st
def Cost (st st' : xS) (c s : Nat) : Prop := 6 * c ≤ s ∧ s + pt st ≤ pt st'
theorem Cost.refl {st : xS} : Cost st st 0 0 := ⟨Nat.le_refl _, by omega⟩
theorem Cost.trans {a b d : xS} {c c' s s' : Nat} (h : Cost a b c s) (h' : Cost b d c' s') : Cost a d (c + c') (s + s') := ⟨by have := h.1; have := h'.1; omega, by have := h.2; have := h'.2; omega⟩
def VRat (st : xS) (i : Nat) (v : VR) : Prop := xpi st 0 i = i3 v.1 ∧ xpi st 2 i = i3 v.2.1 ∧ xpi st 3 i = i3 v.2.2.1 ∧ xpi st 4 i = i3 v.2.2.2.1 ∧ xpi st 5 i = i3 v.2.2.2.2.1 ∧ xpl st i = cW v.2.2.2.2.2
/-- the four stacks -/
def Vw (st : xS) (vs : List VR) (cs : List Nat) (ks ws : List NP) : Prop :=
  (xsi st 2 = i3 vs.length ∧ xsi st 4 = i3 cs.length ∧ xsi st 7 = i3 ks.length ∧ xsi st 12 = i3 ws.length) ∧
  (∀ i v, vs[i]? = some v → VRat st i v) ∧ (∀ i c, cs[i]? = some c → xba st 3 i = i3 c ∧ c < 128) ∧
  (∀ i p, ks[i]? = some p → xvc st 5 i = p.1 ∧ xvc st 6 i = p.2) ∧ (∀ i p, ws[i]? = some p → xvc st 10 i = p.1 ∧ xvc st 11 i = p.2)
/-- the room of the stacks -/
def Rm (st : xS) (a b c d : Nat) : Prop :=
  (∀ i, xvc st 1 i = if i < xct st then i + 1 else 0) ∧ (a ≤ xct st ∧ xct st ≤ xln st 1 ∧ 64 ≤ xln st 1 ∧ xln st 1 ≤ 2 * bV) ∧
  (b ≤ xln st 3 ∧ 64 ≤ xln st 3 ∧ xln st 3 ≤ 2 * bC) ∧ (c ≤ xln st 5 ∧ xln st 6 = xln st 5 ∧ 64 ≤ xln st 5 ∧ xln st 5 ≤ 2 * bK) ∧
  (d ≤ xln st 10 ∧ xln st 11 = xln st 10 ∧ 64 ≤ xln st 10 ∧ xln st 10 ≤ 2 * bK) ∧ xIn st ∧ xsr st < 41 + xgl st
def MS (st : xS) (vs : List VR) (cs : List Nat) (ks ws : List NP) : Prop := Vw st vs cs ks ws ∧ Rm st vs.length cs.length ks.length ws.length
/-- all but the stacks is as it was -/
def Fr0 (st st' : xS) : Prop := (∀ k, k ≠ 2 → k ≠ 4 → k ≠ 7 → k ≠ 12 → xsi st' k = xsi st k) ∧ (∀ k, k ≠ 1 → k ≠ 3 → k ≠ 5 → k ≠ 6 → k ≠ 10 → k ≠ 11 → xln st' k = xln st k ∧ xba st' k = xba st k)
theorem Fr0.refl {st : xS} : Fr0 st st := ⟨fun _ _ _ _ _ => rfl, fun _ _ _ _ _ _ _ => ⟨rfl, rfl⟩⟩
theorem Fr0.trans {a b c : xS} (h : Fr0 a b) (h' : Fr0 b c) : Fr0 a c := ⟨fun k k1 k2 k3 k4 => (h'.1 k k1 k2 k3 k4).trans (h.1 k k1 k2 k3 k4), fun k k1 k2 k3 k4 k5 k6 => ⟨((h'.2 k k1 k2 k3 k4 k5 k6).1).trans (h.2 k k1 k2 k3 k4 k5 k6).1, ((h'.2 k k1 k2 k3 k4 k5 k6).2).trans (h.2 k k1 k2 k3 k4 k5 k6).2⟩⟩
/-- the text that is read, below a place -/
def SV (st : xS) (f : Nat → Int32) (hi : Nat) : Prop := xrok st (xsr st) ∧ hi ≤ xrl st (xsr st) ∧ (∀ i, i < hi → xrb st (xsr st) i = f i) ∧ (xsr st = 3 → ∃ t, t < 2147483648 ∧ xsi st 4 = i3 t ∧ hi ≤ t)
/-- no step takes the source away -/
def SK (st st' : xS) : Prop := (∀ f hi, SV st f hi → SV st' f hi) ∧ (xsr st ≠ 3 → xsr st' = xsr st)
theorem SK.refl {st : xS} : SK st st := ⟨fun _ _ h => h, fun _ => rfl⟩
theorem SK.trans {a b c : xS} (h : SK a b) (h' : SK b c) : SK a c := ⟨fun f hi x => h'.1 f hi (h.1 f hi x), fun ha => by
  have hb := h.2 ha
  rw [h'.2 (by rw [hb]; exact ha), hb]⟩
theorem nar_c : ∀ c, c < 128 → (i3 c).toInt8.toInt32 = i3 c := by decide +kernel
theorem up_eq {α : Type} {f : Nat → α} {k : Nat} {x : α} : va_up f k x k = x := if_pos rfl
theorem up_ne {α : Type} {f : Nat → α} {k i : Nat} {x : α} (h : i ≠ k) : va_up f k x i = f i := if_neg h
theorem xmo_some {α : Type} {f g : α → Nat} {c s : Nat} {a : α} (h1 : c ≤ f a) (h2 : s ≤ g a) : xmo f g c s (some a) = some a := by
  unfold xmo
  rw [Option.bind_some, if_neg (by omega)]
/-- one step of a stack's list -/
theorem get_snoc {α : Type} {l : List α} {x y : α} {i : Nat} (h : (l ++ [x])[i]? = some y) : (l[i]? = some y ∧ i < l.length) ∨ (i = l.length ∧ y = x) := by
  by_cases hi : i < l.length
  · rw [List.getElem?_append_left hi] at h
    exact Or.inl ⟨h, hi⟩
  · rw [List.getElem?_append_right (by omega)] at h
    have : i - l.length = 0 := by
      obtain ⟨h', _⟩ := List.getElem?_eq_some_iff.mp h
      simp at h'
      omega
    rw [this] at h
    exact Or.inr ⟨by omega, (Option.some.inj h).symm⟩
