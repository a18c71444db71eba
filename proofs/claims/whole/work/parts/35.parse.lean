/-! ===== what both readers do: r is what is left of the text; a break tells what was left there ===== -/
def isB (c : Nat) : Bool := decide (c = 32) || decide (c = 9) || decide (c = 10) || decide (c = 13)
def blk : List Nat → List Nat
  | [] => []
  | c :: r => if isB c then blk r else c :: r
def pw : List Nat → List Nat → List Nat ⊕ List Nat
  | [], r => .inr r
  | _ :: _, [] => .inl []
  | c :: w, d :: r => if d = c then pw w r else .inl (d :: r)
def isD (c : Nat) : Bool := decide (48 ≤ c) && decide (c < 58)
def dv : Nat → List Nat → Nat × List Nat
  | v, [] => (v, [])
  | v, c :: r => if isD c then dv (10 * v + (c - 48)) r else (v, c :: r)
/-- digits, at the first of them -/
def pD : List Nat → Option (Nat × List Nat)
  | [] => none
  | c :: r => if isD c then (if c = 48 then some (0, r) else some (dv (c - 48) r)) else none
def pNd (start r1 : List Nat) (sgn : Int) : List Nat ⊕ (Int × List Nat) := match pD r1 with
  | none => .inl r1
  | some (v, r2) => if 9007199254740991 < v then .inl start else .inr (sgn * (v : Int), r2)
def pN (r : List Nat) : List Nat ⊕ (Int × List Nat) := if r.head? = some 45 then pNd r r.tail (-1) else pNd r r 1
def hexv (c : Nat) : Option Nat := if 48 ≤ c ∧ c ≤ 57 then some (c - 48) else if 97 ≤ c ∧ c ≤ 102 then some (c - 87) else if 65 ≤ c ∧ c ≤ 70 then some (c - 55) else none
def hex4 (start : List Nat) : Nat → Nat → List Nat → List Nat ⊕ (Nat × List Nat)
  | 0, v, h => if 127 < v then .inl start else .inr (v, h)
  | _ + 1, _, [] => .inl []
  | k + 1, v, x :: h => match hexv x with
    | none => .inl (x :: h)
    | some d => hex4 start k (16 * v + d) h
def cof (c : Nat) : Option Nat := if c = 34 ∨ c = 47 ∨ c = 92 then some c else if c = 98 then some 8 else if c = 102 then some 12 else if c = 110 then some 10 else if c = 114 then some 13 else if c = 116 then some 9 else none
def pcE (c : Nat) (r : List Nat) : List Nat ⊕ (Nat × List Nat) := match r with
  | [] => .inl []
  | e :: r' => if e = 117 then hex4 (c :: r) 4 0 r' else match cof e with
    | none => .inl r
    | some v => .inr (v, r')
/-- one character of a string -/
def pc : List Nat → List Nat ⊕ (Nat × List Nat)
  | [] => .inl []
  | c :: r => if c = 92 then pcE c r else if 32 ≤ c ∧ c < 127 then .inr (c, r) else .inl (c :: r)
/-- a string behind its first quote -/
def pS : Nat → List Nat → List Nat ⊕ (Sx × List Nat)
  | 0, r => .inl r
  | n + 1, r => if r.head? = some 34 then .inr ([], r.tail) else match pc r with
    | .inl x => .inl x
    | .inr (v, r') => match pS n r' with
      | .inl x => .inl x
      | .inr (s, r2) => .inr (v :: s, r2)
def pE {α : Type} (rec : List Nat → List Nat ⊕ (α × List Nat)) : Nat → List Nat → List Nat ⊕ (List α × List Nat)
  | 0, r => .inl r
  | n + 1, r => match rec r with
    | .inl x => .inl x
    | .inr (v, r1) => if (blk r1).head? = some 44 then (match pE rec n (blk r1).tail with
        | .inl x => .inl x
        | .inr (l, r2) => .inr (v :: l, r2))
      else if (blk r1).head? = some 93 then .inr ([v], (blk r1).tail) else .inl (blk r1)
def pA {α : Type} (rec : List Nat → List Nat ⊕ (α × List Nat)) (r : List Nat) : List Nat ⊕ (List α × List Nat) := if (blk r).head? = some 93 then .inr ([], (blk r).tail) else pE rec (r.length + 1) (blk r)
/-- a name and its value -/
def pM {α : Type} (rec : List Nat → List Nat ⊕ (α × List Nat)) (seen : List Sx) (r : List Nat) : List Nat ⊕ ((Sx × α) × List Nat) :=
  if (blk r).head? = some 34 then (match pS (r.length + 1) (blk r).tail with
    | .inl x => .inl x
    | .inr (s, r2) => if s ∈ seen then .inl (blk r) else if (blk r2).head? = some 58 then (match rec (blk r2).tail with
        | .inl x => .inl x
        | .inr (v, r3) => .inr ((s, v), r3))
      else .inl (blk r2))
  else .inl (blk r)
def pF {α : Type} (rec : List Nat → List Nat ⊕ (α × List Nat)) : Nat → List Sx → List Nat → List Nat ⊕ (List (Sx × α) × List Nat)
  | 0, _, r => .inl r
  | n + 1, seen, r => match pM rec seen r with
    | .inl x => .inl x
    | .inr (p, r1) => if (blk r1).head? = some 44 then (match pF rec n (seen ++ [p.1]) (blk r1).tail with
        | .inl x => .inl x
        | .inr (l, r2) => .inr (p :: l, r2))
      else if (blk r1).head? = some 125 then .inr ([p], (blk r1).tail) else .inl (blk r1)
def pO {α : Type} (rec : List Nat → List Nat ⊕ (α × List Nat)) (r : List Nat) : List Nat ⊕ (List (Sx × α) × List Nat) := if (blk r).head? = some 125 then .inr ([], (blk r).tail) else pF rec (r.length + 1) [] (blk r)
def mp {α β : Type} (g : α → β) (x : List Nat ⊕ (α × List Nat)) : List Nat ⊕ (β × List Nat) := match x with
  | .inl r => .inl r
  | .inr (a, r) => .inr (g a, r)
def pWd {k : Nat} (j : Nat) (r : List Nat) : List Nat ⊕ (JT (k + 1) × List Nat) := match pw (wd j) r with
  | .inl x => .inl x
  | .inr r1 => .inr (jk j, r1)
/-- a value; o lists may still be opened -/
def pV : (k : Nat) → Nat → List Nat → List Nat ⊕ (JT (k + 1) × List Nat)
  | 0, _, r0 => if (blk r0).head? = some 110 then pWd 0 (blk r0) else if (blk r0).head? = some 102 then pWd 1 (blk r0) else if (blk r0).head? = some 116 then pWd 2 (blk r0) else if (blk r0).head? = some 34 then mp js (pS (r0.length + 1) (blk r0).tail)
    else if (blk r0).head? = some 91 ∨ (blk r0).head? = some 123 then .inl (blk r0) else mp jn (pN (blk r0))
  | k + 1, o, r0 => if (blk r0).head? = some 110 then pWd 0 (blk r0) else if (blk r0).head? = some 102 then pWd 1 (blk r0) else if (blk r0).head? = some 116 then pWd 2 (blk r0) else if (blk r0).head? = some 34 then mp js (pS (r0.length + 1) (blk r0).tail)
    else if (blk r0).head? = some 91 then (if o = 0 then .inl (blk r0) else mp ja (pA (pV k (o - 1)) (blk r0).tail))
    else if (blk r0).head? = some 123 then (if o = 0 then .inl (blk r0) else mp jo (pO (pV k (o - 1)) (blk r0).tail))
    else mp jn (pN (blk r0))
/-- the whole text; none: whole, some r: broken there -/
def pT (k o : Nat) (r : List Nat) : List Nat ⊕ JT (k + 1) := match pV k o r with
  | .inl x => .inl x
  | .inr (j, r1) => if blk r1 = [] then .inr j else .inl (blk r1)
/-! what is left is a tail -/
theorem blk_suf : ∀ r : List Nat, blk r <:+ r := by
  intro r
  induction r with
  | nil => exact List.suffix_refl _
  | cons c r ih =>
    rw [blk]
    split
    · exact ih.trans (List.suffix_cons c r)
    · exact List.suffix_refl _
theorem blk_len (r : List Nat) : (blk r).length ≤ r.length := (blk_suf r).length_le
theorem blk_blk : ∀ r : List Nat, blk (blk r) = blk r := by
  intro r
  induction r with
  | nil => rfl
  | cons c r ih =>
    by_cases h : isB c = true
    · rw [blk, if_pos h, ih]
    · rw [blk, if_neg h, blk, if_neg h]
theorem tail_suf (r : List Nat) : r.tail <:+ r := by
  cases r with
  | nil => exact List.suffix_refl _
  | cons c r => exact List.suffix_cons c r
theorem tail_len {r : List Nat} {c : Nat} (h : r.head? = some c) : r.tail.length + 1 = r.length := by
  cases r with
  | nil => simp at h
  | cons d r => simp
theorem pw_suf : ∀ (w r : List Nat), (∀ x, pw w r = .inl x → x <:+ r) ∧ (∀ x, pw w r = .inr x → x <:+ r ∧ x.length + w.length = r.length) := by
  intro w
  induction w with
  | nil => intro r; exact ⟨fun x h => by simp [pw] at h, fun x h => by simp [pw] at h; subst h; exact ⟨List.suffix_refl _, by simp⟩⟩
  | cons c w ih =>
    intro r
    cases r with
    | nil => exact ⟨fun x h => by simp [pw] at h; subst h; exact List.suffix_refl _, fun x h => by simp [pw] at h⟩
    | cons d r =>
      rw [pw]
      by_cases h : d = c
      · rw [if_pos h]
        obtain ⟨i1, i2⟩ := ih r
        exact ⟨fun x hx => (i1 x hx).trans (List.suffix_cons d r), fun x hx => ⟨(i2 x hx).1.trans (List.suffix_cons d r), by have := (i2 x hx).2; simp; omega⟩⟩
      · rw [if_neg h]
        exact ⟨fun x hx => by simp at hx; subst hx; exact List.suffix_refl _, fun x hx => by simp at hx⟩
theorem dv_suf : ∀ (r : List Nat) (v : Nat), (dv v r).2 <:+ r := by
  intro r
  induction r with
  | nil => intro v; exact List.suffix_refl _
  | cons c r ih =>
    intro v
    rw [dv]
    split
    · exact (ih _).trans (List.suffix_cons c r)
    · exact List.suffix_refl _
theorem pD_suf {r : List Nat} {v : Nat} {r2 : List Nat} (h : pD r = some (v, r2)) : r2 <:+ r ∧ r2.length < r.length := by
  cases r with
  | nil => simp [pD] at h
  | cons c r =>
    rw [pD] at h
    split at h
    · split at h
      · obtain ⟨rfl, rfl⟩ := Prod.mk.inj (Option.some.inj h)
        exact ⟨List.suffix_cons c r, by simp⟩
      · have h2 := Option.some.inj h
        have := dv_suf r (c - 48)
        rw [h2] at this
        exact ⟨this.trans (List.suffix_cons c r), by have h3 := this.length_le; dsimp only at h3; simp; omega⟩
    · simp at h
theorem pNd_suf {start r1 : List Nat} {sgn : Int} (hsg : sgn = 1 ∨ sgn = -1) (h1 : r1 <:+ start) : (∀ x, pNd start r1 sgn = .inl x → x <:+ start) ∧ (∀ z x, pNd start r1 sgn = .inr (z, x) → x <:+ start ∧ x.length < start.length ∧ -9007199254740991 ≤ z ∧ z ≤ 9007199254740991) := by
  unfold pNd
  cases h : pD r1 with
  | none => exact ⟨fun x hx => by simp at hx; subst hx; exact h1, fun z x hx => by simp at hx⟩
  | some p =>
    obtain ⟨v, r2⟩ := p
    dsimp only
    split
    · exact ⟨fun x hx => by simp at hx; subst hx; exact List.suffix_refl _, fun z x hx => by simp at hx⟩
    · refine ⟨fun x hx => by simp at hx, fun z x hx => ?_⟩
      obtain ⟨rfl, rfl⟩ := Prod.mk.inj (Sum.inr.inj hx)
      obtain ⟨h2, h3⟩ := pD_suf h
      have := h1.length_le
      exact ⟨h2.trans h1, by omega, by rcases hsg with rfl | rfl <;> omega, by rcases hsg with rfl | rfl <;> omega⟩
theorem pN_suf (r : List Nat) : (∀ x, pN r = .inl x → x <:+ r) ∧ (∀ z x, pN r = .inr (z, x) → x <:+ r ∧ x.length < r.length ∧ -9007199254740991 ≤ z ∧ z ≤ 9007199254740991) := by
  unfold pN
  split
  · exact pNd_suf (Or.inr rfl) (tail_suf r)
  · exact pNd_suf (Or.inl rfl) (List.suffix_refl r)
theorem hex4_suf (start : List Nat) : ∀ (k v : Nat) (h : List Nat), h <:+ start → (∀ x, hex4 start k v h = .inl x → x <:+ start) ∧ (∀ c x, hex4 start k v h = .inr (c, x) → x <:+ h ∧ x.length + k = h.length ∧ c < 128) := by
  intro k
  induction k with
  | zero =>
    intro v h hs
    rw [hex4]
    split
    · exact ⟨fun x hx => by simp at hx; subst hx; exact List.suffix_refl _, fun c x hx => by simp at hx⟩
    · refine ⟨fun x hx => by simp at hx, fun c x hx => ?_⟩
      obtain ⟨rfl, rfl⟩ := Prod.mk.inj (Sum.inr.inj hx)
      exact ⟨List.suffix_refl _, by simp, by omega⟩
  | succ k ih =>
    intro v h hs
    cases h with
    | nil => exact ⟨fun x hx => by simp [hex4] at hx; subst hx; exact hs, fun c x hx => by simp [hex4] at hx⟩
    | cons y h =>
      rw [hex4]
      cases hexv y with
      | none => exact ⟨fun x hx => by simp at hx; subst hx; exact hs, fun c x hx => by simp at hx⟩
      | some d =>
        dsimp only
        obtain ⟨i1, i2⟩ := ih (16 * v + d) h ((List.suffix_cons y h).trans hs)
        exact ⟨i1, fun c x hx => by
          obtain ⟨a, b, c'⟩ := i2 c x hx
          exact ⟨a.trans (List.suffix_cons y h), by simp; omega, c'⟩⟩
theorem cof_lt {e v : Nat} (h : cof e = some v) : v < 128 := by
  unfold cof at h
  split at h
  · rename_i h1
    obtain rfl := Option.some.inj h
    omega
  · split at h
    · obtain rfl := Option.some.inj h; omega
    · split at h
      · obtain rfl := Option.some.inj h; omega
      · split at h
        · obtain rfl := Option.some.inj h; omega
        · split at h
          · obtain rfl := Option.some.inj h; omega
          · split at h
            · obtain rfl := Option.some.inj h; omega
            · simp at h
theorem pc_suf (r : List Nat) : (∀ x, pc r = .inl x → x <:+ r) ∧ (∀ c x, pc r = .inr (c, x) → x <:+ r ∧ x.length < r.length ∧ c < 128) := by
  cases r with
  | nil => exact ⟨fun x hx => by simp [pc] at hx; subst hx; exact List.suffix_refl _, fun c x hx => by simp [pc] at hx⟩
  | cons a r =>
    rw [pc]
    split
    · cases r with
      | nil => exact ⟨fun x hx => by simp [pcE] at hx; subst hx; exact List.nil_suffix, fun c x hx => by simp [pcE] at hx⟩
      | cons b r =>
        unfold pcE
        dsimp only
        split
        · obtain ⟨i1, i2⟩ := hex4_suf (a :: b :: r) 4 0 r ((List.suffix_cons b r).trans (List.suffix_cons a _))
          exact ⟨i1, fun c x hx => by
            obtain ⟨p, q, s⟩ := i2 c x hx
            exact ⟨p.trans ((List.suffix_cons b r).trans (List.suffix_cons a _)), by simp; omega, s⟩⟩
        · cases hc : cof b with
          | none => exact ⟨fun x hx => by simp at hx; subst hx; exact List.suffix_cons a _, fun c x hx => by simp at hx⟩
          | some v =>
            refine ⟨fun x hx => by simp at hx, fun c x hx => ?_⟩
            obtain ⟨rfl, rfl⟩ := Prod.mk.inj (Sum.inr.inj hx)
            exact ⟨(List.suffix_cons b r).trans (List.suffix_cons a _), by simp; omega, cof_lt hc⟩
    · split
      · refine ⟨fun x hx => by simp at hx, fun c x hx => ?_⟩
        obtain ⟨rfl, rfl⟩ := Prod.mk.inj (Sum.inr.inj hx)
        exact ⟨List.suffix_cons _ _, by simp, by omega⟩
      · exact ⟨fun x hx => by simp at hx; subst hx; exact List.suffix_refl _, fun c x hx => by simp at hx⟩
theorem pS_suf : ∀ (n : Nat) (r : List Nat), (∀ x, pS n r = .inl x → x <:+ r) ∧ (∀ s x, pS n r = .inr (s, x) → x <:+ r ∧ x.length + s.length + 1 ≤ r.length ∧ sok s) := by
  intro n
  induction n with
  | zero => intro r; exact ⟨fun x hx => by simp [pS] at hx; subst hx; exact List.suffix_refl _, fun s x hx => by simp [pS] at hx⟩
  | succ n ih =>
    intro r
    rw [pS]
    split
    · rename_i h
      refine ⟨fun x hx => by simp at hx, fun s x hx => ?_⟩
      obtain ⟨rfl, rfl⟩ := Prod.mk.inj (Sum.inr.inj hx)
      have := tail_len h
      exact ⟨tail_suf r, by simp; omega, fun c hc => absurd hc (by simp)⟩
    · obtain ⟨p1, p2⟩ := pc_suf r
      cases hp : pc r with
      | inl x => exact ⟨fun y hy => by simp at hy; subst hy; exact p1 x hp, fun s y hy => by simp at hy⟩
      | inr q =>
        obtain ⟨c, r'⟩ := q
        obtain ⟨q1, q2, q3⟩ := p2 c r' hp
        obtain ⟨i1, i2⟩ := ih r'
        dsimp only
        cases hs : pS n r' with
        | inl x => exact ⟨fun y hy => by simp at hy; subst hy; exact (i1 x hs).trans q1, fun s y hy => by simp at hy⟩
        | inr q =>
          obtain ⟨s, r2⟩ := q
          obtain ⟨j1, j2, j3⟩ := i2 s r2 hs
          refine ⟨fun y hy => by simp at hy, fun s' y hy => ?_⟩
          obtain ⟨rfl, rfl⟩ := Prod.mk.inj (Sum.inr.inj hy)
          exact ⟨j1.trans q1, by simp; omega, fun c' hc => by
            rcases List.mem_cons.mp hc with rfl | hc
            · exact q3
            · exact j3 c' hc⟩
def PS {α : Type} (rec : List Nat → List Nat ⊕ (α × List Nat)) (sz : α → Nat) (ok : α → Prop) : Prop := ∀ r, (∀ x, rec r = .inl x → x <:+ r) ∧ (∀ v x, rec r = .inr (v, x) → x <:+ r ∧ x.length + sz v ≤ r.length ∧ 1 ≤ sz v ∧ ok v)
def sm {α : Type} (sz : α → Nat) (l : List α) : Nat := (l.map sz).sum
theorem sm_cons {α : Type} {sz : α → Nat} {x : α} {l : List α} : sm sz (x :: l) = sz x + sm sz l := by
  unfold sm
  rw [List.map_cons, List.sum_cons]
theorem sm_nil {α : Type} {sz : α → Nat} : sm sz [] = 0 := rfl
theorem bt_suf {r : List Nat} : (blk r).tail <:+ r := (tail_suf _).trans (blk_suf r)
theorem bt_len {r : List Nat} {c : Nat} (h : (blk r).head? = some c) : (blk r).tail.length + 1 ≤ r.length := by
  have h1 := tail_len h
  have h2 := blk_len r
  omega
section PX
variable {α : Type} {rec : List Nat → List Nat ⊕ (α × List Nat)} {sz : α → Nat} {ok : α → Prop}
theorem pE_suf (h : PS rec sz ok) : ∀ (n : Nat) (r : List Nat), (∀ x, pE rec n r = .inl x → x <:+ r) ∧ (∀ l x, pE rec n r = .inr (l, x) → x <:+ r ∧ x.length + sm sz l + 1 ≤ r.length ∧ ∀ v ∈ l, ok v) := by
  intro n
  induction n with
  | zero => intro r; exact ⟨fun x hx => by simp [pE] at hx; subst hx; exact List.suffix_refl _, fun s x hx => by simp [pE] at hx⟩
  | succ n ih =>
    intro r
    rw [pE]
    obtain ⟨h1, h2⟩ := h r
    cases hr : rec r with
    | inl x => exact ⟨fun y hy => by simp at hy; subst hy; exact h1 x hr, fun s y hy => by simp at hy⟩
    | inr q =>
      obtain ⟨v, r1⟩ := q
      obtain ⟨q1, q2, q3, q4⟩ := h2 v r1 hr
      dsimp only
      split
      · rename_i hc
        have hb := bt_len hc
        obtain ⟨i1, i2⟩ := ih (blk r1).tail
        cases hs : pE rec n (blk r1).tail with
        | inl x => exact ⟨fun y hy => by simp at hy; subst hy; exact (i1 x hs).trans (bt_suf.trans q1), fun s y hy => by simp at hy⟩
        | inr q =>
          obtain ⟨l, r2⟩ := q
          obtain ⟨j1, j2, j3⟩ := i2 l r2 hs
          refine ⟨fun y hy => by simp at hy, fun s' y hy => ?_⟩
          obtain ⟨rfl, rfl⟩ := Prod.mk.inj (Sum.inr.inj hy)
          refine ⟨j1.trans (bt_suf.trans q1), by rw [sm_cons]; omega, fun w hw => ?_⟩
          rcases List.mem_cons.mp hw with rfl | hw
          · exact q4
          · exact j3 w hw
      · split
        · rename_i hc
          have hb := bt_len hc
          refine ⟨fun y hy => by simp at hy, fun s' y hy => ?_⟩
          obtain ⟨rfl, rfl⟩ := Prod.mk.inj (Sum.inr.inj hy)
          refine ⟨bt_suf.trans q1, by rw [sm_cons, sm_nil]; omega, fun w hw => ?_⟩
          rw [List.mem_singleton.mp hw]
          exact q4
        · exact ⟨fun y hy => by simp at hy; subst hy; exact (blk_suf r1).trans q1, fun s y hy => by simp at hy⟩
theorem pA_suf (h : PS rec sz ok) (r : List Nat) : (∀ x, pA rec r = .inl x → x <:+ r) ∧ (∀ l x, pA rec r = .inr (l, x) → x <:+ r ∧ x.length + sm sz l + 1 ≤ r.length ∧ ∀ v ∈ l, ok v) := by
  unfold pA
  split
  · rename_i hc
    refine ⟨fun y hy => by simp at hy, fun s' y hy => ?_⟩
    obtain ⟨rfl, rfl⟩ := Prod.mk.inj (Sum.inr.inj hy)
    have := bt_len hc
    exact ⟨bt_suf, by rw [sm_nil]; omega, fun w hw => absurd hw (by simp)⟩
  · obtain ⟨i1, i2⟩ := pE_suf h (r.length + 1) (blk r)
    have hb := blk_len r
    exact ⟨fun x hx => (i1 x hx).trans (blk_suf r), fun l x hx => by
      obtain ⟨a, b, c⟩ := i2 l x hx
      exact ⟨a.trans (blk_suf r), by omega, c⟩⟩
theorem pM_suf (h : PS rec sz ok) (seen : List Sx) (r : List Nat) : (∀ x, pM rec seen r = .inl x → x <:+ r) ∧ (∀ p x, pM rec seen r = .inr (p, x) → x <:+ r ∧ x.length + p.1.length + sz p.2 + 3 ≤ r.length ∧ sok p.1 ∧ ok p.2 ∧ p.1 ∉ seen ∧ 1 ≤ sz p.2) := by
  unfold pM
  split
  · rename_i hc
    have hb := bt_len hc
    obtain ⟨s1, s2⟩ := pS_suf (r.length + 1) (blk r).tail
    cases hs : pS (r.length + 1) (blk r).tail with
    | inl x => exact ⟨fun y hy => by simp at hy; subst hy; exact (s1 x hs).trans bt_suf, fun s y hy => by simp at hy⟩
    | inr q =>
      obtain ⟨s, r2⟩ := q
      obtain ⟨t1, t2, t3⟩ := s2 s r2 hs
      dsimp only
      split
      · exact ⟨fun y hy => by simp at hy; subst hy; exact blk_suf r, fun s y hy => by simp at hy⟩
      · rename_i hns
        split
        · rename_i hc2
          have hb2 := bt_len hc2
          obtain ⟨v1, v2⟩ := h (blk r2).tail
          cases hv : rec (blk r2).tail with
          | inl x => exact ⟨fun y hy => by simp at hy; subst hy; exact (v1 x hv).trans (bt_suf.trans (t1.trans bt_suf)), fun s y hy => by simp at hy⟩
          | inr q =>
            obtain ⟨v, r3⟩ := q
            obtain ⟨w1, w2, w3, w4⟩ := v2 v r3 hv
            refine ⟨fun y hy => by simp at hy, fun s' y hy => ?_⟩
            obtain ⟨rfl, rfl⟩ := Prod.mk.inj (Sum.inr.inj hy)
            exact ⟨w1.trans (bt_suf.trans (t1.trans bt_suf)), by dsimp only; omega, t3, w4, hns, w3⟩
        · exact ⟨fun y hy => by simp at hy; subst hy; exact (blk_suf r2).trans (t1.trans bt_suf), fun s y hy => by simp at hy⟩
  · exact ⟨fun y hy => by simp at hy; subst hy; exact blk_suf r, fun s y hy => by simp at hy⟩
theorem pF_suf (h : PS rec sz ok) : ∀ (n : Nat) (seen : List Sx) (r : List Nat), (∀ x, pF rec n seen r = .inl x → x <:+ r) ∧ (∀ l x, pF rec n seen r = .inr (l, x) → x <:+ r ∧ x.length + sm (fun p => p.1.length + 1 + sz p.2) l + 1 ≤ r.length ∧ (∀ p ∈ l, sok p.1 ∧ ok p.2) ∧ (l.map (fun p => p.1)).Nodup ∧ (∀ p ∈ l, p.1 ∉ seen)) := by
  intro n
  induction n with
  | zero => intro seen r; exact ⟨fun x hx => by simp [pF] at hx; subst hx; exact List.suffix_refl _, fun s x hx => by simp [pF] at hx⟩
  | succ n ih =>
    intro seen r
    rw [pF]
    obtain ⟨h1, h2⟩ := pM_suf h seen r
    cases hr : pM rec seen r with
    | inl x => exact ⟨fun y hy => by simp at hy; subst hy; exact h1 x hr, fun s y hy => by simp at hy⟩
    | inr q =>
      obtain ⟨p, r1⟩ := q
      obtain ⟨q1, q2, q3, q4, q5, q6⟩ := h2 p r1 hr
      dsimp only
      split
      · rename_i hc
        have hb := bt_len hc
        obtain ⟨i1, i2⟩ := ih (seen ++ [p.1]) (blk r1).tail
        cases hs : pF rec n (seen ++ [p.1]) (blk r1).tail with
        | inl x => exact ⟨fun y hy => by simp at hy; subst hy; exact (i1 x hs).trans (bt_suf.trans q1), fun s y hy => by simp at hy⟩
        | inr q =>
          obtain ⟨l, r2⟩ := q
          obtain ⟨j1, j2, j3, j4, j5⟩ := i2 l r2 hs
          refine ⟨fun y hy => by simp at hy, fun s' y hy => ?_⟩
          obtain ⟨rfl, rfl⟩ := Prod.mk.inj (Sum.inr.inj hy)
          refine ⟨j1.trans (bt_suf.trans q1), by rw [sm_cons]; omega, fun w hw => ?_, ?_, fun w hw => ?_⟩
          · rcases List.mem_cons.mp hw with rfl | hw
            · exact ⟨q3, q4⟩
            · exact j3 w hw
          · rw [List.map_cons, List.nodup_cons]
            refine ⟨fun hm => ?_, j4⟩
            obtain ⟨w, hw, hwe⟩ := List.mem_map.mp hm
            exact j5 w hw (by rw [hwe]; simp)
          · rcases List.mem_cons.mp hw with rfl | hw
            · exact q5
            · exact fun hm => j5 w hw (List.mem_append_left _ hm)
      · split
        · rename_i hc
          have hb := bt_len hc
          refine ⟨fun y hy => by simp at hy, fun s' y hy => ?_⟩
          obtain ⟨rfl, rfl⟩ := Prod.mk.inj (Sum.inr.inj hy)
          refine ⟨bt_suf.trans q1, by rw [sm_cons, sm_nil]; omega, fun w hw => ?_, by simp, fun w hw => ?_⟩
          · rw [List.mem_singleton.mp hw]
            exact ⟨q3, q4⟩
          · rw [List.mem_singleton.mp hw]
            exact q5
        · exact ⟨fun y hy => by simp at hy; subst hy; exact (blk_suf r1).trans q1, fun s y hy => by simp at hy⟩
theorem pO_suf (h : PS rec sz ok) (r : List Nat) : (∀ x, pO rec r = .inl x → x <:+ r) ∧ (∀ l x, pO rec r = .inr (l, x) → x <:+ r ∧ x.length + sm (fun p => p.1.length + 1 + sz p.2) l + 1 ≤ r.length ∧ (∀ p ∈ l, sok p.1 ∧ ok p.2) ∧ (l.map (fun p => p.1)).Nodup) := by
  unfold pO
  split
  · rename_i hc
    refine ⟨fun y hy => by simp at hy, fun s' y hy => ?_⟩
    obtain ⟨rfl, rfl⟩ := Prod.mk.inj (Sum.inr.inj hy)
    have := bt_len hc
    exact ⟨bt_suf, by rw [sm_nil]; omega, fun w hw => absurd hw (by simp), by simp⟩
  · obtain ⟨i1, i2⟩ := pF_suf h (r.length + 1) [] (blk r)
    have hb := blk_len r
    exact ⟨fun x hx => (i1 x hx).trans (blk_suf r), fun l x hx => by
      obtain ⟨a, b, c, d, _⟩ := i2 l x hx
      exact ⟨a.trans (blk_suf r), by omega, c, d⟩⟩
end PX
theorem sm_flat {β : Type} {c : β → List Int64} : ∀ l : List β, (l.flatMap c).length = sm (fun x => (c x).length) l := by
  intro l
  induction l with
  | nil => rfl
  | cons x l ih => rw [List.flatMap_cons, List.length_append, ih, sm_cons]
theorem mp_inl {α β : Type} {g : α → β} {x : List Nat ⊕ (α × List Nat)} {y : List Nat} (h : mp g x = .inl y) : x = .inl y := by
  cases x with
  | inl a => exact congrArg Sum.inl (Sum.inl.inj h)
  | inr q => exact absurd h (by simp [mp])
theorem mp_inr {α β : Type} {g : α → β} {x : List Nat ⊕ (α × List Nat)} {b : β} {y : List Nat} (h : mp g x = .inr (b, y)) : ∃ a, x = .inr (a, y) ∧ b = g a := by
  cases x with
  | inl a => exact absurd h (by simp [mp])
  | inr q =>
    obtain ⟨a, r⟩ := q
    obtain ⟨rfl, rfl⟩ := Prod.mk.inj (Sum.inr.inj h)
    exact ⟨a, rfl, rfl⟩
theorem pWd_suf {k : Nat} {j : Nat} (hj : j < 3) (r : List Nat) : (∀ x, (pWd j r : List Nat ⊕ (JT (k + 1) × List Nat)) = .inl x → x <:+ r) ∧ (∀ v x, (pWd j r : List Nat ⊕ (JT (k + 1) × List Nat)) = .inr (v, x) → x <:+ r ∧ x.length + (jc (k + 1) v).length ≤ r.length ∧ 1 ≤ (jc (k + 1) v).length ∧ jok (k + 1) v ∧ jd (k + 1) v = 0) := by
  unfold pWd
  obtain ⟨p1, p2⟩ := pw_suf (wd j) r
  cases h : pw (wd j) r with
  | inl x => exact ⟨fun y hy => by simp at hy; subst hy; exact p1 x h, fun s y hy => by simp at hy⟩
  | inr x =>
    refine ⟨fun y hy => by simp at hy, fun s' y hy => ?_⟩
    obtain ⟨rfl, rfl⟩ := Prod.mk.inj (Sum.inr.inj hy)
    obtain ⟨q1, q2⟩ := p2 x h
    have hw : 1 ≤ (wd j).length := by
      unfold wd
      split
      · decide
      · split <;> decide
    exact ⟨q1, by rw [jc_k, List.length_singleton]; omega, Nat.le_refl 1, hj, rfl⟩
theorem pV_suf : ∀ (k o : Nat), o ≤ k → PS (pV k o) (fun j => (jc (k + 1) j).length) (fun j => jok (k + 1) j ∧ jd (k + 1) j ≤ o) := by
  intro k
  induction k with
  | zero =>
    intro o ho r
    have hb := blk_suf r
    have hbl := blk_len r
    rw [pV]
    have wdc : ∀ j, j < 3 → (∀ x, (pWd j (blk r) : List Nat ⊕ (JT (0 + 1) × List Nat)) = .inl x → x <:+ r) ∧ (∀ v x, (pWd j (blk r) : List Nat ⊕ (JT (0 + 1) × List Nat)) = .inr (v, x) → x <:+ r ∧ x.length + (jc (0 + 1) v).length ≤ r.length ∧ 1 ≤ (jc (0 + 1) v).length ∧ (jok (0 + 1) v ∧ jd (0 + 1) v ≤ o)) := fun j hj => by
      obtain ⟨p1, p2⟩ := pWd_suf (k := 0) hj (blk r)
      exact ⟨fun x hx => (p1 x hx).trans hb, fun v x hx => by
        obtain ⟨a, b, c, d, e⟩ := p2 v x hx
        exact ⟨a.trans hb, by omega, c, d, by omega⟩⟩
    split
    · exact wdc 0 (by omega)
    split
    · exact wdc 1 (by omega)
    split
    · exact wdc 2 (by omega)
    split
    · rename_i hc
      have hbl2 := bt_len hc
      obtain ⟨s1, s2⟩ := pS_suf (r.length + 1) (blk r).tail
      refine ⟨fun x hx => (s1 x (mp_inl hx)).trans bt_suf, fun v x hx => ?_⟩
      obtain ⟨s, hs, rfl⟩ := mp_inr hx
      obtain ⟨a, b, c⟩ := s2 s x hs
      exact ⟨a.trans bt_suf, by dsimp only; rw [jc_s, strc_len]; omega, by dsimp only; rw [jc_s, strc_len]; omega, c, Nat.zero_le _⟩
    split
    · exact ⟨fun x hx => by simp at hx; subst hx; exact hb, fun v x hx => by simp at hx⟩
    · obtain ⟨n1, n2⟩ := pN_suf (blk r)
      refine ⟨fun x hx => (n1 x (mp_inl hx)).trans hb, fun v x hx => ?_⟩
      obtain ⟨z, hz, rfl⟩ := mp_inr hx
      obtain ⟨a, b, c, d⟩ := n2 z x hz
      exact ⟨a.trans hb, by dsimp only; rw [jc_n, List.length_singleton]; omega, Nat.le_refl 1, ⟨c, d⟩, Nat.zero_le _⟩
  | succ k ih =>
    intro o ho r
    have hb := blk_suf r
    have hbl := blk_len r
    rw [pV]
    have wdc : ∀ j, j < 3 → (∀ x, (pWd j (blk r) : List Nat ⊕ (JT (k + 1 + 1) × List Nat)) = .inl x → x <:+ r) ∧ (∀ v x, (pWd j (blk r) : List Nat ⊕ (JT (k + 1 + 1) × List Nat)) = .inr (v, x) → x <:+ r ∧ x.length + (jc (k + 1 + 1) v).length ≤ r.length ∧ 1 ≤ (jc (k + 1 + 1) v).length ∧ (jok (k + 1 + 1) v ∧ jd (k + 1 + 1) v ≤ o)) := fun j hj => by
      obtain ⟨p1, p2⟩ := pWd_suf (k := k + 1) hj (blk r)
      exact ⟨fun x hx => (p1 x hx).trans hb, fun v x hx => by
        obtain ⟨a, b, c, d, e⟩ := p2 v x hx
        exact ⟨a.trans hb, by omega, c, d, by omega⟩⟩
    split
    · exact wdc 0 (by omega)
    split
    · exact wdc 1 (by omega)
    split
    · exact wdc 2 (by omega)
    split
    · rename_i hc
      have hbl2 := bt_len hc
      obtain ⟨s1, s2⟩ := pS_suf (r.length + 1) (blk r).tail
      refine ⟨fun x hx => (s1 x (mp_inl hx)).trans bt_suf, fun v x hx => ?_⟩
      obtain ⟨s, hs, rfl⟩ := mp_inr hx
      obtain ⟨a, b, c⟩ := s2 s x hs
      exact ⟨a.trans bt_suf, by dsimp only; rw [jc_s, strc_len]; omega, by dsimp only; rw [jc_s, strc_len]; omega, c, Nat.zero_le _⟩
    split
    · rename_i hc
      have hbl2 := bt_len hc
      split
      · exact ⟨fun x hx => by simp at hx; subst hx; exact hb, fun v x hx => by simp at hx⟩
      · rename_i ho0
        obtain ⟨a1, a2⟩ := pA_suf (ih (o - 1) (by omega)) (blk r).tail
        refine ⟨fun x hx => (a1 x (mp_inl hx)).trans bt_suf, fun v x hx => ?_⟩
        obtain ⟨l, hl, rfl⟩ := mp_inr hx
        obtain ⟨p, q, s⟩ := a2 l x hl
        rw [← sm_flat] at q
        refine ⟨p.trans bt_suf, by dsimp only; rw [jc_a, lst_len]; omega, by dsimp only; rw [jc_a, lst_len]; omega, fun y hy => (s y hy).1, ?_⟩
        obtain ⟨m, rfl⟩ : ∃ m, o = m + 1 := ⟨o - 1, by omega⟩
        exact jd_a_le.mpr (fun y hy => (s y hy).2)
    split
    · rename_i hc
      have hbl2 := bt_len hc
      split
      · exact ⟨fun x hx => by simp at hx; subst hx; exact hb, fun v x hx => by simp at hx⟩
      · rename_i ho0
        obtain ⟨a1, a2⟩ := pO_suf (ih (o - 1) (by omega)) (blk r).tail
        refine ⟨fun x hx => (a1 x (mp_inl hx)).trans bt_suf, fun v x hx => ?_⟩
        obtain ⟨l, hl, rfl⟩ := mp_inr hx
        obtain ⟨p, q, s, t⟩ := a2 l x hl
        have e1 : sm (fun p : Sx × JT (k + 1) => p.1.length + 1 + (jc (k + 1) p.2).length) l = (l.flatMap (fun p => strc p.1 ++ jc (k + 1) p.2)).length := by
          rw [sm_flat]
          congr 1
          funext p
          rw [List.length_append, strc_len]
        have q : x.length + sm (fun p : Sx × JT (k + 1) => p.1.length + 1 + (jc (k + 1) p.2).length) l + 1 ≤ (blk r).tail.length := q
        rw [e1] at q
        refine ⟨p.trans bt_suf, by dsimp only; rw [jc_o, lst_len]; omega, by dsimp only; rw [jc_o, lst_len]; omega, ⟨fun y hy => ⟨(s y hy).1, (s y hy).2.1⟩, t⟩, ?_⟩
        obtain ⟨m, rfl⟩ : ∃ m, o = m + 1 := ⟨o - 1, by omega⟩
        exact jd_o_le.mpr (fun y hy => (s y hy).2.2)
    · obtain ⟨n1, n2⟩ := pN_suf (blk r)
      refine ⟨fun x hx => (n1 x (mp_inl hx)).trans hb, fun v x hx => ?_⟩
      obtain ⟨z, hz, rfl⟩ := mp_inr hx
      obtain ⟨a, b, c, d⟩ := n2 z x hz
      exact ⟨a.trans hb, by dsimp only; rw [jc_n, List.length_singleton]; omega, Nat.le_refl 1, ⟨c, d⟩, Nat.zero_le _⟩
