section ZParse35
/-! ===== what both readers do: r is what is left of the text; a break tells what was left there ===== -/
def isB (c : Nat) : Bool := decide (c = 32) || decide (c = 9) || decide (c = 10) || decide (c = 13)
def blk : List Nat → List Nat
  | [] => []
  | c :: r => if isB c then blk r else c :: r
def pw : List Nat → List Nat → List Nat ⊕ List Nat
  | [], r => .inr r
  | _ :: _, [] => .inl []
  | c :: w, d :: r => if d = c then pw w r else .inl (d :: r)
def isD (c : Nat) : Bool := decide (48 ≤ c) && decide (c < 58)
def dv : Nat → List Nat → Nat × List Nat
  | v, [] => (v, [])
  | v, c :: r => if isD c then dv (10 * v + (c - 48)) r else (v, c :: r)
/-- digits, at the first of them -/
def pD : List Nat → Option (Nat × List Nat)
  | [] => none
  | c :: r => if isD c then (if c = 48 then some (0, r) else some (dv (c - 48) r)) else none
def pNd (start r1 : List Nat) (sgn : Int) : List Nat ⊕ (Int × List Nat) := match pD r1 with
  | none => .inl r1
  | some (v, r2) => if 9007199254740991 < v then .inl start else .inr (sgn * (v : Int), r2)
def pN (r : List Nat) : List Nat ⊕ (Int × List Nat) := if r.head? = some 45 then pNd r r.tail (-1) else pNd r r 1
def hexv (c : Nat) : Option Nat := if 48 ≤ c ∧ c ≤ 57 then some (c - 48) else if 97 ≤ c ∧ c ≤ 102 then some (c - 87) else if 65 ≤ c ∧ c ≤ 70 then some (c - 55) else none
def hex4 (start : List Nat) : Nat → Nat → List Nat → List Nat ⊕ (Nat × List Nat)
  | 0, v, h => if 127 < v then .inl start else .inr (v, h)
  | _ + 1, _, [] => .inl []
  | k + 1, v, x :: h => match hexv x with
    | none => .inl (x :: h)
    | some d => hex4 start k (16 * v + d) h
def cof (c : Nat) : Option Nat := if c = 34 ∨ c = 47 ∨ c = 92 then some c else if c = 98 then some 8 else if c = 102 then some 12 else if c = 110 then some 10 else if c = 114 then some 13 else if c = 116 then some 9 else none
def pcE (c : Nat) (r : List Nat) : List Nat ⊕ (Nat × List Nat) := match r with
  | [] => .inl []
  | e :: r' => if e = 117 then hex4 (c :: r) 4 0 r' else match cof e with
    | none => .inl r
    | some v => .inr (v, r')
/-- one character of a string -/
def pc : List Nat → List Nat ⊕ (Nat × List Nat)
  | [] => .inl []
  | c :: r => if c = 92 then pcE c r else if 32 ≤ c ∧ c < 127 then .inr (c, r) else .inl (c :: r)
/-- a string behind its first quote -/
def pS : Nat → List Nat → List Nat ⊕ (Sx × List Nat)
  | 0, r => .inl r
  | n + 1, r => if r.head? = some 34 then .inr ([], r.tail) else match pc r with
    | .inl x => .inl x
    | .inr (v, r') => match pS n r' with
      | .inl x => .inl x
      | .inr (s, r2) => .inr (v :: s, r2)
def pE {α : Type} (rec : List Nat → List Nat ⊕ (α × List Nat)) : Nat → List Nat → List Nat ⊕ (List α × List Nat)
  | 0, r => .inl r
  | n + 1, r => match rec r with
    | .inl x => .inl x
    | .inr (v, r1) => if (blk r1).head? = some 44 then (match pE rec n (blk r1).tail with
        | .inl x => .inl x
        | .inr (l, r2) => .inr (v :: l, r2))
      else if (blk r1).head? = some 93 then .inr ([v], (blk r1).tail) else .inl (blk r1)
def pA {α : Type} (rec : List Nat → List Nat ⊕ (α × List Nat)) (r : List Nat) : List Nat ⊕ (List α × List Nat) := if (blk r).head? = some 93 then .inr ([], (blk r).tail) else pE rec (r.length + 1) (blk r)
/-- a name and its value -/
def pM {α : Type} (rec : List Nat → List Nat ⊕ (α × List Nat)) (seen : List Sx) (r : List Nat) : List Nat ⊕ ((Sx × α) × List Nat) :=
  if (blk r).head? = some 34 then (match pS (r.length + 1) (blk r).tail with
    | .inl x => .inl x
    | .inr (s, r2) => if s ∈ seen then .inl (blk r) else if (blk r2).head? = some 58 then (match rec (blk r2).tail with
        | .inl x => .inl x
        | .inr (v, r3) => .inr ((s, v), r3))
      else .inl (blk r2))
  else .inl (blk r)
def pF {α : Type} (rec : List Nat → List Nat ⊕ (α × List Nat)) : Nat → List Sx → List Nat → List Nat ⊕ (List (Sx × α) × List Nat)
  | 0, _, r => .inl r
  | n + 1, seen, r => match pM rec seen r with
    | .inl x => .inl x
    | .inr (p, r1) => if (blk r1).head? = some 44 then (match pF rec n (seen ++ [p.1]) (blk r1).tail with
        | .inl x => .inl x
        | .inr (l, r2) => .inr (p :: l, r2))
      else if (blk r1).head? = some 125 then .inr ([p], (blk r1).tail) else .inl (blk r1)
def pO {α : Type} (rec : List Nat → List Nat ⊕ (α × List Nat)) (r : List Nat) : List Nat ⊕ (List (Sx × α) × List Nat) := if (blk r).head? = some 125 then .inr ([], (blk r).tail) else pF rec (r.length + 1) [] (blk r)
def mp {α β : Type} (g : α → β) (x : List Nat ⊕ (α × List Nat)) : List Nat ⊕ (β × List Nat) := match x with
  | .inl r => .inl r
  | .inr (a, r) => .inr (g a, r)
def pWd {k : Nat} (j : Nat) (r : List Nat) : List Nat ⊕ (JT (k + 1) × List Nat) := match pw (wd j) r with
  | .inl x => .inl x
  | .inr r1 => .inr (jk j, r1)
/-- a value; o lists may still be opened -/
def pV : (k : Nat) → Nat → List Nat → List Nat ⊕ (JT (k + 1) × List Nat)
  | 0, _, r0 => if (blk r0).head? = some 110 then pWd 0 (blk r0) else if (blk r0).head? = some 102 then pWd 1 (blk r0) else if (blk r0).head? = some 116 then pWd 2 (blk r0) else if (blk r0).head? = some 34 then mp js (pS (r0.length + 1) (blk r0).tail)
    else if (blk r0).head? = some 91 ∨ (blk r0).head? = some 123 then .inl (blk r0) else mp jn (pN (blk r0))
  | k + 1, o, r0 => if (blk r0).head? = some 110 then pWd 0 (blk r0) else if (blk r0).head? = some 102 then pWd 1 (blk r0) else if (blk r0).head? = some 116 then pWd 2 (blk r0) else if (blk r0).head? = some 34 then mp js (pS (r0.length + 1) (blk r0).tail)
    else if (blk r0).head? = some 91 then (if o = 0 then .inl (blk r0) else mp ja (pA (pV k (o - 1)) (blk r0).tail))
    else if (blk r0).head? = some 123 then (if o = 0 then .inl (blk r0) else mp jo (pO (pV k (o - 1)) (blk r0).tail))
    else mp jn (pN (blk r0))
/-- the whole text; none: whole, some r: broken there -/
def pT (k o : Nat) (r : List Nat) : List Nat ⊕ JT (k + 1) := match pV k o r with
  | .inl x => .inl x
  | .inr (j, r1) => if blk r1 = [] then .inr j else .inl (blk r1)
/-! what is left is a tail -/
theorem blk_suf : ∀ r : List Nat, blk r <:+ r := by
  intro r
  induction r with
  | nil => exact List.suffix_refl _
  | cons c r ih =>
    rw [blk]
    split
    · exact ih.trans (List.suffix_cons c r)
    · exact List.suffix_refl _
theorem blk_len (r : List Nat) : (blk r).length ≤ r.length := (blk_suf r).length_le
theorem blk_blk : ∀ r : List Nat, blk (blk r) = blk r := by
  intro r
  induction r with
  | nil => rfl
  | cons c r ih =>
    by_cases h : isB c = true
    · rw [blk, if_pos h, ih]
    · rw [blk, if_neg h, blk, if_neg h]
theorem tail_suf (r : List Nat) : r.tail <:+ r := by
  cases r with
  | nil => exact List.suffix_refl _
  | cons c r => exact List.suffix_cons c r
theorem tail_len {r : List Nat} {c : Nat} (h : r.head? = some c) : r.tail.length + 1 = r.length := by
  cases r with
  | nil => simp at h
  | cons d r => simp
theorem pw_suf : ∀ (w r : List Nat), (∀ x, pw w r = .inl x → x <:+ r) ∧ (∀ x, pw w r = .inr x → x <:+ r ∧ x.length + w.length = r.length) := by
  intro w
  induction w with
  | nil => intro r; exact ⟨fun x h => by simp [pw] at h, fun x h => by simp [pw] at h; subst h; exact ⟨List.suffix_refl _, by simp⟩⟩
  | cons c w ih =>
    intro r
    cases r with
    | nil => exact ⟨fun x h => by simp [pw] at h; subst h; exact List.suffix_refl _, fun x h => by simp [pw] at h⟩
    | cons d r =>
      rw [pw]
      by_cases h : d = c
      · rw [if_pos h]
        obtain ⟨i1, i2⟩ := ih r
        exact ⟨fun x hx => (i1 x hx).trans (List.suffix_cons d r), fun x hx => ⟨(i2 x hx).1.trans (List.suffix_cons d r), by have := (i2 x hx).2; simp; omega⟩⟩
      · rw [if_neg h]
        exact ⟨fun x hx => by simp at hx; subst hx; exact List.suffix_refl _, fun x hx => by simp at hx⟩
theorem dv_suf : ∀ (r : List Nat) (v : Nat), (dv v r).2 <:+ r := by
  intro r
  induction r with
  | nil => intro v; exact List.suffix_refl _
  | cons c r ih =>
    intro v
    rw [dv]
    split
    · exact (ih _).trans (List.suffix_cons c r)
    · exact List.suffix_refl _
theorem pD_suf {r : List Nat} {v : Nat} {r2 : List Nat} (h : pD r = some (v, r2)) : r2 <:+ r ∧ r2.length < r.length := by
  cases r with
  | nil => simp [pD] at h
  | cons c r =>
    rw [pD] at h
    split at h
    · split at h
      · obtain ⟨rfl, rfl⟩ := Prod.mk.inj (Option.some.inj h)
        exact ⟨List.suffix_cons c r, by simp⟩
      · have h2 := Option.some.inj h
        have := dv_suf r (c - 48)
        rw [h2] at this
        exact ⟨this.trans (List.suffix_cons c r), by have h3 := this.length_le; dsimp only at h3; simp; omega⟩
    · simp at h
theorem pNd_suf {start r1 : List Nat} {sgn : Int} (hsg : sgn = 1 ∨ sgn = -1) (h1 : r1 <:+ start) : (∀ x, pNd start r1 sgn = .inl x → x <:+ start) ∧ (∀ z x, pNd start r1 sgn = .inr (z, x) → x <:+ start ∧ x.length < start.length ∧ -9007199254740991 ≤ z ∧ z ≤ 9007199254740991) := by
  unfold pNd
  cases h : pD r1 with
  | none => exact ⟨fun x hx => by simp at hx; subst hx; exact h1, fun z x hx => by simp at hx⟩
  | some p =>
    obtain ⟨v, r2⟩ := p
    dsimp only
    split
    · exact ⟨fun x hx => by simp at hx; subst hx; exact List.suffix_refl _, fun z x hx => by simp at hx⟩
    · refine ⟨fun x hx => by simp at hx, fun z x hx => ?_⟩
      obtain ⟨rfl, rfl⟩ := Prod.mk.inj (Sum.inr.inj hx)
      obtain ⟨h2, h3⟩ := pD_suf h
      have := h1.length_le
      exact ⟨h2.trans h1, by omega, by rcases hsg with rfl | rfl <;> omega, by rcases hsg with rfl | rfl <;> omega⟩
theorem pN_suf (r : List Nat) : (∀ x, pN r = .inl x → x <:+ r) ∧ (∀ z x, pN r = .inr (z, x) → x <:+ r ∧ x.length < r.length ∧ -9007199254740991 ≤ z ∧ z ≤ 9007199254740991) := by
  unfold pN
  split
  · exact pNd_suf (Or.inr rfl) (tail_suf r)
  · exact pNd_suf (Or.inl rfl) (List.suffix_refl r)
theorem hex4_suf (start : List Nat) : ∀ (k v : Nat) (h : List Nat), h <:+ start → (∀ x, hex4 start k v h = .inl x → x <:+ start) ∧ (∀ c x, hex4 start k v h = .inr (c, x) → x <:+ h ∧ x.length + k = h.length ∧ c < 128) := by
  intro k
  induction k with
  | zero =>
    intro v h hs
    rw [hex4]
    split
    · exact ⟨fun x hx => by simp at hx; subst hx; exact List.suffix_refl _, fun c x hx => by simp at hx⟩
    · refine ⟨fun x hx => by simp at hx, fun c x hx => ?_⟩
      obtain ⟨rfl, rfl⟩ := Prod.mk.inj (Sum.inr.inj hx)
      exact ⟨List.suffix_refl _, by simp, by omega⟩
  | succ k ih =>
    intro v h hs
    cases h with
    | nil => exact ⟨fun x hx => by simp [hex4] at hx; subst hx; exact hs, fun c x hx => by simp [hex4] at hx⟩
    | cons y h =>
      rw [hex4]
      cases hexv y with
      | none => exact ⟨fun x hx => by simp at hx; subst hx; exact hs, fun c x hx => by simp at hx⟩
      | some d =>
        dsimp only
        obtain ⟨i1, i2⟩ := ih (16 * v + d) h ((List.suffix_cons y h).trans hs)
        exact ⟨i1, fun c x hx => by
          obtain ⟨a, b, c'⟩ := i2 c x hx
          exact ⟨a.trans (List.suffix_cons y h), by simp; omega, c'⟩⟩
theorem cof_lt {e v : Nat} (h : cof e = some v) : v < 128 := by
  unfold cof at h
  split at h
  · rename_i h1
    obtain rfl := Option.some.inj h
    omega
  · split at h
    · obtain rfl := Option.some.inj h; omega
    · split at h
      · obtain rfl := Option.some.inj h; omega
      · split at h
        · obtain rfl := Option.some.inj h; omega
        · split at h
          · obtain rfl := Option.some.inj h; omega
          · split at h
            · obtain rfl := Option.some.inj h; omega
            · simp at h
theorem pc_suf (r : List Nat) : (∀ x, pc r = .inl x → x <:+ r) ∧ (∀ c x, pc r = .inr (c, x) → x <:+ r ∧ x.length < r.length ∧ c < 128) := by
  cases r with
  | nil => exact ⟨fun x hx => by simp [pc] at hx; subst hx; exact List.suffix_refl _, fun c x hx => by simp [pc] at hx⟩
  | cons a r =>
    rw [pc]
    split
    · cases r with
      | nil => exact ⟨fun x hx => by simp [pcE] at hx; subst hx; exact List.nil_suffix, fun c x hx => by simp [pcE] at hx⟩
      | cons b r =>
        unfold pcE
        dsimp only
        split
        · obtain ⟨i1, i2⟩ := hex4_suf (a :: b :: r) 4 0 r ((List.suffix_cons b r).trans (List.suffix_cons a _))
          exact ⟨i1, fun c x hx => by
            obtain ⟨p, q, s⟩ := i2 c x hx
            exact ⟨p.trans ((List.suffix_cons b r).trans (List.suffix_cons a _)), by simp; omega, s⟩⟩
        · cases hc : cof b with
          | none => exact ⟨fun x hx => by simp at hx; subst hx; exact List.suffix_cons a _, fun c x hx => by simp at hx⟩
          | some v =>
            refine ⟨fun x hx => by simp at hx, fun c x hx => ?_⟩
            obtain ⟨rfl, rfl⟩ := Prod.mk.inj (Sum.inr.inj hx)
            exact ⟨(List.suffix_cons b r).trans (List.suffix_cons a _), by simp; omega, cof_lt hc⟩
    · split
      · refine ⟨fun x hx => by simp at hx, fun c x hx => ?_⟩
        obtain ⟨rfl, rfl⟩ := Prod.mk.inj (Sum.inr.inj hx)
        exact ⟨List.suffix_cons _ _, by simp, by omega⟩
      · exact ⟨fun x hx => by simp at hx; subst hx; exact List.suffix_refl _, fun c x hx => by simp at hx⟩
theorem pS_suf : ∀ (n : Nat) (r : List Nat), (∀ x, pS n r = .inl x → x <:+ r) ∧ (∀ s x, pS n r = .inr (s, x) → x <:+ r ∧ x.length + s.length + 1 ≤ r.length ∧ sok s) := by
  intro n
  induction n with
  | zero => intro r; exact ⟨fun x hx => by simp [pS] at hx; subst hx; exact List.suffix_refl _, fun s x hx => by simp [pS] at hx⟩
  | succ n ih =>
    intro r
    rw [pS]
    split
    · rename_i h
      refine ⟨fun x hx => by simp at hx, fun s x hx => ?_⟩
      obtain ⟨rfl, rfl⟩ := Prod.mk.inj (Sum.inr.inj hx)
      have := tail_len h
      exact ⟨tail_suf r, by simp; omega, fun c hc => absurd hc (by simp)⟩
    · obtain ⟨p1, p2⟩ := pc_suf r
      cases hp : pc r with
      | inl x => exact ⟨fun y hy => by simp at hy; subst hy; exact p1 x hp, fun s y hy => by simp at hy⟩
      | inr q =>
        obtain ⟨c, r'⟩ := q
        obtain ⟨q1, q2, q3⟩ := p2 c r' hp
        obtain ⟨i1, i2⟩ := ih r'
        dsimp only
        cases hs : pS n r' with
        | inl x => exact ⟨fun y hy => by simp at hy; subst hy; exact (i1 x hs).trans q1, fun s y hy => by simp at hy⟩
        | inr q =>
          obtain ⟨s, r2⟩ := q
          obtain ⟨j1, j2, j3⟩ := i2 s r2 hs
          refine ⟨fun y hy => by simp at hy, fun s' y hy => ?_⟩
          obtain ⟨rfl, rfl⟩ := Prod.mk.inj (Sum.inr.inj hy)
          exact ⟨j1.trans q1, by simp; omega, fun c' hc => by
            rcases List.mem_cons.mp hc with rfl | hc
            · exact q3
            · exact j3 c' hc⟩
def PS {α : Type} (rec : List Nat → List Nat ⊕ (α × List Nat)) (sz : α → Nat) (ok : α → Prop) : Prop := ∀ r, (∀ x, rec r = .inl x → x <:+ r) ∧ (∀ v x, rec r = .inr (v, x) → x <:+ r ∧ x.length + sz v ≤ r.length ∧ 1 ≤ sz v ∧ ok v)
def sm {α : Type} (sz : α → Nat) (l : List α) : Nat := (l.map sz).sum
theorem sm_cons {α : Type} {sz : α → Nat} {x : α} {l : List α} : sm sz (x :: l) = sz x + sm sz l := by
  unfold sm
  rw [List.map_cons, List.sum_cons]
theorem sm_nil {α : Type} {sz : α → Nat} : sm sz [] = 0 := rfl
theorem bt_suf {r : List Nat} : (blk r).tail <:+ r := (tail_suf _).trans (blk_suf r)
theorem bt_len {r : List Nat} {c : Nat} (h : (blk r).head? = some c) : (blk r).tail.length + 1 ≤ r.length := by
  have h1 := tail_len h
  have h2 := blk_len r
  omega
section PX
variable {α : Type} {rec : List Nat → List Nat ⊕ (α × List Nat)} {sz : α → Nat} {ok : α → Prop}
theorem pE_suf (h : PS rec sz ok) : ∀ (n : Nat) (r : List Nat), (∀ x, pE rec n r = .inl x → x <:+ r) ∧ (∀ l x, pE rec n r = .inr (l, x) → x <:+ r ∧ x.length + sm sz l + 1 ≤ r.length ∧ ∀ v ∈ l, ok v) := by
  intro n
  induction n with
  | zero => intro r; exact ⟨fun x hx => by simp [pE] at hx; subst hx; exact List.suffix_refl _, fun s x hx => by simp [pE] at hx⟩
  | succ n ih =>
    intro r
    rw [pE]
    obtain ⟨h1, h2⟩ := h r
    cases hr : rec r with
    | inl x => exact ⟨fun y hy => by simp at hy; subst hy; exact h1 x hr, fun s y hy => by simp at hy⟩
    | inr q =>
      obtain ⟨v, r1⟩ := q
      obtain ⟨q1, q2, q3, q4⟩ := h2 v r1 hr
      dsimp only
      split
      · rename_i hc
        have hb := bt_len hc
        obtain ⟨i1, i2⟩ := ih (blk r1).tail
        cases hs : pE rec n (blk r1).tail with
        | inl x => exact ⟨fun y hy => by simp at hy; subst hy; exact (i1 x hs).trans (bt_suf.trans q1), fun s y hy => by simp at hy⟩
        | inr q =>
          obtain ⟨l, r2⟩ := q
          obtain ⟨j1, j2, j3⟩ := i2 l r2 hs
          refine ⟨fun y hy => by simp at hy, fun s' y hy => ?_⟩
          obtain ⟨rfl, rfl⟩ := Prod.mk.inj (Sum.inr.inj hy)
          refine ⟨j1.trans (bt_suf.trans q1), by rw [sm_cons]; omega, fun w hw => ?_⟩
          rcases List.mem_cons.mp hw with rfl | hw
          · exact q4
          · exact j3 w hw
      · split
        · rename_i hc
          have hb := bt_len hc
          refine ⟨fun y hy => by simp at hy, fun s' y hy => ?_⟩
          obtain ⟨rfl, rfl⟩ := Prod.mk.inj (Sum.inr.inj hy)
          refine ⟨bt_suf.trans q1, by rw [sm_cons, sm_nil]; omega, fun w hw => ?_⟩
          rw [List.mem_singleton.mp hw]
          exact q4
        · exact ⟨fun y hy => by simp at hy; subst hy; exact (blk_suf r1).trans q1, fun s y hy => by simp at hy⟩
theorem pA_suf (h : PS rec sz ok) (r : List Nat) : (∀ x, pA rec r = .inl x → x <:+ r) ∧ (∀ l x, pA rec r = .inr (l, x) → x <:+ r ∧ x.length + sm sz l + 1 ≤ r.length ∧ ∀ v ∈ l, ok v) := by
  unfold pA
  split
  · rename_i hc
    refine ⟨fun y hy => by simp at hy, fun s' y hy => ?_⟩
    obtain ⟨rfl, rfl⟩ := Prod.mk.inj (Sum.inr.inj hy)
    have := bt_len hc
    exact ⟨bt_suf, by rw [sm_nil]; omega, fun w hw => absurd hw (by simp)⟩
  · obtain ⟨i1, i2⟩ := pE_suf h (r.length + 1) (blk r)
    have hb := blk_len r
    exact ⟨fun x hx => (i1 x hx).trans (blk_suf r), fun l x hx => by
      obtain ⟨a, b, c⟩ := i2 l x hx
      exact ⟨a.trans (blk_suf r), by omega, c⟩⟩
theorem pM_suf (h : PS rec sz ok) (seen : List Sx) (r : List Nat) : (∀ x, pM rec seen r = .inl x → x <:+ r) ∧ (∀ p x, pM rec seen r = .inr (p, x) → x <:+ r ∧ x.length + p.1.length + sz p.2 + 3 ≤ r.length ∧ sok p.1 ∧ ok p.2 ∧ p.1 ∉ seen ∧ 1 ≤ sz p.2) := by
  unfold pM
  split
  · rename_i hc
    have hb := bt_len hc
    obtain ⟨s1, s2⟩ := pS_suf (r.length + 1) (blk r).tail
    cases hs : pS (r.length + 1) (blk r).tail with
    | inl x => exact ⟨fun y hy => by simp at hy; subst hy; exact (s1 x hs).trans bt_suf, fun s y hy => by simp at hy⟩
    | inr q =>
      obtain ⟨s, r2⟩ := q
      obtain ⟨t1, t2, t3⟩ := s2 s r2 hs
      dsimp only
      split
      · exact ⟨fun y hy => by simp at hy; subst hy; exact blk_suf r, fun s y hy => by simp at hy⟩
      · rename_i hns
        split
        · rename_i hc2
          have hb2 := bt_len hc2
          obtain ⟨v1, v2⟩ := h (blk r2).tail
          cases hv : rec (blk r2).tail with
          | inl x => exact ⟨fun y hy => by simp at hy; subst hy; exact (v1 x hv).trans (bt_suf.trans (t1.trans bt_suf)), fun s y hy => by simp at hy⟩
          | inr q =>
            obtain ⟨v, r3⟩ := q
            obtain ⟨w1, w2, w3, w4⟩ := v2 v r3 hv
            refine ⟨fun y hy => by simp at hy, fun s' y hy => ?_⟩
            obtain ⟨rfl, rfl⟩ := Prod.mk.inj (Sum.inr.inj hy)
            exact ⟨w1.trans (bt_suf.trans (t1.trans bt_suf)), by dsimp only; omega, t3, w4, hns, w3⟩
        · exact ⟨fun y hy => by simp at hy; subst hy; exact (blk_suf r2).trans (t1.trans bt_suf), fun s y hy => by simp at hy⟩
  · exact ⟨fun y hy => by simp at hy; subst hy; exact blk_suf r, fun s y hy => by simp at hy⟩
theorem pF_suf (h : PS rec sz ok) : ∀ (n : Nat) (seen : List Sx) (r : List Nat), (∀ x, pF rec n seen r = .inl x → x <:+ r) ∧ (∀ l x, pF rec n seen r = .inr (l, x) → x <:+ r ∧ x.length + sm (fun p => p.1.length + 1 + sz p.2) l + 1 ≤ r.length ∧ (∀ p ∈ l, sok p.1 ∧ ok p.2) ∧ (l.map (fun p => p.1)).Nodup ∧ (∀ p ∈ l, p.1 ∉ seen)) := by
  intro n
  induction n with
  | zero => intro seen r; exact ⟨fun x hx => by simp [pF] at hx; subst hx; exact List.suffix_refl _, fun s x hx => by simp [pF] at hx⟩
  | succ n ih =>
    intro seen r
    rw [pF]
    obtain ⟨h1, h2⟩ := pM_suf h seen r
    cases hr : pM rec seen r with
    | inl x => exact ⟨fun y hy => by simp at hy; subst hy; exact h1 x hr, fun s y hy => by simp at hy⟩
    | inr q =>
      obtain ⟨p, r1⟩ := q
      obtain ⟨q1, q2, q3, q4, q5, q6⟩ := h2 p r1 hr
      dsimp only
      split
      · rename_i hc
        have hb := bt_len hc
        obtain ⟨i1, i2⟩ := ih (seen ++ [p.1]) (blk r1).tail
        cases hs : pF rec n (seen ++ [p.1]) (blk r1).tail with
        | inl x => exact ⟨fun y hy => by simp at hy; subst hy; exact (i1 x hs).trans (bt_suf.trans q1), fun s y hy => by simp at hy⟩
        | inr q =>
          obtain ⟨l, r2⟩ := q
          obtain ⟨j1, j2, j3, j4, j5⟩ := i2 l r2 hs
          refine ⟨fun y hy => by simp at hy, fun s' y hy => ?_⟩
          obtain ⟨rfl, rfl⟩ := Prod.mk.inj (Sum.inr.inj hy)
          refine ⟨j1.trans (bt_suf.trans q1), by rw [sm_cons]; omega, fun w hw => ?_, ?_, fun w hw => ?_⟩
          · rcases List.mem_cons.mp hw with rfl | hw
            · exact ⟨q3, q4⟩
            · exact j3 w hw
          · rw [List.map_cons, List.nodup_cons]
            refine ⟨fun hm => ?_, j4⟩
            obtain ⟨w, hw, hwe⟩ := List.mem_map.mp hm
            exact j5 w hw (by rw [hwe]; simp)
          · rcases List.mem_cons.mp hw with rfl | hw
            · exact q5
            · exact fun hm => j5 w hw (List.mem_append_left _ hm)
      · split
        · rename_i hc
          have hb := bt_len hc
          refine ⟨fun y hy => by simp at hy, fun s' y hy => ?_⟩
          obtain ⟨rfl, rfl⟩ := Prod.mk.inj (Sum.inr.inj hy)
          refine ⟨bt_suf.trans q1, by rw [sm_cons, sm_nil]; omega, fun w hw => ?_, by simp, fun w hw => ?_⟩
          · rw [List.mem_singleton.mp hw]
            exact ⟨q3, q4⟩
          · rw [List.mem_singleton.mp hw]
            exact q5
        · exact ⟨fun y hy => by simp at hy; subst hy; exact (blk_suf r1).trans q1, fun s y hy => by simp at hy⟩
theorem pO_suf (h : PS rec sz ok) (r : List Nat) : (∀ x, pO rec r = .inl x → x <:+ r) ∧ (∀ l x, pO rec r = .inr (l, x) → x <:+ r ∧ x.length + sm (fun p => p.1.length + 1 + sz p.2) l + 1 ≤ r.length ∧ (∀ p ∈ l, sok p.1 ∧ ok p.2) ∧ (l.map (fun p => p.1)).Nodup) := by
  unfold pO
  split
  · rename_i hc
    refine ⟨fun y hy => by simp at hy, fun s' y hy => ?_⟩
    obtain ⟨rfl, rfl⟩ := Prod.mk.inj (Sum.inr.inj hy)
    have := bt_len hc
    exact ⟨bt_suf, by rw [sm_nil]; omega, fun w hw => absurd hw (by simp), by simp⟩
  · obtain ⟨i1, i2⟩ := pF_suf h (r.length + 1) [] (blk r)
    have hb := blk_len r
    exact ⟨fun x hx => (i1 x hx).trans (blk_suf r), fun l x hx => by
      obtain ⟨a, b, c, d, _⟩ := i2 l x hx
      exact ⟨a.trans (blk_suf r), by omega, c, d⟩⟩
end PX
theorem sm_flat {β : Type} {c : β → List Int64} : ∀ l : List β, (l.flatMap c).length = sm (fun x => (c x).length) l := by
  intro l
  induction l with
  | nil => rfl
  | cons x l ih => rw [List.flatMap_cons, List.length_append, ih, sm_cons]
theorem mp_inl {α β : Type} {g : α → β} {x : List Nat ⊕ (α × List Nat)} {y : List Nat} (h : mp g x = .inl y) : x = .inl y := by
  cases x with
  | inl a => exact congrArg Sum.inl (Sum.inl.inj h)
  | inr q => exact absurd h (by simp [mp])
theorem mp_inr {α β : Type} {g : α → β} {x : List Nat ⊕ (α × List Nat)} {b : β} {y : List Nat} (h : mp g x = .inr (b, y)) : ∃ a, x = .inr (a, y) ∧ b = g a := by
  cases x with
  | inl a => exact absurd h (by simp [mp])
  | inr q =>
    obtain ⟨a, r⟩ := q
    obtain ⟨rfl, rfl⟩ := Prod.mk.inj (Sum.inr.inj h)
    exact ⟨a, rfl, rfl⟩
theorem pWd_suf {k : Nat} {j : Nat} (hj : j < 3) (r : List Nat) : (∀ x, (pWd j r : List Nat ⊕ (JT (k + 1) × List Nat)) = .inl x → x <:+ r) ∧ (∀ v x, (pWd j r : List Nat ⊕ (JT (k + 1) × List Nat)) = .inr (v, x) → x <:+ r ∧ x.length + (jc (k + 1) v).length ≤ r.length ∧ 1 ≤ (jc (k + 1) v).length ∧ jok (k + 1) v ∧ jd (k + 1) v = 0) := by
  unfold pWd
  obtain ⟨p1, p2⟩ := pw_suf (wd j) r
  cases h : pw (wd j) r with
  | inl x => exact ⟨fun y hy => by simp at hy; subst hy; exact p1 x h, fun s y hy => by simp at hy⟩
  | inr x =>
    refine ⟨fun y hy => by simp at hy, fun s' y hy => ?_⟩
    obtain ⟨rfl, rfl⟩ := Prod.mk.inj (Sum.inr.inj hy)
    obtain ⟨q1, q2⟩ := p2 x h
    have hw : 1 ≤ (wd j).length := by
      unfold wd
      split
      · decide
      · split <;> decide
    exact ⟨q1, by rw [jc_k, List.length_singleton]; omega, Nat.le_refl 1, hj, rfl⟩
theorem pV_suf : ∀ (k o : Nat), o ≤ k → PS (pV k o) (fun j => (jc (k + 1) j).length) (fun j => jok (k + 1) j ∧ jd (k + 1) j ≤ o) := by
  intro k
  induction k with
  | zero =>
    intro o ho r
    have hb := blk_suf r
    have hbl := blk_len r
    rw [pV]
    have wdc : ∀ j, j < 3 → (∀ x, (pWd j (blk r) : List Nat ⊕ (JT (0 + 1) × List Nat)) = .inl x → x <:+ r) ∧ (∀ v x, (pWd j (blk r) : List Nat ⊕ (JT (0 + 1) × List Nat)) = .inr (v, x) → x <:+ r ∧ x.length + (jc (0 + 1) v).length ≤ r.length ∧ 1 ≤ (jc (0 + 1) v).length ∧ (jok (0 + 1) v ∧ jd (0 + 1) v ≤ o)) := fun j hj => by
      obtain ⟨p1, p2⟩ := pWd_suf (k := 0) hj (blk r)
      exact ⟨fun x hx => (p1 x hx).trans hb, fun v x hx => by
        obtain ⟨a, b, c, d, e⟩ := p2 v x hx
        exact ⟨a.trans hb, by omega, c, d, by omega⟩⟩
    split
    · exact wdc 0 (by omega)
    split
    · exact wdc 1 (by omega)
    split
    · exact wdc 2 (by omega)
    split
    · rename_i hc
      have hbl2 := bt_len hc
      obtain ⟨s1, s2⟩ := pS_suf (r.length + 1) (blk r).tail
      refine ⟨fun x hx => (s1 x (mp_inl hx)).trans bt_suf, fun v x hx => ?_⟩
      obtain ⟨s, hs, rfl⟩ := mp_inr hx
      obtain ⟨a, b, c⟩ := s2 s x hs
      exact ⟨a.trans bt_suf, by dsimp only; rw [jc_s, strc_len]; omega, by dsimp only; rw [jc_s, strc_len]; omega, c, Nat.zero_le _⟩
    split
    · exact ⟨fun x hx => by simp at hx; subst hx; exact hb, fun v x hx => by simp at hx⟩
    · obtain ⟨n1, n2⟩ := pN_suf (blk r)
      refine ⟨fun x hx => (n1 x (mp_inl hx)).trans hb, fun v x hx => ?_⟩
      obtain ⟨z, hz, rfl⟩ := mp_inr hx
      obtain ⟨a, b, c, d⟩ := n2 z x hz
      exact ⟨a.trans hb, by dsimp only; rw [jc_n, List.length_singleton]; omega, Nat.le_refl 1, ⟨c, d⟩, Nat.zero_le _⟩
  | succ k ih =>
    intro o ho r
    have hb := blk_suf r
    have hbl := blk_len r
    rw [pV]
    have wdc : ∀ j, j < 3 → (∀ x, (pWd j (blk r) : List Nat ⊕ (JT (k + 1 + 1) × List Nat)) = .inl x → x <:+ r) ∧ (∀ v x, (pWd j (blk r) : List Nat ⊕ (JT (k + 1 + 1) × List Nat)) = .inr (v, x) → x <:+ r ∧ x.length + (jc (k + 1 + 1) v).length ≤ r.length ∧ 1 ≤ (jc (k + 1 + 1) v).length ∧ (jok (k + 1 + 1) v ∧ jd (k + 1 + 1) v ≤ o)) := fun j hj => by
      obtain ⟨p1, p2⟩ := pWd_suf (k := k + 1) hj (blk r)
      exact ⟨fun x hx => (p1 x hx).trans hb, fun v x hx => by
        obtain ⟨a, b, c, d, e⟩ := p2 v x hx
        exact ⟨a.trans hb, by omega, c, d, by omega⟩⟩
    split
    · exact wdc 0 (by omega)
    split
    · exact wdc 1 (by omega)
    split
    · exact wdc 2 (by omega)
    split
    · rename_i hc
      have hbl2 := bt_len hc
      obtain ⟨s1, s2⟩ := pS_suf (r.length + 1) (blk r).tail
      refine ⟨fun x hx => (s1 x (mp_inl hx)).trans bt_suf, fun v x hx => ?_⟩
      obtain ⟨s, hs, rfl⟩ := mp_inr hx
      obtain ⟨a, b, c⟩ := s2 s x hs
      exact ⟨a.trans bt_suf, by dsimp only; rw [jc_s, strc_len]; omega, by dsimp only; rw [jc_s, strc_len]; omega, c, Nat.zero_le _⟩
    split
    · rename_i hc
      have hbl2 := bt_len hc
      split
      · exact ⟨fun x hx => by simp at hx; subst hx; exact hb, fun v x hx => by simp at hx⟩
      · rename_i ho0
        obtain ⟨a1, a2⟩ := pA_suf (ih (o - 1) (by omega)) (blk r).tail
        refine ⟨fun x hx => (a1 x (mp_inl hx)).trans bt_suf, fun v x hx => ?_⟩
        obtain ⟨l, hl, rfl⟩ := mp_inr hx
        obtain ⟨p, q, s⟩ := a2 l x hl
        rw [← sm_flat] at q
        refine ⟨p.trans bt_suf, by dsimp only; rw [jc_a, lst_len]; omega, by dsimp only; rw [jc_a, lst_len]; omega, fun y hy => (s y hy).1, ?_⟩
        obtain ⟨m, rfl⟩ : ∃ m, o = m + 1 := ⟨o - 1, by omega⟩
        exact jd_a_le.mpr (fun y hy => (s y hy).2)
    split
    · rename_i hc
      have hbl2 := bt_len hc
      split
      · exact ⟨fun x hx => by simp at hx; subst hx; exact hb, fun v x hx => by simp at hx⟩
      · rename_i ho0
        obtain ⟨a1, a2⟩ := pO_suf (ih (o - 1) (by omega)) (blk r).tail
        refine ⟨fun x hx => (a1 x (mp_inl hx)).trans bt_suf, fun v x hx => ?_⟩
        obtain ⟨l, hl, rfl⟩ := mp_inr hx
        obtain ⟨p, q, s, t⟩ := a2 l x hl
        have e1 : sm (fun p : Sx × JT (k + 1) => p.1.length + 1 + (jc (k + 1) p.2).length) l = (l.flatMap (fun p => strc p.1 ++ jc (k + 1) p.2)).length := by
          rw [sm_flat]
          congr 1
          funext p
          rw [List.length_append, strc_len]
        have q : x.length + sm (fun p : Sx × JT (k + 1) => p.1.length + 1 + (jc (k + 1) p.2).length) l + 1 ≤ (blk r).tail.length := q
        rw [e1] at q
        refine ⟨p.trans bt_suf, by dsimp only; rw [jc_o, lst_len]; omega, by dsimp only; rw [jc_o, lst_len]; omega, ⟨fun y hy => ⟨(s y hy).1, (s y hy).2.1⟩, t⟩, ?_⟩
        obtain ⟨m, rfl⟩ : ∃ m, o = m + 1 := ⟨o - 1, by omega⟩
        exact jd_o_le.mpr (fun y hy => (s y hy).2.2)
    · obtain ⟨n1, n2⟩ := pN_suf (blk r)
      refine ⟨fun x hx => (n1 x (mp_inl hx)).trans hb, fun v x hx => ?_⟩
      obtain ⟨z, hz, rfl⟩ := mp_inr hx
      obtain ⟨a, b, c, d⟩ := n2 z x hz
      exact ⟨a.trans hb, by dsimp only; rw [jc_n, List.length_singleton]; omega, Nat.le_refl 1, ⟨c, d⟩, Nat.zero_le _⟩
end ZParse35
section ZRd36
/-! ===== the reader of ValueBench ===== -/
def TSrc (t : TS) (src : List Nat) : Prop := (∀ c ∈ src, c < 256) ∧ seg t.1 0 (src.map sb) ∧ src.length = t.2.1 ∧ t.2.1 ≤ 4096
def pos (src r : List Nat) : Int32 := i3 (src.length - r.length)
def hv (r : List Nat) : Int32 := match r with
  | [] => -1
  | c :: _ => i3 c
theorem hv_eq {r : List Nat} {k : Nat} (hr : ∀ c ∈ r, c < 256) (hk : k < 256) : (hv r = i3 k) = (r.head? = some k) := by
  cases r with
  | nil => exact propext ⟨fun h => absurd h.symm (by rw [show hv [] = -1 from rfl, i3_m1 (by omega)]; exact not_false), fun h => by simp at h⟩
  | cons c r =>
    have := hr c (List.mem_cons_self ..)
    show (i3 c = i3 k) = _
    rw [i3_eq (by omega) (by omega)]
    exact propext ⟨fun h => by simp [h], fun h => by simpa using h⟩
def hD (r : List Nat) : Bool := match r with
  | [] => false
  | c :: _ => isD c
section RD
variable {t : TS} {src : List Nat} {n : Nat}
theorem suf_lt {r : List Nat} (hs : TSrc t src) (h : r <:+ src) : (∀ c ∈ r, c < 256) ∧ r.length ≤ src.length ∧ src.length ≤ 4096 := ⟨fun c hc => hs.1 c (h.subset hc), h.length_le, by have := hs.2.2; omega⟩
theorem at_h {r : List Nat} (hs : TSrc t src) (h : r <:+ src) : fT_at n (pos src r) t.1 (i3 t.2.1) t.2.2 = some (hv r) := by
  obtain ⟨h1, h2, h3⟩ := suf_lt hs h
  obtain ⟨a1, a2, a3, a4⟩ := hs
  unfold pos
  cases r with
  | nil =>
    rw [List.length_nil, Nat.sub_zero, text_end a4 (by omega) (by omega)]
    rfl
  | cons c r =>
    rw [List.length_cons] at h2 ⊢
    rw [text_at a1 a2 a3 a4 (i := src.length - (r.length + 1)) (by omega)]
    obtain ⟨p, rfl⟩ := h
    congr 2
    have e1 : (p ++ c :: r).length - (r.length + 1) = p.length := by simp
    rw [List.getElem_append_right (by omega)]
    simp
theorem pos_c {c : Nat} {r : List Nat} (hs : TSrc t src) (h : (c :: r) <:+ src) : pos src (c :: r) + 1 = pos src r := by
  obtain ⟨h1, h2, h3⟩ := suf_lt hs h
  unfold pos
  rw [List.length_cons] at h2 ⊢
  rw [i3_one]
  congr 1
  omega
theorem pos_t {r : List Nat} {c : Nat} (hs : TSrc t src) (h : r <:+ src) (hc : r.head? = some c) : pos src r + 1 = pos src r.tail := by
  cases r with
  | nil => simp at hc
  | cons d r => exact pos_c hs h
theorem size_le {r : List Nat} (hs : TSrc t src) (h : r <:+ src) : (i3 t.2.1 ≤ pos src r) = (r = []) := by
  obtain ⟨h1, h2, h3⟩ := suf_lt hs h
  have := hs.2.2.1
  unfold pos
  rw [i3_le (by omega) (by omega)]
  refine propext ⟨fun h => List.length_eq_zero_iff.mp (by omega), fun h => ?_⟩
  rw [h, List.length_nil]
  omega
theorem pos_inj {r x : List Nat} (hs : TSrc t src) (h : r <:+ src) (h' : x <:+ src) (e : pos src r = pos src x) : r.length = x.length := by
  obtain ⟨_, h2, h3⟩ := suf_lt hs h
  obtain ⟨_, h4, _⟩ := suf_lt hs h'
  unfold pos at e
  rw [i3_eq (by omega) (by omega)] at e
  omega
theorem pos_m1 {r : List Nat} (hs : TSrc t src) (h : r <:+ src) : (pos src r = -1) = False := by
  obtain ⟨_, h2, h3⟩ := suf_lt hs h
  exact i3_m1 (by omega)
theorem isBlank_c {c : Nat} (hc : c < 256) : fD_isBlank n (i3 c) = some (if isB c then 1 else 0) := by
  unfold fD_isBlank isB
  rw [show (32 : Int32) = i3 32 from rfl, show (9 : Int32) = i3 9 from rfl, show (10 : Int32) = i3 10 from rfl, show (13 : Int32) = i3 13 from rfl]
  simp only [i3_eq (show c < 2147483648 by omega) (show 32 < 2147483648 by omega), i3_eq (show c < 2147483648 by omega) (show 9 < 2147483648 by omega), i3_eq (show c < 2147483648 by omega) (show 10 < 2147483648 by omega), i3_eq (show c < 2147483648 by omega) (show 13 < 2147483648 by omega)]
  by_cases h1 : c = 32
  · simp [h1]
  · by_cases h2 : c = 9
    · simp [h2]
    · by_cases h3 : c = 10
      · simp [h3]
      · by_cases h4 : c = 13
        · simp [h4]
        · simp [h1, h2, h3, h4]
theorem blanks_w (hs : TSrc t src) {f3 : Nat → Int64} {v4 v5 v7 : Int32} : ∀ (r : List Nat) (n : Nat), r <:+ src → r.length < n → fD_skipBlanks_b t.1 (i3 t.2.1) t.2.2 f3 v4 v5 v7 n 1 (pos src r) = some (pos src (blk r)) := by
  intro r
  induction r with
  | nil =>
    intro n h hn
    obtain ⟨n, rfl⟩ : ∃ j, n = j + 1 := ⟨n - 1, by omega⟩
    rw [fD_skipBlanks_b, show fT_size n t.1 (i3 t.2.1) t.2.2 = some (i3 t.2.1) from rfl, Option.bind_some, if_pos (by rw [size_le hs h])]
    rfl
  | cons c r ih =>
    intro n h hn
    obtain ⟨n, rfl⟩ : ∃ j, n = j + 1 := ⟨n - 1, by omega⟩
    rw [List.length_cons] at hn
    obtain ⟨h1, h2, h3⟩ := suf_lt hs h
    rw [fD_skipBlanks_b, show fT_size n t.1 (i3 t.2.1) t.2.2 = some (i3 t.2.1) from rfl, Option.bind_some, if_neg (by rw [size_le hs h]; simp), at_h hs h, Option.bind_some, show hv (c :: r) = i3 c from rfl, isBlank_c (h1 c (List.mem_cons_self ..)), Option.bind_some, blk]
    cases hb : isB c with
    | true =>
      rw [if_neg (by decide), if_pos rfl, pos_c hs h]
      exact ih n ((List.suffix_cons c r).trans h) (by omega)
    | false =>
      rw [if_pos (by decide), if_neg (by decide : ¬ (false = true))]
theorem skip_w (hs : TSrc t src) {f3 : Nat → Int64} {v4 v5 v7 : Int32} {r : List Nat} (h : r <:+ src) (hn : 4096 < n) : fD_skipBlanks n t.1 (i3 t.2.1) t.2.2 f3 v4 v5 (pos src r) v7 = some (pos src (blk r)) := by
  obtain ⟨h1, h2, h3⟩ := suf_lt hs h
  exact blanks_w hs r n h (by omega)
theorem take_w (hs : TSrc t src) {f3 : Nat → Int64} {v4 v5 v7 : Int32} {r : List Nat} {k : Nat} (hk : k < 256) (h : r <:+ src) : fD_take n (i3 k) t.1 (i3 t.2.1) t.2.2 f3 v4 v5 (pos src r) v7 = if r.head? = some k then some (1, pos src r.tail, v7) else some (0, pos src r, pos src r) := by
  obtain ⟨h1, h2, h3⟩ := suf_lt hs h
  unfold fD_take
  rw [at_h hs h, Option.bind_some]
  by_cases hc : r.head? = some k
  · rw [if_pos (by rw [hv_eq h1 hk]; exact hc), if_pos hc, pos_t hs h hc]
  · rw [if_neg (by rw [hv_eq h1 hk]; exact hc), if_neg hc]
    rfl
/-- what a part of the reader answers -/
abbrev Out6 : Type := Int32 × (Nat → Int64) × Int32 × Int32 × Int32 × Int32
def RO (r0 : RS) (src : List Nat) (v7 : Int32) (out : Option Out6) (res : List Nat ⊕ (List Int64 × List Nat)) : Prop := match res with
  | .inl x => ∃ (r' : RS) (a : Int32), out = some (0, r'.1, i3 r'.2.1, r'.2.2, a, pos src x) ∧ RV r' ∧ x <:+ src
  | .inr (w, rest) => ∃ r' : RS, out = some (1, r'.1, i3 r'.2.1, r'.2.2, pos src rest, v7) ∧ Wr r0 w r' ∧ rest <:+ src
theorem RO.chk {r0 : RS} {v7 : Int32} {out : Option Out6} {res : List Nat ⊕ (List Int64 × List Nat)} (h : RO r0 src v7 out res) : RO r0 src v7 (out.bind fun o => if ¬ (o.1 = 0 ∨ o.1 = 1) then none else some (o.1, o.2.1, o.2.2.1, o.2.2.2.1, o.2.2.2.2.1, o.2.2.2.2.2)) res := by
  cases res with
  | inl x =>
    obtain ⟨r', a, e, h1, h2⟩ := h
    refine ⟨r', a, ?_, h1, h2⟩
    rw [e, Option.bind_some, if_neg (by simp)]
  | inr q =>
    obtain ⟨w, rest⟩ := q
    obtain ⟨r', e, h1, h2⟩ := h
    refine ⟨r', ?_, h1, h2⟩
    rw [e, Option.bind_some, if_neg (by simp)]
theorem word_r (hs : TSrc t src) {r0 : RS} (hr0 : RV r0) {v7 : Int32} {r : List Nat} (h : r <:+ src) : RO r0 src v7 (fD_lettersa n 0 t.1 (i3 t.2.1) t.2.2 r0.1 (i3 r0.2.1) r0.2.2 (pos src r) v7) (match pw (wd 0) r with | .inl x => .inl x | .inr r1 => .inr ([cW (0 : Nat)], r1)) ∧ RO r0 src v7 (fD_letters n 1 t.1 (i3 t.2.1) t.2.2 r0.1 (i3 r0.2.1) r0.2.2 (pos src r) v7) (match pw (wd 1) r with | .inl x => .inl x | .inr r1 => .inr ([cW (1 : Nat)], r1)) ∧ RO r0 src v7 (fD_lettersb n 2 t.1 (i3 t.2.1) t.2.2 r0.1 (i3 r0.2.1) r0.2.2 (pos src r) v7) (match pw (wd 2) r with | .inl x => .inl x | .inr r1 => .inr ([cW (2 : Nat)], r1)) := by
  -- one letter
  have step : ∀ (k : Nat) (w : List Nat) (j : Nat) (r : List Nat) (K : Int32 × Int32 × Int32 → Option Out6), k < 256 → r <:+ src → (∀ r1, r1 <:+ src → RO r0 src v7 (K (1, pos src r1, v7)) (match pw w r1 with | .inl x => .inl x | .inr r1 => .inr ([cW (j : Nat)], r1))) → RO r0 src v7 ((fD_take n (i3 k) t.1 (i3 t.2.1) t.2.2 r0.1 (i3 r0.2.1) r0.2.2 (pos src r) v7).bind fun o3 => if o3.1 = 0 then some (0, r0.1, i3 r0.2.1, r0.2.2, o3.2.1, o3.2.2) else K o3) (match pw (k :: w) r with | .inl x => .inl x | .inr r1 => .inr ([cW (j : Nat)], r1)) := by
    intro k w j r K hk hsuf hK
    rw [take_w hs hk hsuf]
    cases r with
    | nil =>
      rw [if_neg (by simp), Option.bind_some, if_pos rfl]
      exact ⟨r0, _, rfl, hr0, hsuf⟩
    | cons d r =>
      rw [pw]
      by_cases hd : d = k
      · subst hd
        rw [if_pos (by simp), if_pos rfl, Option.bind_some, if_neg (show ¬ (1 : Int32) = 0 by decide)]
        exact hK r ((List.suffix_cons d r).trans hsuf)
      · rw [if_neg (by simp; exact hd), if_neg hd, Option.bind_some, if_pos rfl]
        exact ⟨r0, _, rfl, hr0, hsuf⟩
  have last : ∀ (j : Nat) (hj : j < 3) (r1 : List Nat), r1 <:+ src → RO r0 src v7 ((fR_put n (i3 j).toInt64 r0.1 (i3 r0.2.1) r0.2.2).bind fun o27 => some (1, o27.1, o27.2.1, o27.2.2, pos src r1, v7)) (match pw [] r1 with | .inl x => .inl x | .inr r1 => .inr ([cW (j : Nat)], r1)) := by
    intro j hj r1 hr1
    obtain ⟨r2, e2, w2⟩ := put_w (n := n) hr0 (cW (j : Nat))
    rw [i3_64 (by omega), e2]
    exact ⟨r2, rfl, w2, hr1⟩
  refine ⟨?_, ?_, ?_⟩
  · unfold fD_lettersa
    refine step 110 [117, 108, 108] 0 r _ (by omega) h (fun r1 h1 => ?_)
    refine step 117 [108, 108] 0 r1 _ (by omega) h1 (fun r2 h2 => ?_)
    refine step 108 [108] 0 r2 _ (by omega) h2 (fun r3 h3 => ?_)
    refine step 108 [] 0 r3 _ (by omega) h3 (fun r4 h4 => ?_)
    exact last 0 (by omega) r4 h4
  · unfold fD_letters
    refine step 102 [97, 108, 115, 101] 1 r _ (by omega) h (fun r1 h1 => ?_)
    refine step 97 [108, 115, 101] 1 r1 _ (by omega) h1 (fun r2 h2 => ?_)
    refine step 108 [115, 101] 1 r2 _ (by omega) h2 (fun r3 h3 => ?_)
    refine step 115 [101] 1 r3 _ (by omega) h3 (fun r4 h4 => ?_)
    refine step 101 [] 1 r4 _ (by omega) h4 (fun r5 h5 => ?_)
    exact last 1 (by omega) r5 h5
  · unfold fD_lettersb
    refine step 116 [114, 117, 101] 2 r _ (by omega) h (fun r1 h1 => ?_)
    refine step 114 [117, 101] 2 r1 _ (by omega) h1 (fun r2 h2 => ?_)
    refine step 117 [101] 2 r2 _ (by omega) h2 (fun r3 h3 => ?_)
    refine step 101 [] 2 r3 _ (by omega) h3 (fun r4 h4 => ?_)
    exact last 2 (by omega) r4 h4
/-! numbers -/
theorem isDigit_h {r : List Nat} (hr : ∀ c ∈ r, c < 256) : fD_isDigit n (hv r) = some (if hD r then 1 else 0) := by
  cases r with
  | nil => rfl
  | cons c r =>
    have hc := hr c (List.mem_cons_self ..)
    show fD_isDigit n (i3 c) = some (if isD c then 1 else 0)
    unfold fD_isDigit isD
    by_cases h1 : c < 48
    · rw [if_pos (by rw [show (48 : Int32) = i3 48 from rfl, i3_lt (by omega) (by omega)]; exact h1)]
      simp; omega
    · rw [if_neg (by rw [show (48 : Int32) = i3 48 from rfl, i3_lt (by omega) (by omega)]; exact h1)]
      by_cases h2 : 57 < c
      · rw [if_pos (by rw [show (57 : Int32) = i3 57 from rfl, i3_lt (by omega) (by omega)]; exact h2)]
        simp; omega
      · rw [if_neg (by rw [show (57 : Int32) = i3 57 from rfl, i3_lt (by omega) (by omega)]; exact h2)]
        simp; omega
theorem digits_l (hs : TSrc t src) {f3 : Nat → Int64} {v4 v5 v7 : Int32} : ∀ (r : List Nat) (n v y : Nat), r <:+ src → r.length < n → 1 ≤ y → y ≤ 90071992547409919 → ((y = v ∧ v ≤ 9007199254740991) ∨ (9007199254740991 < y ∧ 9007199254740991 < v)) →
    ∃ y' : Nat, fD_digits_b t.1 (i3 t.2.1) t.2.2 f3 v4 v5 v7 n 1 (cW (y : Int)) (pos src r) = some (cW (y' : Int), pos src (dv v r).2) ∧ y' ≤ 90071992547409919 ∧ ((y' = (dv v r).1 ∧ (dv v r).1 ≤ 9007199254740991) ∨ (9007199254740991 < y' ∧ 9007199254740991 < (dv v r).1)) := by
  intro r
  induction r with
  | nil =>
    intro n v y h hn hy hy2 hvy
    obtain ⟨n, rfl⟩ : ∃ j, n = j + 1 := ⟨n - 1, by omega⟩
    refine ⟨y, ?_, hy2, hvy⟩
    rw [fD_digits_b, show (0 : Int64) = cW 0 from rfl, lg_cW (by omega) (by omega) (by omega) (by omega), if_neg (by rw [izs_le0]; omega), show fT_size n t.1 (i3 t.2.1) t.2.2 = some (i3 t.2.1) from rfl, Option.bind_some, if_pos (by rw [size_le hs h])]
    rfl
  | cons c r ih =>
    intro n v y h hn hy hy2 hvy
    obtain ⟨n, rfl⟩ : ∃ j, n = j + 1 := ⟨n - 1, by omega⟩
    rw [List.length_cons] at hn
    obtain ⟨h1, h2, h3⟩ := suf_lt hs h
    have hc := h1 c (List.mem_cons_self ..)
    rw [fD_digits_b, show (0 : Int64) = cW 0 from rfl, lg_cW (by omega) (by omega) (by omega) (by omega), if_neg (by rw [izs_le0]; omega), show fT_size n t.1 (i3 t.2.1) t.2.2 = some (i3 t.2.1) from rfl, Option.bind_some, if_neg (by rw [size_le hs h]; simp), at_h hs h, Option.bind_some, isDigit_h h1, Option.bind_some, dv, show hD (c :: r) = isD c from rfl]
    by_cases hd : isD c = true
    case neg =>
      rw [if_neg hd, if_pos (by decide), if_neg hd]
      exact ⟨y, rfl, hy2, hvy⟩
    case pos =>
      have hd2 : 48 ≤ c ∧ c < 58 := by
        unfold isD at hd
        simpa using hd
      rw [if_pos hd, if_neg (by decide), if_pos hd, show (9007199254740991 : Int64) = cW 9007199254740991 from rfl, lg_cW (by omega) (by omega) (by omega) (by omega), pos_c hs h]
      by_cases hG : y ≤ 9007199254740991
      · have hyv : y = v ∧ v ≤ 9007199254740991 := by omega
        rw [if_pos (by rw [izs_le0]; omega), Option.bind_some, show hv (c :: r) = i3 c from rfl, i3_64 (by omega), show (10 : Int64) = cW 10 from rfl, cW_mul, cW_add, show (48 : Int64) = cW 48 from rfl, cW_sub]
        have e1 : ((y : Int) * 10 + (c : Nat) - 48) = ((10 * v + (c - 48) : Nat) : Int) := by omega
        rw [e1]
        exact ih n (10 * v + (c - 48)) (10 * v + (c - 48)) ((List.suffix_cons c r).trans h) (by omega) (by omega) (by omega) (by omega)
      · rw [if_neg (by rw [izs_le0]; omega)]
        exact ih n (10 * v + (c - 48)) y ((List.suffix_cons c r).trans h) (by omega) hy hy2 (by omega)
theorem digits_w (hs : TSrc t src) {f3 : Nat → Int64} {v4 v5 v7 : Int32} (hn : 5000 < n) {r : List Nat} {v : Nat} {r2 : List Nat} (h : r <:+ src) (hp : pD r = some (v, r2)) : ∃ y' : Nat, fD_digits n t.1 (i3 t.2.1) t.2.2 f3 v4 v5 (pos src r) v7 = some (cW (y' : Int), pos src r2) ∧ y' ≤ 90071992547409919 ∧ ((y' = v ∧ v ≤ 9007199254740991) ∨ (9007199254740991 < y' ∧ 9007199254740991 < v)) := by
  obtain ⟨h1, h2, h3⟩ := suf_lt hs h
  cases r with
  | nil => simp [pD] at hp
  | cons c r =>
    have hc := h1 c (List.mem_cons_self ..)
    rw [pD] at hp
    cases hd : isD c with
    | false => rw [hd, if_neg (by decide : ¬ (false = true))] at hp; simp at hp
    | true =>
      have hd2 : 48 ≤ c ∧ c < 58 := by
        unfold isD at hd
        simpa using hd
      rw [hd, if_pos rfl] at hp
      have hsub : (i3 c - (48 : Int32)).toInt64 = cW ((c - 48 : Nat) : Int) := by
        rw [show (48 : Int32) = i3 48 from rfl, i3_sub (by omega), i3_64 (by omega)]
      unfold fD_digits
      rw [at_h hs h, Option.bind_some, show hv (c :: r) = i3 c from rfl, hsub, pos_c hs h]
      by_cases h48 : c = 48
      · rw [if_pos h48] at hp
        obtain ⟨rfl, rfl⟩ := Prod.mk.inj (Option.some.inj hp)
        obtain ⟨n, rfl⟩ : ∃ j, n = j + 1 := ⟨n - 1, by omega⟩
        refine ⟨0, ?_, by omega, by omega⟩
        subst h48
        rw [fD_digits_b, if_pos (by decide)]
      · rw [if_neg h48] at hp
        have hp2 := Option.some.inj hp
        have := digits_l hs (f3 := f3) (v4 := v4) (v5 := v5) (v7 := v7) r n (c - 48) (c - 48) ((List.suffix_cons c r).trans h) (by rw [List.length_cons] at h2; omega) (by omega) (by omega) (by omega)
        rw [hp2] at this
        exact this
theorem pD_none {r : List Nat} : pD r = none ↔ hD r = false := by
  cases r with
  | nil => exact ⟨fun _ => rfl, fun _ => rfl⟩
  | cons c r =>
    rw [pD, show hD (c :: r) = isD c from rfl]
    by_cases h : isD c = true
    · rw [if_pos h, h]
      split <;> simp
    · rw [if_neg h]
      simpa using h
theorem number_r (hs : TSrc t src) (hn : 5000 < n) {r0 : RS} (hr0 : RV r0) {v7 : Int32} {r : List Nat} (h : r <:+ src) : RO r0 src v7 (fD_number n t.1 (i3 t.2.1) t.2.2 r0.1 (i3 r0.2.1) r0.2.2 (pos src r) v7) (mp (fun z => [cW (z * 8 + 3)]) (pN r)) := by
  obtain ⟨h1, h2, h3⟩ := suf_lt hs h
  unfold fD_number
  rw [at_h hs h, Option.bind_some, Option.bind_some]
  -- with the digits at r1, the number begun at r
  have core : ∀ (r1 : List Nat) (sgn : Int), r1 <:+ src → (sgn = 1 ∨ sgn = -1) → RO r0 src v7 ((fD_isDigit n (hv r1)).bind fun o7 => (if o7 = 0 then (fD_broken n (pos src r1) t.1 (i3 t.2.1) t.2.2 r0.1 (i3 r0.2.1) r0.2.2 (pos src r1) v7).bind fun o10 => if ¬ (o10.1 = 0 ∨ o10.1 = 1) then none else some (o10.1, r0.1, i3 r0.2.1, r0.2.2, (pos src r1), o10.2) else (fD_digits n t.1 (i3 t.2.1) t.2.2 r0.1 (i3 r0.2.1) r0.2.2 (pos src r1) v7).bind fun o10 => (if (lg_cmp o10.1 9007199254740991) ≤ 0 then (fR_putNumber n (if sgn = 1 then o10.1 else - o10.1) r0.1 (i3 r0.2.1) r0.2.2).bind fun o13 => some (1, o13.1, o13.2.1, o13.2.2, o10.2, v7) else (fD_broken n (pos src r) t.1 (i3 t.2.1) t.2.2 r0.1 (i3 r0.2.1) r0.2.2 o10.2 v7).bind fun o13 => if ¬ (o13.1 = 0 ∨ o13.1 = 1) then none else some (o13.1, r0.1, i3 r0.2.1, r0.2.2, o10.2, o13.2)))) (mp (fun z => [cW (z * 8 + 3)]) (pNd r r1 sgn)) := by
    intro r1 sgn hr1 hsg
    unfold pNd
    obtain ⟨k1, k2, k3⟩ := suf_lt hs hr1
    rw [isDigit_h k1, Option.bind_some]
    cases hp : pD r1 with
    | none =>
      rw [pD_none.mp hp, if_neg (by decide : ¬ (false = true)), if_pos rfl]
      exact ⟨r0, _, rfl, hr0, hr1⟩
    | some q =>
      obtain ⟨v, r2⟩ := q
      have hd : hD r1 = true := by
        cases hb : hD r1 with
        | true => rfl
        | false => rw [pD_none.mpr hb] at hp; simp at hp
      obtain ⟨y, e1, y1, y2⟩ := digits_w hs (n := n) (f3 := r0.1) (v4 := i3 r0.2.1) (v5 := r0.2.2) (v7 := v7) hn hr1 hp
      have hsuf2 := (pD_suf hp).1
      rw [hd, if_pos rfl, if_neg (by decide), e1, Option.bind_some]
      dsimp only
      rw [show (9007199254740991 : Int64) = cW 9007199254740991 from rfl, lg_cW (by omega) (by omega) (by omega) (by omega)]
      by_cases hv9 : 9007199254740991 < v
      · rw [if_neg (by rw [izs_le0]; omega), if_pos hv9]
        exact ⟨r0, _, rfl, hr0, h⟩
      · rw [if_pos (by rw [izs_le0]; omega), if_neg hv9]
        have hyv : y = v := by omega
        obtain ⟨r3, e3, w3⟩ := putNumber_w (n := n) hr0 (sgn * (v : Int))
        have e4 : (if sgn = 1 then cW (y : Int) else - cW (y : Int)) = cW (sgn * (v : Int)) := by
          rcases hsg with rfl | rfl
          · rw [if_pos rfl, hyv, Int.one_mul]
          · rw [if_neg (by decide), cW_neg, hyv]
            congr 1
            omega
        rw [e4, e3]
        exact ⟨r3, rfl, w3, hsuf2.trans hr1⟩
  unfold pN
  cases r with
  | nil =>
    rw [if_neg (by decide), if_neg (by simp)]
    exact core [] 1 h (Or.inl rfl)
  | cons c r1 =>
    by_cases hc : c = 45
    · subst hc
      have hsf := (List.suffix_cons 45 r1).trans h
      rw [if_pos (by rfl), pos_c hs h, at_h hs hsf, Option.bind_some, if_pos (by rfl)]
      have := core r1 (-1) hsf (Or.inr rfl)
      simp only [show ¬ ((-1 : Int) = 1) by decide, if_false] at this
      exact this
    · have hcl := h1 c (List.mem_cons_self ..)
      rw [if_neg (by rw [show hv (c :: r1) = i3 c from rfl, show (45 : Int32) = i3 45 from rfl, i3_eq (by omega) (by omega)]; exact hc), if_neg (by simpa using hc)]
      have := core (c :: r1) 1 h (Or.inl rfl)
      simp only [if_true] at this
      exact this
end RD
end ZRd36
