/-! ===== what the names in order are ===== -/
def Good {α : Type} (c : α → α → Int) : Prop := (∀ a b, c b a = - c a b) ∧ (∀ a b e, c a b ≤ 0 → c b e ≤ 0 → c a e ≤ 0) ∧ (∀ a b, -1 ≤ c a b ∧ c a b ≤ 1)
section GD
variable {α : Type} {c : α → α → Int}
theorem Good.refl (h : Good c) (a : α) : c a a = 0 := by
  have := h.1 a a
  omega
theorem Good.lt_trans (h : Good c) {a b e : α} (h1 : c a b ≤ 0) (h2 : c b e < 0) : c a e < 0 := by
  have h3 := h.2.1 a b e h1 (by omega)
  have h4 := h.1 a e
  have h5 := h.1 b e
  by_cases h6 : c a e = 0
  · have h7 := h.2.1 e a b (by omega) h1
    omega
  · omega
theorem Good.lt_trans' (h : Good c) {a b e : α} (h1 : c a b < 0) (h2 : c b e ≤ 0) : c a e < 0 := by
  have h3 := h.2.1 a b e (by omega) h2
  have h4 := h.1 a e
  have h5 := h.1 a b
  by_cases h6 : c a e = 0
  · have h7 := h.2.1 b e a h2 (by omega)
    omega
  · omega
/-- what is equal to another orders as it does -/
theorem Good.cong (h : Good c) {a b : α} (h1 : c a b = 0) (e : α) : c a e = c b e := by
  have h2 := h.1 a b
  have h3 := h.2.2 a e
  have h4 := h.2.2 b e
  have h5 := h.1 a e
  have h6 := h.1 b e
  by_cases g1 : c b e < 0
  · have := h.lt_trans (a := a) (by omega) g1
    omega
  · by_cases g2 : c b e = 0
    · have a1 := h.2.1 a b e (by omega) (by omega)
      have a2 := h.2.1 e b a (by omega) (by omega)
      omega
    · have := h.lt_trans' (a := e) (b := b) (e := a) (by omega) (by omega)
      omega
theorem lexC_good (h : Good c) : Good (lexC c) := by
  refine ⟨fun a => ?_, fun a => ?_, lexC_le h.2.2⟩
  · induction a with
    | nil => intro b; cases b <;> (unfold lexC; omega)
    | cons x a ih =>
      intro b
      cases b with
      | nil => unfold lexC; omega
      | cons y b =>
        rw [lexC_cons, lexC_cons]
        have h1 := h.1 x y
        by_cases h2 : c x y = 0
        · rw [if_pos h2, if_pos (by omega), ih]
        · rw [if_neg h2, if_neg (by omega), h1]
  · induction a with
    | nil =>
      intro b e h1 h2
      cases e with
      | nil => unfold lexC; omega
      | cons z e => unfold lexC; omega
    | cons x a ih =>
      intro b e h1 h2
      cases b with
      | nil => rw [lexC_cons_nil] at h1; omega
      | cons y b =>
        cases e with
        | nil => rw [lexC_cons_nil] at h2; omega
        | cons z e =>
          rw [lexC_cons] at h1 h2 ⊢
          by_cases g1 : c x y = 0
          · rw [if_pos g1] at h1
            rw [h.cong g1 z]
            by_cases g2 : c y z = 0
            · rw [if_pos g2] at h2 ⊢
              exact ih b e h1 h2
            · rw [if_neg g2] at h2 ⊢
              exact h2
          · rw [if_neg g1] at h1
            have h3 : c x z < 0 := by
              apply h.lt_trans' (b := y) (by omega)
              by_cases g2 : c y z = 0
              · omega
              · rw [if_neg g2] at h2
                exact h2
            rw [if_neg (by omega)]
            omega
end GD
theorem sg_good {α : Type} (g : α → Int) : Good (fun x y => sg (g x - g y)) := by
  refine ⟨fun a b => ?_, fun a b e h1 h2 => ?_, fun a b => sg_le _⟩
  · dsimp only
    rw [← sg_neg]
    congr 1
    omega
  · dsimp only at *
    have g1 := sg_gt0 (g a - g b)
    have g2 := sg_gt0 (g b - g e)
    have g3 := sg_gt0 (g a - g e)
    omega
theorem cS_good : Good cS := lexC_good (sg_good (fun x : Nat => (x : Int)))
theorem objC_good {α : Type} {c : α → α → Int} (h : Good c) : Good (objC c) := by
  have h1 := lexC_good cS_good
  have h2 := lexC_good h
  refine ⟨fun a b => ?_, fun a b e => ?_, fun a b => ?_⟩
  · unfold objC
    have g1 := h1.1 ((srt a).map (fun p => p.1)) ((srt b).map (fun p => p.1))
    have g2 := h2.1 ((srt a).map (fun p => p.2)) ((srt b).map (fun p => p.2))
    split <;> split <;> omega
  · unfold objC
    intro ha hb
    by_cases g1 : lexC cS ((srt a).map (fun p => p.1)) ((srt b).map (fun p => p.1)) = 0
    · rw [if_pos g1] at ha
      rw [h1.cong g1]
      by_cases g2 : lexC cS ((srt b).map (fun p => p.1)) ((srt e).map (fun p => p.1)) = 0
      · rw [if_pos g2] at hb ⊢
        exact h2.2.1 _ _ _ ha hb
      · rw [if_neg g2] at hb ⊢
        exact hb
    · rw [if_neg g1] at ha
      have h3 : lexC cS ((srt a).map (fun p => p.1)) ((srt e).map (fun p => p.1)) < 0 := by
        apply h1.lt_trans' (b := (srt b).map (fun p => p.1)) (by omega)
        by_cases g2 : lexC cS ((srt b).map (fun p => p.1)) ((srt e).map (fun p => p.1)) = 0
        · omega
        · rw [if_neg g2] at hb
          exact hb
      rw [if_neg (by omega)]
      omega
  · unfold objC
    split
    · exact h2.2.2 _ _
    · exact h1.2.2 _ _
theorem rk_same {d : Nat} {x y : JT (d + 1)} (h : rk (d + 1) x = rk (d + 1) y) : (∃ a b, x = jk a ∧ y = jk b ∧ min a 2 = min b 2) ∨ (∃ a b, x = jn a ∧ y = jn b) ∨ (∃ a b, x = js a ∧ y = js b) ∨ (∃ a b, x = ja a ∧ y = ja b) ∨ (∃ a b, x = jo a ∧ y = jo b) := by
  rcases jcases x with ⟨k, rfl⟩ | ⟨z, rfl⟩ | ⟨s, rfl⟩ | ⟨l, rfl⟩ | ⟨l, rfl⟩ <;> rcases jcases y with ⟨k', rfl⟩ | ⟨z', rfl⟩ | ⟨s', rfl⟩ | ⟨l', rfl⟩ | ⟨l', rfl⟩
  case inl.inl => exact Or.inl ⟨_, _, rfl, rfl, h⟩
  case inr.inl.inr.inl => exact Or.inr (Or.inl ⟨_, _, rfl, rfl⟩)
  case inr.inr.inl.inr.inr.inl => exact Or.inr (Or.inr (Or.inl ⟨_, _, rfl, rfl⟩))
  case inr.inr.inr.inl.inr.inr.inr.inl => exact Or.inr (Or.inr (Or.inr (Or.inl ⟨_, _, rfl, rfl⟩)))
  case inr.inr.inr.inr.inr.inr.inr.inr => exact Or.inr (Or.inr (Or.inr (Or.inr ⟨_, _, rfl, rfl⟩)))
  all_goals
    exfalso
    simp only [rk, jk, jn, js, ja, jo] at h
    omega
theorem jn_inj {d : Nat} {a b : Int} (h : (jn a : JT (d + 1)) = jn b) : a = b := by
  unfold jn at h
  exact Sum.inl.inj (Sum.inr.inj (Sum.inl.inj h))
theorem js_inj {d : Nat} {a b : Sx} (h : (js a : JT (d + 1)) = js b) : a = b := by
  unfold js at h
  exact Sum.inr.inj (Sum.inr.inj (Sum.inl.inj h))
theorem ja_inj {d : Nat} {a b : List (JT d)} (h : (ja a : JT (d + 1)) = ja b) : a = b := by
  unfold ja at h
  exact Sum.inl.inj (Sum.inr.inj h)
theorem jo_inj {d : Nat} {a b : List (Sx × JT d)} (h : (jo a : JT (d + 1)) = jo b) : a = b := by
  unfold jo at h
  exact Sum.inr.inj (Sum.inr.inj h)
theorem jcmp_good : ∀ d : Nat, Good (jcmp d) := by
  intro d
  induction d with
  | zero => exact ⟨fun x => (j0 x).elim, fun x => (j0 x).elim, fun x => (j0 x).elim⟩
  | succ d ih =>
    have hn := sg_good (fun x : Int => x)
    have ha := lexC_good ih
    have ho := objC_good ih
    refine ⟨fun a b => ?_, fun a b e h1 h2 => ?_, jcmp_le (d + 1)⟩
    · by_cases h : rk (d + 1) a = rk (d + 1) b
      · rcases rk_same h with ⟨x, y, rfl, rfl, h⟩ | ⟨x, y, rfl, rfl⟩ | ⟨x, y, rfl, rfl⟩ | ⟨x, y, rfl, rfl⟩ | ⟨x, y, rfl, rfl⟩
        · rw [jcmp_k, jcmp_k, ← sg_neg]
          congr 1
          omega
        · exact hn.1 x y
        · exact cS_good.1 x y
        · exact ha.1 x y
        · exact ho.1 x y
      · rw [jcmp_ne h, jcmp_ne (fun h2 => h h2.symm), ← sg_neg]
        congr 1
        omega
    · have le : ∀ x y : JT (d + 1), jcmp (d + 1) x y ≤ 0 → rk (d + 1) x ≤ rk (d + 1) y := fun x y h => by
        by_cases h3 : rk (d + 1) x = rk (d + 1) y
        · omega
        · rw [jcmp_ne h3] at h
          have := sg_gt0 ((rk (d + 1) x : Int) - rk (d + 1) y)
          omega
      have l1 := le a b h1
      have l2 := le b e h2
      by_cases h : rk (d + 1) a = rk (d + 1) e
      · have g1 : rk (d + 1) a = rk (d + 1) b := by omega
        have g2 : rk (d + 1) b = rk (d + 1) e := by omega
        rcases rk_same g1 with ⟨x, y, rfl, rfl, h3⟩ | ⟨x, y, rfl, rfl⟩ | ⟨x, y, rfl, rfl⟩ | ⟨x, y, rfl, rfl⟩ | ⟨x, y, rfl, rfl⟩
        · rcases rk_same h with ⟨x', z, e1, rfl, h4⟩ | ⟨x', z, e1, rfl⟩ | ⟨x', z, e1, rfl⟩ | ⟨x', z, e1, rfl⟩ | ⟨x', z, e1, rfl⟩
          · rw [jcmp_k]
            have : rk (d + 1) (jk x) = rk (d + 1) (jk z) := h
            have h5 : min x 2 = min z 2 := this
            rw [h5, Int.sub_self]
            decide
          all_goals
            exfalso
            have := congrArg (rk (d + 1)) e1
            simp only [rk, jk, jn, js, ja, jo] at this
            omega
        · rcases rk_same g2 with ⟨x', z, e1, rfl, h4⟩ | ⟨x', z, e1, rfl⟩ | ⟨x', z, e1, rfl⟩ | ⟨x', z, e1, rfl⟩ | ⟨x', z, e1, rfl⟩
          case inr.inl => exact hn.2.1 x y z h1 h2
          all_goals
            exfalso
            have := congrArg (rk (d + 1)) e1
            simp only [rk, jk, jn, js, ja, jo] at this
            omega
        · rcases rk_same g2 with ⟨x', z, e1, rfl, h4⟩ | ⟨x', z, e1, rfl⟩ | ⟨x', z, e1, rfl⟩ | ⟨x', z, e1, rfl⟩ | ⟨x', z, e1, rfl⟩
          case inr.inr.inl => exact cS_good.2.1 x y z h1 h2
          all_goals
            exfalso
            have := congrArg (rk (d + 1)) e1
            simp only [rk, jk, jn, js, ja, jo] at this
            omega
        · rcases rk_same g2 with ⟨x', z, e1, rfl, h4⟩ | ⟨x', z, e1, rfl⟩ | ⟨x', z, e1, rfl⟩ | ⟨x', z, e1, rfl⟩ | ⟨x', z, e1, rfl⟩
          case inr.inr.inr.inl => exact ha.2.1 x y z h1 h2
          all_goals
            exfalso
            have := congrArg (rk (d + 1)) e1
            simp only [rk, jk, jn, js, ja, jo] at this
            omega
        · rcases rk_same g2 with ⟨x', z, e1, rfl, h4⟩ | ⟨x', z, e1, rfl⟩ | ⟨x', z, e1, rfl⟩ | ⟨x', z, e1, rfl⟩ | ⟨x', z, e1, rfl⟩
          case inr.inr.inr.inr => exact ho.2.1 x y z h1 h2
          all_goals
            exfalso
            have := congrArg (rk (d + 1)) e1
            simp only [rk, jk, jn, js, ja, jo] at this
            omega
      · rw [jcmp_ne h]
        have := sg_gt0 ((rk (d + 1) a : Int) - rk (d + 1) e)
        omega
