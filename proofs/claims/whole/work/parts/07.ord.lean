section ZOrd14
/-! ===== one row twice is two rows ===== -/
theorem al_oos_b {f : Nat → Int64} {v o : Int32} : ∀ (n lb : Nat) (a b c d e g : Int32), fR_orderOfStrings_b f v o n lb a b c d e g = fR_orderOfStringsa_b f v o f v o n lb a b c d e g := by
  intro n
  induction n with
  | zero => intros; rfl
  | succ n ih => intros; simp only [fR_orderOfStrings_b, fR_orderOfStringsa_b, ih]
theorem al_oos {f : Nat → Int64} {v o : Int32} {n : Nat} {x y : Int32} : fR_orderOfStrings n x y f v o = fR_orderOfStringsa n x y f v o f v o := by
  simp only [fR_orderOfStrings, fR_orderOfStringsa, al_oos_b]
theorem al_vo_b {f : Nat → Int64} {v o : Int32} : ∀ (n lb : Nat) (a b c d : Int32), fR_valueOf_b f v o n lb a b c d = fR_valueOfa_b f v o f v o n lb a b c d := by
  intro n
  induction n with
  | zero => intros; rfl
  | succ n ih => intros; simp only [fR_valueOf_b, fR_valueOfa_b, ih, al_oos]
theorem al_vo {f : Nat → Int64} {v o : Int32} {n : Nat} {x y : Int32} : fR_valueOf n x y f v o = fR_valueOfa n x y f v o f v o := by
  simp only [fR_valueOf, fR_valueOfa, al_vo_b]
theorem al_hp_b {f : Nat → Int64} {v o : Int32} : ∀ (n lb : Nat) (a b c d e : Int32), fR_hasPart_b f v o n lb a b c d e = fR_hasParta_b f v o f v o n lb a b c d e := by
  intro n
  induction n with
  | zero => intros; rfl
  | succ n ih => intros; simp only [fR_hasPart_b, fR_hasParta_b, ih]
theorem al_hp {f : Nat → Int64} {v o : Int32} {n : Nat} {x y z : Int32} : fR_hasPart n x y z f v o = fR_hasParta n x y z f v o f v o := by
  simp only [fR_hasPart, fR_hasParta, al_hp_b]
theorem al_ofa_b {f : Nat → Int64} {v o : Int32} {r1 : Int32 → Int32 → Int32 → (Nat → Int64) → Int32 → Int32 → Option Int32} {r2 : Int32 → Int32 → Int32 → (Nat → Int64) → Int32 → Int32 → (Nat → Int64) → Int32 → Int32 → Option Int32} (hr : ∀ x y z, r1 x y z f v o = r2 x y z f v o f v o) : ∀ (n lb : Nat) (a b c d e g h : Int32), fO_ofArraysa_b r1 f v o n lb a b c d e g h = fO_ofArrays_b r2 f v o f v o n lb a b c d e g h := by
  intro n
  induction n with
  | zero => intros; rfl
  | succ n ih => intros; simp only [fO_ofArraysa_b, fO_ofArrays_b, ih, hr]
theorem al_ofo_b {f : Nat → Int64} {v o : Int32} {r1 : Int32 → Int32 → Int32 → (Nat → Int64) → Int32 → Int32 → Option Int32} {r2 : Int32 → Int32 → Int32 → (Nat → Int64) → Int32 → Int32 → (Nat → Int64) → Int32 → Int32 → Option Int32} (hr : ∀ x y z, r1 x y z f v o = r2 x y z f v o f v o) : ∀ (n lb : Nat) (a b c d e g h i : Int32), fO_ofObjectsa_b r1 f v o n lb a b c d e g h i = fO_ofObjects_b r2 f v o f v o n lb a b c d e g h i := by
  intro n
  induction n with
  | zero => intros; rfl
  | succ n ih => intros; simp only [fO_ofObjectsa_b, fO_ofObjects_b, ih, hr, al_oos]
theorem al_of {f : Nat → Int64} {v o : Int32} {n : Nat} : ∀ (d : Nat) (x y z : Int32), fO_ofa d n x y z f v o = fO_of d n x y z f v o f v o := by
  intro d
  induction d with
  | zero => intros; rfl
  | succ d ih =>
    intros
    simp only [fO_ofa, fO_of, fO_ofArraysa, fO_ofArrays, fO_ofObjectsa, fO_ofObjects, al_ofa_b (r2 := fO_of d n) ih, al_ofo_b (r2 := fO_of d n) ih, al_oos]
theorem al_same {f : Nat → Int64} {v o : Int32} {d n : Nat} {x y : Int32} : fO_isSamea d n x y f v o = fO_isSame d n x y f v o f v o := by
  simp only [fO_isSamea, fO_isSame, al_of]
/-! ===== comparisons ===== -/
theorem JI_cmp {n a b : Nat} (ha : a < 2147483648) (hb : b < 2147483648) : fJI_compare n (i3 a) (i3 b) = some (iz (sg ((a : Int) - b))) := by
  unfold fJI_compare
  by_cases h : b ≤ a
  · rw [if_pos (by rw [i3_le hb ha]; exact h)]
    by_cases h2 : a = b
    · rw [if_pos (by rw [h2]), show sg ((a : Int) - b) = 0 by rw [sg_eq0]; omega]
      rfl
    · rw [if_neg (by rw [i3_eq ha hb]; exact h2), show sg ((a : Int) - b) = 1 by unfold sg; rw [if_neg (by omega), if_neg (by omega)]]
      rfl
  · rw [if_neg (by rw [i3_le hb ha]; exact h), show sg ((a : Int) - b) = -1 by unfold sg; rw [if_pos (by omega)]]
    rfl
theorem JL_cmp {n : Nat} {a b : Int} (h1 : -9223372036854775808 ≤ a) (h2 : a < 9223372036854775808) (h3 : -9223372036854775808 ≤ b) (h4 : b < 9223372036854775808) : fJL_compare n (cW a) (cW b) = some (iz (sg (a - b))) := by
  unfold fJL_compare
  rw [lg_cW h1 h2 h3 h4]
  by_cases h : 0 ≤ a - b
  · rw [if_pos (by rw [izs_ge0]; exact h)]
    by_cases h2 : a - b = 0
    · rw [if_pos (by rw [izs_eq0]; exact h2), h2]
      rfl
    · rw [if_neg (by rw [izs_eq0]; exact h2), show sg (a - b) = 1 by unfold sg; rw [if_neg (by omega), if_neg (by omega)]]
      rfl
  · rw [if_neg (by rw [izs_ge0]; exact h), show sg (a - b) = -1 by unfold sg; rw [if_pos (by omega)]]
    rfl
theorem lexC_le {α β : Type} {c : α → β → Int} (hc : ∀ x y, -1 ≤ c x y ∧ c x y ≤ 1) : ∀ (a : List α) (b : List β), -1 ≤ lexC c a b ∧ lexC c a b ≤ 1 := by
  intro a
  induction a with
  | nil => intro b; cases b <;> (unfold lexC; omega)
  | cons x a ih =>
    intro b
    cases b with
    | nil => unfold lexC; omega
    | cons y b =>
      have := ih b
      have := hc x y
      rw [lexC_cons]
      split <;> omega
theorem jcmp_le : ∀ (d : Nat) (x y : JT d), -1 ≤ jcmp d x y ∧ jcmp d x y ≤ 1 := by
  intro d
  induction d with
  | zero => exact fun x => (j0 x).elim
  | succ d ih =>
    intro x y
    by_cases h : rk (d + 1) x = rk (d + 1) y
    · rcases jcases x with ⟨k, rfl⟩ | ⟨z, rfl⟩ | ⟨s, rfl⟩ | ⟨l, rfl⟩ | ⟨l, rfl⟩ <;> rcases jcases y with ⟨k', rfl⟩ | ⟨z', rfl⟩ | ⟨s', rfl⟩ | ⟨l', rfl⟩ | ⟨l', rfl⟩
      · rw [jcmp_k]; exact sg_le _
      case inr.inl.inr.inl => rw [jcmp_n]; exact sg_le _
      case inr.inr.inl.inr.inr.inl => rw [jcmp_s]; exact cS_le _ _
      case inr.inr.inr.inl.inr.inr.inr.inl => rw [jcmp_a]; exact lexC_le ih _ _
      case inr.inr.inr.inr.inr.inr.inr.inr =>
        rw [jcmp_o]
        unfold objC
        split
        · exact lexC_le ih _ _
        · exact lexC_le cS_le _ _
      all_goals
        unfold jcmp
        rw [if_pos h]
        constructor
        · show (-1 : Int) ≤ 0
          omega
        · show (0 : Int) ≤ 1
          omega
    · rw [jcmp_ne h]
      exact sg_le _
/-! ===== names in order ===== -/
def bh (last : Option Sx) (s : Sx) : Bool := last.all (fun t => decide (0 < cS s t))
def ql {d : Nat} : Nat → List (Sx × JT d) → List (Sx × (Nat × JT d))
  | _, [] => []
  | b, p :: l => (p.1, (b, p.2)) :: ql (b + (p.1.length + 1) + (jc d p.2).length) l
theorem ql_map {d : Nat} : ∀ (l : List (Sx × JT d)) (b : Nat), (ql b l).map (fun q => (q.1, q.2.2)) = l := by
  intro l
  induction l with
  | nil => intro b; rfl
  | cons p l ih =>
    intro b
    rw [ql, List.map_cons, ih]
theorem ql_len {d : Nat} (l : List (Sx × JT d)) (b : Nat) : (ql b l).length = l.length := by
  have := congrArg List.length (ql_map l b)
  rwa [List.length_map] at this
theorem ql_at {d : Nat} {f : Nat → Int64} {v : Nat} : ∀ (l : List (Sx × JT d)) (b : Nat), At f v b (l.flatMap (fun p => strc p.1 ++ jc d p.2)) → ∀ q ∈ ql b l, At f v q.2.1 (strc q.1) ∧ At f v (q.2.1 + (q.1.length + 1)) (jc d q.2.2) ∧ (q.1, q.2.2) ∈ l := by
  intro l
  induction l with
  | nil => intro b _ q hq; exact absurd hq (by simp [ql])
  | cons p l ih =>
    intro b hat q hq
    obtain ⟨h1, h2, h3⟩ := hat.ocons
    rw [ql] at hq
    rcases List.mem_cons.mp hq with rfl | hq
    · exact ⟨h1, h2, List.mem_cons_self ..⟩
    · obtain ⟨g1, g2, g3⟩ := ih _ h3 q hq
      exact ⟨g1, g2, List.mem_cons_of_mem _ g3⟩
theorem nxA_map {α β : Type} (g : α → β) (last : Option Sx) : ∀ (l : List (Sx × α)) (b : Option (Sx × α)), nxA last (l.map (fun p => (p.1, g p.2))) (b.map (fun p => (p.1, g p.2))) = (nxA last l b).map (fun p => (p.1, g p.2)) := by
  intro l
  induction l with
  | nil => intro b; rfl
  | cons p l ih =>
    intro b
    rw [List.map_cons, nxA, nxA, ← ih]
    congr 1
    cases b with
    | none => simp only [Option.map_none, Option.all_none]; split <;> rfl
    | some y => simp only [Option.map_some, Option.all_some]; split <;> rfl
theorem nx_map {α β : Type} (g : α → β) (l : List (Sx × α)) (last : Option Sx) : nx (l.map (fun p => (p.1, g p.2))) last = (nx l last).map (fun p => (p.1, g p.2)) := nxA_map g last l none
theorem sq_map {α β : Type} (g : α → β) (l : List (Sx × α)) : ∀ (n : Nat) (last : Option Sx), sq (l.map (fun p => (p.1, g p.2))) n last = (sq l n last).map (fun p => (p.1, g p.2)) := by
  intro n
  induction n with
  | zero => intro last; rfl
  | succ n ih =>
    intro last
    rw [sq, sq, nx_map]
    cases nx l last with
    | none => rfl
    | some p =>
      show (p.1, g p.2) :: sq _ n (some p.1) = _
      rw [ih]
      rfl
theorem srt_map {α β : Type} (g : α → β) (l : List (Sx × α)) : srt (l.map (fun p => (p.1, g p.2))) = (srt l).map (fun p => (p.1, g p.2)) := by
  unfold srt
  rw [List.length_map, sq_map]
section NN
variable {f : Nat → Int64} {v p d : Nat} {o : Int32}
def lastAt (f : Nat → Int64) (v : Nat) (last : Option Sx) (x : Int32) : Prop := (last = none ∧ x = -1) ∨ ∃ s q, last = some s ∧ x = i3 q ∧ At f v q (strc s) ∧ sok s
def lst1 (b : Option (Sx × (Nat × JT d))) : Int32 := match b with
  | none => -1
  | some q => i3 q.2.1
theorem nn_loop {tot : Nat} (ht : tot < 65536) (hlen : ∀ n, fR_length n (i3 p) f (i3 v) o = some (i3 tot)) {last : Option Sx} {x : Int32} (hx : lastAt f v last x) : ∀ (l : List (Sx × JT d)) (n k r : Nat) (b : Option (Sx × (Nat × JT d))), (∀ x ∈ l, sok x.1 ∧ jok d x.2) → k + l.length = tot → At f v r (l.flatMap (fun x => strc x.1 ++ jc d x.2)) → (∀ q, b = some q → At f v q.2.1 (strc q.1) ∧ sok q.1) → 4097 + l.length < n →
    fO_nextName_b f (i3 v) o n 1 (i3 k) (i3 r) (lst1 b) (i3 p) x = some (lst1 (nxA last (ql r l) b)) := by
  intro l
  induction l with
  | nil =>
    intro n k r b _ hk _ _ hn
    obtain ⟨n, rfl⟩ : ∃ m, n = m + 1 := ⟨n - 1, by omega⟩
    rw [fO_nextName_b, hlen, Option.bind_some, if_pos (by rw [i3_le (by omega) (by simp at hk; omega)]; simp at hk; omega)]
    rfl
  | cons y l ih =>
    intro n k r b hok hk hat hb hn
    rw [List.length_cons] at hk hn
    obtain ⟨n, rfl⟩ : ∃ m, n = m + 1 := ⟨n - 1, by omega⟩
    obtain ⟨hy, hy2⟩ := hok y (List.mem_cons_self ..)
    obtain ⟨at1, at2, at3⟩ := hat.ocons
    have hle := at1.le
    have ih2 := fun b hb => ih n (k + 1) _ b (fun x hx => hok x (List.mem_cons_of_mem _ hx)) (by omega) at3 hb (by omega)
    have ihb := ih2 b hb
    have ihy := ih2 (some (y.1, (r, y.2))) (fun q hq => by
      obtain rfl := Option.some.inj hq
      exact ⟨at1, hy⟩)
    have ey : lst1 (some (y.1, (r, y.2))) = i3 r := rfl
    rw [ey] at ihy
    have hbl : (lst1 b = -1 ∧ b = none) ∨ (∃ q, b = some q ∧ ¬ lst1 b = -1 ∧ fR_orderOfStringsa n (i3 r) (lst1 b) f (i3 v) o f (i3 v) o = some (iz (cS y.1 q.1))) := by
      cases b with
      | none => exact Or.inl ⟨rfl, rfl⟩
      | some q =>
        obtain ⟨g1, g2⟩ := hb q rfl
        have := g1.le
        refine Or.inr ⟨q, rfl, ?_, at1.oos g1 hy g2 (by omega)⟩
        show ¬ i3 q.2.1 = -1
        rw [i3_m1 (by omega)]
        exact not_false
    have hne : ∀ s, (0 ≤ iz (cS y.1 s)) = (0 ≤ cS y.1 s) := fun s => by
      have := cS_le y.1 s
      rw [show (0 : Int32) = iz 0 from rfl, iz_le (by omega) (by omega) (by omega) (by omega)]
    have hpo : ∀ s, (iz (cS y.1 s) ≤ 0) = (cS y.1 s ≤ 0) := fun s => by
      have := cS_le y.1 s
      rw [show (0 : Int32) = iz 0 from rfl, iz_le (by omega) (by omega) (by omega) (by omega)]
    rw [fO_nextName_b, hlen, Option.bind_some, if_neg (by rw [i3_le (by omega) (by omega)]; omega)]
    simp only [at1.safter, Option.bind_some, at2.after hy2, i3_one, ihb, ihy, al_oos]
    rw [ql, nxA]
    rcases hx with ⟨rfl, rfl⟩ | ⟨s, q, rfl, rfl, hs1, hs2⟩
    · rw [if_pos rfl]
      rcases hbl with ⟨h1, rfl⟩ | ⟨q, rfl, h1, h2⟩
      · rw [if_pos h1]
        rfl
      · rw [if_neg h1, h2, Option.bind_some]
        simp only [Option.all_none, Option.all_some, Bool.true_and]
        by_cases h : cS y.1 q.1 < 0
        · rw [if_neg (by rw [hne]; omega), if_pos (by simpa using h)]
        · rw [if_pos (by rw [hne]; omega), if_neg (by simpa using h)]
    · have := hs1.le
      rw [if_neg (by rw [i3_m1 (by omega)]; exact not_false), at1.oos hs1 hy hs2 (by omega), Option.bind_some]
      simp only [Option.all_some]
      by_cases h0 : 0 < cS y.1 s
      · rw [if_neg (by rw [hpo]; omega)]
        rcases hbl with ⟨h1, rfl⟩ | ⟨q, rfl, h1, h2⟩
        · rw [if_pos h1, if_pos (by simp [h0])]
        · rw [if_neg h1, h2, Option.bind_some]
          simp only [Option.all_some]
          by_cases h : cS y.1 q.1 < 0
          · rw [if_neg (by rw [hne]; omega), if_pos (by simp [h0, h])]
          · rw [if_pos (by rw [hne]; omega), if_neg (by simp [h])]
      · rw [if_pos (by rw [hpo]; omega), if_neg (by simp [h0])]
theorem At.nn {l : List (Sx × JT d)} (h : At f v p (jc (d + 1) (jo l))) (hok : jok (d + 1) (jo l)) {last : Option Sx} {x : Int32} (hx : lastAt f v last x) {n : Nat} (hn : 8200 < n) : fO_nextName n (i3 p) x f (i3 v) o = some (lst1 (nx (ql (p + 1) l) last)) := by
  have h2 := h.osz
  unfold fO_nextName
  rw [i3_one]
  exact nn_loop (by omega) (fun n => h.olen) hx l n 0 (p + 1) none hok.1 (by omega) h.obody (fun q hq => nomatch hq) (by omega)
end NN
end ZOrd14
section ZNx15
/-! ===== what the names in order are ===== -/
def Good {α : Type} (c : α → α → Int) : Prop := (∀ a b, c b a = - c a b) ∧ (∀ a b e, c a b ≤ 0 → c b e ≤ 0 → c a e ≤ 0) ∧ (∀ a b, -1 ≤ c a b ∧ c a b ≤ 1)
section GD
variable {α : Type} {c : α → α → Int}
theorem Good.refl (h : Good c) (a : α) : c a a = 0 := by
  have := h.1 a a
  omega
theorem Good.lt_trans (h : Good c) {a b e : α} (h1 : c a b ≤ 0) (h2 : c b e < 0) : c a e < 0 := by
  have h3 := h.2.1 a b e h1 (by omega)
  have h4 := h.1 a e
  have h5 := h.1 b e
  by_cases h6 : c a e = 0
  · have h7 := h.2.1 e a b (by omega) h1
    omega
  · omega
theorem Good.lt_trans' (h : Good c) {a b e : α} (h1 : c a b < 0) (h2 : c b e ≤ 0) : c a e < 0 := by
  have h3 := h.2.1 a b e (by omega) h2
  have h4 := h.1 a e
  have h5 := h.1 a b
  by_cases h6 : c a e = 0
  · have h7 := h.2.1 b e a h2 (by omega)
    omega
  · omega
/-- what is equal to another orders as it does -/
theorem Good.cong (h : Good c) {a b : α} (h1 : c a b = 0) (e : α) : c a e = c b e := by
  have h2 := h.1 a b
  have h3 := h.2.2 a e
  have h4 := h.2.2 b e
  have h5 := h.1 a e
  have h6 := h.1 b e
  by_cases g1 : c b e < 0
  · have := h.lt_trans (a := a) (by omega) g1
    omega
  · by_cases g2 : c b e = 0
    · have a1 := h.2.1 a b e (by omega) (by omega)
      have a2 := h.2.1 e b a (by omega) (by omega)
      omega
    · have := h.lt_trans' (a := e) (b := b) (e := a) (by omega) (by omega)
      omega
theorem lexC_good (h : Good c) : Good (lexC c) := by
  refine ⟨fun a => ?_, fun a => ?_, lexC_le h.2.2⟩
  · induction a with
    | nil => intro b; cases b <;> (unfold lexC; omega)
    | cons x a ih =>
      intro b
      cases b with
      | nil => unfold lexC; omega
      | cons y b =>
        rw [lexC_cons, lexC_cons]
        have h1 := h.1 x y
        by_cases h2 : c x y = 0
        · rw [if_pos h2, if_pos (by omega), ih]
        · rw [if_neg h2, if_neg (by omega), h1]
  · induction a with
    | nil =>
      intro b e h1 h2
      cases e with
      | nil => unfold lexC; omega
      | cons z e => unfold lexC; omega
    | cons x a ih =>
      intro b e h1 h2
      cases b with
      | nil => rw [lexC_cons_nil] at h1; omega
      | cons y b =>
        cases e with
        | nil => rw [lexC_cons_nil] at h2; omega
        | cons z e =>
          rw [lexC_cons] at h1 h2 ⊢
          by_cases g1 : c x y = 0
          · rw [if_pos g1] at h1
            rw [h.cong g1 z]
            by_cases g2 : c y z = 0
            · rw [if_pos g2] at h2 ⊢
              exact ih b e h1 h2
            · rw [if_neg g2] at h2 ⊢
              exact h2
          · rw [if_neg g1] at h1
            have h3 : c x z < 0 := by
              apply h.lt_trans' (b := y) (by omega)
              by_cases g2 : c y z = 0
              · omega
              · rw [if_neg g2] at h2
                exact h2
            rw [if_neg (by omega)]
            omega
end GD
theorem sg_good {α : Type} (g : α → Int) : Good (fun x y => sg (g x - g y)) := by
  refine ⟨fun a b => ?_, fun a b e h1 h2 => ?_, fun a b => sg_le _⟩
  · dsimp only
    rw [← sg_neg]
    congr 1
    omega
  · dsimp only at *
    have g1 := sg_gt0 (g a - g b)
    have g2 := sg_gt0 (g b - g e)
    have g3 := sg_gt0 (g a - g e)
    omega
theorem cS_good : Good cS := lexC_good (sg_good (fun x : Nat => (x : Int)))
theorem objC_good {α : Type} {c : α → α → Int} (h : Good c) : Good (objC c) := by
  have h1 := lexC_good cS_good
  have h2 := lexC_good h
  refine ⟨fun a b => ?_, fun a b e => ?_, fun a b => ?_⟩
  · unfold objC
    have g1 := h1.1 ((srt a).map (fun p => p.1)) ((srt b).map (fun p => p.1))
    have g2 := h2.1 ((srt a).map (fun p => p.2)) ((srt b).map (fun p => p.2))
    split <;> split <;> omega
  · unfold objC
    intro ha hb
    by_cases g1 : lexC cS ((srt a).map (fun p => p.1)) ((srt b).map (fun p => p.1)) = 0
    · rw [if_pos g1] at ha
      rw [h1.cong g1]
      by_cases g2 : lexC cS ((srt b).map (fun p => p.1)) ((srt e).map (fun p => p.1)) = 0
      · rw [if_pos g2] at hb ⊢
        exact h2.2.1 _ _ _ ha hb
      · rw [if_neg g2] at hb ⊢
        exact hb
    · rw [if_neg g1] at ha
      have h3 : lexC cS ((srt a).map (fun p => p.1)) ((srt e).map (fun p => p.1)) < 0 := by
        apply h1.lt_trans' (b := (srt b).map (fun p => p.1)) (by omega)
        by_cases g2 : lexC cS ((srt b).map (fun p => p.1)) ((srt e).map (fun p => p.1)) = 0
        · omega
        · rw [if_neg g2] at hb
          exact hb
      rw [if_neg (by omega)]
      omega
  · unfold objC
    split
    · exact h2.2.2 _ _
    · exact h1.2.2 _ _
theorem rk_same {d : Nat} {x y : JT (d + 1)} (h : rk (d + 1) x = rk (d + 1) y) : (∃ a b, x = jk a ∧ y = jk b ∧ min a 2 = min b 2) ∨ (∃ a b, x = jn a ∧ y = jn b) ∨ (∃ a b, x = js a ∧ y = js b) ∨ (∃ a b, x = ja a ∧ y = ja b) ∨ (∃ a b, x = jo a ∧ y = jo b) := by
  rcases jcases x with ⟨k, rfl⟩ | ⟨z, rfl⟩ | ⟨s, rfl⟩ | ⟨l, rfl⟩ | ⟨l, rfl⟩ <;> rcases jcases y with ⟨k', rfl⟩ | ⟨z', rfl⟩ | ⟨s', rfl⟩ | ⟨l', rfl⟩ | ⟨l', rfl⟩
  case inl.inl => exact Or.inl ⟨_, _, rfl, rfl, h⟩
  case inr.inl.inr.inl => exact Or.inr (Or.inl ⟨_, _, rfl, rfl⟩)
  case inr.inr.inl.inr.inr.inl => exact Or.inr (Or.inr (Or.inl ⟨_, _, rfl, rfl⟩))
  case inr.inr.inr.inl.inr.inr.inr.inl => exact Or.inr (Or.inr (Or.inr (Or.inl ⟨_, _, rfl, rfl⟩)))
  case inr.inr.inr.inr.inr.inr.inr.inr => exact Or.inr (Or.inr (Or.inr (Or.inr ⟨_, _, rfl, rfl⟩)))
  all_goals
    exfalso
    simp only [rk, jk, jn, js, ja, jo] at h
    omega
theorem jn_inj {d : Nat} {a b : Int} (h : (jn a : JT (d + 1)) = jn b) : a = b := by
  unfold jn at h
  exact Sum.inl.inj (Sum.inr.inj (Sum.inl.inj h))
theorem js_inj {d : Nat} {a b : Sx} (h : (js a : JT (d + 1)) = js b) : a = b := by
  unfold js at h
  exact Sum.inr.inj (Sum.inr.inj (Sum.inl.inj h))
theorem ja_inj {d : Nat} {a b : List (JT d)} (h : (ja a : JT (d + 1)) = ja b) : a = b := by
  unfold ja at h
  exact Sum.inl.inj (Sum.inr.inj h)
theorem jo_inj {d : Nat} {a b : List (Sx × JT d)} (h : (jo a : JT (d + 1)) = jo b) : a = b := by
  unfold jo at h
  exact Sum.inr.inj (Sum.inr.inj h)
theorem jcmp_good : ∀ d : Nat, Good (jcmp d) := by
  intro d
  induction d with
  | zero => exact ⟨fun x => (j0 x).elim, fun x => (j0 x).elim, fun x => (j0 x).elim⟩
  | succ d ih =>
    have hn := sg_good (fun x : Int => x)
    have ha := lexC_good ih
    have ho := objC_good ih
    refine ⟨fun a b => ?_, fun a b e h1 h2 => ?_, jcmp_le (d + 1)⟩
    · by_cases h : rk (d + 1) a = rk (d + 1) b
      · rcases rk_same h with ⟨x, y, rfl, rfl, h⟩ | ⟨x, y, rfl, rfl⟩ | ⟨x, y, rfl, rfl⟩ | ⟨x, y, rfl, rfl⟩ | ⟨x, y, rfl, rfl⟩
        · rw [jcmp_k, jcmp_k, ← sg_neg]
          congr 1
          omega
        · exact hn.1 x y
        · exact cS_good.1 x y
        · exact ha.1 x y
        · exact ho.1 x y
      · rw [jcmp_ne h, jcmp_ne (fun h2 => h h2.symm), ← sg_neg]
        congr 1
        omega
    · have le : ∀ x y : JT (d + 1), jcmp (d + 1) x y ≤ 0 → rk (d + 1) x ≤ rk (d + 1) y := fun x y h => by
        by_cases h3 : rk (d + 1) x = rk (d + 1) y
        · omega
        · rw [jcmp_ne h3] at h
          have := sg_gt0 ((rk (d + 1) x : Int) - rk (d + 1) y)
          omega
      have l1 := le a b h1
      have l2 := le b e h2
      by_cases h : rk (d + 1) a = rk (d + 1) e
      · have g1 : rk (d + 1) a = rk (d + 1) b := by omega
        have g2 : rk (d + 1) b = rk (d + 1) e := by omega
        rcases rk_same g1 with ⟨x, y, rfl, rfl, h3⟩ | ⟨x, y, rfl, rfl⟩ | ⟨x, y, rfl, rfl⟩ | ⟨x, y, rfl, rfl⟩ | ⟨x, y, rfl, rfl⟩
        · rcases rk_same h with ⟨x', z, e1, rfl, h4⟩ | ⟨x', z, e1, rfl⟩ | ⟨x', z, e1, rfl⟩ | ⟨x', z, e1, rfl⟩ | ⟨x', z, e1, rfl⟩
          · rw [jcmp_k]
            have : rk (d + 1) (jk x) = rk (d + 1) (jk z) := h
            have h5 : min x 2 = min z 2 := this
            rw [h5, Int.sub_self]
            decide
          all_goals
            exfalso
            have := congrArg (rk (d + 1)) e1
            simp only [rk, jk, jn, js, ja, jo] at this
            omega
        · rcases rk_same g2 with ⟨x', z, e1, rfl, h4⟩ | ⟨x', z, e1, rfl⟩ | ⟨x', z, e1, rfl⟩ | ⟨x', z, e1, rfl⟩ | ⟨x', z, e1, rfl⟩
          case inr.inl => exact hn.2.1 x y z h1 h2
          all_goals
            exfalso
            have := congrArg (rk (d + 1)) e1
            simp only [rk, jk, jn, js, ja, jo] at this
            omega
        · rcases rk_same g2 with ⟨x', z, e1, rfl, h4⟩ | ⟨x', z, e1, rfl⟩ | ⟨x', z, e1, rfl⟩ | ⟨x', z, e1, rfl⟩ | ⟨x', z, e1, rfl⟩
          case inr.inr.inl => exact cS_good.2.1 x y z h1 h2
          all_goals
            exfalso
            have := congrArg (rk (d + 1)) e1
            simp only [rk, jk, jn, js, ja, jo] at this
            omega
        · rcases rk_same g2 with ⟨x', z, e1, rfl, h4⟩ | ⟨x', z, e1, rfl⟩ | ⟨x', z, e1, rfl⟩ | ⟨x', z, e1, rfl⟩ | ⟨x', z, e1, rfl⟩
          case inr.inr.inr.inl => exact ha.2.1 x y z h1 h2
          all_goals
            exfalso
            have := congrArg (rk (d + 1)) e1
            simp only [rk, jk, jn, js, ja, jo] at this
            omega
        · rcases rk_same g2 with ⟨x', z, e1, rfl, h4⟩ | ⟨x', z, e1, rfl⟩ | ⟨x', z, e1, rfl⟩ | ⟨x', z, e1, rfl⟩ | ⟨x', z, e1, rfl⟩
          case inr.inr.inr.inr => exact ho.2.1 x y z h1 h2
          all_goals
            exfalso
            have := congrArg (rk (d + 1)) e1
            simp only [rk, jk, jn, js, ja, jo] at this
            omega
      · rw [jcmp_ne h]
        have := sg_gt0 ((rk (d + 1) a : Int) - rk (d + 1) e)
        omega
end ZNx15
section ZSq16
theorem nxA_spec {α : Type} (last : Option Sx) : ∀ (l : List (Sx × α)) (b : Option (Sx × α)),
    (∀ p, nxA last l b = some p → ((p ∈ l ∧ bh last p.1 = true) ∨ b = some p) ∧ (∀ q ∈ l, bh last q.1 = true → cS p.1 q.1 ≤ 0) ∧ (∀ y, b = some y → cS p.1 y.1 ≤ 0)) ∧ (nxA last l b = none → b = none ∧ ∀ q ∈ l, bh last q.1 = false) := by
  intro l
  induction l with
  | nil =>
    intro b
    refine ⟨fun p h => ⟨Or.inr h, fun q hq => absurd hq (by simp), fun y hy => ?_⟩, fun h => ⟨h, fun q hq => absurd hq (by simp)⟩⟩
    have h2 : b = some p := h
    rw [h2] at hy
    obtain rfl := Option.some.inj hy
    rw [cS_refl]
    omega
  | cons x l ih =>
    intro b
    rw [nxA]
    by_cases hc : ((last.all (fun t => decide (0 < cS x.1 t))) && (b.all (fun t => decide (cS x.1 t.1 < 0)))) = true
    · rw [if_pos hc]
      rw [Bool.and_eq_true] at hc
      obtain ⟨i1, i2⟩ := ih (some x)
      constructor
      · intro p hp
        obtain ⟨j1, j2, j3⟩ := i1 p hp
        have jx := j3 x rfl
        refine ⟨Or.inl ?_, fun q hq hb => ?_, fun y hy => ?_⟩
        · rcases j1 with ⟨a, b⟩ | a
          · exact ⟨List.mem_cons_of_mem _ a, b⟩
          · obtain rfl := Option.some.inj a
            exact ⟨List.mem_cons_self .., hc.1⟩
        · rcases List.mem_cons.mp hq with rfl | hq
          · exact jx
          · exact j2 q hq hb
        · rw [hy] at hc
          have h2 : cS x.1 y.1 < 0 := by simpa using hc.2
          exact cS_good.2.1 _ _ _ jx (by omega)
      · intro h
        exact absurd (i2 h).1 (by simp)
    · rw [if_neg hc]
      obtain ⟨i1, i2⟩ := ih b
      constructor
      · intro p hp
        obtain ⟨j1, j2, j3⟩ := i1 p hp
        refine ⟨?_, fun q hq hb => ?_, j3⟩
        · rcases j1 with ⟨a, b⟩ | a
          · exact Or.inl ⟨List.mem_cons_of_mem _ a, b⟩
          · exact Or.inr a
        · rcases List.mem_cons.mp hq with rfl | hq
          · cases b with
            | none =>
              unfold bh at hb
              simp [hb] at hc
            | some y =>
              unfold bh at hb
              have h2 := j3 y rfl
              have h3 : ¬ cS q.1 y.1 < 0 := fun h => hc (by simp [hb, h])
              have h4 := cS_good.1 q.1 y.1
              exact cS_good.2.1 _ _ _ h2 (by omega)
          · exact j2 q hq hb
      · intro h
        obtain ⟨j1, j2⟩ := i2 h
        refine ⟨j1, fun q hq => ?_⟩
        rcases List.mem_cons.mp hq with rfl | hq
        · rw [j1] at hc
          unfold bh
          simpa using hc
        · exact j2 q hq
theorem cnt1 {α : Type} {P Q : Sx × α → Bool} : ∀ (l : List (Sx × α)) (x : Sx × α), x ∈ l → (l.map (fun p => p.1)).Nodup → Q x = true → P x = false → (∀ y ∈ l, y.1 ≠ x.1 → P y = Q y) → l.countP Q = l.countP P + 1 := by
  intro l
  induction l with
  | nil => intro x hx; exact absurd hx (by simp)
  | cons z l ih =>
    intro x hx hnd hq hp hr
    rw [List.map_cons, List.nodup_cons] at hnd
    rcases List.mem_cons.mp hx with rfl | hx'
    · have : l.countP Q = l.countP P := by
        apply List.countP_congr
        intro y hy
        have hne : y.1 ≠ x.1 := fun h => hnd.1 (h ▸ List.mem_map_of_mem hy)
        rw [hr y (List.mem_cons_of_mem _ hy) hne]
      rw [List.countP_cons, List.countP_cons, this, hq, hp]
      simp
    · have hne : z.1 ≠ x.1 := fun h => hnd.1 (h ▸ List.mem_map_of_mem hx')
      have h1 := ih x hx' hnd.2 hq hp (fun y hy => hr y (List.mem_cons_of_mem _ hy))
      rw [List.countP_cons, List.countP_cons, h1, hr z (List.mem_cons_self ..) hne]
      omega
theorem mem_name {α : Type} {l : List (Sx × α)} (h : (l.map (fun p => p.1)).Nodup) {x y : Sx × α} (hx : x ∈ l) (hy : y ∈ l) (e : x.1 = y.1) : x = y := by
  induction l with
  | nil => exact absurd hx (by simp)
  | cons z l ih =>
    rw [List.map_cons, List.nodup_cons] at h
    rcases List.mem_cons.mp hx with rfl | hx2
    · rcases List.mem_cons.mp hy with rfl | hy2
      · rfl
      · exact absurd (e ▸ List.mem_map_of_mem hy2) h.1
    · rcases List.mem_cons.mp hy with rfl | hy2
      · exact absurd (e ▸ List.mem_map_of_mem hx2) h.1
      · exact ih h.2 hx2 hy2
/-- the names behind one, in order -/
theorem sq_spec {α : Type} {l : List (Sx × α)} (hnd : (l.map (fun p => p.1)).Nodup) : ∀ (n : Nat) (last : Option Sx), l.countP (fun p => bh last p.1) = n → (sq l n last).length = n ∧ (sq l n last).Pairwise (fun a b => cS a.1 b.1 < 0) ∧ (∀ q, q ∈ sq l n last ↔ q ∈ l ∧ bh last q.1 = true) := by
  intro n
  induction n with
  | zero =>
    intro last h
    refine ⟨rfl, List.Pairwise.nil, fun q => ⟨fun hq => absurd hq (by simp [sq]), fun hq => ?_⟩⟩
    rw [List.countP_eq_zero] at h
    exact absurd hq.2 (h q hq.1)
  | succ n ih =>
    intro last h
    obtain ⟨s1, s2⟩ := nxA_spec last l none
    rw [sq]
    cases hx : nx l last with
    | none =>
      have := (s2 hx).2
      have h0 : l.countP (fun p => bh last p.1) = 0 := List.countP_eq_zero.mpr (fun q hq => by rw [this q hq]; decide)
      omega
    | some p =>
      obtain ⟨j1, j2, _⟩ := s1 p hx
      have hp : p ∈ l ∧ bh last p.1 = true := by
        rcases j1 with h | h
        · exact h
        · exact absurd h (by simp)
      have hb : ∀ y ∈ l, y.1 ≠ p.1 → bh (some p.1) y.1 = bh last y.1 := fun y hy hne => by
        have h3 : bh (some p.1) y.1 = true ↔ bh last y.1 = true := by
          have h7 : bh (some p.1) y.1 = decide (0 < cS y.1 p.1) := by simp [bh]
          rw [h7, decide_eq_true_iff]
          have h6 := cS_good.1 y.1 p.1
          constructor
          · intro h4
            cases last with
            | none => rfl
            | some t =>
              have h5 : 0 < cS p.1 t := by simpa [bh] using hp.2
              have h8 := cS_good.1 p.1 t
              have h9 := cS_good.1 y.1 t
              have := cS_good.lt_trans' (a := t) (b := p.1) (e := y.1) (by omega) (by omega)
              simp only [bh, Option.all_some, decide_eq_true_eq]
              omega
          · intro h4
            have h5 := j2 y hy h4
            have h8 : cS y.1 p.1 ≠ 0 := fun h => hne (cS_eq h)
            omega
        exact Bool.eq_iff_iff.mpr h3
      have hself : bh (some p.1) p.1 = false := by
        simp [bh, cS_refl]
      have hc := cnt1 (P := fun y => bh (some p.1) y.1) (Q := fun y => bh last y.1) l p hp.1 hnd hp.2 hself hb
      obtain ⟨i1, i2, i3'⟩ := ih (some p.1) (by omega)
      refine ⟨by show (sq l n (some p.1)).length + 1 = n + 1; rw [i1], ?_, fun q => ?_⟩
      · refine List.Pairwise.cons (fun q hq => ?_) i2
        have h4 := ((i3' q).mp hq).2
        have h5 := cS_good.1 q.1 p.1
        simp only [bh, Option.all_some, decide_eq_true_eq] at h4
        omega
      · show q ∈ p :: sq l n (some p.1) ↔ _
        rw [List.mem_cons, i3']
        constructor
        · rintro (rfl | ⟨h1, h2⟩)
          · exact hp
          · refine ⟨h1, ?_⟩
            by_cases hq : q.1 = p.1
            · rw [hq, hself] at h2
              exact absurd h2 (by decide)
            · rw [← hb q h1 hq]
              exact h2
        · rintro ⟨h1, h2⟩
          by_cases hq : q.1 = p.1
          · exact Or.inl (mem_name hnd h1 hp.1 hq)
          · right
            refine ⟨h1, ?_⟩
            rw [hb q h1 hq]
            exact h2
theorem srt_spec {α : Type} {l : List (Sx × α)} (hnd : (l.map (fun p => p.1)).Nodup) : (srt l).length = l.length ∧ (srt l).Pairwise (fun a b => cS a.1 b.1 < 0) ∧ (∀ q, q ∈ srt l ↔ q ∈ l) := by
  have h : l.countP (fun p => bh none p.1) = l.length := List.countP_eq_length.mpr (fun _ _ => rfl)
  obtain ⟨h1, h2, h3⟩ := sq_spec hnd l.length none h
  exact ⟨h1, h2, fun q => (h3 q).trans ⟨fun h => h.1, fun h => ⟨h, rfl⟩⟩⟩
/-! ===== the order of ValueBench ===== -/
abbrev RecO : Type := Int32 → Int32 → Int32 → (Nat → Int64) → Int32 → Int32 → (Nat → Int64) → Int32 → Int32 → Option Int32
section OO
variable {f g : Nat → Int64} {v u p q d k : Nat} {o o' : Int32} {rec : RecO}
theorem min_i3 {a b : Nat} (ha : a < 2147483648) (hb : b < 2147483648) : (if i3 b < i3 a then i3 b else i3 a) = i3 (min a b) := by
  by_cases h : b < a
  · rw [if_pos (by rw [i3_lt hb ha]; exact h), Nat.min_eq_right (by omega)]
  · rw [if_neg (by rw [i3_lt hb ha]; exact h), Nat.min_eq_left (by omega)]
theorem sg_len {α β : Type} {c : α → β → Int} {a : List α} {b : List β} (h : a = [] ∨ b = []) : lexC c a b = sg ((a.length : Int) - b.length) := by
  cases a with
  | nil =>
    cases b with
    | nil => rfl
    | cons y b =>
      rw [lexC_nil_cons]
      unfold sg
      rw [if_pos (by simp <;> omega)]
  | cons x a =>
    cases b with
    | nil =>
      rw [lexC_cons_nil]
      unfold sg
      rw [if_neg (by simp <;> omega), if_neg (by simp <;> omega)]
    | cons y b => rcases h with h | h <;> exact absurd h (by simp)
theorem oa_loop (hk : k < 1000) {la lb : Nat} (ha : la < 65536) (hb : lb < 65536) (hla : ∀ n, fR_length n (i3 p) f (i3 v) o = some (i3 la)) (hlb : ∀ n, fR_length n (i3 q) g (i3 u) o' = some (i3 lb)) : ∀ (a b : List (JT d)) (n i r s : Nat), (∀ x ∈ a, jok d x) → (∀ x ∈ b, jok d x) → (∀ x ∈ a, ∀ y ∈ b, ∀ r s, At f v r (jc d x) → At g u s (jc d y) → rec (i3 r) (i3 s) (i3 (k + 1)) f (i3 v) o g (i3 u) o' = some (iz (jcmp d x y))) → i + a.length = la → i + b.length = lb → At f v r (a.flatMap (jc d)) → At g u s (b.flatMap (jc d)) → a.length < n →
    fO_ofArrays_b rec f (i3 v) o g (i3 u) o' n 1 (i3 i) (i3 s) (i3 r) (i3 (min la lb)) (i3 p) (i3 q) (i3 k) = some (iz (lexC (jcmp d) a b)) := by
  intro a
  induction a with
  | nil =>
    intro b n i r s _ _ _ hi hj _ _ hn
    obtain ⟨n, rfl⟩ : ∃ m, n = m + 1 := ⟨n - 1, by omega⟩
    rw [List.length_nil] at hi
    rw [fO_ofArrays_b, if_pos (by rw [i3_le (by omega) (by omega)]; omega), hla, Option.bind_some, hlb, Option.bind_some, JI_cmp (by omega) (by omega), Option.bind_some, sg_len (Or.inl rfl)]
    congr 3
    simp only [List.length_nil]
    omega
  | cons x a ih =>
    intro b n i r s hoa hob hrec hi hj hata hatb hn
    obtain ⟨n, rfl⟩ : ∃ m, n = m + 1 := ⟨n - 1, by omega⟩
    rw [List.length_cons] at hi hn
    cases b with
    | nil =>
      rw [List.length_nil] at hj
      rw [fO_ofArrays_b, if_pos (by rw [i3_le (by omega) (by omega)]; omega), hla, Option.bind_some, hlb, Option.bind_some, JI_cmp (by omega) (by omega), Option.bind_some, sg_len (Or.inr rfl)]
      congr 3
      simp only [List.length_nil, List.length_cons]
      omega
    | cons y b =>
      rw [List.length_cons] at hj
      obtain ⟨at1, at2⟩ := hata.acons
      obtain ⟨bt1, bt2⟩ := hatb.acons
      have hx := hoa x (List.mem_cons_self ..)
      have hy := hob y (List.mem_cons_self ..)
      have hle := jcmp_le d x y
      rw [fO_ofArrays_b, if_neg (by rw [i3_le (by omega) (by omega)]; omega), i3_one, hrec x (List.mem_cons_self ..) y (List.mem_cons_self ..) r s at1 bt1, Option.bind_some, lexC_cons]
      by_cases h : jcmp d x y = 0
      · rw [if_pos (by rw [h]; rfl), if_pos h, at1.after hx, Option.bind_some, bt1.after hy, Option.bind_some, i3_one]
        exact ih b n (i + 1) _ _ (fun z hz => hoa z (List.mem_cons_of_mem _ hz)) (fun z hz => hob z (List.mem_cons_of_mem _ hz)) (fun z hz w hw => hrec z (List.mem_cons_of_mem _ hz) w (List.mem_cons_of_mem _ hw)) (by omega) (by omega) at2 bt2 (by omega)
      · rw [if_neg (by rw [show (0 : Int32) = iz 0 from rfl, iz_eq (by omega) (by omega) (by omega) (by omega)]; exact h), if_neg h]
def fin {α : Type} (c : α → α → Int) (w : Int) (A B : List (Sx × α)) : Int :=
  if lexC cS (A.map (fun p => p.1)) (B.map (fun p => p.1)) = 0 then (if w = 0 then lexC c (A.map (fun p => p.2)) (B.map (fun p => p.2)) else w) else lexC cS (A.map (fun p => p.1)) (B.map (fun p => p.1))
theorem fin_map {d : Nat} {w : Int} {A B : List (Sx × (Nat × JT d))} : fin (fun x y => jcmp d x.2 y.2) w A B = fin (jcmp d) w (A.map (fun q => (q.1, q.2.2))) (B.map (fun q => (q.1, q.2.2))) := by
  have lm : ∀ (x y : List (Sx × (Nat × JT d))), lexC (fun x y : Nat × JT d => jcmp d x.2 y.2) (x.map (fun p => p.2)) (y.map (fun p => p.2)) = lexC (jcmp d) (x.map (fun p => p.2.2)) (y.map (fun p => p.2.2)) := by
    intro x
    induction x with
    | nil => intro y; cases y <;> rfl
    | cons a x ih =>
      intro y
      cases y with
      | nil => rfl
      | cons b y =>
        simp only [List.map_cons, lexC_cons, ih]
  unfold fin
  simp only [List.map_map, Function.comp_def, lm]
/-- the loop over names -/
theorem oo_loop (hk : k < 1000) {a b : List (Sx × JT d)} (ha : At f v p (jc (d + 1) (jo a))) (hb : At g u q (jc (d + 1) (jo b))) (hoa : jok (d + 1) (jo a)) (hob : jok (d + 1) (jo b)) (hrec : ∀ x ∈ a, ∀ y ∈ b, ∀ r s, At f v r (jc d x.2) → At g u s (jc d y.2) → rec (i3 r) (i3 s) (i3 (k + 1)) f (i3 v) o g (i3 u) o' = some (iz (jcmp d x.2 y.2))) :
    ∀ (m n i na nb : Nat) (w : Int) (la lb : Option Sx) (xa xb : Int32), i + m = min a.length b.length → i + na = a.length → i + nb = b.length → -1 ≤ w → w ≤ 1 → lastAt f v la xa → lastAt g u lb xb → (ql (p + 1) a).countP (fun p => bh la p.1) = na → (ql (q + 1) b).countP (fun p => bh lb p.1) = nb → 8205 + m < n →
    fO_ofObjects_b rec f (i3 v) o g (i3 u) o' n 1 (i3 i) (iz w) xb xa (i3 (min a.length b.length)) (i3 p) (i3 q) (i3 k) = some (iz (fin (fun x y => jcmp d x.2 y.2) w (sq (ql (p + 1) a) na la) (sq (ql (q + 1) b) nb lb))) := by
  have sza := ha.osz
  have szb := hb.osz
  have nda : ((ql (p + 1) a).map (fun p => p.1)).Nodup := by
    have := congrArg (List.map (fun p => p.1)) (ql_map a (p + 1))
    rw [List.map_map] at this
    show ((ql (p + 1) a).map _).Nodup
    exact this ▸ hoa.2
  have ndb : ((ql (q + 1) b).map (fun p => p.1)).Nodup := by
    have := congrArg (List.map (fun p => p.1)) (ql_map b (q + 1))
    rw [List.map_map] at this
    exact this ▸ hob.2
  intro m
  induction m with
  | zero =>
    intro n i na nb w la lb xa xb hm hna hnb hw1 hw2 hla hlb ca cb hn
    obtain ⟨n, rfl⟩ : ∃ m, n = m + 1 := ⟨n - 1, by omega⟩
    rw [fO_ofObjects_b, if_pos (by rw [i3_le (by omega) (by omega)]; omega), ha.olen, Option.bind_some, hb.olen, Option.bind_some, JI_cmp (by omega) (by omega), Option.bind_some]
    obtain ⟨l1, _⟩ := sq_spec nda na la ca
    obtain ⟨l2, _⟩ := sq_spec ndb nb lb cb
    have hz : sq (ql (p + 1) a) na la = [] ∨ sq (ql (q + 1) b) nb lb = [] := by
      rcases (show na = 0 ∨ nb = 0 by omega) with h | h
      · exact Or.inl (List.length_eq_zero_iff.mp (by omega))
      · exact Or.inr (List.length_eq_zero_iff.mp (by omega))
    have hz1 : (sq (ql (p + 1) a) na la).map (fun p => p.1) = [] ∨ (sq (ql (q + 1) b) nb lb).map (fun p => p.1) = [] := by simpa using hz
    have hz2 : (sq (ql (p + 1) a) na la).map (fun p => p.2) = [] ∨ (sq (ql (q + 1) b) nb lb).map (fun p => p.2) = [] := by simpa using hz
    unfold fin
    rw [sg_len hz1, sg_len hz2, List.length_map, List.length_map, List.length_map, List.length_map, l1, l2, show ((na : Int) - nb) = (a.length : Int) - b.length by omega]
    by_cases h : sg ((a.length : Int) - b.length) = 0
    · rw [if_pos (by rw [h]; rfl), if_pos h]
      by_cases hw : w = 0
      · rw [if_pos hw, h, hw]
      · rw [if_neg hw]
    · have := sg_le ((a.length : Int) - b.length)
      rw [if_neg (by rw [show (0 : Int32) = iz 0 from rfl, iz_eq (by omega) (by omega) (by omega) (by omega)]; exact h), if_neg h]
  | succ m ih =>
    intro n i na nb w la lb xa xb hm hna hnb hw1 hw2 hla hlb ca cb hn
    obtain ⟨n, rfl⟩ : ∃ m, n = m + 1 := ⟨n - 1, by omega⟩
    obtain ⟨na, rfl⟩ : ∃ j, na = j + 1 := ⟨na - 1, by omega⟩
    obtain ⟨nb, rfl⟩ : ∃ j, nb = j + 1 := ⟨nb - 1, by omega⟩
    rw [fO_ofObjects_b, if_neg (by rw [i3_le (by omega) (by omega)]; omega), ha.nn hoa hla (by omega), Option.bind_some, hb.nn hob hlb (by omega), Option.bind_some]
    have sa := sq_spec nda (na + 1) la ca
    have sb' := sq_spec ndb (nb + 1) lb cb
    rw [sq] at sa sb'
    rw [sq, sq]
    cases ea : nx (ql (p + 1) a) la with
    | none =>
      rw [ea] at sa
      exact absurd sa.1 (by simp)
    | some x =>
      cases eb : nx (ql (q + 1) b) lb with
      | none =>
        rw [eb] at sb'
        exact absurd sb'.1 (by simp)
      | some y =>
        rw [ea] at sa
        rw [eb] at sb'
        dsimp only at sa sb' ⊢
        have hx := (sa.2.2 x).mp (List.mem_cons_self ..)
        have hy := (sb'.2.2 y).mp (List.mem_cons_self ..)
        obtain ⟨ax1, ax2, ax3⟩ := ql_at a (p + 1) ha.obody x hx.1
        obtain ⟨ay1, ay2, ay3⟩ := ql_at b (q + 1) hb.obody y hy.1
        have kx := hoa.1 _ ax3
        have ky := hob.1 _ ay3
        have lx := ax1.le
        have ly := ay1.le
        have cna : (ql (p + 1) a).countP (fun p => bh (some x.1) p.1) = na := by
          have e1 : ∀ z ∈ ql (p + 1) a, z.1 ≠ x.1 → bh (some x.1) z.1 = bh la z.1 := fun z hz hne => by
            apply Bool.eq_iff_iff.mpr
            have n1 := (nxA_spec la (ql (p + 1) a) none).1 x ea
            simp only [bh, Option.all_some, decide_eq_true_eq]
            have h6 := cS_good.1 z.1 x.1
            constructor
            · intro h4
              cases la with
              | none => rfl
              | some t =>
                have h5 : 0 < cS x.1 t := by simpa [bh] using hx.2
                have h8 := cS_good.1 x.1 t
                have h9 := cS_good.1 z.1 t
                have := cS_good.lt_trans' (a := t) (b := x.1) (e := z.1) (by omega) (by omega)
                simp only [Option.all_some, decide_eq_true_eq]
                omega
            · intro h4
              have h5 := n1.2.1 z hz h4
              have h8 : cS z.1 x.1 ≠ 0 := fun h => hne (cS_eq h)
              omega
          have := cnt1 (P := fun z => bh (some x.1) z.1) (Q := fun z => bh la z.1) (ql (p + 1) a) x hx.1 nda hx.2 (by simp [bh, cS_refl]) e1
          omega
        have cnb : (ql (q + 1) b).countP (fun p => bh (some y.1) p.1) = nb := by
          have e1 : ∀ z ∈ ql (q + 1) b, z.1 ≠ y.1 → bh (some y.1) z.1 = bh lb z.1 := fun z hz hne => by
            apply Bool.eq_iff_iff.mpr
            have n1 := (nxA_spec lb (ql (q + 1) b) none).1 y eb
            simp only [bh, Option.all_some, decide_eq_true_eq]
            have h6 := cS_good.1 z.1 y.1
            constructor
            · intro h4
              cases lb with
              | none => rfl
              | some t =>
                have h5 : 0 < cS y.1 t := by simpa [bh] using hy.2
                have h8 := cS_good.1 y.1 t
                have h9 := cS_good.1 z.1 t
                have := cS_good.lt_trans' (a := t) (b := y.1) (e := z.1) (by omega) (by omega)
                simp only [Option.all_some, decide_eq_true_eq]
                omega
            · intro h4
              have h5 := n1.2.1 z hz h4
              have h8 : cS z.1 y.1 ≠ 0 := fun h => hne (cS_eq h)
              omega
          have := cnt1 (P := fun z => bh (some y.1) z.1) (Q := fun z => bh lb z.1) (ql (q + 1) b) y hy.1 ndb hy.2 (by simp [bh, cS_refl]) e1
          omega
        have e1 : lst1 (some x) = i3 x.2.1 := rfl
        have e2 : lst1 (some y) = i3 y.2.1 := rfl
        have hle := cS_le x.1 y.1
        rw [e1, e2, ax1.oos ay1 kx.1 ky.1 (by omega), Option.bind_some]
        have hnx : lastAt f v (some x.1) (i3 x.2.1) := Or.inr ⟨_, _, rfl, rfl, ax1, kx.1⟩
        have hny : lastAt g u (some y.1) (i3 y.2.1) := Or.inr ⟨_, _, rfl, rfl, ay1, ky.1⟩
        unfold fin
        simp only [List.map_cons, lexC_cons]
        by_cases hc : cS x.1 y.1 = 0
        · rw [if_pos (by rw [hc]; rfl), if_pos hc]
          have hw3 := jcmp_le d x.2.2 y.2.2
          by_cases hw : w = 0
          · have r1 := hrec _ ax3 _ ay3 _ _ ax2 ay2
            rw [if_pos (by rw [hw]; rfl), ax1.safter, Option.bind_some, ay1.safter, Option.bind_some, i3_one, r1, Option.bind_some, i3_one, ih n (i + 1) na nb (jcmp d x.2.2 y.2.2) _ _ _ _ (by omega) (by omega) (by omega) hw3.1 hw3.2 hnx hny cna cnb (by omega)]
            unfold fin
            rw [if_pos hw]
          · rw [if_neg (by rw [show (0 : Int32) = iz 0 from rfl, iz_eq (by omega) (by omega) (by omega) (by omega)]; exact hw), i3_one, ih n (i + 1) na nb w _ _ _ _ (by omega) (by omega) (by omega) hw1 hw2 hnx hny cna cnb (by omega)]
            unfold fin
            rw [if_neg hw, if_neg hw]
        · rw [if_neg (by rw [show (0 : Int32) = iz 0 from rfl, iz_eq (by omega) (by omega) (by omega) (by omega)]; exact hc), if_neg hc, if_neg hc]
end OO
theorem bh_cnt {α : Type} (l : List (Sx × α)) : l.countP (fun p => bh none p.1) = l.length := List.countP_eq_length.mpr (fun _ _ => rfl)
theorem of_w {n : Nat} (hn : 20000 < n) : ∀ (d fu : Nat) (x y : JT d) (f g : Nat → Int64) (p q v u k : Nat) (o o' : Int32), jok d x → jok d y → At f v p (jc d x) → At g u q (jc d y) → d ≤ fu → k + d ≤ 1000 → k + jd d x ≤ 60 → fO_of fu n (i3 p) (i3 q) (i3 k) f (i3 v) o g (i3 u) o' = some (iz (jcmp d x y)) := by
  intro d
  induction d with
  | zero => exact fun fu x => (j0 x).elim
  | succ d ih =>
    intro fu x y f g p q v u k o o' hox hoy hax hay hfu hk hkx
    obtain ⟨fu, rfl⟩ : ∃ m, fu = m + 1 := ⟨fu - 1, by omega⟩
    have kx := kd_lt8 hox
    have ky := kd_lt8 hoy
    rw [fO_of, hax.kind hox, Option.bind_some, hay.kind hoy, Option.bind_some]
    by_cases h : kd (d + 1) x = kd (d + 1) y
    · have hr : rk (d + 1) x = rk (d + 1) y := by rw [rk_ok hox, rk_ok hoy, h]
      rw [if_pos (by rw [h]), if_pos (by rw [show (60 : Int32) = i3 60 from rfl, i3_le (by omega) (by omega)]; omega), Option.bind_some]
      rcases rk_same hr with ⟨a, b, rfl, rfl, h3⟩ | ⟨a, b, rfl, rfl⟩ | ⟨a, b, rfl, rfl⟩ | ⟨a, b, rfl, rfl⟩ | ⟨a, b, rfl, rfl⟩
      · rw [jok_k] at hox
        rw [jcmp_k, kd_k, h3, Int.sub_self, if_neg (by rw [show (3 : Int32) = i3 3 from rfl, i3_eq (by omega) (by omega)]; omega), if_neg (by rw [show (4 : Int32) = i3 4 from rfl, i3_eq (by omega) (by omega)]; omega), if_neg (by rw [show (5 : Int32) = i3 5 from rfl, i3_eq (by omega) (by omega)]; omega), if_neg (by rw [show (6 : Int32) = i3 6 from rfl, i3_eq (by omega) (by omega)]; omega)]
        rfl
      · rw [jok_n] at hox hoy
        rw [kd_n, if_pos (by decide), hax.num hox.1 hox.2, Option.bind_some, hay.num hoy.1 hoy.2, Option.bind_some, JL_cmp (by omega) (by omega) (by omega) (by omega), Option.bind_some, jcmp_n]
      · rw [jok_s] at hox hoy
        rw [kd_s, if_neg (by decide), if_pos (by decide), At.oos hax hay hox hoy (by omega), Option.bind_some, jcmp_s]
      · have s1 := hax.asz
        have s2 := hay.asz
        have hd : ∀ z ∈ a, jd d z ≤ 59 - k := jd_a_le.mp (by have := jd_a_pos (l := a); omega)
        have hp := jd_a_pos (l := a)
        rw [kd_a, if_neg (by decide), if_neg (by decide), if_pos (by decide), jcmp_a]
        unfold fO_ofArrays
        rw [hax.alen, Option.bind_some, hay.alen, Option.bind_some, min_i3 (by omega) (by omega), i3_one, i3_one]
        have := oa_loop (rec := fO_of fu n) (o := o) (o' := o') (p := p) (q := q) (k := k) (by omega) (la := a.length) (lb := b.length) (by omega) (by omega) (fun n => hax.alen) (fun n => hay.alen) a b n 0 (p + 1) (q + 1) hox hoy (fun z hz w hw r s hr hs => ih fu z w f g r s v u (k + 1) o o' (hox z hz) (hoy w hw) hr hs (by omega) (by omega) (by have := hd z hz; omega)) (by omega) (by omega) hax.abody hay.abody (by omega)
        rw [show (0 : Int32) = i3 0 from rfl, this]
        rfl
      · have s1 := hax.osz
        have s2 := hay.osz
        have hd : ∀ z ∈ a, jd d z.2 ≤ 59 - k := jd_o_le.mp (by have := jd_o_pos (l := a); omega)
        have hp := jd_o_pos (l := a)
        rw [kd_o, if_neg (by decide), if_neg (by decide), if_neg (by decide), if_pos (by decide), jcmp_o]
        unfold fO_ofObjects
        rw [hax.olen, Option.bind_some, hay.olen, Option.bind_some, min_i3 (by omega) (by omega)]
        have := oo_loop (rec := fO_of fu n) (o := o) (o' := o') (k := k) (by omega) hax hay hox hoy (fun z hz w hw r s hr hs => ih fu z.2 w.2 f g r s v u (k + 1) o o' (hox.1 z hz).2 (hoy.1 w hw).2 hr hs (by omega) (by omega) (by have := hd z hz; omega)) (min a.length b.length) n 0 a.length b.length 0 none none (-1) (-1) (by omega) (by omega) (by omega) (by omega) (by omega) (Or.inl ⟨rfl, rfl⟩) (Or.inl ⟨rfl, rfl⟩) (by rw [bh_cnt, ql_len]) (by rw [bh_cnt, ql_len]) (by omega)
        rw [fin_map, ← sq_map (fun x : Nat × JT d => x.2), ← sq_map (fun x : Nat × JT d => x.2), ql_map, ql_map] at this
        have e0 : fin (jcmp d) 0 (sq a a.length none) (sq b b.length none) = objC (jcmp d) a b := by
          unfold fin objC srt
          rw [if_pos rfl]
        rw [e0] at this
        exact (congrArg (fun w => Option.bind w (fun y => some y)) this).trans rfl
    · rw [if_neg (by rw [i3_eq (by omega) (by omega)]; exact h), Option.bind_some, Option.bind_some, JI_cmp (by omega) (by omega), Option.bind_some, jcmp_ne (by rw [rk_ok hox, rk_ok hoy]; exact h), rk_ok hox, rk_ok hoy]
theorem of0_w {n : Nat} (hn : 20000 < n) {d fu : Nat} {x y : JT d} {f g : Nat → Int64} {p q v u : Nat} {o o' : Int32} (hx : jok d x) (hy : jok d y) (hax : At f v p (jc d x)) (hay : At g u q (jc d y)) (hfu : d ≤ fu) (hd : d ≤ 1000) (hk : jd d x ≤ 60) : fO_of fu n (i3 p) (i3 q) 0 f (i3 v) o g (i3 u) o' = some (iz (jcmp d x y)) := of_w hn d fu x y f g p q v u 0 o o' hx hy hax hay hfu (by omega) (by omega)
end ZSq16
section ZSame17
/-! ===== the same ===== -/
theorem srt_perm {α : Type} {l : List (Sx × α)} (hnd : (l.map (fun p => p.1)).Nodup) : (srt l).Perm l := by
  obtain ⟨h1, h2, h3⟩ := srt_spec hnd
  refine (List.perm_ext_iff_of_nodup (h2.imp (fun {a b} h e => ?_)) ?_).mpr h3
  · rw [e, cS_refl] at h
    omega
  · exact List.Pairwise.of_map (fun p => p.1) (fun a b h e => h (by rw [e])) hnd
theorem lex0 {α β : Type} {c : α → β → Int} : ∀ (a : List α) (b : List β), lexC c a b = 0 ↔ a.length = b.length ∧ ∀ (i : Nat) x y, a[i]? = some x → b[i]? = some y → c x y = 0 := by
  intro a
  induction a with
  | nil =>
    intro b
    cases b with
    | nil => exact ⟨fun _ => ⟨rfl, fun i x y h => by simp at h⟩, fun _ => rfl⟩
    | cons y b => exact ⟨fun h => absurd h (by rw [lexC_nil_cons]; omega), fun h => absurd h.1 (by simp)⟩
  | cons x a ih =>
    intro b
    cases b with
    | nil => exact ⟨fun h => absurd h (by rw [lexC_cons_nil]; omega), fun h => absurd h.1 (by simp)⟩
    | cons y b =>
      rw [lexC_cons]
      by_cases h : c x y = 0
      · rw [if_pos h, ih b, List.length_cons, List.length_cons]
        constructor
        · rintro ⟨h1, h2⟩
          refine ⟨by omega, fun i x' y' hx hy => ?_⟩
          cases i with
          | zero =>
            obtain rfl := Option.some.inj hx
            obtain rfl := Option.some.inj hy
            exact h
          | succ i => exact h2 i x' y' (by simpa using hx) (by simpa using hy)
        · rintro ⟨h1, h2⟩
          exact ⟨by omega, fun i x' y' hx hy => h2 (i + 1) x' y' (by simpa using hx) (by simpa using hy)⟩
      · rw [if_neg h]
        exact ⟨fun h2 => absurd h2 h, fun h2 => absurd (h2.2 0 x y rfl rfl) h⟩
theorem flat_sz {α β : Type} {g : α → List Int64} {g' : β → List Int64} : ∀ (a : List α) (b : List β), a.length = b.length → (∀ (i : Nat) x y, a[i]? = some x → b[i]? = some y → (g x).length = (g' y).length) → (a.flatMap g).length = (b.flatMap g').length := by
  intro a
  induction a with
  | nil =>
    intro b h _
    cases b with
    | nil => rfl
    | cons y b => simp at h
  | cons x a ih =>
    intro b h h2
    cases b with
    | nil => simp at h
    | cons y b =>
      rw [List.flatMap_cons, List.flatMap_cons, List.length_append, List.length_append, h2 0 x y rfl rfl, ih b (by simpa using h) (fun i x' y' hx hy => h2 (i + 1) x' y' (by simpa using hx) (by simpa using hy))]
/-- what is the same has as many cells -/
theorem jcmp_sz : ∀ (d : Nat) (x y : JT d), jok d x → jok d y → jcmp d x y = 0 → (jc d x).length = (jc d y).length := by
  intro d
  induction d with
  | zero => exact fun x => (j0 x).elim
  | succ d ih =>
    intro x y hx hy h
    have hr : rk (d + 1) x = rk (d + 1) y := by
      apply Decidable.byContradiction
      intro hne
      rw [jcmp_ne hne, sg_eq0] at h
      omega
    rcases rk_same hr with ⟨a, b, rfl, rfl, h3⟩ | ⟨a, b, rfl, rfl⟩ | ⟨a, b, rfl, rfl⟩ | ⟨a, b, rfl, rfl⟩ | ⟨a, b, rfl, rfl⟩
    · rfl
    · rfl
    · rw [jcmp_s] at h
      rw [cS_eq h]
    · rw [jcmp_a, lex0] at h
      rw [jc_a, jc_a, lst_len, lst_len, flat_sz a b h.1 (fun i x' y' hx' hy' => ih x' y' (hx x' (List.mem_of_getElem? hx')) (hy y' (List.mem_of_getElem? hy')) (h.2 i x' y' hx' hy'))]
    · rw [jcmp_o] at h
      unfold objC at h
      by_cases hc : lexC cS ((srt a).map (fun p => p.1)) ((srt b).map (fun p => p.1)) = 0
      · rw [if_pos hc, lex0] at h
        rw [lex0] at hc
        have pa := srt_perm hx.2
        have pb := srt_perm hy.2
        rw [jc_o, jc_o, lst_len, lst_len, ← (pa.flatMap_right _).length_eq, ← (pb.flatMap_right _).length_eq]
        congr 1
        apply flat_sz
        · have := hc.1
          rwa [List.length_map, List.length_map] at this
        · intro i p q hp hq
          rw [List.length_append, List.length_append, strc_len, strc_len]
          have h1 := cS_eq (hc.2 i p.1 q.1 (by rw [List.getElem?_map, hp]; rfl) (by rw [List.getElem?_map, hq]; rfl))
          have h2 := h.2 i p.2 q.2 (by rw [List.getElem?_map, hp]; rfl) (by rw [List.getElem?_map, hq]; rfl)
          have h3 := ih p.2 q.2 (hx.1 p (pa.mem_iff.mp (List.mem_of_getElem? hp))).2 (hy.1 q (pb.mem_iff.mp (List.mem_of_getElem? hq))).2 h2
          rw [h1, h3]
      · rw [if_neg hc] at h
        exact absurd h hc
theorem jcmp_len : ∀ {d : Nat} {x y : JT (d + 1)}, jok (d + 1) x → jok (d + 1) y → jcmp (d + 1) x y = 0 → (jc (d + 1) x)[0]? = (jc (d + 1) y)[0]? := by
  intro d x y hx hy h
  have hs := jcmp_sz (d + 1) x y hx hy h
  have hr : rk (d + 1) x = rk (d + 1) y := by
    apply Decidable.byContradiction
    intro hne
    rw [jcmp_ne hne, sg_eq0] at h
    omega
  rcases rk_same hr with ⟨a, b, rfl, rfl, h3⟩ | ⟨a, b, rfl, rfl⟩ | ⟨a, b, rfl, rfl⟩ | ⟨a, b, rfl, rfl⟩ | ⟨a, b, rfl, rfl⟩
  · rw [jok_k] at hx hy
    rw [show a = b by omega]
  · rw [jcmp_n, sg_eq0] at h
    rw [show a = b by omega]
  · rw [jcmp_s] at h
    rw [cS_eq h]
  · rw [jcmp_a, lex0] at h
    rw [jc_a, jc_a, lst_len, lst_len] at hs
    rw [jc_a, jc_a]
    unfold lst
    rw [h.1, show (a.flatMap (jc d)).length = (b.flatMap (jc d)).length by omega]
    rfl
  · rw [jcmp_o] at h
    unfold objC at h
    have hl : a.length = b.length := by
      by_cases hc : lexC cS ((srt a).map (fun p => p.1)) ((srt b).map (fun p => p.1)) = 0
      · rw [lex0] at hc
        have := hc.1
        rw [List.length_map, List.length_map, (srt_perm hx.2).length_eq, (srt_perm hy.2).length_eq] at this
        exact this
      · rw [if_neg hc] at h
        exact absurd h hc
    rw [jc_o, jc_o, lst_len, lst_len] at hs
    rw [jc_o, jc_o]
    unfold lst
    rw [hl, Nat.add_right_cancel hs]
    rfl
theorem At.cell0 {n d v p : Nat} {f : Nat → Int64} {o : Int32} {j : JT d} (h : At f v p (jc d j)) : ∃ x, (jc d j)[0]? = some x ∧ fR_cell n (i3 p) f (i3 v) o = some x := by
  have h1 := jc_pos d j
  have h2 := h.2
  refine ⟨(jc d j)[0], List.getElem?_eq_getElem (by omega), ?_⟩
  rw [cell_in (by omega) (by omega), ← seg_get h.1 (i := 0) (by omega)]
  rfl
theorem same_w {n : Nat} (hn : 20000 < n) {d fu : Nat} {x y : JT d} {f g : Nat → Int64} {p q v u : Nat} {o o' : Int32} (hx : jok d x) (hy : jok d y) (hax : At f v p (jc d x)) (hay : At g u q (jc d y)) (hfu : d ≤ fu) (hd : d ≤ 1000) (hk : jd d x ≤ 60) : fO_isSame fu n (i3 p) (i3 q) f (i3 v) o g (i3 u) o' = some (if jcmp d x y = 0 then 1 else 0) := by
  cases d with
  | zero => exact (j0 x).elim
  | succ d =>
    obtain ⟨a, ha, ea⟩ := hax.cell0 (n := n) (o := o)
    obtain ⟨b, hb, eb⟩ := hay.cell0 (n := n) (o := o')
    have hle := jcmp_le (d + 1) x y
    unfold fO_isSame
    rw [ea, Option.bind_some, eb, Option.bind_some]
    by_cases h : jcmp (d + 1) x y = 0
    · have he := jcmp_len hx hy h
      rw [ha, hb] at he
      rw [if_pos (by rw [lg_zero]; exact Option.some.inj he), show (0 : Int32) = i3 0 from rfl, of_w hn (d + 1) fu x y f g p q v u 0 o o' hx hy hax hay hfu (by omega) (by omega), Option.bind_some, h, if_pos rfl]
      rfl
    · rw [if_neg h]
      split
      · rw [show (0 : Int32) = i3 0 from rfl, of_w hn (d + 1) fu x y f g p q v u 0 o o' hx hy hax hay hfu (by omega) (by omega), Option.bind_some, if_neg (by rw [show i3 0 = iz 0 from rfl, iz_eq (by omega) (by omega) (by omega) (by omega)]; exact h)]
      · rfl
end ZSame17
