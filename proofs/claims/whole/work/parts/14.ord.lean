/-! ===== one row twice is two rows ===== -/
theorem al_oos_b {f : Nat → Int64} {v o : Int32} : ∀ (n lb : Nat) (a b c d e g : Int32), fR_orderOfStrings_b f v o n lb a b c d e g = fR_orderOfStringsa_b f v o f v o n lb a b c d e g := by
  intro n
  induction n with
  | zero => intros; rfl
  | succ n ih => intros; simp only [fR_orderOfStrings_b, fR_orderOfStringsa_b, ih]
theorem al_oos {f : Nat → Int64} {v o : Int32} {n : Nat} {x y : Int32} : fR_orderOfStrings n x y f v o = fR_orderOfStringsa n x y f v o f v o := by
  simp only [fR_orderOfStrings, fR_orderOfStringsa, al_oos_b]
theorem al_vo_b {f : Nat → Int64} {v o : Int32} : ∀ (n lb : Nat) (a b c d : Int32), fR_valueOf_b f v o n lb a b c d = fR_valueOfa_b f v o f v o n lb a b c d := by
  intro n
  induction n with
  | zero => intros; rfl
  | succ n ih => intros; simp only [fR_valueOf_b, fR_valueOfa_b, ih, al_oos]
theorem al_vo {f : Nat → Int64} {v o : Int32} {n : Nat} {x y : Int32} : fR_valueOf n x y f v o = fR_valueOfa n x y f v o f v o := by
  simp only [fR_valueOf, fR_valueOfa, al_vo_b]
theorem al_hp_b {f : Nat → Int64} {v o : Int32} : ∀ (n lb : Nat) (a b c d e : Int32), fR_hasPart_b f v o n lb a b c d e = fR_hasParta_b f v o f v o n lb a b c d e := by
  intro n
  induction n with
  | zero => intros; rfl
  | succ n ih => intros; simp only [fR_hasPart_b, fR_hasParta_b, ih]
theorem al_hp {f : Nat → Int64} {v o : Int32} {n : Nat} {x y z : Int32} : fR_hasPart n x y z f v o = fR_hasParta n x y z f v o f v o := by
  simp only [fR_hasPart, fR_hasParta, al_hp_b]
theorem al_ofa_b {f : Nat → Int64} {v o : Int32} {r1 : Int32 → Int32 → Int32 → (Nat → Int64) → Int32 → Int32 → Option Int32} {r2 : Int32 → Int32 → Int32 → (Nat → Int64) → Int32 → Int32 → (Nat → Int64) → Int32 → Int32 → Option Int32} (hr : ∀ x y z, r1 x y z f v o = r2 x y z f v o f v o) : ∀ (n lb : Nat) (a b c d e g h : Int32), fO_ofArraysa_b r1 f v o n lb a b c d e g h = fO_ofArrays_b r2 f v o f v o n lb a b c d e g h := by
  intro n
  induction n with
  | zero => intros; rfl
  | succ n ih => intros; simp only [fO_ofArraysa_b, fO_ofArrays_b, ih, hr]
theorem al_ofo_b {f : Nat → Int64} {v o : Int32} {r1 : Int32 → Int32 → Int32 → (Nat → Int64) → Int32 → Int32 → Option Int32} {r2 : Int32 → Int32 → Int32 → (Nat → Int64) → Int32 → Int32 → (Nat → Int64) → Int32 → Int32 → Option Int32} (hr : ∀ x y z, r1 x y z f v o = r2 x y z f v o f v o) : ∀ (n lb : Nat) (a b c d e g h i : Int32), fO_ofObjectsa_b r1 f v o n lb a b c d e g h i = fO_ofObjects_b r2 f v o f v o n lb a b c d e g h i := by
  intro n
  induction n with
  | zero => intros; rfl
  | succ n ih => intros; simp only [fO_ofObjectsa_b, fO_ofObjects_b, ih, hr, al_oos]
theorem al_of {f : Nat → Int64} {v o : Int32} {n : Nat} : ∀ (d : Nat) (x y z : Int32), fO_ofa d n x y z f v o = fO_of d n x y z f v o f v o := by
  intro d
  induction d with
  | zero => intros; rfl
  | succ d ih =>
    intros
    simp only [fO_ofa, fO_of, fO_ofArraysa, fO_ofArrays, fO_ofObjectsa, fO_ofObjects, al_ofa_b (r2 := fO_of d n) ih, al_ofo_b (r2 := fO_of d n) ih, al_oos]
theorem al_same {f : Nat → Int64} {v o : Int32} {d n : Nat} {x y : Int32} : fO_isSamea d n x y f v o = fO_isSame d n x y f v o f v o := by
  simp only [fO_isSamea, fO_isSame, al_of]
/-! ===== comparisons ===== -/
theorem JI_cmp {n a b : Nat} (ha : a < 2147483648) (hb : b < 2147483648) : fJI_compare n (i3 a) (i3 b) = some (iz (sg ((a : Int) - b))) := by
  unfold fJI_compare
  by_cases h : b ≤ a
  · rw [if_pos (by rw [i3_le hb ha]; exact h)]
    by_cases h2 : a = b
    · rw [if_pos (by rw [h2]), show sg ((a : Int) - b) = 0 by rw [sg_eq0]; omega]
      rfl
    · rw [if_neg (by rw [i3_eq ha hb]; exact h2), show sg ((a : Int) - b) = 1 by unfold sg; rw [if_neg (by omega), if_neg (by omega)]]
      rfl
  · rw [if_neg (by rw [i3_le hb ha]; exact h), show sg ((a : Int) - b) = -1 by unfold sg; rw [if_pos (by omega)]]
    rfl
theorem JL_cmp {n : Nat} {a b : Int} (h1 : -9223372036854775808 ≤ a) (h2 : a < 9223372036854775808) (h3 : -9223372036854775808 ≤ b) (h4 : b < 9223372036854775808) : fJL_compare n (cW a) (cW b) = some (iz (sg (a - b))) := by
  unfold fJL_compare
  rw [lg_cW h1 h2 h3 h4]
  by_cases h : 0 ≤ a - b
  · rw [if_pos (by rw [izs_ge0]; exact h)]
    by_cases h2 : a - b = 0
    · rw [if_pos (by rw [izs_eq0]; exact h2), h2]
      rfl
    · rw [if_neg (by rw [izs_eq0]; exact h2), show sg (a - b) = 1 by unfold sg; rw [if_neg (by omega), if_neg (by omega)]]
      rfl
  · rw [if_neg (by rw [izs_ge0]; exact h), show sg (a - b) = -1 by unfold sg; rw [if_pos (by omega)]]
    rfl
theorem lexC_le {α β : Type} {c : α → β → Int} (hc : ∀ x y, -1 ≤ c x y ∧ c x y ≤ 1) : ∀ (a : List α) (b : List β), -1 ≤ lexC c a b ∧ lexC c a b ≤ 1 := by
  intro a
  induction a with
  | nil => intro b; cases b <;> (unfold lexC; omega)
  | cons x a ih =>
    intro b
    cases b with
    | nil => unfold lexC; omega
    | cons y b =>
      have := ih b
      have := hc x y
      rw [lexC_cons]
      split <;> omega
theorem jcmp_le : ∀ (d : Nat) (x y : JT d), -1 ≤ jcmp d x y ∧ jcmp d x y ≤ 1 := by
  intro d
  induction d with
  | zero => exact fun x => (j0 x).elim
  | succ d ih =>
    intro x y
    by_cases h : rk (d + 1) x = rk (d + 1) y
    · rcases jcases x with ⟨k, rfl⟩ | ⟨z, rfl⟩ | ⟨s, rfl⟩ | ⟨l, rfl⟩ | ⟨l, rfl⟩ <;> rcases jcases y with ⟨k', rfl⟩ | ⟨z', rfl⟩ | ⟨s', rfl⟩ | ⟨l', rfl⟩ | ⟨l', rfl⟩
      · rw [jcmp_k]; exact sg_le _
      case inr.inl.inr.inl => rw [jcmp_n]; exact sg_le _
      case inr.inr.inl.inr.inr.inl => rw [jcmp_s]; exact cS_le _ _
      case inr.inr.inr.inl.inr.inr.inr.inl => rw [jcmp_a]; exact lexC_le ih _ _
      case inr.inr.inr.inr.inr.inr.inr.inr =>
        rw [jcmp_o]
        unfold objC
        split
        · exact lexC_le ih _ _
        · exact lexC_le cS_le _ _
      all_goals
        unfold jcmp
        rw [if_pos h]
        constructor
        · show (-1 : Int) ≤ 0
          omega
        · show (0 : Int) ≤ 1
          omega
    · rw [jcmp_ne h]
      exact sg_le _
/-! ===== names in order ===== -/
def bh (last : Option Sx) (s : Sx) : Bool := last.all (fun t => decide (0 < cS s t))
def ql {d : Nat} : Nat → List (Sx × JT d) → List (Sx × (Nat × JT d))
  | _, [] => []
  | b, p :: l => (p.1, (b, p.2)) :: ql (b + (p.1.length + 1) + (jc d p.2).length) l
theorem ql_map {d : Nat} : ∀ (l : List (Sx × JT d)) (b : Nat), (ql b l).map (fun q => (q.1, q.2.2)) = l := by
  intro l
  induction l with
  | nil => intro b; rfl
  | cons p l ih =>
    intro b
    rw [ql, List.map_cons, ih]
theorem ql_len {d : Nat} (l : List (Sx × JT d)) (b : Nat) : (ql b l).length = l.length := by
  have := congrArg List.length (ql_map l b)
  rwa [List.length_map] at this
theorem ql_at {d : Nat} {f : Nat → Int64} {v : Nat} : ∀ (l : List (Sx × JT d)) (b : Nat), At f v b (l.flatMap (fun p => strc p.1 ++ jc d p.2)) → ∀ q ∈ ql b l, At f v q.2.1 (strc q.1) ∧ At f v (q.2.1 + (q.1.length + 1)) (jc d q.2.2) ∧ (q.1, q.2.2) ∈ l := by
  intro l
  induction l with
  | nil => intro b _ q hq; exact absurd hq (by simp [ql])
  | cons p l ih =>
    intro b hat q hq
    obtain ⟨h1, h2, h3⟩ := hat.ocons
    rw [ql] at hq
    rcases List.mem_cons.mp hq with rfl | hq
    · exact ⟨h1, h2, List.mem_cons_self ..⟩
    · obtain ⟨g1, g2, g3⟩ := ih _ h3 q hq
      exact ⟨g1, g2, List.mem_cons_of_mem _ g3⟩
theorem nxA_map {α β : Type} (g : α → β) (last : Option Sx) : ∀ (l : List (Sx × α)) (b : Option (Sx × α)), nxA last (l.map (fun p => (p.1, g p.2))) (b.map (fun p => (p.1, g p.2))) = (nxA last l b).map (fun p => (p.1, g p.2)) := by
  intro l
  induction l with
  | nil => intro b; rfl
  | cons p l ih =>
    intro b
    rw [List.map_cons, nxA, nxA, ← ih]
    congr 1
    cases b with
    | none => simp only [Option.map_none, Option.all_none]; split <;> rfl
    | some y => simp only [Option.map_some, Option.all_some]; split <;> rfl
theorem nx_map {α β : Type} (g : α → β) (l : List (Sx × α)) (last : Option Sx) : nx (l.map (fun p => (p.1, g p.2))) last = (nx l last).map (fun p => (p.1, g p.2)) := nxA_map g last l none
theorem sq_map {α β : Type} (g : α → β) (l : List (Sx × α)) : ∀ (n : Nat) (last : Option Sx), sq (l.map (fun p => (p.1, g p.2))) n last = (sq l n last).map (fun p => (p.1, g p.2)) := by
  intro n
  induction n with
  | zero => intro last; rfl
  | succ n ih =>
    intro last
    rw [sq, sq, nx_map]
    cases nx l last with
    | none => rfl
    | some p =>
      show (p.1, g p.2) :: sq _ n (some p.1) = _
      rw [ih]
      rfl
theorem srt_map {α β : Type} (g : α → β) (l : List (Sx × α)) : srt (l.map (fun p => (p.1, g p.2))) = (srt l).map (fun p => (p.1, g p.2)) := by
  unfold srt
  rw [List.length_map, sq_map]
section NN
variable {f : Nat → Int64} {v p d : Nat} {o : Int32}
def lastAt (f : Nat → Int64) (v : Nat) (last : Option Sx) (x : Int32) : Prop := (last = none ∧ x = -1) ∨ ∃ s q, last = some s ∧ x = i3 q ∧ At f v q (strc s) ∧ sok s
def lst1 (b : Option (Sx × (Nat × JT d))) : Int32 := match b with
  | none => -1
  | some q => i3 q.2.1
theorem nn_loop {tot : Nat} (ht : tot < 65536) (hlen : ∀ n, fR_length n (i3 p) f (i3 v) o = some (i3 tot)) {last : Option Sx} {x : Int32} (hx : lastAt f v last x) : ∀ (l : List (Sx × JT d)) (n k r : Nat) (b : Option (Sx × (Nat × JT d))), (∀ x ∈ l, sok x.1 ∧ jok d x.2) → k + l.length = tot → At f v r (l.flatMap (fun x => strc x.1 ++ jc d x.2)) → (∀ q, b = some q → At f v q.2.1 (strc q.1) ∧ sok q.1) → 4097 + l.length < n →
    fO_nextName_b f (i3 v) o n 1 (i3 k) (i3 r) (lst1 b) (i3 p) x = some (lst1 (nxA last (ql r l) b)) := by
  intro l
  induction l with
  | nil =>
    intro n k r b _ hk _ _ hn
    obtain ⟨n, rfl⟩ : ∃ m, n = m + 1 := ⟨n - 1, by omega⟩
    rw [fO_nextName_b, hlen, Option.bind_some, if_pos (by rw [i3_le (by omega) (by simp at hk; omega)]; simp at hk; omega)]
    rfl
  | cons y l ih =>
    intro n k r b hok hk hat hb hn
    rw [List.length_cons] at hk hn
    obtain ⟨n, rfl⟩ : ∃ m, n = m + 1 := ⟨n - 1, by omega⟩
    obtain ⟨hy, hy2⟩ := hok y (List.mem_cons_self ..)
    obtain ⟨at1, at2, at3⟩ := hat.ocons
    have hle := at1.le
    have ih2 := fun b hb => ih n (k + 1) _ b (fun x hx => hok x (List.mem_cons_of_mem _ hx)) (by omega) at3 hb (by omega)
    have ihb := ih2 b hb
    have ihy := ih2 (some (y.1, (r, y.2))) (fun q hq => by
      obtain rfl := Option.some.inj hq
      exact ⟨at1, hy⟩)
    have ey : lst1 (some (y.1, (r, y.2))) = i3 r := rfl
    rw [ey] at ihy
    have hbl : (lst1 b = -1 ∧ b = none) ∨ (∃ q, b = some q ∧ ¬ lst1 b = -1 ∧ fR_orderOfStringsa n (i3 r) (lst1 b) f (i3 v) o f (i3 v) o = some (iz (cS y.1 q.1))) := by
      cases b with
      | none => exact Or.inl ⟨rfl, rfl⟩
      | some q =>
        obtain ⟨g1, g2⟩ := hb q rfl
        have := g1.le
        refine Or.inr ⟨q, rfl, ?_, at1.oos g1 hy g2 (by omega)⟩
        show ¬ i3 q.2.1 = -1
        rw [i3_m1 (by omega)]
        exact not_false
    have hne : ∀ s, (0 ≤ iz (cS y.1 s)) = (0 ≤ cS y.1 s) := fun s => by
      have := cS_le y.1 s
      rw [show (0 : Int32) = iz 0 from rfl, iz_le (by omega) (by omega) (by omega) (by omega)]
    have hpo : ∀ s, (iz (cS y.1 s) ≤ 0) = (cS y.1 s ≤ 0) := fun s => by
      have := cS_le y.1 s
      rw [show (0 : Int32) = iz 0 from rfl, iz_le (by omega) (by omega) (by omega) (by omega)]
    rw [fO_nextName_b, hlen, Option.bind_some, if_neg (by rw [i3_le (by omega) (by omega)]; omega)]
    simp only [at1.safter, Option.bind_some, at2.after hy2, i3_one, ihb, ihy, al_oos]
    rw [ql, nxA]
    rcases hx with ⟨rfl, rfl⟩ | ⟨s, q, rfl, rfl, hs1, hs2⟩
    · rw [if_pos rfl]
      rcases hbl with ⟨h1, rfl⟩ | ⟨q, rfl, h1, h2⟩
      · rw [if_pos h1]
        rfl
      · rw [if_neg h1, h2, Option.bind_some]
        simp only [Option.all_none, Option.all_some, Bool.true_and]
        by_cases h : cS y.1 q.1 < 0
        · rw [if_neg (by rw [hne]; omega), if_pos (by simpa using h)]
        · rw [if_pos (by rw [hne]; omega), if_neg (by simpa using h)]
    · have := hs1.le
      rw [if_neg (by rw [i3_m1 (by omega)]; exact not_false), at1.oos hs1 hy hs2 (by omega), Option.bind_some]
      simp only [Option.all_some]
      by_cases h0 : 0 < cS y.1 s
      · rw [if_neg (by rw [hpo]; omega)]
        rcases hbl with ⟨h1, rfl⟩ | ⟨q, rfl, h1, h2⟩
        · rw [if_pos h1, if_pos (by simp [h0])]
        · rw [if_neg h1, h2, Option.bind_some]
          simp only [Option.all_some]
          by_cases h : cS y.1 q.1 < 0
          · rw [if_neg (by rw [hne]; omega), if_pos (by simp [h0, h])]
          · rw [if_pos (by rw [hne]; omega), if_neg (by simp [h])]
      · rw [if_pos (by rw [hpo]; omega), if_neg (by simp [h0])]
theorem At.nn {l : List (Sx × JT d)} (h : At f v p (jc (d + 1) (jo l))) (hok : jok (d + 1) (jo l)) {last : Option Sx} {x : Int32} (hx : lastAt f v last x) {n : Nat} (hn : 8200 < n) : fO_nextName n (i3 p) x f (i3 v) o = some (lst1 (nx (ql (p + 1) l) last)) := by
  have h2 := h.osz
  unfold fO_nextName
  rw [i3_one]
  exact nn_loop (by omega) (fun n => h.olen) hx l n 0 (p + 1) none hok.1 (by omega) h.obody (fun q hq => nomatch hq) (by omega)
end NN
