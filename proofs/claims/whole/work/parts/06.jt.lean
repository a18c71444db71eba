/-! ===== values: trees with at most d - 1 lists within one another ===== -/
abbrev Sx : Type := List Nat
def JT : Nat → Type
  | 0 => Empty
  | d + 1 => (Nat ⊕ Int ⊕ List Nat) ⊕ (List (JT d) ⊕ List (List Nat × JT d))
def jk {d : Nat} (k : Nat) : JT (d + 1) := Sum.inl (Sum.inl k)
def jn {d : Nat} (z : Int) : JT (d + 1) := Sum.inl (Sum.inr (Sum.inl z))
def js {d : Nat} (s : Sx) : JT (d + 1) := Sum.inl (Sum.inr (Sum.inr s))
def ja {d : Nat} (l : List (JT d)) : JT (d + 1) := Sum.inr (Sum.inl l)
def jo {d : Nat} (l : List (Sx × JT d)) : JT (d + 1) := Sum.inr (Sum.inr l)
theorem jcases {d : Nat} (j : JT (d + 1)) : (∃ k, j = jk k) ∨ (∃ z, j = jn z) ∨ (∃ s, j = js s) ∨ (∃ l, j = ja l) ∨ (∃ l, j = jo l) := by
  rcases j with (k | z | s) | (l | l)
  · exact Or.inl ⟨k, rfl⟩
  · exact Or.inr (Or.inl ⟨z, rfl⟩)
  · exact Or.inr (Or.inr (Or.inl ⟨s, rfl⟩))
  · exact Or.inr (Or.inr (Or.inr (Or.inl ⟨l, rfl⟩)))
  · exact Or.inr (Or.inr (Or.inr (Or.inr ⟨l, rfl⟩)))
/-- the kind, as both programs number it -/
def kd : (d : Nat) → JT d → Nat
  | 0, j => Empty.elim j
  | _ + 1, .inl (.inl k) => k
  | _ + 1, .inl (.inr (.inl _)) => 3
  | _ + 1, .inl (.inr (.inr _)) => 4
  | _ + 1, .inr (.inl _) => 5
  | _ + 1, .inr (.inr _) => 6
/-- a head: kind, length, cells of the whole -/
def hd (k len span : Nat) : Int64 := cW ((span * 524288 + len * 8 + k : Nat) : Int)
def strc (s : Sx) : List Int64 := hd 4 s.length (s.length + 1) :: s.map (fun c => cW (c : Nat))
def lst (k len : Nat) (body : List Int64) : List Int64 := hd k len (body.length + 1) :: body
/-- the cells of a value -/
def jc : (d : Nat) → JT d → List Int64
  | 0, j => Empty.elim j
  | _ + 1, .inl (.inl k) => [cW (k : Nat)]
  | _ + 1, .inl (.inr (.inl z)) => [cW (z * 8 + 3)]
  | _ + 1, .inl (.inr (.inr s)) => strc s
  | d + 1, .inr (.inl l) => lst 5 l.length (l.flatMap (jc d))
  | d + 1, .inr (.inr l) => lst 6 l.length (l.flatMap (fun p => strc p.1 ++ jc d p.2))
/-- what is well formed -/
def sok (s : Sx) : Prop := ∀ c ∈ s, c < 128
def jok : (d : Nat) → JT d → Prop
  | 0, j => Empty.elim j
  | _ + 1, .inl (.inl k) => k < 3
  | _ + 1, .inl (.inr (.inl z)) => -9007199254740991 ≤ z ∧ z ≤ 9007199254740991
  | _ + 1, .inl (.inr (.inr s)) => sok s
  | d + 1, .inr (.inl l) => ∀ x ∈ l, jok d x
  | d + 1, .inr (.inr l) => (∀ p ∈ l, sok p.1 ∧ jok d p.2) ∧ (l.map (fun p => p.1)).Nodup
/-- lists within one another -/
def jd : (d : Nat) → JT d → Nat
  | 0, j => Empty.elim j
  | _ + 1, .inl _ => 0
  | d + 1, .inr (.inl l) => (l.map (jd d)).foldl max 0 + 1
  | d + 1, .inr (.inr l) => (l.map (fun p => jd d p.2)).foldl max 0 + 1
/-! decimal digits -/
def dgs : Nat → Nat → List Nat
  | 0, _ => []
  | k + 1, n => (48 + n / 10 ^ k % 10) :: dgs k n
def nlA : Nat → Nat → Nat → Nat
  | 0, k, _ => k
  | f + 1, k, n => if n < 10 ^ k then k else nlA f (k + 1) n
/-- how many digits -/
def nl (n : Nat) : Nat := nlA 15 1 n
def nt (z : Int) : List Nat := (if z < 0 then [45] else []) ++ dgs (nl z.natAbs) z.natAbs
/-- a character as printed -/
def hx (d : Nat) : Nat := if d < 10 then 48 + d else 87 + d
def esc (c : Nat) : List Nat :=
  if c = 34 then [92, 34] else if c = 92 then [92, 92] else if c = 8 then [92, 98] else if c = 9 then [92, 116] else if c = 10 then [92, 110] else if c = 12 then [92, 102] else if c = 13 then [92, 114]
  else if c < 32 ∨ c = 127 then [92, 117, 48, 48, hx (c / 16), hx (c % 16)] else [c]
def qt (s : Sx) : List Nat := 34 :: (s.flatMap esc ++ [34])
/-- with commas between -/
def cj : List (List Nat) → List Nat
  | [] => []
  | x :: l => x ++ l.flatMap (fun y => 44 :: y)
def wd (k : Nat) : List Nat := if k = 0 then [110, 117, 108, 108] else if k = 1 then [102, 97, 108, 115, 101] else [116, 114, 117, 101]
/-- what is printed -/
def jt : (d : Nat) → JT d → List Nat
  | 0, j => Empty.elim j
  | _ + 1, .inl (.inl k) => wd k
  | _ + 1, .inl (.inr (.inl z)) => nt z
  | _ + 1, .inl (.inr (.inr s)) => qt s
  | d + 1, .inr (.inl l) => 91 :: (cj (l.map (jt d)) ++ [93])
  | d + 1, .inr (.inr l) => 123 :: (cj (l.map (fun p => qt p.1 ++ 58 :: jt d p.2)) ++ [125])
/-! the order -/
def lexC {α β : Type} (c : α → β → Int) : List α → List β → Int
  | [], [] => 0
  | [], _ :: _ => -1
  | _ :: _, [] => 1
  | x :: a, y :: b => if c x y = 0 then lexC c a b else c x y
def cS : Sx → Sx → Int := lexC (fun x y => sg ((x : Int) - y))
/-- the first least name behind the last one -/
def nxA {α : Type} (last : Option Sx) : List (Sx × α) → Option (Sx × α) → Option (Sx × α)
  | [], b => b
  | p :: l, b => nxA last l (if (last.all (fun t => decide (0 < cS p.1 t))) && (b.all (fun t => decide (cS p.1 t.1 < 0))) then some p else b)
def nx {α : Type} (l : List (Sx × α)) (last : Option Sx) : Option (Sx × α) := nxA last l none
def sq {α : Type} (l : List (Sx × α)) : Nat → Option Sx → List (Sx × α)
  | 0, _ => []
  | n + 1, last => match nx l last with
    | none => []
    | some p => p :: sq l n (some p.1)
def srt {α : Type} (l : List (Sx × α)) : List (Sx × α) := sq l l.length none
def objC {α : Type} (c : α → α → Int) (a b : List (Sx × α)) : Int :=
  if lexC cS ((srt a).map (fun p => p.1)) ((srt b).map (fun p => p.1)) = 0 then lexC c ((srt a).map (fun p => p.2)) ((srt b).map (fun p => p.2)) else lexC cS ((srt a).map (fun p => p.1)) ((srt b).map (fun p => p.1))
/-- the kind, of any tree, for the order -/
def rk : (d : Nat) → JT d → Nat
  | 0, j => Empty.elim j
  | _ + 1, .inl (.inl k) => min k 2
  | _ + 1, .inl (.inr (.inl _)) => 3
  | _ + 1, .inl (.inr (.inr _)) => 4
  | _ + 1, .inr (.inl _) => 5
  | _ + 1, .inr (.inr _) => 6
def jcmp : (d : Nat) → JT d → JT d → Int
  | 0, j, _ => Empty.elim j
  | d + 1, x, y => if rk (d + 1) x = rk (d + 1) y then
      match x, y with
      | .inl (.inr (.inl a)), .inl (.inr (.inl b)) => sg (a - b)
      | .inl (.inr (.inr a)), .inl (.inr (.inr b)) => cS a b
      | .inr (.inl a), .inr (.inl b) => lexC (jcmp d) a b
      | .inr (.inr a), .inr (.inr b) => objC (jcmp d) a b
      | _, _ => 0
    else sg ((rk (d + 1) x : Int) - rk (d + 1) y)
/-! in a deeper type -/
def lf : (d : Nat) → JT d → JT (d + 1)
  | 0, j => Empty.elim j
  | _ + 1, .inl b => .inl b
  | d + 1, .inr (.inl l) => .inr (.inl (l.map (lf d)))
  | d + 1, .inr (.inr l) => .inr (.inr (l.map (fun p => (p.1, lf d p.2))))
section JE
variable {d : Nat}
theorem kd_k {k : Nat} : kd (d + 1) (jk k) = k := rfl
theorem kd_n {z : Int} : kd (d + 1) (jn z) = 3 := rfl
theorem kd_s {s : Sx} : kd (d + 1) (js s) = 4 := rfl
theorem kd_a {l : List (JT d)} : kd (d + 1) (ja l) = 5 := rfl
theorem kd_o {l : List (Sx × JT d)} : kd (d + 1) (jo l) = 6 := rfl
theorem jc_k {k : Nat} : jc (d + 1) (jk k) = [cW (k : Nat)] := rfl
theorem jc_n {z : Int} : jc (d + 1) (jn z) = [cW (z * 8 + 3)] := rfl
theorem jc_s {s : Sx} : jc (d + 1) (js s) = strc s := rfl
theorem jc_a {l : List (JT d)} : jc (d + 1) (ja l) = lst 5 l.length (l.flatMap (jc d)) := rfl
theorem jc_o {l : List (Sx × JT d)} : jc (d + 1) (jo l) = lst 6 l.length (l.flatMap (fun p => strc p.1 ++ jc d p.2)) := rfl
theorem jok_k {k : Nat} : jok (d + 1) (jk k) = (k < 3) := rfl
theorem jok_n {z : Int} : jok (d + 1) (jn z) = (-9007199254740991 ≤ z ∧ z ≤ 9007199254740991) := rfl
theorem jok_s {s : Sx} : jok (d + 1) (js s) = sok s := rfl
theorem jok_a {l : List (JT d)} : jok (d + 1) (ja l) = (∀ x ∈ l, jok d x) := rfl
theorem jok_o {l : List (Sx × JT d)} : jok (d + 1) (jo l) = ((∀ p ∈ l, sok p.1 ∧ jok d p.2) ∧ (l.map (fun p => p.1)).Nodup) := rfl
theorem jd_k {k : Nat} : jd (d + 1) (jk k) = 0 := rfl
theorem jd_n {z : Int} : jd (d + 1) (jn z) = 0 := rfl
theorem jd_s {s : Sx} : jd (d + 1) (js s) = 0 := rfl
theorem jd_a {l : List (JT d)} : jd (d + 1) (ja l) = (l.map (jd d)).foldl max 0 + 1 := rfl
theorem jd_o {l : List (Sx × JT d)} : jd (d + 1) (jo l) = (l.map (fun p => jd d p.2)).foldl max 0 + 1 := rfl
theorem jt_k {k : Nat} : jt (d + 1) (jk k) = wd k := rfl
theorem jt_n {z : Int} : jt (d + 1) (jn z) = nt z := rfl
theorem jt_s {s : Sx} : jt (d + 1) (js s) = qt s := rfl
theorem jt_a {l : List (JT d)} : jt (d + 1) (ja l) = 91 :: (cj (l.map (jt d)) ++ [93]) := rfl
theorem jt_o {l : List (Sx × JT d)} : jt (d + 1) (jo l) = 123 :: (cj (l.map (fun p => qt p.1 ++ 58 :: jt d p.2)) ++ [125]) := rfl
theorem jcmp_ne {x y : JT (d + 1)} (h : rk (d + 1) x ≠ rk (d + 1) y) : jcmp (d + 1) x y = sg ((rk (d + 1) x : Int) - rk (d + 1) y) := by
  unfold jcmp
  rw [if_neg h]
theorem rk_ok {x : JT (d + 1)} (h : jok (d + 1) x) : rk (d + 1) x = kd (d + 1) x := by
  rcases jcases x with ⟨k, rfl⟩ | ⟨z, rfl⟩ | ⟨s, rfl⟩ | ⟨l, rfl⟩ | ⟨l, rfl⟩
  · rw [jok_k] at h
    show min k 2 = k
    omega
  · rfl
  · rfl
  · rfl
  · rfl
theorem jcmp_k {a b : Nat} : jcmp (d + 1) (jk a) (jk b) = sg (((min a 2 : Nat) : Int) - (min b 2 : Nat)) := by
  unfold jcmp
  by_cases h : min a 2 = min b 2
  · rw [if_pos (show rk (d + 1) (jk a) = rk (d + 1) (jk b) from h), h]
    show (0 : Int) = sg (((min b 2 : Nat) : Int) - (min b 2 : Nat))
    rw [Int.sub_self]
    rfl
  · rw [if_neg (show ¬ rk (d + 1) (jk a) = rk (d + 1) (jk b) from h)]
    rfl
theorem jcmp_n {a b : Int} : jcmp (d + 1) (jn a) (jn b) = sg (a - b) := rfl
theorem jcmp_s {a b : Sx} : jcmp (d + 1) (js a) (js b) = cS a b := rfl
theorem jcmp_a {a b : List (JT d)} : jcmp (d + 1) (ja a) (ja b) = lexC (jcmp d) a b := rfl
theorem jcmp_o {a b : List (Sx × JT d)} : jcmp (d + 1) (jo a) (jo b) = objC (jcmp d) a b := rfl
theorem lf_k {k : Nat} : lf (d + 1) (jk k) = jk k := rfl
theorem lf_n {z : Int} : lf (d + 1) (jn z) = jn z := rfl
theorem lf_s {s : Sx} : lf (d + 1) (js s) = js s := rfl
theorem lf_a {l : List (JT d)} : lf (d + 1) (ja l) = ja (l.map (lf d)) := rfl
theorem lf_o {l : List (Sx × JT d)} : lf (d + 1) (jo l) = jo (l.map (fun p => (p.1, lf d p.2))) := rfl
end JE
theorem j0 (j : JT 0) : False := Empty.elim j
theorem jc_lf : ∀ (d : Nat) (j : JT d), jc (d + 1) (lf d j) = jc d j := by
  intro d
  induction d with
  | zero => exact fun j => (j0 j).elim
  | succ d ih =>
    intro j
    rcases jcases j with ⟨k, rfl⟩ | ⟨z, rfl⟩ | ⟨s, rfl⟩ | ⟨l, rfl⟩ | ⟨l, rfl⟩
    · rfl
    · rfl
    · rfl
    · rw [lf_a, jc_a, jc_a, List.length_map, List.flatMap_map]
      simp only [ih]
    · rw [lf_o, jc_o, jc_o, List.length_map, List.flatMap_map]
      simp only [ih]
theorem jt_lf : ∀ (d : Nat) (j : JT d), jt (d + 1) (lf d j) = jt d j := by
  intro d
  induction d with
  | zero => exact fun j => (j0 j).elim
  | succ d ih =>
    intro j
    rcases jcases j with ⟨k, rfl⟩ | ⟨z, rfl⟩ | ⟨s, rfl⟩ | ⟨l, rfl⟩ | ⟨l, rfl⟩
    · rfl
    · rfl
    · rfl
    · rw [lf_a, jt_a, jt_a, List.map_map]
      congr 4
      funext x
      exact ih x
    · rw [lf_o, jt_o, jt_o, List.map_map]
      congr 4
      funext x
      exact congrArg (fun y => qt x.1 ++ 58 :: y) (ih x.2)
theorem jok_lf : ∀ (d : Nat) (j : JT d), jok (d + 1) (lf d j) ↔ jok d j := by
  intro d
  induction d with
  | zero => exact fun j => (j0 j).elim
  | succ d ih =>
    intro j
    rcases jcases j with ⟨k, rfl⟩ | ⟨z, rfl⟩ | ⟨s, rfl⟩ | ⟨l, rfl⟩ | ⟨l, rfl⟩
    · exact Iff.rfl
    · exact Iff.rfl
    · exact Iff.rfl
    · rw [lf_a, jok_a, jok_a]
      simp only [List.mem_map, forall_exists_index, and_imp, forall_apply_eq_imp_iff₂, ih]
    · rw [lf_o, jok_o, jok_o]
      simp only [List.mem_map, forall_exists_index, and_imp, forall_apply_eq_imp_iff₂, ih, List.map_map, Function.comp_def]
theorem kd_lf (d : Nat) (j : JT d) : kd (d + 1) (lf d j) = kd d j := by
  cases d with
  | zero => exact (j0 j).elim
  | succ d => rcases jcases j with ⟨k, rfl⟩ | ⟨z, rfl⟩ | ⟨s, rfl⟩ | ⟨l, rfl⟩ | ⟨l, rfl⟩ <;> rfl
theorem jd_lf : ∀ (d : Nat) (j : JT d), jd (d + 1) (lf d j) = jd d j := by
  intro d
  induction d with
  | zero => exact fun j => (j0 j).elim
  | succ d ih =>
    intro j
    rcases jcases j with ⟨k, rfl⟩ | ⟨z, rfl⟩ | ⟨s, rfl⟩ | ⟨l, rfl⟩ | ⟨l, rfl⟩
    · rfl
    · rfl
    · rfl
    · rw [lf_a, jd_a, jd_a, List.map_map]
      congr 3
      funext x
      exact ih x
    · rw [lf_o, jd_o, jd_o, List.map_map]
      congr 3
      funext x
      exact ih x.2
theorem foldl_max_le {l : List Nat} {a b : Nat} : l.foldl max a ≤ b ↔ a ≤ b ∧ ∀ x ∈ l, x ≤ b := by
  induction l generalizing a with
  | nil => simp
  | cons x l ih =>
    rw [List.foldl_cons, ih]
    simp only [List.mem_cons, forall_eq_or_imp]
    rw [Nat.max_le, and_assoc]
theorem jd_le : ∀ (d : Nat) (j : JT d), jd d j ≤ d := by
  intro d
  induction d with
  | zero => exact fun j => (j0 j).elim
  | succ d ih =>
    intro j
    rcases jcases j with ⟨k, rfl⟩ | ⟨z, rfl⟩ | ⟨s, rfl⟩ | ⟨l, rfl⟩ | ⟨l, rfl⟩
    · exact Nat.zero_le _
    · exact Nat.zero_le _
    · exact Nat.zero_le _
    · rw [jd_a]
      refine Nat.succ_le_succ (foldl_max_le.mpr ⟨Nat.zero_le _, fun x hx => ?_⟩)
      obtain ⟨y, _, rfl⟩ := List.mem_map.mp hx
      exact ih y
    · rw [jd_o]
      refine Nat.succ_le_succ (foldl_max_le.mpr ⟨Nat.zero_le _, fun x hx => ?_⟩)
      obtain ⟨y, _, rfl⟩ := List.mem_map.mp hx
      exact ih y.2
/-- the depth of a list is that of each in it, and one -/
theorem jd_a_le {d : Nat} {l : List (JT d)} {n : Nat} : jd (d + 1) (ja l) ≤ n + 1 ↔ ∀ x ∈ l, jd d x ≤ n := by
  rw [jd_a, Nat.add_le_add_iff_right, foldl_max_le]
  simp
theorem jd_o_le {d : Nat} {l : List (Sx × JT d)} {n : Nat} : jd (d + 1) (jo l) ≤ n + 1 ↔ ∀ p ∈ l, jd d p.2 ≤ n := by
  rw [jd_o, Nat.add_le_add_iff_right, foldl_max_le]
  refine ⟨fun h p hp => h.2 _ (List.mem_map_of_mem hp), fun h => ⟨Nat.zero_le _, fun x hx => ?_⟩⟩
  obtain ⟨p, hp, rfl⟩ := List.mem_map.mp hx
  exact h p hp
theorem jd_a_pos {d : Nat} {l : List (JT d)} : 1 ≤ jd (d + 1) (ja l) := Nat.le_add_left _ _
theorem jd_o_pos {d : Nat} {l : List (Sx × JT d)} : 1 ≤ jd (d + 1) (jo l) := Nat.le_add_left _ _
