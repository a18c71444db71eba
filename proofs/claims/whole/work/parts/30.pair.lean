/-! ===== what two makes ===== -/
def tru {e : Nat} (b : Bool) : JT (e + 1) := jk (if b then 2 else 1)
def oHas {e : Nat} (a x : JT (e + 1)) : Nat ⊕ JT (e + 1) :=
  match a, x with
  | .inr (.inr l), .inl (.inr (.inr s)) => .inr (tru (lu s l).isSome)
  | .inr (.inl l), .inl (.inr (.inl z)) => .inr (tru (decide (0 ≤ z ∧ z < l.length)))
  | _, _ => .inl 1
def sub (t s : Sx) : Bool := (List.range (s.length + 1)).any (fun k => pf t (s.drop k))
def luB {α : Type} (l : List (Sx × α)) (s : Sx) (c : α → Bool) : Bool := match lu s l with
  | none => false
  | some x => c x
theorem luB_some {α : Type} {l : List (Sx × α)} {s : Sx} {c : α → Bool} {x : α} (h : lu s l = some x) : luB l s c = c x := by
  unfold luB
  rw [h]
theorem luB_none {α : Type} {l : List (Sx × α)} {s : Sx} {c : α → Bool} (h : lu s l = none) : luB l s c = false := by
  unfold luB
  rw [h]
def jin : (d : Nat) → JT d → JT d → Bool
  | 0, j, _ => Empty.elim j
  | _ + 1, .inl (.inl a), .inl (.inl b) => decide (a = b)
  | _ + 1, .inl (.inr (.inl a)), .inl (.inr (.inl b)) => decide (a = b)
  | _ + 1, .inl (.inr (.inr a)), .inl (.inr (.inr b)) => sub b a
  | d + 1, .inr (.inl l), .inr (.inl m) => m.all (fun y => l.any (fun x => jin d x y))
  | d + 1, .inr (.inr l), .inr (.inr m) => m.all (fun p => luB l p.1 (fun x => jin d x p.2))
  | _ + 1, _, _ => false
def alike (a b : Nat) : Bool := decide (a = b) || ((decide (a = 1) || decide (a = 2)) && (decide (b = 1) || decide (b = 2)))
def oCont {e : Nat} (a x : JT (e + 1)) : Nat ⊕ JT (e + 1) := if alike (kd (e + 1) a) (kd (e + 1) x) then .inr (tru (jin (e + 1) a x)) else .inl 1
def oWB {e : Nat} (a x : JT (e + 1)) : Nat ⊕ JT (e + 1) :=
  match a, x with
  | .inl (.inr (.inr s)), .inl (.inr (.inr t)) => .inr (if pf t s then js (s.drop t.length) else js s)
  | a, _ => .inr a
def endsS (s t : Sx) : Bool := decide (t.length ≤ s.length) && pf t (s.drop (s.length - t.length))
def oWE {e : Nat} (a x : JT (e + 1)) : Nat ⊕ JT (e + 1) :=
  match a, x with
  | .inl (.inr (.inr s)), .inl (.inr (.inr t)) => .inr (if endsS s t then js (s.take (s.length - t.length)) else js s)
  | a, _ => .inr a
def oBeg {e : Nat} (a x : JT (e + 1)) : Nat ⊕ JT (e + 1) :=
  match a, x with
  | .inl (.inr (.inr s)), .inl (.inr (.inr t)) => .inr (tru (pf t s))
  | _, _ => .inl 1
def oEnds {e : Nat} (a x : JT (e + 1)) : Nat ⊕ JT (e + 1) :=
  match a, x with
  | .inl (.inr (.inr s)), .inl (.inr (.inr t)) => .inr (tru (endsS s t))
  | _, _ => .inl 1
theorem c1 (P : Prop) [Decidable P] : ((if P then 1 else 0 : Int32) = 0) = ¬ P := by
  by_cases hP : P
  · rw [if_pos hP]; exact propext ⟨fun h => absurd h (by decide), fun h => absurd hP h⟩
  · rw [if_neg hP]; exact propext ⟨fun _ => hP, fun _ => rfl⟩
theorem ib (b : Bool) : ((if b then 1 else 0 : Int32) = 0) = (b = false) := by cases b <;> decide
section PA
variable {f g : Nat → Int64} {v u e : Nat} {o o' : Int32} {n fu : Nat} {r : RS}
theorem truth_w (hr : RV r) (b : Bool) : OK (d := e + 1) r (fH_truth n (if b then 1 else 0) r.1 (i3 r.2.1) r.2.2) (.inr (tru b)) := by
  obtain ⟨r1, e1, w1⟩ := putTruth_w (n := n) hr b
  unfold fH_truth
  rw [e1]
  exact OK.val rfl w1
theorem nothing_w (hr : RV r) : OK (d := e + 1) r (fH_nothing n r.1 (i3 r.2.1) r.2.2) (.inr (jk 0)) := by
  obtain ⟨r1, e1, w1⟩ := putNull_w (n := n) hr
  unfold fH_nothing
  rw [e1]
  exact OK.val rfl w1
theorem copy_w (hr : RV r) {d q : Nat} {j : JT d} (h : At f v q (jc d j)) (ho : jok d j) : OK r (fH_copy n (i3 q) f (i3 v) o r.1 (i3 r.2.1) r.2.2) (.inr j) := by
  obtain ⟨r1, e1, w1⟩ := putCopy_w (n := n) (o' := o) hr h ho
  unfold fH_copy
  rw [e1]
  exact OK.val rfl w1
/-- the kinds as the program asks for them -/
theorem isk {d : Nat} {a : JT d} (ha : At f v 0 (jc d a)) (hoa : jok d a) (n : Nat) : fR_is n 0 0 f (i3 v) o = some (if kd d a = 0 then 1 else 0) ∧ fR_is n 0 3 f (i3 v) o = some (if kd d a = 3 then 1 else 0) ∧ fR_is n 0 4 f (i3 v) o = some (if kd d a = 4 then 1 else 0) ∧ fR_is n 0 5 f (i3 v) o = some (if kd d a = 5 then 1 else 0) ∧ fR_is n 0 6 f (i3 v) o = some (if kd d a = 6 then 1 else 0) :=
  ⟨At.is (p := 0) (k := 0) ha hoa (by omega), At.is (p := 0) (k := 3) ha hoa (by omega), At.is (p := 0) (k := 4) ha hoa (by omega), At.is (p := 0) (k := 5) ha hoa (by omega), At.is (p := 0) (k := 6) ha hoa (by omega)⟩
theorem has_w (hn : 10000 < n) {a x : JT (e + 1)} (ha : At f v 0 (jc (e + 1) a)) (hoa : jok (e + 1) a) (hx : At g u 0 (jc (e + 1) x)) (hox : jok (e + 1) x) (hr : RV r) : OK r (fH_has n f (i3 v) o g (i3 u) o' r.1 (i3 r.2.1) r.2.2) (oHas a x) := by
  obtain ⟨_, _, _, a5, a6⟩ := isk (o := o) ha hoa n
  obtain ⟨_, x3, x4, _, _⟩ := isk (o := o') hx hox n
  unfold fH_has
  simp only [b4, a5, a6, x3, x4, Option.bind_some, c1]
  by_cases h1 : kd (e + 1) a = 6 ∧ kd (e + 1) x = 4
  · obtain ⟨l, rfl⟩ := kdo hoa h1.1
    obtain ⟨s, rfl⟩ := kds hox h1.2
    rw [if_neg (Decidable.not_not.mpr h1.1), if_neg (Decidable.not_not.mpr h1.2)]
    have hres : oHas (jo l : JT (e + 1)) (js s) = .inr (tru (lu s l).isSome) := rfl
    rw [hres]
    rcases At.vo (n := n) (o := o) (o' := o') (q := 0) ha hoa hox (show At g u 0 (strc s) from hx) (by omega) with ⟨r', y, g1, g2, g3, g4⟩ | ⟨g1, g4⟩
    · have h5 := g3.2
      have h6 := jc_pos e y
      have g4' : fR_valueOfa n 0 0 f (i3 v) o g (i3 u) o' = some (i3 r') := g4
      rw [g4', Option.bind_some, if_neg (by rw [i3_m1 (by omega)]; exact not_false), g1]
      exact truth_w hr true
    · have g4' : fR_valueOfa n 0 0 f (i3 v) o g (i3 u) o' = some (-1) := g4
      rw [g4', Option.bind_some, if_pos rfl, g1]
      exact truth_w hr false
  · have mid : OK r (if ¬ kd (e + 1) a = 5 then some ((1 : Int32), r.1, i3 r.2.1, r.2.2) else if ¬ kd (e + 1) x = 3 then some ((1 : Int32), r.1, i3 r.2.1, r.2.2) else (fR_number n 0 g (i3 u) o').bind fun o10 => (if (lg_cmp o10 0) < 0 then fH_truth n 0 r.1 (i3 r.2.1) r.2.2 else (fR_number n 0 g (i3 u) o').bind fun o13 => (fR_length n 0 f (i3 v) o).bind fun o16 => (if 0 ≤ (lg_cmp o13 o16.toInt64) then fH_truth n 0 r.1 (i3 r.2.1) r.2.2 else fH_truth n 1 r.1 (i3 r.2.1) r.2.2))) (oHas a x) := by
      by_cases h2 : kd (e + 1) a = 5 ∧ kd (e + 1) x = 3
      · obtain ⟨l, rfl⟩ := kda hoa h2.1
        obtain ⟨z, rfl⟩ := kdn hox h2.2
        rw [jok_n] at hox
        have hsz := ha.asz
        have en : fR_number n 0 g (i3 u) o' = some (cW z) := At.num (p := 0) hx hox.1 hox.2
        have el : fR_length n 0 f (i3 v) o = some (i3 l.length) := ha.alen
        have hres : oHas (ja l : JT (e + 1)) (jn z) = .inr (tru (decide (0 ≤ z ∧ z < l.length))) := rfl
        rw [if_neg (Decidable.not_not.mpr h2.1), if_neg (Decidable.not_not.mpr h2.2), hres, en, Option.bind_some, Option.bind_some, el, Option.bind_some, i3_64 (by omega), show (0 : Int64) = cW 0 from rfl, lg_cW (by omega) (by omega) (by omega) (by omega), lg_cW (by omega) (by omega) (by omega) (by omega)]
        by_cases z1 : z < 0
        · rw [if_pos (by rw [izs_lt0]; omega), show decide (0 ≤ z ∧ z < l.length) = false by simp; omega]
          exact truth_w hr false
        · rw [if_neg (by rw [izs_lt0]; omega)]
          by_cases z2 : z < l.length
          · rw [if_neg (by rw [izs_ge0]; omega), show decide (0 ≤ z ∧ z < l.length) = true by simp; omega]
            exact truth_w hr true
          · rw [if_pos (by rw [izs_ge0]; omega), show decide (0 ≤ z ∧ z < l.length) = false by simp; omega]
            exact truth_w hr false
      · have : oHas a x = .inl 1 := by
          unfold oHas
          rcases jcases a with ⟨k, rfl⟩ | ⟨z, rfl⟩ | ⟨s, rfl⟩ | ⟨l, rfl⟩ | ⟨l, rfl⟩ <;> rcases jcases x with ⟨k', rfl⟩ | ⟨z', rfl⟩ | ⟨s', rfl⟩ | ⟨l', rfl⟩ | ⟨l', rfl⟩ <;> first | rfl | exact absurd ⟨rfl, rfl⟩ h1 | exact absurd ⟨rfl, rfl⟩ h2
        rw [this]
        split
        · exact OK.refuse (k := 1) hr (by omega) (by omega)
        · split
          · exact OK.refuse (k := 1) hr (by omega) (by omega)
          · rename_i p1 p2
            exact absurd ⟨Decidable.not_not.mp p1, Decidable.not_not.mp p2⟩ h2
    by_cases h6 : kd (e + 1) a = 6
    · rw [if_neg (Decidable.not_not.mpr h6), if_pos (fun h => h1 ⟨h6, h⟩)]
      exact mid
    · rw [if_pos h6]
      exact mid
/-! contains -/
theorem ip_loop {p q : Nat} {s t : Sx} (ha : At f v p (strc s)) (hs : sok s) (hb : At g u q (strc t)) (ht : sok t) : ∀ (m n k : Nat), k + m = s.length + 1 → 4097 + m < n → fH_isPart_b f (i3 v) o g (i3 u) o' n 1 (i3 k) (i3 p) (i3 q) = some (if (List.range' k m).any (fun k => pf t (s.drop k)) then 1 else 0) := by
  have hl := ha.le
  intro m
  induction m with
  | zero =>
    intro n k hk hn
    obtain ⟨n, rfl⟩ : ∃ j, n = j + 1 := ⟨n - 1, by omega⟩
    rw [fH_isPart_b, ha.slen, Option.bind_some, if_pos (by rw [i3_lt (by omega) (by omega)]; omega)]
    rfl
  | succ m ih =>
    intro n k hk hn
    obtain ⟨n, rfl⟩ : ∃ j, n = j + 1 := ⟨n - 1, by omega⟩
    rw [fH_isPart_b, ha.slen, Option.bind_some, if_neg (by rw [i3_lt (by omega) (by omega)]; omega), At.hp (k := k) (by omega) ha hb hs ht (by omega), Option.bind_some, List.range'_succ, List.any_cons]
    by_cases h : pf t (s.drop k) = true
    · rw [h, if_neg (by decide), Bool.true_or]
      rfl
    · rw [Bool.not_eq_true] at h
      rw [h, if_pos (by decide), Bool.false_or, i3_one, ih n (k + 1) (by omega) (by omega)]
theorem isPart_w (hn : 10000 < n) {p q : Nat} {s t : Sx} (ha : At f v p (strc s)) (hs : sok s) (hb : At g u q (strc t)) (ht : sok t) : fH_isPart n (i3 p) (i3 q) f (i3 v) o g (i3 u) o' = some (if sub t s then 1 else 0) := by
  have hl := ha.le
  unfold fH_isPart sub
  rw [List.range_eq_range']
  exact ip_loop ha hs hb ht (s.length + 1) n 0 (by omega) (by omega)
theorem is_loop {rec : RecO} {p q k : Nat} {l : List (JT e)} (hlen : ∀ n, fR_length n (i3 p) f (i3 v) o = some (i3 l.length)) (hll : l.length < 65536) {y : JT e} : ∀ (l' : List (JT e)) (n i s : Nat), (∀ x ∈ l', jok e x) → (∀ x ∈ l', ∀ s, At f v s (jc e x) → rec (i3 s) (i3 q) (i3 (k + 1)) f (i3 v) o g (i3 u) o' = some (if jin e x y then 1 else 0)) → i + l'.length = l.length → At f v s (l'.flatMap (jc e)) → l'.length < n → fH_isInSome_b rec f (i3 v) o g (i3 u) o' n 1 (i3 i) (i3 s) (i3 p) (i3 q) (i3 k) = some (if l'.any (fun x => jin e x y) then 1 else 0) := by
  intro l'
  induction l' with
  | nil =>
    intro n i s _ _ hi _ hn
    obtain ⟨n, rfl⟩ : ∃ j, n = j + 1 := ⟨n - 1, by omega⟩
    rw [List.length_nil] at hi
    rw [fH_isInSome_b, hlen, Option.bind_some, if_pos (by rw [i3_le (by omega) (by omega)]; omega)]
    rfl
  | cons x l' ih =>
    intro n i s hok hrec hi hat hn
    obtain ⟨n, rfl⟩ : ∃ j, n = j + 1 := ⟨n - 1, by omega⟩
    rw [List.length_cons] at hi hn
    obtain ⟨at1, at2⟩ := hat.acons
    rw [fH_isInSome_b, hlen, Option.bind_some, if_neg (by rw [i3_le (by omega) (by omega)]; omega), i3_one, hrec x (List.mem_cons_self ..) s at1, Option.bind_some, List.any_cons]
    cases h : jin e x y with
    | true =>
      rw [if_neg (by decide), Bool.true_or]
      rfl
    | false =>
      rw [if_pos (by decide), at1.after (hok x (List.mem_cons_self ..)), Option.bind_some, i3_one, Bool.false_or, ih n (i + 1) _ (fun z hz => hok z (List.mem_cons_of_mem _ hz)) (fun z hz => hrec z (List.mem_cons_of_mem _ hz)) (by omega) at2 (by omega)]
theorem ae_loop {rec : RecO} {p q k : Nat} {l m : List (JT e)} (ha : At f v p (jc (e + 1) (ja l))) (hoa : jok (e + 1) (ja l)) (hlen : ∀ n, fR_length n (i3 q) g (i3 u) o' = some (i3 m.length)) (hml : m.length < 65536) : ∀ (m' : List (JT e)) (n i s : Nat), (∀ y ∈ m', jok e y) → (∀ x ∈ l, ∀ y ∈ m', ∀ r s, At f v r (jc e x) → At g u s (jc e y) → rec (i3 r) (i3 s) (i3 (k + 1)) f (i3 v) o g (i3 u) o' = some (if jin e x y then 1 else 0)) → i + m'.length = m.length → At g u s (m'.flatMap (jc e)) → 4097 + m'.length < n → fH_areElementsIn_b rec f (i3 v) o g (i3 u) o' n 1 (i3 i) (i3 s) (i3 p) (i3 q) (i3 k) = some (if m'.all (fun y => l.any (fun x => jin e x y)) then 1 else 0) := by
  have hsz := ha.asz
  intro m'
  induction m' with
  | nil =>
    intro n i s _ _ hi _ hn
    obtain ⟨n, rfl⟩ : ∃ j, n = j + 1 := ⟨n - 1, by omega⟩
    rw [List.length_nil] at hi
    rw [fH_areElementsIn_b, hlen, Option.bind_some, if_pos (by rw [i3_le (by omega) (by omega)]; omega)]
    rfl
  | cons y m' ih =>
    intro n i s hok hrec hi hat hn
    obtain ⟨n, rfl⟩ : ∃ j, n = j + 1 := ⟨n - 1, by omega⟩
    rw [List.length_cons] at hi hn
    obtain ⟨at1, at2⟩ := hat.acons
    have h1 : fH_isInSome rec n (i3 p) (i3 s) (i3 k) f (i3 v) o g (i3 u) o' = some (if l.any (fun x => jin e x y) then 1 else 0) := by
      unfold fH_isInSome
      rw [i3_one]
      exact is_loop (l := l) (fun n => ha.alen) (by omega) l n 0 (p + 1) hoa (fun x hx r hr => hrec x hx y (List.mem_cons_self ..) r s hr at1) (by omega) ha.abody (by omega)
    rw [fH_areElementsIn_b, hlen, Option.bind_some, if_neg (by rw [i3_le (by omega) (by omega)]; omega), h1, Option.bind_some, List.all_cons]
    cases h : l.any (fun x => jin e x y) with
    | true =>
      rw [if_neg (by decide), at1.after (hok y (List.mem_cons_self ..)), Option.bind_some, i3_one, Bool.true_and, ih n (i + 1) _ (fun z hz => hok z (List.mem_cons_of_mem _ hz)) (fun x hx z hz => hrec x hx z (List.mem_cons_of_mem _ hz)) (by omega) at2 (by omega)]
    | false =>
      rw [if_pos (by decide), Bool.false_and]
      rfl
theorem an_loop {rec : RecO} {p q k : Nat} {l m : List (Sx × JT e)} (ha : At f v p (jc (e + 1) (jo l))) (hoa : jok (e + 1) (jo l)) (hlen : ∀ n, fR_length n (i3 q) g (i3 u) o' = some (i3 m.length)) (hml : m.length < 65536) : ∀ (m' : List (Sx × JT e)) (n i s : Nat), (∀ y ∈ m', sok y.1 ∧ jok e y.2) → (∀ x ∈ l, ∀ y ∈ m', ∀ r s, At f v r (jc e x.2) → At g u s (jc e y.2) → rec (i3 r) (i3 s) (i3 (k + 1)) f (i3 v) o g (i3 u) o' = some (if jin e x.2 y.2 then 1 else 0)) → i + m'.length = m.length → At g u s (m'.flatMap oc) → 8300 + m'.length < n → fH_areNamesIn_b rec f (i3 v) o g (i3 u) o' n 1 (i3 i) (i3 s) (i3 p) (i3 q) (i3 k) = some (if m'.all (fun p => luB l p.1 (fun x => jin e x p.2)) then 1 else 0) := by
  have hsz := ha.osz
  intro m'
  induction m' with
  | nil =>
    intro n i s _ _ hi _ hn
    obtain ⟨n, rfl⟩ : ∃ j, n = j + 1 := ⟨n - 1, by omega⟩
    rw [List.length_nil] at hi
    rw [fH_areNamesIn_b, hlen, Option.bind_some, if_pos (by rw [i3_le (by omega) (by omega)]; omega)]
    rfl
  | cons y m' ih =>
    intro n i s hok hrec hi hat hn
    obtain ⟨n, rfl⟩ : ∃ j, n = j + 1 := ⟨n - 1, by omega⟩
    rw [List.length_cons] at hi hn
    obtain ⟨at1, at2, at3⟩ := At.ocons hat
    obtain ⟨hs, hy⟩ := hok y (List.mem_cons_self ..)
    rw [fH_areNamesIn_b, hlen, Option.bind_some, if_neg (by rw [i3_le (by omega) (by omega)]; omega), at1.safter, Option.bind_some, List.all_cons]
    rcases ha.vo (n := n) (o := o) (o' := o') hoa hs at1 (by omega) with ⟨r', x, g1, g2, g3, g4⟩ | ⟨g1, g4⟩
    · have h5 := g3.2
      have h6 := jc_pos e x
      obtain ⟨x', hx', rfl⟩ := List.mem_map.mp g2
      rw [g4, Option.bind_some, if_neg (by rw [i3_m1 (by omega)]; exact not_false), i3_one, hrec x' hx' y (List.mem_cons_self ..) _ _ g3 at2, Option.bind_some, luB_some g1]
      cases h : jin e x'.2 y.2 with
      | true =>
        rw [if_neg (by decide), at2.after hy, Option.bind_some, i3_one, Bool.true_and, ih n (i + 1) _ (fun z hz => hok z (List.mem_cons_of_mem _ hz)) (fun x hx z hz => hrec x hx z (List.mem_cons_of_mem _ hz)) (by omega) at3 (by omega)]
      | false =>
        rw [if_pos (by decide), Bool.false_and]
        rfl
    · rw [g4, Option.bind_some, if_pos rfl, luB_none g1, Bool.false_and]
      rfl
theorem bz (b : Bool) : ¬ ¬ ((if b then 1 else 0 : Int32) = 0 ∨ (if b then 1 else 0 : Int32) = 1) := by cases b <;> decide
theorem isIn_w (hn : 20000 < n) : ∀ (d fu : Nat) (x y : JT d) (p q k : Nat), jok d x → jok d y → At f v p (jc d x) → At g u q (jc d y) → d ≤ fu → k + jd d x ≤ 60 → fH_isIn fu n (i3 p) (i3 q) (i3 k) f (i3 v) o g (i3 u) o' = some (if jin d x y then 1 else 0) := by
  intro d
  induction d with
  | zero => exact fun fu x => (j0 x).elim
  | succ d ih =>
    intro fu x y p q k hox hoy hax hay hfu hk
    obtain ⟨fu, rfl⟩ : ∃ m, fu = m + 1 := ⟨fu - 1, by omega⟩
    have kx := kd_lt8 hox
    have ky := kd_lt8 hoy
    rw [fH_isIn, hax.kind hox, Option.bind_some, hay.kind hoy, Option.bind_some]
    by_cases h : kd (d + 1) x = kd (d + 1) y
    · rw [if_pos (by rw [h]), if_pos (by rw [show (60 : Int32) = i3 60 from rfl, i3_le (by omega) (by omega)]; omega), Option.bind_some]
      rcases rk_same (show rk (d + 1) x = rk (d + 1) y by rw [rk_ok hox, rk_ok hoy, h]) with ⟨a, b, rfl, rfl, h3⟩ | ⟨a, b, rfl, rfl⟩ | ⟨a, b, rfl, rfl⟩ | ⟨a, b, rfl, rfl⟩ | ⟨a, b, rfl, rfl⟩
      · rw [jok_k] at hox hoy
        have hab : a = b := by rw [kd_k, kd_k] at h; exact h
        obtain ⟨c1', hc1, ec1⟩ := hax.cell0 (n := n) (o := o)
        obtain ⟨c2', hc2, ec2⟩ := hay.cell0 (n := n) (o := o')
        rw [jc_k] at hc1 hc2
        rw [kd_k, if_neg (by rw [show (4 : Int32) = i3 4 from rfl, i3_eq (by omega) (by omega)]; omega), if_neg (by rw [show (5 : Int32) = i3 5 from rfl, i3_eq (by omega) (by omega)]; omega), if_neg (by rw [show (6 : Int32) = i3 6 from rfl, i3_eq (by omega) (by omega)]; omega), ec1, Option.bind_some, ec2, Option.bind_some]
        have e1 : c1' = cW (a : Nat) := (Option.some.inj hc1).symm
        have e2 : c2' = cW (b : Nat) := (Option.some.inj hc2).symm
        rw [e1, e2, hab, if_pos (by rw [lg_zero])]
        have : jin (d + 1) (jk b) (jk b) = true := by
          show decide (b = b) = true
          simp
        rw [this]
        rfl
      · rw [jok_n] at hox hoy
        obtain ⟨c1', hc1, ec1⟩ := hax.cell0 (n := n) (o := o)
        obtain ⟨c2', hc2, ec2⟩ := hay.cell0 (n := n) (o := o')
        rw [jc_n] at hc1 hc2
        rw [kd_n, if_neg (by decide), if_neg (by decide), if_neg (by decide), ec1, Option.bind_some, ec2, Option.bind_some]
        have e1 : c1' = cW (a * 8 + 3) := (Option.some.inj hc1).symm
        have e2 : c2' = cW (b * 8 + 3) := (Option.some.inj hc2).symm
        have hj : jin (d + 1) (jn a) (jn b) = decide (a = b) := rfl
        rw [e1, e2, hj]
        by_cases hab : a = b
        · rw [if_pos (by rw [lg_zero, hab]), hab]
          simp
        · rw [if_neg (by rw [lg_zero, cW_eq (by omega) (by omega) (by omega) (by omega)]; omega)]
          simp [hab]
      · rw [jok_s] at hox hoy
        have hj : jin (d + 1) (js a) (js b) = sub b a := rfl
        rw [kd_s, if_pos (by decide), isPart_w (by omega) hax hox hay hoy, Option.bind_some, if_neg (bz _), hj]
      · have s1 := hax.asz
        have s2 := hay.asz
        have hp := jd_a_pos (l := a)
        have hd : ∀ z ∈ a, jd d z ≤ 59 - k := jd_a_le.mp (by omega)
        have hj : jin (d + 1) (ja a) (ja b) = b.all (fun y => a.any (fun x => jin d x y)) := rfl
        rw [kd_a, if_neg (by decide), if_pos (by decide), hj]
        unfold fH_areElementsIn
        rw [i3_one, show (0 : Int32) = i3 0 from rfl, ae_loop (rec := fH_isIn fu n) (o := o) (o' := o') (k := k) hax hox (m := b) (fun n => hay.alen) (by omega) b n 0 (q + 1) hoy (fun z hz w hw r s hr hs => ih fu z w r s (k + 1) (hox z hz) (hoy w hw) hr hs (by omega) (by have := hd z hz; omega)) (by omega) hay.abody (by omega), Option.bind_some]
        exact if_neg (bz _)
      · have s1 := hax.osz
        have s2 := hay.osz
        have hp := jd_o_pos (l := a)
        have hd : ∀ z ∈ a, jd d z.2 ≤ 59 - k := jd_o_le.mp (by omega)
        have hj : jin (d + 1) (jo a) (jo b) = b.all (fun p => luB a p.1 (fun x => jin d x p.2)) := rfl
        rw [kd_o, if_neg (by decide), if_neg (by decide), if_pos (by decide), hj]
        unfold fH_areNamesIn
        rw [i3_one, show (0 : Int32) = i3 0 from rfl, an_loop (rec := fH_isIn fu n) (o := o) (o' := o') (k := k) hax hox (m := b) (fun n => hay.olen) (by omega) b n 0 (q + 1) hoy.1 (fun z hz w hw r s hr hs => ih fu z.2 w.2 r s (k + 1) (hox.1 z hz).2 (hoy.1 w hw).2 hr hs (by omega) (by have := hd z hz; omega)) (by omega) hay.obody (by omega), Option.bind_some]
        exact if_neg (bz _)
    · rw [if_neg (by rw [i3_eq (by omega) (by omega)]; exact h)]
      have : jin (d + 1) x y = false := by
        rcases jcases x with ⟨k, rfl⟩ | ⟨z, rfl⟩ | ⟨s, rfl⟩ | ⟨l, rfl⟩ | ⟨l, rfl⟩ <;> rcases jcases y with ⟨k', rfl⟩ | ⟨z', rfl⟩ | ⟨s', rfl⟩ | ⟨l', rfl⟩ | ⟨l', rfl⟩ <;> first | rfl | exact absurd rfl h | exact decide_eq_false h
      rw [this]
      rfl
theorem contains_w (hn : 20000 < n) (hfu : e + 1 ≤ fu) {a x : JT (e + 1)} (ha : At f v 0 (jc (e + 1) a)) (hoa : jok (e + 1) a) (hx : At g u 0 (jc (e + 1) x)) (hox : jok (e + 1) x) (hja : jd (e + 1) a ≤ 60) (hr : RV r) : OK r (fH_contains fu n f (i3 v) o g (i3 u) o' r.1 (i3 r.2.1) r.2.2) (oCont a x) := by
  have k1 := kd_lt8 hoa
  have k2 := kd_lt8 hox
  have ka : fR_kind n 0 f (i3 v) o = some (i3 (kd (e + 1) a)) := ha.kind hoa
  have kx : fR_kind n 0 g (i3 u) o' = some (i3 (kd (e + 1) x)) := hx.kind hox
  have it : ∀ k, k < 8 → fH_isTruth n (i3 k) = some (if (decide (k = 1) || decide (k = 2)) then 1 else 0) := fun k hk => by
    obtain rfl | rfl | rfl | rfl | rfl | rfl | rfl | rfl : k = 0 ∨ k = 1 ∨ k = 2 ∨ k = 3 ∨ k = 4 ∨ k = 5 ∨ k = 6 ∨ k = 7 := by omega
    all_goals rfl
  have hk : fH_areOfOneKind n 0 0 f (i3 v) o g (i3 u) o' = some (if alike (kd (e + 1) a) (kd (e + 1) x) then 1 else 0) := by
    unfold fH_areOfOneKind alike
    rw [ka, Option.bind_some, kx, Option.bind_some, Option.bind_some, Option.bind_some, it _ k1, Option.bind_some, it _ k2, Option.bind_some]
    by_cases h : kd (e + 1) a = kd (e + 1) x
    · rw [if_pos (by rw [h]), h]
      simp
    · rw [if_neg (by rw [i3_eq (by omega) (by omega)]; exact h)]
      simp only [ib, h, decide_false, Bool.false_or]
      cases h1 : (decide (kd (e + 1) a = 1) || decide (kd (e + 1) a = 2)) with
      | false => rw [if_pos rfl, Bool.false_and]; rfl
      | true =>
        rw [if_neg (by decide), Bool.true_and]
        cases h2 : (decide (kd (e + 1) x = 1) || decide (kd (e + 1) x = 2)) with
        | false => rw [if_pos rfl]; rfl
        | true => rw [if_neg (by decide)]; rfl
  unfold fH_contains oCont
  simp only [b4]
  rw [hk, Option.bind_some]
  cases h : alike (kd (e + 1) a) (kd (e + 1) x) with
  | false =>
    rw [if_pos (by decide), if_neg (by decide : ¬ (false = true))]
    exact OK.refuse (k := 1) hr (by omega) (by omega)
  | true =>
    have hi : fH_isIn fu n 0 0 0 f (i3 v) o g (i3 u) o' = some (if jin (e + 1) a x then 1 else 0) := isIn_w (o := o) (o' := o') hn (e + 1) fu a x 0 0 0 hoa hox ha hx hfu (by omega)
    rw [if_neg (by decide), if_pos rfl, hi, Option.bind_some]
    exact truth_w hr _
end PA
