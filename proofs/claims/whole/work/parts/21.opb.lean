def MX : Int := 9007199254740991
def numR {e : Nat} (z : Int) : Nat ⊕ JT (e + 1) := if -9007199254740991 ≤ z ∧ z ≤ 9007199254740991 then .inr (jn z) else .inl 2
def oNum {e : Nat} (op : Nat) (x y : Int) : Nat ⊕ JT (e + 1) :=
  if op = 0 then numR (x + y) else if op = 1 then numR (x - y) else if op = 2 then (if x ≠ 0 ∧ 9007199254740991 / x.natAbs < y.natAbs then .inl 2 else numR (x * y))
  else if y = 0 then .inl 3 else if op = 3 then numR (x.tdiv y) else numR (x - x.tdiv y * y)
def oPlus {e : Nat} (a b : JT (e + 1)) : Nat ⊕ JT (e + 1) :=
  if kd (e + 1) a = 0 then .inr b else if kd (e + 1) b = 0 then .inr a else
  match a, b with
  | .inl (.inr (.inr s)), .inl (.inr (.inr t)) => .inr (js (s ++ t))
  | .inr (.inl l), .inr (.inl m) => .inr (ja (l ++ m))
  | .inr (.inr l), .inr (.inr m) => .inr (jo (bw (fun _ y => y) l m))
  | _, _ => .inl 1
def has {e : Nat} (m : List (JT e)) (x : JT e) : Bool := m.any (fun y => decide (jcmp e y x = 0))
def oMinus {e : Nat} (a b : JT (e + 1)) : Nat ⊕ JT (e + 1) :=
  match a, b with
  | .inr (.inl l), .inr (.inl m) => .inr (ja (l.filter (fun x => !has m x)))
  | _, _ => .inl 1
def rep (s : Sx) (z : Int) : Sx := (List.replicate z.toNat s).flatten
def repR {e : Nat} (s : Sx) (z : Int) : Nat ⊕ JT (e + 1) := .inr (if z < 1 then jk 0 else js (rep s z))
def oTimes {e : Nat} (a b : JT (e + 1)) : Nat ⊕ JT (e + 1) :=
  match a, b with
  | .inr (.inr l), .inr (.inr m) => .inr (jo (bw (selD e) l m))
  | .inl (.inr (.inr s)), .inl (.inr (.inl z)) => repR s z
  | .inl (.inr (.inl z)), .inl (.inr (.inr s)) => repR s z
  | _, _ => .inl 1
def spl (s t : Sx) : Nat → Nat → Nat → List Sx
  | 0, _, b => [s.drop b]
  | m + 1, k, b => if b ≤ k ∧ pf t (s.drop k) = true then ((s.drop b).take (k - b)) :: spl s t m (k + 1) (k + t.length) else spl s t m (k + 1) b
def pcs (s t : Sx) : List Sx := if t = [] then s.map (fun c => [c]) else if s = [] then [] else spl s t s.length 0 0
def oPieces {e : Nat} (a b : JT (e + 2)) : Nat ⊕ JT (e + 2) :=
  match a, b with
  | .inl (.inr (.inr s)), .inl (.inr (.inr t)) => .inr (ja ((pcs s t).map (fun x => (js x : JT (e + 1)))))
  | _, _ => .inl 1
def oBin {e : Nat} (op : Nat) (a b : JT (e + 2)) : Nat ⊕ JT (e + 2) :=
  match a, b with
  | .inl (.inr (.inl x)), .inl (.inr (.inl y)) => oNum op x y
  | a, b => if op = 0 then oPlus a b else if op = 1 then oMinus a b else if op = 2 then oTimes a b else if op = 3 then oPieces a b else .inl 1
abbrev Out4 : Type := Int32 × (Nat → Int64) × Int32 × Int32
def OK {d : Nat} (r : RS) (out : Option Out4) (res : Nat ⊕ JT d) : Prop := ∃ (c : Nat) (r' : RS), out = some (i3 c, r'.1, i3 r'.2.1, r'.2.2) ∧ RV r' ∧ (match res with
  | .inl k => c = k ∧ 1 ≤ k ∧ k ≤ 5
  | .inr j => c = 0 ∧ Wr r (jc d j) r')
theorem b4 {o : Option Out4} : (o.bind fun y => some (y.1, y.2.1, y.2.2.1, y.2.2.2)) = o := by
  cases o <;> rfl
theorem b30 {α : Type} {o : Option α} {y : Int32} {g : α → (Nat → Int64) × Int32 × Int32} {x : α} (h : o = some x) : (o.bind fun z => some (y, g z)) = some (y, g x) := by
  rw [h]
  rfl
theorem OK.val {d : Nat} {r r' : RS} {j : JT d} {out : Option Out4} (h : out = some ((0 : Int32), r'.1, i3 r'.2.1, r'.2.2)) (hw : Wr r (jc d j) r') : OK r out (.inr j) := ⟨0, r', h, hw.v, rfl, hw⟩
theorem OK.ref {d : Nat} {r r' : RS} {k : Nat} {out : Option Out4} (h : out = some (i3 k, r'.1, i3 r'.2.1, r'.2.2)) (hr : RV r') (h1 : 1 ≤ k) (h2 : k ≤ 5) : OK (d := d) r out (.inl k) := ⟨k, r', h, hr, rfl, h1, h2⟩
section NM
variable {n : Nat} {r : RS} {e : Nat}
theorem number_w (hr : RV r) {z : Int} (h1 : -4611686018427387904 ≤ z) (h2 : z ≤ 4611686018427387904) : OK (d := e + 1) r (fA_number n (cW z) r.1 (i3 r.2.1) r.2.2) (numR z) := by
  unfold fA_number numR
  rw [abs_cW (by omega) (by omega), show (9007199254740991 : Int64) = cW 9007199254740991 from rfl, lg_cW (by omega) (by omega) (by omega) (by omega)]
  by_cases h : -9007199254740991 ≤ z ∧ z ≤ 9007199254740991
  · obtain ⟨r', e1, w1⟩ := putNumber_w (n := n) hr z
    rw [if_pos (by rw [izs_le0]; omega), if_pos h, e1, Option.bind_some]
    exact OK.val rfl w1
  · rw [if_neg (by rw [izs_le0]; omega), if_neg h]
    exact OK.ref (k := 2) rfl hr (by omega) (by omega)
theorem ofNumbers_w (hr : RV r) {op : Nat} (hop : op ≤ 4) {x y : Int} (h1 : -9007199254740991 ≤ x) (h2 : x ≤ 9007199254740991) (h3 : -9007199254740991 ≤ y) (h4 : y ≤ 9007199254740991) : OK (d := e + 1) r (fA_ofNumbers n (i3 op) (cW x) (cW y) r.1 (i3 r.2.1) r.2.2) (oNum op x y) := by
  have hz : ∀ w : Int, -9007199254740991 ≤ w → w ≤ 9007199254740991 → (lg_cmp (cW w) 0 = 0) = (w = 0) := fun w a b => by
    rw [lg_zero, show (0 : Int64) = cW 0 from rfl, cW_eq (by omega) (by omega) (by omega) (by omega)]
  have hz2 : ∀ w : Int, -9007199254740991 ≤ w → w ≤ 9007199254740991 → (cW w = 0) = (w = 0) := fun w a b => by
    rw [show (0 : Int64) = cW 0 from rfl, cW_eq (by omega) (by omega) (by omega) (by omega)]
  have hdv : y ≠ 0 → -9007199254740991 ≤ x.tdiv y ∧ x.tdiv y ≤ 9007199254740991 := fun hy => by
    have h5 := Int.natAbs_tdiv x y
    have h6 : x.natAbs.div y.natAbs ≤ x.natAbs := Nat.div_le_self _ _
    omega
  unfold fA_ofNumbers oNum
  rw [show (0 : Int32) = i3 0 from rfl, show (1 : Int32) = i3 1 from rfl, show (2 : Int32) = i3 2 from rfl, show (3 : Int32) = i3 3 from rfl]
  simp only [b4]
  obtain rfl | rfl | rfl | rfl | rfl : op = 0 ∨ op = 1 ∨ op = 2 ∨ op = 3 ∨ op = 4 := by omega
  · rw [if_pos rfl, if_pos rfl, cW_add]
    exact number_w hr (by omega) (by omega)
  · rw [if_neg (by decide), if_pos rfl, if_neg (by decide), if_pos rfl, cW_sub]
    exact number_w hr (by omega) (by omega)
  · rw [if_neg (by decide), if_neg (by decide), if_pos rfl, if_neg (by decide), if_neg (by decide), if_pos rfl]
    unfold fA_product
    simp only [b4]
    rw [abs_cW (by omega) (by omega), abs_cW (by omega) (by omega), cW_mul]
    by_cases hx : x = 0
    · rw [if_pos (by (try rw [show i3 0 = (0 : Int32) from rfl]); rw [hz x h1 h2]; exact hx), if_neg (by omega), hx, Int.zero_mul]
      exact number_w hr (by omega) (by omega)
    · rw [if_neg (by (try rw [show i3 0 = (0 : Int32) from rfl]); rw [hz x h1 h2]; exact hx), if_neg (by rw [show (0 : Int64) = cW 0 from rfl, cW_eq (by omega) (by omega) (by omega) (by omega)]; omega), show (9007199254740991 : Int64) = cW ((9007199254740991 : Nat) : Int) from rfl, q_div (by omega) (by omega)]
      have hq : 9007199254740991 / x.natAbs ≤ 9007199254740991 := Nat.div_le_self _ _
      have hqm : 9007199254740991 / x.natAbs * x.natAbs ≤ 9007199254740991 := Nat.div_mul_le_self _ _
      generalize hQ : 9007199254740991 / x.natAbs = Q at *
      by_cases hc : Q < y.natAbs
      · rw [if_neg (by rw [lg_cW (by omega) (by omega) (by omega) (by omega)]; (try rw [show i3 0 = (0 : Int32) from rfl]); rw [izs_le0]; omega), if_pos ⟨hx, hc⟩]
        exact OK.ref (k := 2) rfl hr (by omega) (by omega)
      · rw [if_pos (by rw [lg_cW (by omega) (by omega) (by omega) (by omega)]; (try rw [show i3 0 = (0 : Int32) from rfl]); rw [izs_le0]; omega), if_neg (by omega)]
        have h7 : (x * y).natAbs ≤ 9007199254740991 := by
          rw [Int.natAbs_mul, Nat.mul_comm]
          exact Nat.le_trans (Nat.mul_le_mul_right _ (by omega)) hqm
        exact number_w hr (by omega) (by omega)
  · by_cases hy : y = 0
    · rw [if_neg (by decide), if_neg (by decide), if_neg (by decide), if_pos rfl, if_pos (by (try rw [show i3 0 = (0 : Int32) from rfl]); rw [hz y h3 h4]; exact hy), if_neg (by decide), if_neg (by decide), if_neg (by decide), if_pos hy]
      exact OK.ref (k := 3) rfl hr (by omega) (by omega)
    · have := hdv hy
      rw [if_neg (by decide), if_neg (by decide), if_neg (by decide), if_pos rfl, if_neg (by (try rw [show i3 0 = (0 : Int32) from rfl]); rw [hz y h3 h4]; exact hy), if_neg (by rw [hz2 y h3 h4]; exact hy), cW_div (by omega) (by omega) (by omega) (by omega), if_neg (by decide), if_neg (by decide), if_neg (by decide), if_neg hy, if_pos rfl]
      exact number_w hr (by omega) (by omega)
  · by_cases hy : y = 0
    · rw [if_neg (by decide), if_neg (by decide), if_neg (by decide), if_neg (by decide), if_pos (by (try rw [show i3 0 = (0 : Int32) from rfl]); rw [hz y h3 h4]; exact hy), if_neg (by decide), if_neg (by decide), if_neg (by decide), if_pos hy]
      exact OK.ref (k := 3) rfl hr (by omega) (by omega)
    · have := hdv hy
      have hmd : (x - x.tdiv y * y).natAbs ≤ x.natAbs := by
        have e1 : x - x.tdiv y * y = x.tmod y := by
          have := Int.tmod_add_mul_tdiv x y
          rw [Int.mul_comm y] at this
          omega
        rw [e1, Int.natAbs_tmod]
        exact Nat.mod_le _ _
      rw [if_neg (by decide), if_neg (by decide), if_neg (by decide), if_neg (by decide), if_neg (by (try rw [show i3 0 = (0 : Int32) from rfl]); rw [hz y h3 h4]; exact hy), if_neg (by rw [hz2 y h3 h4]; exact hy), cW_div (by omega) (by omega) (by omega) (by omega), cW_mul, cW_sub, if_neg (by decide), if_neg (by decide), if_neg (by decide), if_neg hy, if_neg (by decide)]
      exact number_w hr (by omega) (by omega)
end NM
