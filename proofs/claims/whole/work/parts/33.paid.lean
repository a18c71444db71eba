/-! flat, at -/
def flt : (e : Nat) → Nat → List (JT e) → List (JT e)
  | 0, _, l => l
  | e + 1, z, l => l.flatMap (fun x => match x with
    | .inr (.inl l') => if 0 < z then (flt e (z - 1) l').map (lf e) else [.inr (.inl l')]
    | x => [x])
def oFlat {e : Nat} (a x : JT (e + 1)) : Nat ⊕ JT (e + 1) :=
  match a, x with
  | .inr (.inl l), .inl (.inr (.inl z)) => if z < 0 then .inl 2 else .inr (ja (flt e z.toNat l))
  | _, _ => .inl 1
def atI (n : Nat) (z : Int) : Option Nat := let k := if z < 0 then z + n else z; if 0 ≤ k ∧ k < n then some k.toNat else none
def oAt1 {e : Nat} (a x : JT (e + 1)) : Nat ⊕ JT (e + 1) :=
  match a, x with
  | .inr (.inr l), .inl (.inr (.inr s)) => .inr (match lu s l with | none => jk 0 | some y => lf e y)
  | .inr (.inl l), .inl (.inr (.inl z)) => .inr (match (atI l.length z).bind (fun k => l[k]?) with | none => jk 0 | some y => lf e y)
  | .inl (.inl 0), .inl (.inl 0) => .inr (jk 0)
  | .inl (.inl 0), .inl (.inr (.inl _)) => .inr (jk 0)
  | .inl (.inl 0), .inl (.inr (.inr _)) => .inr (jk 0)
  | _, _ => .inl 1
def oAt {e : Nat} (a x : JT (e + 2)) : Nat ⊕ JT (e + 2) := if kd (e + 2) a = 5 ∧ kd (e + 2) x = 5 then oInd a x else oAt1 a x
section PD
variable {f g : Nat → Int64} {v u e : Nat} {o o' : Int32} {n fu : Nat} {r : RS}
abbrev RecF : Type := Int32 → Int64 → Int32 → (Nat → Int64) → Int32 → Int32 → (Nat → Int64) → Int32 → Int32 → Option (Int32 × (Nat → Int64) × Int32 × Int32)
theorem flt_cons {z : Nat} {x : JT (e + 1)} {l : List (JT (e + 1))} : flt (e + 1) z (x :: l) = flt (e + 1) z [x] ++ flt (e + 1) z l := by
  rw [flt, flt, flt, List.flatMap_cons, List.flatMap_cons, List.flatMap_nil, List.append_nil]
theorem flt_a {z : Nat} {l' : List (JT e)} (h : 0 < z) : flt (e + 1) z [ja l'] = (flt e (z - 1) l').map (lf e) := by
  rw [flt, List.flatMap_cons, List.flatMap_nil, List.append_nil]
  exact if_pos h
theorem flt_o {z : Nat} {x : JT (e + 1)} (h : z = 0 ∨ kd (e + 1) x ≠ 5) : flt (e + 1) z [x] = [x] := by
  rw [flt, List.flatMap_cons, List.flatMap_nil, List.append_nil]
  rcases jcases x with ⟨k, rfl⟩ | ⟨c, rfl⟩ | ⟨s, rfl⟩ | ⟨l, rfl⟩ | ⟨l, rfl⟩
  · rfl
  · rfl
  · rfl
  · rcases h with h | h
    · exact if_neg (by omega)
    · exact absurd rfl h
  · rfl
theorem flat_lf {l : List (JT e)} : (l.map (lf e)).flatMap (jc (e + 1)) = l.flatMap (jc e) := by
  rw [List.flatMap_map]
  congr 1
  funext x
  exact jc_lf e x
theorem fl_loop {rec : RecF} {p k z : Nat} (hz : z ≤ 9007199254740991) (hk : k ≤ 60) {l : List (JT (e + 1))} (hlen : ∀ n, fR_length n (i3 p) f (i3 v) o = some (i3 l.length)) (hll : l.length < 65536)
    (hrec : ∀ x ∈ l, kd (e + 1) x = 5 → 0 < z → k < 60 ∧ ∀ (L : List (JT e)) q (r2 : RS), x = ja L → At f v q (jc (e + 1) x) → RV r2 → ∃ r3 : RS, rec (i3 q) (cW ((z - 1 : Nat) : Int)) (i3 (k + 1)) f (i3 v) o r2.1 (i3 r2.2.1) r2.2.2 = some (i3 (flt e (z - 1) L).length, r3.1, i3 r3.2.1, r3.2.2) ∧ Wr r2 ((flt e (z - 1) L).flatMap (jc e)) r3) :
    ∀ (l' : List (JT (e + 1))) (n i q c : Nat) (r2 : RS), (∀ x ∈ l', x ∈ l ∧ jok (e + 1) x) → i + l'.length = l.length → At f v q (l'.flatMap (jc (e + 1))) → RV r2 → l'.length < n →
    ∃ r' : RS, fH_putFlat_b rec f (i3 v) o n 1 (i3 i) (i3 q) (i3 c) (i3 p) (cW (z : Int)) (i3 k) r2.1 (i3 r2.2.1) r2.2.2 = some (i3 (c + (flt (e + 1) z l').length), r'.1, i3 r'.2.1, r'.2.2) ∧ Wr r2 ((flt (e + 1) z l').flatMap (jc (e + 1))) r' := by
  intro l'
  induction l' with
  | nil =>
    intro n i q c r2 _ hi _ hr hn
    obtain ⟨n, rfl⟩ : ∃ j, n = j + 1 := ⟨n - 1, by omega⟩
    rw [List.length_nil] at hi
    refine ⟨r2, ?_, Wr.nil hr⟩
    rw [fH_putFlat_b, hlen, Option.bind_some, if_pos (by rw [i3_le (by omega) (by omega)]; omega)]
    rfl
  | cons x l' ih =>
    intro n i q c r2 hok hi hat hr hn
    obtain ⟨n, rfl⟩ : ∃ j, n = j + 1 := ⟨n - 1, by omega⟩
    rw [List.length_cons] at hi hn
    obtain ⟨at1, at2⟩ := hat.acons
    obtain ⟨hxl, hx⟩ := hok x (List.mem_cons_self ..)
    have i5 : fR_is n (i3 q) 5 f (i3 v) o = some (if kd (e + 1) x = 5 then 1 else 0) := at1.is (k := 5) hx (by omega)
    have ih' := fun c r2 hr => ih n (i + 1) _ c r2 (fun y hy => hok y (List.mem_cons_of_mem _ hy)) (by omega) at2 hr (by omega)
    have one : flt (e + 1) z [x] = [x] → ∃ r' : RS, ((fR_putCopy n (i3 q) r2.1 (i3 r2.2.1) r2.2.2 f (i3 v) o).bind fun o4 => (fR_after n (i3 q) f (i3 v) o).bind fun o6 => fH_putFlat_b rec f (i3 v) o n 1 (i3 i + 1) o6 (i3 c + 1) (i3 p) (cW (z : Int)) (i3 k) o4.1 o4.2.1 o4.2.2) = some (i3 (c + (flt (e + 1) z (x :: l')).length), r'.1, i3 r'.2.1, r'.2.2) ∧ Wr r2 ((flt (e + 1) z (x :: l')).flatMap (jc (e + 1))) r' := fun h1 => by
      obtain ⟨r3, e3, w3⟩ := putCopy_w (n := n) (o' := o) hr at1 hx
      obtain ⟨r4, e4, w4⟩ := ih' (c + 1) r3 w3.v
      refine ⟨r4, ?_, ?_⟩
      · rw [e3, Option.bind_some, at1.after hx, Option.bind_some, i3_one, i3_one, flt_cons, h1]
        dsimp only
        rw [e4, List.length_append, List.length_singleton, Nat.add_assoc]
      · rw [flt_cons, h1, List.flatMap_append]
        have := w3.app w4
        simpa using this
    rw [fH_putFlat_b, hlen, Option.bind_some, if_neg (by rw [i3_le (by omega) (by omega)]; omega), show (0 : Int64) = cW 0 from rfl, lg_cW (by omega) (by omega) (by omega) (by omega)]
    by_cases hz0 : z = 0
    · rw [if_pos (by rw [izs_le0]; omega)]
      exact one (flt_o (Or.inl hz0))
    · rw [if_neg (by rw [izs_le0]; omega)]
      by_cases h5 : kd (e + 1) x = 5
      · obtain ⟨hk60, hrc⟩ := hrec x hxl h5 (by omega)
        obtain ⟨L, rfl⟩ := kda hx h5
        obtain ⟨r3, e3, w3⟩ := hrc L q r2 rfl at1 hr
        obtain ⟨r4, e4, w4⟩ := ih' (c + (flt e (z - 1) L).length) r3 w3.v
        refine ⟨r4, ?_, ?_⟩
        · rw [if_neg (by rw [show (60 : Int32) = i3 60 from rfl, i3_le (by omega) (by omega)]; omega), i5, if_pos h5, Option.bind_some, if_neg (by decide), show (1 : Int64) = cW 1 from rfl, cW_sub, show ((z : Int) - 1) = ((z - 1 : Nat) : Int) by omega, i3_one, e3, Option.bind_some, at1.after hx, Option.bind_some, i3_one]
          dsimp only
          rw [i3_add, e4, flt_cons, flt_a (by omega), List.length_append, List.length_map, Nat.add_assoc]
        · rw [flt_cons, flt_a (by omega), List.flatMap_append, flat_lf]
          exact w3.app w4
      · have h1 := one (flt_o (Or.inr h5))
        split
        · exact h1
        · rw [i5, if_neg h5, Option.bind_some, if_pos (by decide)]
          exact h1
theorem flat_rec (hn : 10000 < n) : ∀ (e fu : Nat) (l : List (JT e)) (p z k : Nat) (r : RS), At f v p (jc (e + 1) (ja l)) → jok (e + 1) (ja l) → e + 1 ≤ fu → z ≤ 9007199254740991 → k + jd (e + 1) (ja l) ≤ 60 → RV r → ∃ r' : RS, fH_putFlat fu n (i3 p) (cW (z : Int)) (i3 k) f (i3 v) o r.1 (i3 r.2.1) r.2.2 = some (i3 (flt e z l).length, r'.1, i3 r'.2.1, r'.2.2) ∧ Wr r ((flt e z l).flatMap (jc e)) r' := by
  intro e
  induction e with
  | zero =>
    intro fu l p z k r ha hoa hfu hz hk hr
    obtain ⟨fu, rfl⟩ : ∃ j, fu = j + 1 := ⟨fu - 1, by omega⟩
    cases l with
    | cons x l => exact (j0 x).elim
    | nil =>
      refine ⟨r, ?_, Wr.nil hr⟩
      obtain ⟨n, rfl⟩ : ∃ j, n = j + 1 := ⟨n - 1, by omega⟩
      rw [fH_putFlat, fH_putFlat_b, ha.alen, Option.bind_some, if_pos (by decide)]
      rfl
  | succ e ih =>
    intro fu l p z k r ha hoa hfu hz hk hr
    obtain ⟨fu, rfl⟩ : ∃ j, fu = j + 1 := ⟨fu - 1, by omega⟩
    have hsz := ha.asz
    have hp := jd_a_pos (l := l)
    have hjd : ∀ x ∈ l, jd (e + 1) x ≤ 59 - k := jd_a_le.mp (by omega)
    obtain ⟨r', e1, w1⟩ := fl_loop (rec := fH_putFlat fu n) (o := o) (p := p) (k := k) hz (by omega) (l := l) (fun n => ha.alen) (by omega) (fun x hx h5 hz0 => by
      have hxo := hoa x hx
      have hj := hjd x hx
      refine ⟨?_, fun L q r2 hxl hq hr2 => ?_⟩
      · obtain ⟨L, rfl⟩ := kda hxo h5
        have := jd_a_pos (l := L)
        omega
      · subst hxl
        exact ih fu L q (z - 1) (k + 1) r2 hq hxo (by omega) (by omega) (by have := jd_a_pos (l := L); omega) hr2) l n 0 (p + 1) 0 r (fun x hx => ⟨hx, hoa x hx⟩) (by omega) ha.abody hr (by omega)
    refine ⟨r', ?_, w1⟩
    rw [fH_putFlat, i3_one]
    rw [Nat.zero_add] at e1
    exact e1
theorem flt_len : ∀ (e z : Nat) (l : List (JT e)), (flt e z l).length ≤ (l.flatMap (jc e)).length := by
  intro e
  induction e with
  | zero => intro z l; exact ja_len
  | succ e ih =>
    intro z l
    induction l with
    | nil => exact Nat.le_refl _
    | cons x l ihl =>
      rw [flt_cons, List.length_append, List.flatMap_cons, List.length_append]
      have h1 : (flt (e + 1) z [x]).length ≤ (jc (e + 1) x).length := by
        by_cases h : z = 0 ∨ kd (e + 1) x ≠ 5
        · rw [flt_o h]
          exact jc_pos _ _
        · rcases jcases x with ⟨k, rfl⟩ | ⟨c, rfl⟩ | ⟨s, rfl⟩ | ⟨L, rfl⟩ | ⟨L, rfl⟩
          · have : kd (e + 1) (jk k : JT (e + 1)) ≠ 5 ∨ (flt (e + 1) z [(jk k : JT (e + 1))]).length ≤ 1 := Or.inr (Nat.le_refl 1)
            exact Nat.le_trans (this.resolve_left (fun h' => h (Or.inr h'))) (jc_pos _ _)
          · exact absurd (Or.inr (by rw [kd_n]; omega)) h
          · exact absurd (Or.inr (by rw [kd_s]; omega)) h
          · rw [flt_a (by omega), List.length_map, jc_a, lst_len]
            have := ih (z - 1) L
            omega
          · exact absurd (Or.inr (by rw [kd_o]; omega)) h
      omega
theorem flat_w (hn : 10000 < n) (hfu : e + 1 ≤ fu) {a x : JT (e + 1)} (ha : At f v 0 (jc (e + 1) a)) (hoa : jok (e + 1) a) (hx : At g u 0 (jc (e + 1) x)) (hox : jok (e + 1) x) (hja : jd (e + 1) a ≤ 60) (hr : RV r) : OK r (fH_flat fu n f (i3 v) o g (i3 u) o' r.1 (i3 r.2.1) r.2.2) (oFlat a x) := by
  obtain ⟨_, _, _, a5, _⟩ := isk (o := o) ha hoa n
  obtain ⟨_, x3, _, _, _⟩ := isk (o := o') hx hox n
  unfold fH_flat
  simp only [a5, x3, Option.bind_some, c1]
  by_cases h1 : kd (e + 1) a = 5 ∧ kd (e + 1) x = 3
  · obtain ⟨l, rfl⟩ := kda hoa h1.1
    obtain ⟨z, rfl⟩ := kdn hox h1.2
    rw [jok_n] at hox
    have en : fR_number n 0 g (i3 u) o' = some (cW z) := At.num (p := 0) hx hox.1 hox.2
    have hres : oFlat (ja l : JT (e + 1)) (jn z) = if z < 0 then .inl 2 else .inr (ja (flt e z.toNat l)) := rfl
    rw [if_neg (Decidable.not_not.mpr h1.1), if_neg (Decidable.not_not.mpr h1.2), en, Option.bind_some, hres, show (0 : Int64) = cW 0 from rfl, lg_cW (by omega) (by omega) (by omega) (by omega)]
    by_cases hz : z < 0
    · rw [if_neg (by rw [izs_ge0]; omega), if_pos hz]
      exact OK.refuse (k := 2) hr (by omega) (by omega)
    · obtain ⟨y, rfl⟩ : ∃ y : Nat, z = y := ⟨z.toNat, by omega⟩
      obtain ⟨r1, e1, w1⟩ := open_w (n := n) hr
      obtain ⟨r2, e2, w2⟩ := flat_rec (o := o) hn e fu l 0 y 0 r1 ha hoa hfu (by omega) (by omega) w1.v
      have e2' : fH_putFlat fu n 0 (cW (y : Int)) 0 f (i3 v) o r1.1 (i3 r1.2.1) r1.2.2 = some (i3 (flt e y l).length, r2.1, i3 r2.2.1, r2.2.2) := e2
      have hll := flt_len e y l
      have hsz := ha.abody.2
      obtain ⟨r3, e3, e4, w3⟩ := fin_a (n := n) w1 w2 rfl (by omega)
      rw [if_pos (by rw [izs_ge0]; omega), if_neg hz, e1, Option.bind_some, Option.bind_some, e2', Option.bind_some]
      dsimp only
      rw [e3, Option.bind_some]
      exact OK.val (r' := r3) (by rw [e4]) w3
  · have : oFlat a x = .inl 1 := by
      unfold oFlat
      rcases jcases a with ⟨k, rfl⟩ | ⟨z, rfl⟩ | ⟨s, rfl⟩ | ⟨l, rfl⟩ | ⟨l, rfl⟩ <;> rcases jcases x with ⟨k', rfl⟩ | ⟨z', rfl⟩ | ⟨s', rfl⟩ | ⟨l', rfl⟩ | ⟨l', rfl⟩ <;> first | rfl | exact absurd ⟨rfl, rfl⟩ h1
    rw [this]
    split
    · exact OK.refuse (k := 1) hr (by omega) (by omega)
    · split
      · exact OK.refuse (k := 1) hr (by omega) (by omega)
      · rename_i p1 p2
        exact absurd ⟨Decidable.not_not.mp p1, Decidable.not_not.mp p2⟩ h1
/-! at -/
theorem el_loop {l : List (JT e)} (ha : At f v 0 (jc (e + 1) (ja l))) (hoa : jok (e + 1) (ja l)) {z : Nat} (hz : z < l.length) : ∀ (m n i p : Nat), i + m = z → At f v p ((l.drop i).flatMap (jc e)) → m < n → ∃ q x, l[z]? = some x ∧ At f v q (jc e x) ∧ fR_element_b f (i3 v) o n 1 (i3 i) (i3 p) 0 (cW (z : Int)) = some (i3 q) := by
  have hsz := ha.asz
  have hlen : ∀ n, fR_length n 0 f (i3 v) o = some (i3 l.length) := fun n => ha.alen
  intro m
  induction m with
  | zero =>
    intro n i p hi hat hn
    obtain ⟨n, rfl⟩ : ∃ j, n = j + 1 := ⟨n - 1, by omega⟩
    obtain rfl : i = z := by omega
    obtain ⟨x, hx, at1, _⟩ := drop_flat hz hat
    refine ⟨p, x, hx, at1, ?_⟩
    rw [fR_element_b, hlen, Option.bind_some, if_neg (by rw [i3_le (by omega) (by omega)]; omega), i3_64 (by omega), lg_cW (by omega) (by omega) (by omega) (by omega), if_pos (by rw [izs_ge0]; omega)]
  | succ m ih =>
    intro n i p hi hat hn
    obtain ⟨n, rfl⟩ : ∃ j, n = j + 1 := ⟨n - 1, by omega⟩
    obtain ⟨y, hy, at1, at2⟩ := drop_flat (k := i) (by omega) hat
    rw [fR_element_b, hlen, Option.bind_some, if_neg (by rw [i3_le (by omega) (by omega)]; omega), i3_64 (by omega), lg_cW (by omega) (by omega) (by omega) (by omega), if_neg (by rw [izs_ge0]; omega), at1.after (hoa y (List.mem_of_getElem? hy)), Option.bind_some, i3_one]
    exact ih n (i + 1) _ (by omega) at2 (by omega)
theorem element_w (hn : 10000 < n) {l : List (JT e)} (ha : At f v 0 (jc (e + 1) (ja l))) (hoa : jok (e + 1) (ja l)) {z : Nat} (hz : z < l.length) : ∃ q x, l[z]? = some x ∧ At f v q (jc e x) ∧ fR_element n 0 (cW (z : Int)) f (i3 v) o = some (i3 q) := by
  have hsz := ha.asz
  exact el_loop (o := o) ha hoa hz z n 0 1 (by omega) ha.abody (by omega)
theorem elementAt_w (hn : 10000 < n) {l : List (JT e)} {z : Int} (h1 : -9007199254740991 ≤ z) (h2 : z ≤ 9007199254740991) (ha : At f v 0 (jc (e + 1) (ja l))) (hoa : jok (e + 1) (ja l)) (hr : RV r) : OK r (fH_elementAt n (cW z) f (i3 v) o r.1 (i3 r.2.1) r.2.2) (.inr (match (atI l.length z).bind (fun k => l[k]?) with | none => (jk 0 : JT (e + 1)) | some y => lf e y)) := by
  have hsz := ha.asz
  have hlen : fR_length n 0 f (i3 v) o = some (i3 l.length) := ha.alen
  have go : ∀ k : Int, -9007199254740991 ≤ k → k ≤ 9007199254746000 → OK r (if lg_cmp (cW k) 0 < 0 then fH_nothing n r.1 (i3 r.2.1) r.2.2 else if 0 ≤ lg_cmp (cW k) (i3 l.length).toInt64 then fH_nothing n r.1 (i3 r.2.1) r.2.2 else (fR_element n 0 (cW k) f (i3 v) o).bind fun o4 => fH_copy n o4 f (i3 v) o r.1 (i3 r.2.1) r.2.2) (.inr (match (if 0 ≤ k ∧ k < l.length then some k.toNat else none : Option Nat).bind (fun k => l[k]?) with | none => (jk 0 : JT (e + 1)) | some y => lf e y)) := fun k k1 k2 => by
    rw [i3_64 (by omega), show (0 : Int64) = cW 0 from rfl, lg_cW (by omega) (by omega) (by omega) (by omega), lg_cW (by omega) (by omega) (by omega) (by omega)]
    by_cases hk : 0 ≤ k ∧ k < l.length
    · obtain ⟨y, rfl⟩ : ∃ y : Nat, k = y := ⟨k.toNat, by omega⟩
      obtain ⟨q, x, hx, hq, eq⟩ := element_w (n := n) (o := o) hn ha hoa (z := y) (by omega)
      rw [if_neg (by rw [izs_lt0]; omega), if_neg (by rw [izs_ge0]; omega), eq, Option.bind_some, if_pos hk, Option.bind_some, show ((y : Int).toNat) = y by omega, hx]
      have := copy_w (n := n) (o := o) (q := q) hr (d := e + 1) (j := lf e x) (by rw [jc_lf]; exact hq) ((jok_lf e x).mpr (hoa x (List.mem_of_getElem? hx)))
      exact this
    · rw [if_neg hk]
      by_cases h0 : k < 0
      · rw [if_pos (by rw [izs_lt0]; omega)]
        exact nothing_w hr
      · rw [if_neg (by rw [izs_lt0]; omega), if_pos (by rw [izs_ge0]; omega)]
        exact nothing_w hr
  unfold fH_elementAt
  simp only [b4, hlen, Option.bind_some]
  rw [show (0 : Int64) = cW 0 from rfl, lg_cW (a := z) (b := 0) (by omega) (by omega) (by omega) (by omega)]
  unfold atI
  by_cases hz : z < 0
  · rw [if_neg (by rw [izs_ge0]; omega), i3_64 (by omega), cW_add]
    have := go (z + (l.length : Nat)) (by omega) (by omega)
    rw [i3_64 (by omega)] at this
    simp only [if_pos hz]
    exact this
  · have := go z (by omega) (by omega)
    rw [show (0 : Int64) = cW 0 from rfl, lg_cW (a := z) (b := 0) (by omega) (by omega) (by omega) (by omega)] at this
    rw [if_pos (by rw [izs_ge0]; omega)]
    simp only [if_neg hz]
    exact this
end PD
