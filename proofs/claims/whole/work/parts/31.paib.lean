section PB
variable {f g : Nat → Int64} {v u e : Nat} {o o' : Int32} {n fu : Nat} {r : RS}
theorem strs_w {a x : JT (e + 1)} (ha : At f v 0 (jc (e + 1) a)) (hoa : jok (e + 1) a) (hx : At g u 0 (jc (e + 1) x)) (hox : jok (e + 1) x) : fH_areStrings n f (i3 v) o g (i3 u) o' = some (if kd (e + 1) a = 4 ∧ kd (e + 1) x = 4 then 1 else 0) := by
  obtain ⟨_, _, a4, _, _⟩ := isk (o := o) ha hoa n
  obtain ⟨_, _, x4, _, _⟩ := isk (o := o') hx hox n
  unfold fH_areStrings
  simp only [a4, x4, Option.bind_some, c1]
  by_cases h1 : kd (e + 1) a = 4
  · by_cases h2 : kd (e + 1) x = 4
    · simp [h1, h2]
    · simp [h1, h2]
  · simp [h1]
theorem begins_w (hn : 5000 < n) {s t : Sx} (ha : At f v 0 (strc s)) (hs : sok s) (hx : At g u 0 (strc t)) (ht : sok t) : fH_begins n f (i3 v) o g (i3 u) o' = some (if pf t s then 1 else 0) := by
  unfold fH_begins
  have h := At.hp (n := n) (o := o) (o' := o') (p := 0) (q := 0) (k := 0) (Nat.zero_le _) ha hx hs ht (by omega)
  have h' : fR_hasParta n 0 0 0 f (i3 v) o g (i3 u) o' = some (if pf t (s.drop 0) then 1 else 0) := h
  rw [h', Option.bind_some, if_neg (bz _), List.drop_zero]
theorem ends_w (hn : 5000 < n) {s t : Sx} (ha : At f v 0 (strc s)) (hs : sok s) (hx : At g u 0 (strc t)) (ht : sok t) : fH_ends n f (i3 v) o g (i3 u) o' = some (if endsS s t then 1 else 0) := by
  have l1 := ha.le
  have l2 := hx.le
  have e1 : fR_length n 0 f (i3 v) o = some (i3 s.length) := ha.slen
  have e2 : fR_length n 0 g (i3 u) o' = some (i3 t.length) := hx.slen
  unfold fH_ends endsS
  rw [e1, Option.bind_some, e2, Option.bind_some]
  by_cases h : t.length ≤ s.length
  · have h' : fR_hasParta n 0 (i3 (s.length - t.length)) 0 f (i3 v) o g (i3 u) o' = some (if pf t (s.drop (s.length - t.length)) then 1 else 0) := At.hp (n := n) (o := o) (o' := o') (p := 0) (q := 0) (k := s.length - t.length) (by omega) ha hx hs ht (by omega)
    rw [i3_sub h, h', Option.bind_some, if_neg (bz _), show decide (t.length ≤ s.length) = true by simpa using h, Bool.true_and]
  · have hneg : i3 s.length - i3 t.length < 0 := by
      rw [Int32.lt_iff_toInt_lt, Int32.toInt_sub, i3_int (by omega), i3_int (by omega), Int.bmod_def]
      have : (0 : Int32).toInt = 0 := by decide
      rw [this]
      omega
    have h' : fR_hasParta n 0 (i3 s.length - i3 t.length) 0 f (i3 v) o g (i3 u) o' = some 0 := by
      unfold fR_hasParta
      rw [e2, Option.bind_some, if_pos hneg]
    rw [h', Option.bind_some, if_neg (by decide), show decide (t.length ≤ s.length) = false by simpa using h, Bool.false_and]
    rfl
theorem copyO_w (hr : RV r) {a : JT (e + 1)} (ha : At f v 0 (jc (e + 1) a)) (hoa : jok (e + 1) a) : OK r (fH_copy n 0 f (i3 v) o r.1 (i3 r.2.1) r.2.2) (.inr a) := copy_w (q := 0) hr ha hoa
theorem wb_w (hn : 5000 < n) {a x : JT (e + 1)} (ha : At f v 0 (jc (e + 1) a)) (hoa : jok (e + 1) a) (hx : At g u 0 (jc (e + 1) x)) (hox : jok (e + 1) x) (hr : RV r) : OK r (fH_withoutBeginning n f (i3 v) o g (i3 u) o' r.1 (i3 r.2.1) r.2.2) (oWB a x) := by
  unfold fH_withoutBeginning
  simp only [b4]
  rw [strs_w ha hoa hx hox, Option.bind_some]
  by_cases h : kd (e + 1) a = 4 ∧ kd (e + 1) x = 4
  · obtain ⟨s, rfl⟩ := kds hoa h.1
    obtain ⟨t, rfl⟩ := kds hox h.2
    have ha' : At f v 0 (strc s) := ha
    have hx' : At g u 0 (strc t) := hx
    have l1 := ha'.le
    have l2 := hx'.le
    have e1 : fR_length n 0 f (i3 v) o = some (i3 s.length) := ha'.slen
    have e2 : fR_length n 0 g (i3 u) o' = some (i3 t.length) := hx'.slen
    have hres : oWB (js s : JT (e + 1)) (js t) = .inr (if pf t s then js (s.drop t.length) else js s) := rfl
    rw [if_pos h, if_neg (by decide), begins_w hn ha' hoa hx' hox, Option.bind_some, hres]
    cases hp : pf t s with
    | false =>
      rw [if_pos (by decide), if_neg (by decide : ¬ (false = true))]
      exact copyO_w hr ha hoa
    | true =>
      have hl := pf_len hp
      obtain ⟨r1, e3, w1⟩ := putPart_w (n := n) (o' := o) hr ha' (a := t.length) (b := s.length) hl (by omega)
      rw [List.take_of_length_le (by rw [List.length_drop]; omega)] at w1
      have e3' : fR_putPart n 0 (i3 t.length) (i3 s.length) r.1 (i3 r.2.1) r.2.2 f (i3 v) o = some (r1.1, i3 r1.2.1, r1.2.2) := e3
      rw [if_neg (by decide), if_pos rfl, e2, Option.bind_some, e1, Option.bind_some, e3']
      exact OK.val (j := js (s.drop t.length)) rfl w1
  · rw [if_neg h, if_pos (by decide)]
    have : oWB a x = .inr a := by
      unfold oWB
      rcases jcases a with ⟨k, rfl⟩ | ⟨z, rfl⟩ | ⟨s, rfl⟩ | ⟨l, rfl⟩ | ⟨l, rfl⟩ <;> rcases jcases x with ⟨k', rfl⟩ | ⟨z', rfl⟩ | ⟨s', rfl⟩ | ⟨l', rfl⟩ | ⟨l', rfl⟩ <;> first | rfl | exact absurd ⟨rfl, rfl⟩ h
    rw [this]
    exact copyO_w hr ha hoa
theorem we_w (hn : 5000 < n) {a x : JT (e + 1)} (ha : At f v 0 (jc (e + 1) a)) (hoa : jok (e + 1) a) (hx : At g u 0 (jc (e + 1) x)) (hox : jok (e + 1) x) (hr : RV r) : OK r (fH_withoutEnd n f (i3 v) o g (i3 u) o' r.1 (i3 r.2.1) r.2.2) (oWE a x) := by
  unfold fH_withoutEnd
  simp only [b4]
  rw [strs_w ha hoa hx hox, Option.bind_some]
  by_cases h : kd (e + 1) a = 4 ∧ kd (e + 1) x = 4
  · obtain ⟨s, rfl⟩ := kds hoa h.1
    obtain ⟨t, rfl⟩ := kds hox h.2
    have ha' : At f v 0 (strc s) := ha
    have hx' : At g u 0 (strc t) := hx
    have l1 := ha'.le
    have l2 := hx'.le
    have e1 : fR_length n 0 f (i3 v) o = some (i3 s.length) := ha'.slen
    have e2 : fR_length n 0 g (i3 u) o' = some (i3 t.length) := hx'.slen
    have hres : oWE (js s : JT (e + 1)) (js t) = .inr (if endsS s t then js (s.take (s.length - t.length)) else js s) := rfl
    rw [if_pos h, if_neg (by decide), ends_w hn ha' hoa hx' hox, Option.bind_some, hres]
    cases hp : endsS s t with
    | false =>
      rw [if_pos (by decide), if_neg (by decide : ¬ (false = true))]
      exact copyO_w hr ha hoa
    | true =>
      have hl : t.length ≤ s.length := by
        unfold endsS at hp
        rw [Bool.and_eq_true] at hp
        simpa using hp.1
      obtain ⟨r1, e3, w1⟩ := putPart_w (n := n) (o' := o) hr ha' (a := 0) (b := s.length - t.length) (by omega) (by omega)
      rw [List.drop_zero, Nat.sub_zero] at w1
      have e3' : fR_putPart n 0 0 (i3 (s.length - t.length)) r.1 (i3 r.2.1) r.2.2 f (i3 v) o = some (r1.1, i3 r1.2.1, r1.2.2) := e3
      rw [if_neg (by decide), if_pos rfl, e1, Option.bind_some, e2, Option.bind_some, i3_sub hl, e3']
      exact OK.val (j := js (s.take (s.length - t.length))) rfl w1
  · rw [if_neg h, if_pos (by decide)]
    have : oWE a x = .inr a := by
      unfold oWE
      rcases jcases a with ⟨k, rfl⟩ | ⟨z, rfl⟩ | ⟨s, rfl⟩ | ⟨l, rfl⟩ | ⟨l, rfl⟩ <;> rcases jcases x with ⟨k', rfl⟩ | ⟨z', rfl⟩ | ⟨s', rfl⟩ | ⟨l', rfl⟩ | ⟨l', rfl⟩ <;> first | rfl | exact absurd ⟨rfl, rfl⟩ h
    rw [this]
    exact copyO_w hr ha hoa
theorem beg_w (hn : 5000 < n) {a x : JT (e + 1)} (ha : At f v 0 (jc (e + 1) a)) (hoa : jok (e + 1) a) (hx : At g u 0 (jc (e + 1) x)) (hox : jok (e + 1) x) (hr : RV r) : OK r ((fH_areStrings n f (i3 v) o g (i3 u) o').bind fun o22 => (if o22 = 0 then some ((1 : Int32), r.1, i3 r.2.1, r.2.2) else (fH_begins n f (i3 v) o g (i3 u) o').bind fun o25 => fH_truth n o25 r.1 (i3 r.2.1) r.2.2)) (oBeg a x) := by
  rw [strs_w ha hoa hx hox, Option.bind_some]
  by_cases h : kd (e + 1) a = 4 ∧ kd (e + 1) x = 4
  · obtain ⟨s, rfl⟩ := kds hoa h.1
    obtain ⟨t, rfl⟩ := kds hox h.2
    rw [if_pos h, if_neg (by decide), begins_w hn ha hoa hx hox, Option.bind_some]
    exact truth_w hr _
  · rw [if_neg h, if_pos (by decide)]
    have : oBeg a x = .inl 1 := by
      unfold oBeg
      rcases jcases a with ⟨k, rfl⟩ | ⟨z, rfl⟩ | ⟨s, rfl⟩ | ⟨l, rfl⟩ | ⟨l, rfl⟩ <;> rcases jcases x with ⟨k', rfl⟩ | ⟨z', rfl⟩ | ⟨s', rfl⟩ | ⟨l', rfl⟩ | ⟨l', rfl⟩ <;> first | rfl | exact absurd ⟨rfl, rfl⟩ h
    rw [this]
    exact OK.refuse (k := 1) hr (by omega) (by omega)
theorem end_w (hn : 5000 < n) {a x : JT (e + 1)} (ha : At f v 0 (jc (e + 1) a)) (hoa : jok (e + 1) a) (hx : At g u 0 (jc (e + 1) x)) (hox : jok (e + 1) x) (hr : RV r) : OK r ((fH_areStrings n f (i3 v) o g (i3 u) o').bind fun o22 => (if o22 = 0 then some ((1 : Int32), r.1, i3 r.2.1, r.2.2) else (fH_ends n f (i3 v) o g (i3 u) o').bind fun o25 => fH_truth n o25 r.1 (i3 r.2.1) r.2.2)) (oEnds a x) := by
  rw [strs_w ha hoa hx hox, Option.bind_some]
  by_cases h : kd (e + 1) a = 4 ∧ kd (e + 1) x = 4
  · obtain ⟨s, rfl⟩ := kds hoa h.1
    obtain ⟨t, rfl⟩ := kds hox h.2
    rw [if_pos h, if_neg (by decide), ends_w hn ha hoa hx hox, Option.bind_some]
    exact truth_w hr _
  · rw [if_neg h, if_pos (by decide)]
    have : oEnds a x = .inl 1 := by
      unfold oEnds
      rcases jcases a with ⟨k, rfl⟩ | ⟨z, rfl⟩ | ⟨s, rfl⟩ | ⟨l, rfl⟩ | ⟨l, rfl⟩ <;> rcases jcases x with ⟨k', rfl⟩ | ⟨z', rfl⟩ | ⟨s', rfl⟩ | ⟨l', rfl⟩ | ⟨l', rfl⟩ <;> first | rfl | exact absurd ⟨rfl, rfl⟩ h
    rw [this]
    exact OK.refuse (k := 1) hr (by omega) (by omega)
end PB
/-! joined -/
def shown : (e : Nat) → JT e → Sx
  | 0, j => Empty.elim j
  | _ + 1, .inl (.inl k) => if k = 0 then [] else wd k
  | _ + 1, .inl (.inr (.inl z)) => nt z
  | _ + 1, .inl (.inr (.inr s)) => s
  | _ + 1, .inr _ => []
def jn' {e : Nat} (t : Sx) : List (JT e) → Sx
  | [] => []
  | x :: l => shown e x ++ l.flatMap (fun y => t ++ shown e y)
def oJoin {e : Nat} (a x : JT (e + 1)) : Nat ⊕ JT (e + 1) :=
  match a, x with
  | .inr (.inl l), .inl (.inr (.inr t)) => if l.all (fun x => decide (kd e x < 5)) then .inr (js (jn' t l)) else .inl 1
  | _, _ => .inl 1
section PC
variable {f g : Nat → Int64} {v u e : Nat} {o o' : Int32} {n fu : Nat} {r : RS}
theorem as_loop {p : Nat} {s : Sx} (hs : sok s) (ha : At f v p (strc s)) : ∀ (s' : Sx) (n i : Nat) (t : TS), s.drop i = s' → i + s'.length = s.length → s'.length < n → RV t → ∃ t' : TS, fT_addString_b f (i3 v) o n 1 (i3 i) (i3 p) t.1 (i3 t.2.1) t.2.2 = some (t'.1, i3 t'.2.1, t'.2.2) ∧ Wr t (s'.map sb) t' := by
  have hle := ha.le
  intro s'
  induction s' with
  | nil =>
    intro n i t hd hi hn ht
    rw [List.length_nil] at hi
    obtain ⟨n, rfl⟩ : ∃ j, n = j + 1 := ⟨n - 1, by omega⟩
    refine ⟨t, ?_, Wr.nil ht⟩
    rw [fT_addString_b, ha.slen, Option.bind_some, if_pos (by rw [i3_le (by omega) (by omega)]; omega)]
  | cons c s' ih =>
    intro n i t hd hi hn ht
    rw [List.length_cons] at hi hn
    obtain ⟨n, rfl⟩ : ∃ j, n = j + 1 := ⟨n - 1, by omega⟩
    have hc : s[i]'(by omega) = c := by
      have := List.getElem_drop (xs := s) (i := i) (j := 0) (h := by rw [List.length_drop]; omega)
      simp only [hd] at this
      simpa using this.symm
    have hc1 : c < 128 := by rw [← hc]; exact hs _ (List.getElem_mem _)
    obtain ⟨t1, e1, g1⟩ := add_c (n := n) ht hc1
    obtain ⟨t2, e2, g2⟩ := ih n (i + 1) t1 (by rw [← List.drop_drop, hd]; rfl) (by omega) (by omega) g1.v
    refine ⟨t2, ?_, g1.app g2⟩
    rw [fT_addString_b, ha.slen, Option.bind_some, if_neg (by rw [i3_le (by omega) (by omega)]; omega), ha.scode (i := i) (by omega), Option.bind_some, hc, e1, Option.bind_some, i3_one]
    exact e2
theorem addString_w (hn : 5000 < n) {p : Nat} {s : Sx} {t : TS} (hs : sok s) (ha : At f v p (strc s)) (ht : RV t) : ∃ t' : TS, fT_addString n (i3 p) t.1 (i3 t.2.1) t.2.2 f (i3 v) o = some (t'.1, i3 t'.2.1, t'.2.2) ∧ Wr t (s.map sb) t' := by
  have hle := ha.le
  exact as_loop hs ha s n 0 t rfl (by omega) (by omega) ht
theorem addShown_w (hn : 10000 < n) {d p : Nat} {x : JT d} {t : TS} (hfu : d ≤ fu) (ha : At f v p (jc d x)) (hx : jok d x) (hk : kd d x < 5) (ht : RV t) : ∃ t' : TS, fH_addShown fu n (i3 p) f (i3 v) o t.1 (i3 t.2.1) t.2.2 = some (t'.1, i3 t'.2.1, t'.2.2) ∧ Wr t ((shown d x).map sb) t' := by
  have i4 : fR_is n (i3 p) 4 f (i3 v) o = some (if kd d x = 4 then 1 else 0) := ha.is (k := 4) hx (by omega)
  have i0 : fR_is n (i3 p) 0 f (i3 v) o = some (if kd d x = 0 then 1 else 0) := ha.is (k := 0) hx (by omega)
  cases d with
  | zero => exact (j0 x).elim
  | succ d =>
    unfold fH_addShown
    rw [i4, Option.bind_some]
    by_cases h4 : kd (d + 1) x = 4
    · obtain ⟨s, rfl⟩ := kds hx h4
      obtain ⟨t1, e1, w1⟩ := addString_w (n := n) (o := o) (by omega) hx ha ht
      rw [if_pos h4, if_neg (by decide), e1]
      exact ⟨t1, rfl, w1⟩
    · rw [if_neg h4, if_pos (by decide), i0, Option.bind_some]
      by_cases h0 : kd (d + 1) x = 0
      · have hx0 := kdk hx (by omega)
        rw [h0] at hx0
        subst hx0
        rw [if_pos h0, if_neg (by decide)]
        exact ⟨t, rfl, Wr.nil ht⟩
      · obtain ⟨t1, e1, w1⟩ := write_w (n := n) (by omega) (d + 1) fu x f p v 0 o t hx ha hfu (by omega) ht
        have e1' : fP_write fu n (i3 p) 0 f (i3 v) o t.1 (i3 t.2.1) t.2.2 = some (t1.1, i3 t1.2.1, t1.2.2) := e1
        have w2 := w1.2.1 (Or.inl hk)
        have hsh : shown (d + 1) x = jt (d + 1) x := by
          rcases jcases x with ⟨k, rfl⟩ | ⟨z, rfl⟩ | ⟨s, rfl⟩ | ⟨l, rfl⟩ | ⟨l, rfl⟩
          · exact if_neg h0
          · rfl
          · exact absurd rfl h4
          · rw [kd_a] at hk; omega
          · rw [kd_o] at hk; omega
        rw [if_neg h0, if_pos (by decide), e1', hsh]
        exact ⟨t1, rfl, w2⟩
theorem wd_lt : ∀ k, ∀ c ∈ wd k, c < 128 := fun k c hc => by
  unfold wd at hc
  split at hc
  · revert hc; revert c; decide
  · split at hc
    · revert hc; revert c; decide
    · revert hc; revert c; decide
theorem dgs_lt : ∀ (k m : Nat), ∀ c ∈ dgs k m, 48 ≤ c ∧ c < 58 := by
  intro k
  induction k with
  | zero => intro m c hc; exact absurd hc (by simp [dgs])
  | succ k ih =>
    intro m c hc
    rw [dgs] at hc
    rcases List.mem_cons.mp hc with rfl | hc
    · omega
    · exact ih m c hc
theorem nt_lt (z : Int) : ∀ c ∈ nt z, c < 128 := fun c hc => by
  unfold nt at hc
  rcases List.mem_append.mp hc with hc | hc
  · split at hc
    · rw [List.mem_singleton.mp hc]; omega
    · exact absurd hc (by simp)
  · have := dgs_lt _ _ c hc
    omega
theorem shown_lt {d : Nat} {x : JT d} (hx : jok d x) : ∀ c ∈ shown d x, c < 128 := by
  cases d with
  | zero => exact (j0 x).elim
  | succ d =>
    intro c hc
    rcases jcases x with ⟨k, rfl⟩ | ⟨z, rfl⟩ | ⟨s, rfl⟩ | ⟨l, rfl⟩ | ⟨l, rfl⟩
    · have hc' : c ∈ (if k = 0 then [] else wd k) := hc
      split at hc'
      · exact absurd hc' (by simp)
      · exact wd_lt k c hc'
    · exact nt_lt z c hc
    · exact hx c hc
    · exact absurd (show c ∈ ([] : Sx) from hc) (by simp)
    · exact absurd (show c ∈ ([] : Sx) from hc) (by simp)
theorem jn'_lt {l : List (JT e)} {t : Sx} (ht : sok t) (hl : ∀ x ∈ l, jok e x) : ∀ c ∈ jn' t l, c < 128 := by
  intro c hc
  cases l with
  | nil => exact absurd hc (by simp [jn'])
  | cons x l =>
    unfold jn' at hc
    rcases List.mem_append.mp hc with hc | hc
    · exact shown_lt (hl x (List.mem_cons_self ..)) c hc
    · obtain ⟨y, hy, hc⟩ := List.mem_flatMap.mp hc
      rcases List.mem_append.mp hc with hc | hc
      · exact ht c hc
      · exact shown_lt (hl y (List.mem_cons_of_mem _ hy)) c hc
/-- a joined text in a row, whether it fits or not -/
theorem joinEnd {t0 t : TS} {s : Sx} (hn : 5000 < n) (h0 : t0.2.1 = 0 ∧ t0.2.2 = 0) (hs : ∀ c ∈ s, c < 128) (hw : Wr t0 (s.map sb) t) (hr : RV r) : ∃ r' : RS, fR_putText n r.1 (i3 r.2.1) r.2.2 t.1 (i3 t.2.1) t.2.2 = some (r'.1, i3 r'.2.1, r'.2.2) ∧ Wr r (strc s) r' := by
  obtain ⟨hv, hw2⟩ := hw
  rcases hw2 with ⟨a1, a2, a3, a4, a5, a6⟩ | ⟨a1, a2⟩
  · rw [h0.1, List.length_map] at a4
    rw [h0.1] at a6
    exact putText_w hn (fun c hc => by have := hs c hc; omega) a6 (by omega) hv.1 a3 hr
  · rcases a1 with a1 | a1
    · rw [h0.2] at a1
      exact absurd a1 (by decide)
    · obtain ⟨r', e1, g1, g2⟩ := putText_over hn hv.1 a2 hr
      refine ⟨r', e1, g1, Or.inr ⟨Or.inr ?_, g2⟩⟩
      rw [h0.1, List.length_map] at a1
      rw [strc_len]
      omega
theorem join_loop (hfu : e ≤ fu) {l : List (JT e)} {t : Sx} (ha : At f v 0 (jc (e + 1) (ja l))) (hoa : jok (e + 1) (ja l)) (hx : At g u 0 (strc t)) (ht : sok t) {t0 : TS} (h0 : t0.2.1 = 0 ∧ t0.2.2 = 0) (hr : RV r) : ∀ (l' : List (JT e)) (n i q : Nat) (w : Sx) (t1 : TS), (∀ x ∈ l', x ∈ l) → (∀ c ∈ w, c < 128) → i + l'.length = l.length → At f v q (l'.flatMap (jc e)) → Wr t0 (w.map sb) t1 → 20000 + l'.length < n →
    ∃ (c : Nat) (t2 : TS) (r' : RS), fH_joined_b fu f (i3 v) o g (i3 u) o' n 1 (i3 i) (i3 q) t1.1 (i3 t1.2.1) t1.2.2 r.1 (i3 r.2.1) r.2.2 = some (i3 c, t2.1, i3 t2.2.1, t2.2.2, r'.1, i3 r'.2.1, r'.2.2) ∧ RV t2 ∧ OK (d := e + 1) r (some (i3 c, r'.1, i3 r'.2.1, r'.2.2)) (if l'.all (fun x => decide (kd e x < 5)) then .inr (js (w ++ (if i = 0 then jn' t l' else l'.flatMap (fun y => t ++ shown e y)))) else .inl 1) := by
  have hsz := ha.asz
  have hlen : ∀ n, fR_length n 0 f (i3 v) o = some (i3 l.length) := fun n => ha.alen
  intro l'
  induction l' with
  | nil =>
    intro n i q w t1 _ hwl hi _ hw hn
    obtain ⟨n, rfl⟩ : ∃ j, n = j + 1 := ⟨n - 1, by omega⟩
    rw [List.length_nil] at hi
    obtain ⟨r', e1, w1⟩ := joinEnd (n := n) (by omega) h0 hwl hw hr
    refine ⟨0, t1, r', ?_, hw.v, ?_⟩
    · rw [fH_joined_b, hlen, Option.bind_some, if_pos (by rw [i3_le (by omega) (by omega)]; omega), e1]
      rfl
    · have : (if i = 0 then jn' t ([] : List (JT e)) else ([] : List (JT e)).flatMap (fun y => t ++ shown e y)) = [] := by split <;> rfl
      rw [List.all_nil, if_pos rfl, this, List.append_nil]
      exact OK.val (j := js w) rfl w1
  | cons x l' ih =>
    intro n i q w t1 hsub hwl hi hat hw hn
    obtain ⟨n, rfl⟩ : ∃ j, n = j + 1 := ⟨n - 1, by omega⟩
    rw [List.length_cons] at hi hn
    obtain ⟨at1, at2⟩ := hat.acons
    have hxo := hoa x (hsub x (List.mem_cons_self ..))
    have hk8 := kd_lt8 hxo
    have i5 : fR_is n (i3 q) 5 f (i3 v) o = some (if kd e x = 5 then 1 else 0) := at1.is (k := 5) hxo (by omega)
    have i6 : fR_is n (i3 q) 6 f (i3 v) o = some (if kd e x = 6 then 1 else 0) := at1.is (k := 6) hxo (by omega)
    have k7 : kd e x < 7 := by
      cases e with
      | zero => exact (j0 x).elim
      | succ e =>
        rcases jcases x with ⟨k, rfl⟩ | ⟨z, rfl⟩ | ⟨s, rfl⟩ | ⟨l, rfl⟩ | ⟨l, rfl⟩
        · rw [jok_k] at hxo; rw [kd_k]; omega
        · rw [kd_n]; omega
        · rw [kd_s]; omega
        · rw [kd_a]; omega
        · rw [kd_o]; omega
    rw [fH_joined_b, hlen, Option.bind_some, if_neg (by rw [i3_le (by omega) (by omega)]; omega), List.all_cons]
    by_cases hk : kd e x < 5
    · rw [if_neg (show ¬ kd e x = 5 by omega)] at i5
      rw [if_neg (show ¬ kd e x = 6 by omega)] at i6
      rw [i5, Option.bind_some, if_pos (by decide), i6, Option.bind_some, if_pos (by decide), show decide (kd e x < 5) = true by simpa using hk, Bool.true_and]
      by_cases hi0 : i = 0
      · subst hi0
        obtain ⟨t2, e2, w2⟩ := addShown_w (n := n) (o := o) (by omega) hfu at1 hxo hk hw.v
        obtain ⟨c, t3, r', e3, g1, g2⟩ := ih n 1 _ (w ++ shown e x) t2 (fun y hy => hsub y (List.mem_cons_of_mem _ hy)) (fun c hc => by
          rcases List.mem_append.mp hc with hc | hc
          · exact hwl c hc
          · exact shown_lt hxo c hc) (by omega) at2 (by rw [List.map_append]; exact hw.app w2) (by omega)
        refine ⟨c, t3, r', ?_, g1, ?_⟩
        · rw [if_pos (by decide), e2, Option.bind_some, at1.after hxo, Option.bind_some]
          exact e3
        · rw [if_pos (show (0 : Nat) = 0 from rfl)]
          rw [if_neg (show ¬ (1 : Nat) = 0 by omega), List.append_assoc] at g2
          exact g2
      · obtain ⟨t2, e2, w2⟩ := addString_w (n := n) (o := o') (by omega) ht hx hw.v
        have e2' : fT_addString n 0 t1.1 (i3 t1.2.1) t1.2.2 g (i3 u) o' = some (t2.1, i3 t2.2.1, t2.2.2) := e2
        obtain ⟨t3, e3, w3⟩ := addShown_w (n := n) (o := o) (by omega) hfu at1 hxo hk w2.v
        obtain ⟨c, t4, r', e4, g1, g2⟩ := ih n (i + 1) _ (w ++ (t ++ shown e x)) t3 (fun y hy => hsub y (List.mem_cons_of_mem _ hy)) (fun c hc => by
          rcases List.mem_append.mp hc with hc | hc
          · exact hwl c hc
          · rcases List.mem_append.mp hc with hc | hc
            · exact ht c hc
            · exact shown_lt hxo c hc) (by omega) at2 (by rw [List.map_append, List.map_append]; exact hw.app (w2.app w3)) (by omega)
        refine ⟨c, t4, r', ?_, g1, ?_⟩
        · rw [if_neg (by rw [show (0 : Int32) = i3 0 from rfl, i3_le (by omega) (by omega)]; omega), e2', Option.bind_some]
          dsimp only
          rw [e3, Option.bind_some, at1.after hxo, Option.bind_some, i3_one]
          exact e4
        · rw [if_neg hi0]
          rw [if_neg (show ¬ i + 1 = 0 by omega), List.append_assoc] at g2
          rw [List.flatMap_cons]
          exact g2
    · rw [show decide (kd e x < 5) = false by simpa using hk, Bool.false_and, if_neg (by decide : ¬ (false = true))]
      refine ⟨1, t1, r, ?_, hw.v, OK.refuse (k := 1) hr (by omega) (by omega)⟩
      by_cases h5 : kd e x = 5
      · rw [if_pos h5] at i5
        rw [i5, Option.bind_some, if_neg (by decide)]
        rfl
      · rw [if_neg h5] at i5
        rw [if_pos (show kd e x = 6 by omega)] at i6
        rw [i5, Option.bind_some, if_pos (by decide), i6, Option.bind_some, if_neg (by decide)]
        rfl
theorem joined_w (hn : 40000 < n) (hfu : e ≤ fu) {a x : JT (e + 1)} {t : TS} (ha : At f v 0 (jc (e + 1) a)) (hoa : jok (e + 1) a) (hx : At g u 0 (jc (e + 1) x)) (hox : jok (e + 1) x) (ht : RV t) (hr : RV r) : ∃ (c : Nat) (t2 : TS) (r' : RS), fH_joined fu n f (i3 v) o g (i3 u) o' t.1 (i3 t.2.1) t.2.2 r.1 (i3 r.2.1) r.2.2 = some (i3 c, t2.1, i3 t2.2.1, t2.2.2, r'.1, i3 r'.2.1, r'.2.2) ∧ RV t2 ∧ OK r (some (i3 c, r'.1, i3 r'.2.1, r'.2.2)) (oJoin a x) := by
  obtain ⟨_, _, _, a5, _⟩ := isk (o := o) ha hoa n
  obtain ⟨_, _, x4, _, _⟩ := isk (o := o') hx hox n
  unfold fH_joined
  rw [a5, Option.bind_some]
  by_cases h1 : kd (e + 1) a = 5 ∧ kd (e + 1) x = 4
  · obtain ⟨l, rfl⟩ := kda hoa h1.1
    obtain ⟨s, rfl⟩ := kds hox h1.2
    have hsz := ha.asz
    rw [if_pos h1.1, if_neg (by decide), x4, Option.bind_some, if_pos h1.2, if_neg (by decide)]
    unfold fT_clear
    rw [Option.bind_some]
    obtain ⟨c, t2, r', e1, g1, g2⟩ := join_loop (o := o) (o' := o') hfu ha hoa hx hox (t0 := (t.1, 0, 0)) ⟨rfl, rfl⟩ hr l n 0 1 [] (t.1, 0, 0) (fun x hx => hx) (fun c hc => absurd hc (by simp)) (by omega) ha.abody (Wr.nil ⟨by simp, Or.inl rfl⟩) (by omega)
    exact ⟨c, t2, r', e1, g1, g2⟩
  · have : oJoin a x = .inl 1 := by
      unfold oJoin
      rcases jcases a with ⟨k, rfl⟩ | ⟨z, rfl⟩ | ⟨s, rfl⟩ | ⟨l, rfl⟩ | ⟨l, rfl⟩ <;> rcases jcases x with ⟨k', rfl⟩ | ⟨z', rfl⟩ | ⟨s', rfl⟩ | ⟨l', rfl⟩ | ⟨l', rfl⟩ <;> first | rfl | exact absurd ⟨rfl, rfl⟩ h1
    rw [this]
    refine ⟨1, t, r, ?_, ht, OK.refuse (k := 1) hr (by omega) (by omega)⟩
    by_cases h5 : kd (e + 1) a = 5
    · rw [if_pos h5, if_neg (by decide), x4, Option.bind_some, if_neg (fun h => h1 ⟨h5, h⟩), if_pos (by decide)]
      rfl
    · rw [if_neg h5, if_pos (by decide)]
      rfl
end PC
