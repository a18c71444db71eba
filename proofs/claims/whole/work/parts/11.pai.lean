section ZPaib31
section PB
variable {f g : Nat → Int64} {v u e : Nat} {o o' : Int32} {n fu : Nat} {r : RS}
theorem strs_w {a x : JT (e + 1)} (ha : At f v 0 (jc (e + 1) a)) (hoa : jok (e + 1) a) (hx : At g u 0 (jc (e + 1) x)) (hox : jok (e + 1) x) : fH_areStrings n f (i3 v) o g (i3 u) o' = some (if kd (e + 1) a = 4 ∧ kd (e + 1) x = 4 then 1 else 0) := by
  obtain ⟨_, _, a4, _, _⟩ := isk (o := o) ha hoa n
  obtain ⟨_, _, x4, _, _⟩ := isk (o := o') hx hox n
  unfold fH_areStrings
  simp only [a4, x4, Option.bind_some, c1]
  by_cases h1 : kd (e + 1) a = 4
  · by_cases h2 : kd (e + 1) x = 4
    · simp [h1, h2]
    · simp [h1, h2]
  · simp [h1]
theorem begins_w (hn : 5000 < n) {s t : Sx} (ha : At f v 0 (strc s)) (hs : sok s) (hx : At g u 0 (strc t)) (ht : sok t) : fH_begins n f (i3 v) o g (i3 u) o' = some (if pf t s then 1 else 0) := by
  unfold fH_begins
  have h := At.hp (n := n) (o := o) (o' := o') (p := 0) (q := 0) (k := 0) (Nat.zero_le _) ha hx hs ht (by omega)
  have h' : fR_hasParta n 0 0 0 f (i3 v) o g (i3 u) o' = some (if pf t (s.drop 0) then 1 else 0) := h
  rw [h', Option.bind_some, if_neg (bz _), List.drop_zero]
theorem ends_w (hn : 5000 < n) {s t : Sx} (ha : At f v 0 (strc s)) (hs : sok s) (hx : At g u 0 (strc t)) (ht : sok t) : fH_ends n f (i3 v) o g (i3 u) o' = some (if endsS s t then 1 else 0) := by
  have l1 := ha.le
  have l2 := hx.le
  have e1 : fR_length n 0 f (i3 v) o = some (i3 s.length) := ha.slen
  have e2 : fR_length n 0 g (i3 u) o' = some (i3 t.length) := hx.slen
  unfold fH_ends endsS
  rw [e1, Option.bind_some, e2, Option.bind_some]
  by_cases h : t.length ≤ s.length
  · have h' : fR_hasParta n 0 (i3 (s.length - t.length)) 0 f (i3 v) o g (i3 u) o' = some (if pf t (s.drop (s.length - t.length)) then 1 else 0) := At.hp (n := n) (o := o) (o' := o') (p := 0) (q := 0) (k := s.length - t.length) (by omega) ha hx hs ht (by omega)
    rw [i3_sub h, h', Option.bind_some, if_neg (bz _), show decide (t.length ≤ s.length) = true by simpa using h, Bool.true_and]
  · have hneg : i3 s.length - i3 t.length < 0 := by
      rw [Int32.lt_iff_toInt_lt, Int32.toInt_sub, i3_int (by omega), i3_int (by omega), Int.bmod_def]
      have : (0 : Int32).toInt = 0 := by decide
      rw [this]
      omega
    have h' : fR_hasParta n 0 (i3 s.length - i3 t.length) 0 f (i3 v) o g (i3 u) o' = some 0 := by
      unfold fR_hasParta
      rw [e2, Option.bind_some, if_pos hneg]
    rw [h', Option.bind_some, if_neg (by decide), show decide (t.length ≤ s.length) = false by simpa using h, Bool.false_and]
    rfl
theorem copyO_w (hr : RV r) {a : JT (e + 1)} (ha : At f v 0 (jc (e + 1) a)) (hoa : jok (e + 1) a) : OK r (fH_copy n 0 f (i3 v) o r.1 (i3 r.2.1) r.2.2) (.inr a) := copy_w (q := 0) hr ha hoa
theorem wb_w (hn : 5000 < n) {a x : JT (e + 1)} (ha : At f v 0 (jc (e + 1) a)) (hoa : jok (e + 1) a) (hx : At g u 0 (jc (e + 1) x)) (hox : jok (e + 1) x) (hr : RV r) : OK r (fH_withoutBeginning n f (i3 v) o g (i3 u) o' r.1 (i3 r.2.1) r.2.2) (oWB a x) := by
  unfold fH_withoutBeginning
  simp only [b4]
  rw [strs_w ha hoa hx hox, Option.bind_some]
  by_cases h : kd (e + 1) a = 4 ∧ kd (e + 1) x = 4
  · obtain ⟨s, rfl⟩ := kds hoa h.1
    obtain ⟨t, rfl⟩ := kds hox h.2
    have ha' : At f v 0 (strc s) := ha
    have hx' : At g u 0 (strc t) := hx
    have l1 := ha'.le
    have l2 := hx'.le
    have e1 : fR_length n 0 f (i3 v) o = some (i3 s.length) := ha'.slen
    have e2 : fR_length n 0 g (i3 u) o' = some (i3 t.length) := hx'.slen
    have hres : oWB (js s : JT (e + 1)) (js t) = .inr (if pf t s then js (s.drop t.length) else js s) := rfl
    rw [if_pos h, if_neg (by decide), begins_w hn ha' hoa hx' hox, Option.bind_some, hres]
    cases hp : pf t s with
    | false =>
      rw [if_pos (by decide), if_neg (by decide : ¬ (false = true))]
      exact copyO_w hr ha hoa
    | true =>
      have hl := pf_len hp
      obtain ⟨r1, e3, w1⟩ := putPart_w (n := n) (o' := o) hr ha' (a := t.length) (b := s.length) hl (by omega)
      rw [List.take_of_length_le (by rw [List.length_drop]; omega)] at w1
      have e3' : fR_putPart n 0 (i3 t.length) (i3 s.length) r.1 (i3 r.2.1) r.2.2 f (i3 v) o = some (r1.1, i3 r1.2.1, r1.2.2) := e3
      rw [if_neg (by decide), if_pos rfl, e2, Option.bind_some, e1, Option.bind_some, e3']
      exact OK.val (j := js (s.drop t.length)) rfl w1
  · rw [if_neg h, if_pos (by decide)]
    have : oWB a x = .inr a := by
      unfold oWB
      rcases jcases a with ⟨k, rfl⟩ | ⟨z, rfl⟩ | ⟨s, rfl⟩ | ⟨l, rfl⟩ | ⟨l, rfl⟩ <;> rcases jcases x with ⟨k', rfl⟩ | ⟨z', rfl⟩ | ⟨s', rfl⟩ | ⟨l', rfl⟩ | ⟨l', rfl⟩ <;> first | rfl | exact absurd ⟨rfl, rfl⟩ h
    rw [this]
    exact copyO_w hr ha hoa
theorem we_w (hn : 5000 < n) {a x : JT (e + 1)} (ha : At f v 0 (jc (e + 1) a)) (hoa : jok (e + 1) a) (hx : At g u 0 (jc (e + 1) x)) (hox : jok (e + 1) x) (hr : RV r) : OK r (fH_withoutEnd n f (i3 v) o g (i3 u) o' r.1 (i3 r.2.1) r.2.2) (oWE a x) := by
  unfold fH_withoutEnd
  simp only [b4]
  rw [strs_w ha hoa hx hox, Option.bind_some]
  by_cases h : kd (e + 1) a = 4 ∧ kd (e + 1) x = 4
  · obtain ⟨s, rfl⟩ := kds hoa h.1
    obtain ⟨t, rfl⟩ := kds hox h.2
    have ha' : At f v 0 (strc s) := ha
    have hx' : At g u 0 (strc t) := hx
    have l1 := ha'.le
    have l2 := hx'.le
    have e1 : fR_length n 0 f (i3 v) o = some (i3 s.length) := ha'.slen
    have e2 : fR_length n 0 g (i3 u) o' = some (i3 t.length) := hx'.slen
    have hres : oWE (js s : JT (e + 1)) (js t) = .inr (if endsS s t then js (s.take (s.length - t.length)) else js s) := rfl
    rw [if_pos h, if_neg (by decide), ends_w hn ha' hoa hx' hox, Option.bind_some, hres]
    cases hp : endsS s t with
    | false =>
      rw [if_pos (by decide), if_neg (by decide : ¬ (false = true))]
      exact copyO_w hr ha hoa
    | true =>
      have hl : t.length ≤ s.length := by
        unfold endsS at hp
        rw [Bool.and_eq_true] at hp
        simpa using hp.1
      obtain ⟨r1, e3, w1⟩ := putPart_w (n := n) (o' := o) hr ha' (a := 0) (b := s.length - t.length) (by omega) (by omega)
      rw [List.drop_zero, Nat.sub_zero] at w1
      have e3' : fR_putPart n 0 0 (i3 (s.length - t.length)) r.1 (i3 r.2.1) r.2.2 f (i3 v) o = some (r1.1, i3 r1.2.1, r1.2.2) := e3
      rw [if_neg (by decide), if_pos rfl, e1, Option.bind_some, e2, Option.bind_some, i3_sub hl, e3']
      exact OK.val (j := js (s.take (s.length - t.length))) rfl w1
  · rw [if_neg h, if_pos (by decide)]
    have : oWE a x = .inr a := by
      unfold oWE
      rcases jcases a with ⟨k, rfl⟩ | ⟨z, rfl⟩ | ⟨s, rfl⟩ | ⟨l, rfl⟩ | ⟨l, rfl⟩ <;> rcases jcases x with ⟨k', rfl⟩ | ⟨z', rfl⟩ | ⟨s', rfl⟩ | ⟨l', rfl⟩ | ⟨l', rfl⟩ <;> first | rfl | exact absurd ⟨rfl, rfl⟩ h
    rw [this]
    exact copyO_w hr ha hoa
theorem beg_w (hn : 5000 < n) {a x : JT (e + 1)} (ha : At f v 0 (jc (e + 1) a)) (hoa : jok (e + 1) a) (hx : At g u 0 (jc (e + 1) x)) (hox : jok (e + 1) x) (hr : RV r) : OK r ((fH_areStrings n f (i3 v) o g (i3 u) o').bind fun o22 => (if o22 = 0 then some ((1 : Int32), r.1, i3 r.2.1, r.2.2) else (fH_begins n f (i3 v) o g (i3 u) o').bind fun o25 => fH_truth n o25 r.1 (i3 r.2.1) r.2.2)) (oBeg a x) := by
  rw [strs_w ha hoa hx hox, Option.bind_some]
  by_cases h : kd (e + 1) a = 4 ∧ kd (e + 1) x = 4
  · obtain ⟨s, rfl⟩ := kds hoa h.1
    obtain ⟨t, rfl⟩ := kds hox h.2
    rw [if_pos h, if_neg (by decide), begins_w hn ha hoa hx hox, Option.bind_some]
    exact truth_w hr _
  · rw [if_neg h, if_pos (by decide)]
    have : oBeg a x = .inl 1 := by
      unfold oBeg
      rcases jcases a with ⟨k, rfl⟩ | ⟨z, rfl⟩ | ⟨s, rfl⟩ | ⟨l, rfl⟩ | ⟨l, rfl⟩ <;> rcases jcases x with ⟨k', rfl⟩ | ⟨z', rfl⟩ | ⟨s', rfl⟩ | ⟨l', rfl⟩ | ⟨l', rfl⟩ <;> first | rfl | exact absurd ⟨rfl, rfl⟩ h
    rw [this]
    exact OK.refuse (k := 1) hr (by omega) (by omega)
theorem end_w (hn : 5000 < n) {a x : JT (e + 1)} (ha : At f v 0 (jc (e + 1) a)) (hoa : jok (e + 1) a) (hx : At g u 0 (jc (e + 1) x)) (hox : jok (e + 1) x) (hr : RV r) : OK r ((fH_areStrings n f (i3 v) o g (i3 u) o').bind fun o22 => (if o22 = 0 then some ((1 : Int32), r.1, i3 r.2.1, r.2.2) else (fH_ends n f (i3 v) o g (i3 u) o').bind fun o25 => fH_truth n o25 r.1 (i3 r.2.1) r.2.2)) (oEnds a x) := by
  rw [strs_w ha hoa hx hox, Option.bind_some]
  by_cases h : kd (e + 1) a = 4 ∧ kd (e + 1) x = 4
  · obtain ⟨s, rfl⟩ := kds hoa h.1
    obtain ⟨t, rfl⟩ := kds hox h.2
    rw [if_pos h, if_neg (by decide), ends_w hn ha hoa hx hox, Option.bind_some]
    exact truth_w hr _
  · rw [if_neg h, if_pos (by decide)]
    have : oEnds a x = .inl 1 := by
      unfold oEnds
      rcases jcases a with ⟨k, rfl⟩ | ⟨z, rfl⟩ | ⟨s, rfl⟩ | ⟨l, rfl⟩ | ⟨l, rfl⟩ <;> rcases jcases x with ⟨k', rfl⟩ | ⟨z', rfl⟩ | ⟨s', rfl⟩ | ⟨l', rfl⟩ | ⟨l', rfl⟩ <;> first | rfl | exact absurd ⟨rfl, rfl⟩ h
    rw [this]
    exact OK.refuse (k := 1) hr (by omega) (by omega)
end PB
/-! joined -/
def shown : (e : Nat) → JT e → Sx
  | 0, j => Empty.elim j
  | _ + 1, .inl (.inl k) => if k = 0 then [] else wd k
  | _ + 1, .inl (.inr (.inl z)) => nt z
  | _ + 1, .inl (.inr (.inr s)) => s
  | _ + 1, .inr _ => []
def jn' {e : Nat} (t : Sx) : List (JT e) → Sx
  | [] => []
  | x :: l => shown e x ++ l.flatMap (fun y => t ++ shown e y)
def oJoin {e : Nat} (a x : JT (e + 1)) : Nat ⊕ JT (e + 1) :=
  match a, x with
  | .inr (.inl l), .inl (.inr (.inr t)) => if l.all (fun x => decide (kd e x < 5)) then .inr (js (jn' t l)) else .inl 1
  | _, _ => .inl 1
section PC
variable {f g : Nat → Int64} {v u e : Nat} {o o' : Int32} {n fu : Nat} {r : RS}
theorem as_loop {p : Nat} {s : Sx} (hs : sok s) (ha : At f v p (strc s)) : ∀ (s' : Sx) (n i : Nat) (t : TS), s.drop i = s' → i + s'.length = s.length → s'.length < n → RV t → ∃ t' : TS, fT_addString_b f (i3 v) o n 1 (i3 i) (i3 p) t.1 (i3 t.2.1) t.2.2 = some (t'.1, i3 t'.2.1, t'.2.2) ∧ Wr t (s'.map sb) t' := by
  have hle := ha.le
  intro s'
  induction s' with
  | nil =>
    intro n i t hd hi hn ht
    rw [List.length_nil] at hi
    obtain ⟨n, rfl⟩ : ∃ j, n = j + 1 := ⟨n - 1, by omega⟩
    refine ⟨t, ?_, Wr.nil ht⟩
    rw [fT_addString_b, ha.slen, Option.bind_some, if_pos (by rw [i3_le (by omega) (by omega)]; omega)]
  | cons c s' ih =>
    intro n i t hd hi hn ht
    rw [List.length_cons] at hi hn
    obtain ⟨n, rfl⟩ : ∃ j, n = j + 1 := ⟨n - 1, by omega⟩
    have hc : s[i]'(by omega) = c := by
      have := List.getElem_drop (xs := s) (i := i) (j := 0) (h := by rw [List.length_drop]; omega)
      simp only [hd] at this
      simpa using this.symm
    have hc1 : c < 128 := by rw [← hc]; exact hs _ (List.getElem_mem _)
    obtain ⟨t1, e1, g1⟩ := add_c (n := n) ht hc1
    obtain ⟨t2, e2, g2⟩ := ih n (i + 1) t1 (by rw [← List.drop_drop, hd]; rfl) (by omega) (by omega) g1.v
    refine ⟨t2, ?_, g1.app g2⟩
    rw [fT_addString_b, ha.slen, Option.bind_some, if_neg (by rw [i3_le (by omega) (by omega)]; omega), ha.scode (i := i) (by omega), Option.bind_some, hc, e1, Option.bind_some, i3_one]
    exact e2
theorem addString_w (hn : 5000 < n) {p : Nat} {s : Sx} {t : TS} (hs : sok s) (ha : At f v p (strc s)) (ht : RV t) : ∃ t' : TS, fT_addString n (i3 p) t.1 (i3 t.2.1) t.2.2 f (i3 v) o = some (t'.1, i3 t'.2.1, t'.2.2) ∧ Wr t (s.map sb) t' := by
  have hle := ha.le
  exact as_loop hs ha s n 0 t rfl (by omega) (by omega) ht
theorem addShown_w (hn : 10000 < n) {d p : Nat} {x : JT d} {t : TS} (hfu : d ≤ fu) (ha : At f v p (jc d x)) (hx : jok d x) (hk : kd d x < 5) (ht : RV t) : ∃ t' : TS, fH_addShown fu n (i3 p) f (i3 v) o t.1 (i3 t.2.1) t.2.2 = some (t'.1, i3 t'.2.1, t'.2.2) ∧ Wr t ((shown d x).map sb) t' := by
  have i4 : fR_is n (i3 p) 4 f (i3 v) o = some (if kd d x = 4 then 1 else 0) := ha.is (k := 4) hx (by omega)
  have i0 : fR_is n (i3 p) 0 f (i3 v) o = some (if kd d x = 0 then 1 else 0) := ha.is (k := 0) hx (by omega)
  cases d with
  | zero => exact (j0 x).elim
  | succ d =>
    unfold fH_addShown
    rw [i4, Option.bind_some]
    by_cases h4 : kd (d + 1) x = 4
    · obtain ⟨s, rfl⟩ := kds hx h4
      obtain ⟨t1, e1, w1⟩ := addString_w (n := n) (o := o) (by omega) hx ha ht
      rw [if_pos h4, if_neg (by decide), e1]
      exact ⟨t1, rfl, w1⟩
    · rw [if_neg h4, if_pos (by decide), i0, Option.bind_some]
      by_cases h0 : kd (d + 1) x = 0
      · have hx0 := kdk hx (by omega)
        rw [h0] at hx0
        subst hx0
        rw [if_pos h0, if_neg (by decide)]
        exact ⟨t, rfl, Wr.nil ht⟩
      · obtain ⟨t1, e1, w1⟩ := write_w (n := n) (by omega) (d + 1) fu x f p v 0 o t hx ha hfu (by omega) ht
        have e1' : fP_write fu n (i3 p) 0 f (i3 v) o t.1 (i3 t.2.1) t.2.2 = some (t1.1, i3 t1.2.1, t1.2.2) := e1
        have w2 := w1.2.1 (Or.inl hk)
        have hsh : shown (d + 1) x = jt (d + 1) x := by
          rcases jcases x with ⟨k, rfl⟩ | ⟨z, rfl⟩ | ⟨s, rfl⟩ | ⟨l, rfl⟩ | ⟨l, rfl⟩
          · exact if_neg h0
          · rfl
          · exact absurd rfl h4
          · rw [kd_a] at hk; omega
          · rw [kd_o] at hk; omega
        rw [if_neg h0, if_pos (by decide), e1', hsh]
        exact ⟨t1, rfl, w2⟩
theorem wd_lt : ∀ k, ∀ c ∈ wd k, c < 128 := fun k c hc => by
  unfold wd at hc
  split at hc
  · revert hc; revert c; decide
  · split at hc
    · revert hc; revert c; decide
    · revert hc; revert c; decide
theorem dgs_lt : ∀ (k m : Nat), ∀ c ∈ dgs k m, 48 ≤ c ∧ c < 58 := by
  intro k
  induction k with
  | zero => intro m c hc; exact absurd hc (by simp [dgs])
  | succ k ih =>
    intro m c hc
    rw [dgs] at hc
    rcases List.mem_cons.mp hc with rfl | hc
    · omega
    · exact ih m c hc
theorem nt_lt (z : Int) : ∀ c ∈ nt z, c < 128 := fun c hc => by
  unfold nt at hc
  rcases List.mem_append.mp hc with hc | hc
  · split at hc
    · rw [List.mem_singleton.mp hc]; omega
    · exact absurd hc (by simp)
  · have := dgs_lt _ _ c hc
    omega
theorem shown_lt {d : Nat} {x : JT d} (hx : jok d x) : ∀ c ∈ shown d x, c < 128 := by
  cases d with
  | zero => exact (j0 x).elim
  | succ d =>
    intro c hc
    rcases jcases x with ⟨k, rfl⟩ | ⟨z, rfl⟩ | ⟨s, rfl⟩ | ⟨l, rfl⟩ | ⟨l, rfl⟩
    · have hc' : c ∈ (if k = 0 then [] else wd k) := hc
      split at hc'
      · exact absurd hc' (by simp)
      · exact wd_lt k c hc'
    · exact nt_lt z c hc
    · exact hx c hc
    · exact absurd (show c ∈ ([] : Sx) from hc) (by simp)
    · exact absurd (show c ∈ ([] : Sx) from hc) (by simp)
theorem jn'_lt {l : List (JT e)} {t : Sx} (ht : sok t) (hl : ∀ x ∈ l, jok e x) : ∀ c ∈ jn' t l, c < 128 := by
  intro c hc
  cases l with
  | nil => exact absurd hc (by simp [jn'])
  | cons x l =>
    unfold jn' at hc
    rcases List.mem_append.mp hc with hc | hc
    · exact shown_lt (hl x (List.mem_cons_self ..)) c hc
    · obtain ⟨y, hy, hc⟩ := List.mem_flatMap.mp hc
      rcases List.mem_append.mp hc with hc | hc
      · exact ht c hc
      · exact shown_lt (hl y (List.mem_cons_of_mem _ hy)) c hc
/-- a joined text in a row, whether it fits or not -/
theorem joinEnd {t0 t : TS} {s : Sx} (hn : 5000 < n) (h0 : t0.2.1 = 0 ∧ t0.2.2 = 0) (hs : ∀ c ∈ s, c < 128) (hw : Wr t0 (s.map sb) t) (hr : RV r) : ∃ r' : RS, fR_putText n r.1 (i3 r.2.1) r.2.2 t.1 (i3 t.2.1) t.2.2 = some (r'.1, i3 r'.2.1, r'.2.2) ∧ Wr r (strc s) r' := by
  obtain ⟨hv, hw2⟩ := hw
  rcases hw2 with ⟨a1, a2, a3, a4, a5, a6⟩ | ⟨a1, a2⟩
  · rw [h0.1, List.length_map] at a4
    rw [h0.1] at a6
    exact putText_w hn (fun c hc => by have := hs c hc; omega) a6 (by omega) hv.1 a3 hr
  · rcases a1 with a1 | a1
    · rw [h0.2] at a1
      exact absurd a1 (by decide)
    · obtain ⟨r', e1, g1, g2⟩ := putText_over hn hv.1 a2 hr
      refine ⟨r', e1, g1, Or.inr ⟨Or.inr ?_, g2⟩⟩
      rw [h0.1, List.length_map] at a1
      rw [strc_len]
      omega
theorem join_loop (hfu : e ≤ fu) {l : List (JT e)} {t : Sx} (ha : At f v 0 (jc (e + 1) (ja l))) (hoa : jok (e + 1) (ja l)) (hx : At g u 0 (strc t)) (ht : sok t) {t0 : TS} (h0 : t0.2.1 = 0 ∧ t0.2.2 = 0) (hr : RV r) : ∀ (l' : List (JT e)) (n i q : Nat) (w : Sx) (t1 : TS), (∀ x ∈ l', x ∈ l) → (∀ c ∈ w, c < 128) → i + l'.length = l.length → At f v q (l'.flatMap (jc e)) → Wr t0 (w.map sb) t1 → 20000 + l'.length < n →
    ∃ (c : Nat) (t2 : TS) (r' : RS), fH_joined_b fu f (i3 v) o g (i3 u) o' n 1 (i3 i) (i3 q) t1.1 (i3 t1.2.1) t1.2.2 r.1 (i3 r.2.1) r.2.2 = some (i3 c, t2.1, i3 t2.2.1, t2.2.2, r'.1, i3 r'.2.1, r'.2.2) ∧ RV t2 ∧ OK (d := e + 1) r (some (i3 c, r'.1, i3 r'.2.1, r'.2.2)) (if l'.all (fun x => decide (kd e x < 5)) then .inr (js (w ++ (if i = 0 then jn' t l' else l'.flatMap (fun y => t ++ shown e y)))) else .inl 1) := by
  have hsz := ha.asz
  have hlen : ∀ n, fR_length n 0 f (i3 v) o = some (i3 l.length) := fun n => ha.alen
  intro l'
  induction l' with
  | nil =>
    intro n i q w t1 _ hwl hi _ hw hn
    obtain ⟨n, rfl⟩ : ∃ j, n = j + 1 := ⟨n - 1, by omega⟩
    rw [List.length_nil] at hi
    obtain ⟨r', e1, w1⟩ := joinEnd (n := n) (by omega) h0 hwl hw hr
    refine ⟨0, t1, r', ?_, hw.v, ?_⟩
    · rw [fH_joined_b, hlen, Option.bind_some, if_pos (by rw [i3_le (by omega) (by omega)]; omega), e1]
      rfl
    · have : (if i = 0 then jn' t ([] : List (JT e)) else ([] : List (JT e)).flatMap (fun y => t ++ shown e y)) = [] := by split <;> rfl
      rw [List.all_nil, if_pos rfl, this, List.append_nil]
      exact OK.val (j := js w) rfl w1
  | cons x l' ih =>
    intro n i q w t1 hsub hwl hi hat hw hn
    obtain ⟨n, rfl⟩ : ∃ j, n = j + 1 := ⟨n - 1, by omega⟩
    rw [List.length_cons] at hi hn
    obtain ⟨at1, at2⟩ := hat.acons
    have hxo := hoa x (hsub x (List.mem_cons_self ..))
    have hk8 := kd_lt8 hxo
    have i5 : fR_is n (i3 q) 5 f (i3 v) o = some (if kd e x = 5 then 1 else 0) := at1.is (k := 5) hxo (by omega)
    have i6 : fR_is n (i3 q) 6 f (i3 v) o = some (if kd e x = 6 then 1 else 0) := at1.is (k := 6) hxo (by omega)
    have k7 : kd e x < 7 := by
      cases e with
      | zero => exact (j0 x).elim
      | succ e =>
        rcases jcases x with ⟨k, rfl⟩ | ⟨z, rfl⟩ | ⟨s, rfl⟩ | ⟨l, rfl⟩ | ⟨l, rfl⟩
        · rw [jok_k] at hxo; rw [kd_k]; omega
        · rw [kd_n]; omega
        · rw [kd_s]; omega
        · rw [kd_a]; omega
        · rw [kd_o]; omega
    rw [fH_joined_b, hlen, Option.bind_some, if_neg (by rw [i3_le (by omega) (by omega)]; omega), List.all_cons]
    by_cases hk : kd e x < 5
    · rw [if_neg (show ¬ kd e x = 5 by omega)] at i5
      rw [if_neg (show ¬ kd e x = 6 by omega)] at i6
      rw [i5, Option.bind_some, if_pos (by decide), i6, Option.bind_some, if_pos (by decide), show decide (kd e x < 5) = true by simpa using hk, Bool.true_and]
      by_cases hi0 : i = 0
      · subst hi0
        obtain ⟨t2, e2, w2⟩ := addShown_w (n := n) (o := o) (by omega) hfu at1 hxo hk hw.v
        obtain ⟨c, t3, r', e3, g1, g2⟩ := ih n 1 _ (w ++ shown e x) t2 (fun y hy => hsub y (List.mem_cons_of_mem _ hy)) (fun c hc => by
          rcases List.mem_append.mp hc with hc | hc
          · exact hwl c hc
          · exact shown_lt hxo c hc) (by omega) at2 (by rw [List.map_append]; exact hw.app w2) (by omega)
        refine ⟨c, t3, r', ?_, g1, ?_⟩
        · rw [if_pos (by decide), e2, Option.bind_some, at1.after hxo, Option.bind_some]
          exact e3
        · rw [if_pos (show (0 : Nat) = 0 from rfl)]
          rw [if_neg (show ¬ (1 : Nat) = 0 by omega), List.append_assoc] at g2
          exact g2
      · obtain ⟨t2, e2, w2⟩ := addString_w (n := n) (o := o') (by omega) ht hx hw.v
        have e2' : fT_addString n 0 t1.1 (i3 t1.2.1) t1.2.2 g (i3 u) o' = some (t2.1, i3 t2.2.1, t2.2.2) := e2
        obtain ⟨t3, e3, w3⟩ := addShown_w (n := n) (o := o) (by omega) hfu at1 hxo hk w2.v
        obtain ⟨c, t4, r', e4, g1, g2⟩ := ih n (i + 1) _ (w ++ (t ++ shown e x)) t3 (fun y hy => hsub y (List.mem_cons_of_mem _ hy)) (fun c hc => by
          rcases List.mem_append.mp hc with hc | hc
          · exact hwl c hc
          · rcases List.mem_append.mp hc with hc | hc
            · exact ht c hc
            · exact shown_lt hxo c hc) (by omega) at2 (by rw [List.map_append, List.map_append]; exact hw.app (w2.app w3)) (by omega)
        refine ⟨c, t4, r', ?_, g1, ?_⟩
        · rw [if_neg (by rw [show (0 : Int32) = i3 0 from rfl, i3_le (by omega) (by omega)]; omega), e2', Option.bind_some]
          dsimp only
          rw [e3, Option.bind_some, at1.after hxo, Option.bind_some, i3_one]
          exact e4
        · rw [if_neg hi0]
          rw [if_neg (show ¬ i + 1 = 0 by omega), List.append_assoc] at g2
          rw [List.flatMap_cons]
          exact g2
    · rw [show decide (kd e x < 5) = false by simpa using hk, Bool.false_and, if_neg (by decide : ¬ (false = true))]
      refine ⟨1, t1, r, ?_, hw.v, OK.refuse (k := 1) hr (by omega) (by omega)⟩
      by_cases h5 : kd e x = 5
      · rw [if_pos h5] at i5
        rw [i5, Option.bind_some, if_neg (by decide)]
        rfl
      · rw [if_neg h5] at i5
        rw [if_pos (show kd e x = 6 by omega)] at i6
        rw [i5, Option.bind_some, if_pos (by decide), i6, Option.bind_some, if_neg (by decide)]
        rfl
theorem joined_w (hn : 40000 < n) (hfu : e ≤ fu) {a x : JT (e + 1)} {t : TS} (ha : At f v 0 (jc (e + 1) a)) (hoa : jok (e + 1) a) (hx : At g u 0 (jc (e + 1) x)) (hox : jok (e + 1) x) (ht : RV t) (hr : RV r) : ∃ (c : Nat) (t2 : TS) (r' : RS), fH_joined fu n f (i3 v) o g (i3 u) o' t.1 (i3 t.2.1) t.2.2 r.1 (i3 r.2.1) r.2.2 = some (i3 c, t2.1, i3 t2.2.1, t2.2.2, r'.1, i3 r'.2.1, r'.2.2) ∧ RV t2 ∧ OK r (some (i3 c, r'.1, i3 r'.2.1, r'.2.2)) (oJoin a x) := by
  obtain ⟨_, _, _, a5, _⟩ := isk (o := o) ha hoa n
  obtain ⟨_, _, x4, _, _⟩ := isk (o := o') hx hox n
  unfold fH_joined
  rw [a5, Option.bind_some]
  by_cases h1 : kd (e + 1) a = 5 ∧ kd (e + 1) x = 4
  · obtain ⟨l, rfl⟩ := kda hoa h1.1
    obtain ⟨s, rfl⟩ := kds hox h1.2
    have hsz := ha.asz
    rw [if_pos h1.1, if_neg (by decide), x4, Option.bind_some, if_pos h1.2, if_neg (by decide)]
    unfold fT_clear
    rw [Option.bind_some]
    obtain ⟨c, t2, r', e1, g1, g2⟩ := join_loop (o := o) (o' := o') hfu ha hoa hx hox (t0 := (t.1, 0, 0)) ⟨rfl, rfl⟩ hr l n 0 1 [] (t.1, 0, 0) (fun x hx => hx) (fun c hc => absurd hc (by simp)) (by omega) ha.abody (Wr.nil ⟨by simp, Or.inl rfl⟩) (by omega)
    exact ⟨c, t2, r', e1, g1, g2⟩
  · have : oJoin a x = .inl 1 := by
      unfold oJoin
      rcases jcases a with ⟨k, rfl⟩ | ⟨z, rfl⟩ | ⟨s, rfl⟩ | ⟨l, rfl⟩ | ⟨l, rfl⟩ <;> rcases jcases x with ⟨k', rfl⟩ | ⟨z', rfl⟩ | ⟨s', rfl⟩ | ⟨l', rfl⟩ | ⟨l', rfl⟩ <;> first | rfl | exact absurd ⟨rfl, rfl⟩ h1
    rw [this]
    refine ⟨1, t, r, ?_, ht, OK.refuse (k := 1) hr (by omega) (by omega)⟩
    by_cases h5 : kd (e + 1) a = 5
    · rw [if_pos h5, if_neg (by decide), x4, Option.bind_some, if_neg (fun h => h1 ⟨h5, h⟩), if_pos (by decide)]
      rfl
    · rw [if_neg h5, if_pos (by decide)]
      rfl
end PC
end ZPaib31
section ZPaic32
/-! indices -/
def pfc {e : Nat} : List (JT e) → List (JT e) → Bool
  | [], _ => true
  | _ :: _, [] => false
  | y :: m, x :: l => decide (jcmp e x y = 0) && pfc m l
theorem pfc_len {e : Nat} : ∀ {m l : List (JT e)}, pfc m l = true → m.length ≤ l.length := by
  intro m
  induction m with
  | nil => intro l _; exact Nat.zero_le _
  | cons y m ih =>
    intro l h
    cases l with
    | nil => exact absurd h (by simp [pfc])
    | cons x l =>
      simp only [pfc, Bool.and_eq_true] at h
      exact Nat.succ_le_succ (ih h.2)
def numsOf {e : Nat} (l : List Nat) : JT (e + 2) := ja (l.map (fun k => (jn (k : Nat) : JT (e + 1))))
def ixS (s t : Sx) : List Nat := (List.range s.length).filter (fun k => pf t (s.drop k))
def ixA {e : Nat} (l m : List (JT e)) : List Nat := (List.range l.length).filter (fun k => pfc m (l.drop k))
def ixO {e : Nat} (l : List (JT e)) (x : JT (e + 1)) : List Nat := (List.range l.length).filter (fun k => pfc [x] ((l.drop k).map (lf e)))
def oInd {e : Nat} (a x : JT (e + 2)) : Nat ⊕ JT (e + 2) :=
  match a, x with
  | .inl (.inl 0), _ => .inr (jk 0)
  | .inl (.inr (.inr s)), .inl (.inr (.inr t)) => .inr (if t = [] then jk 0 else numsOf (ixS s t))
  | .inr (.inl l), .inr (.inl m) => .inr (if m = [] then jk 0 else numsOf (ixA l m))
  | .inr (.inl l), x => .inr (numsOf (ixO l x))
  | _, _ => .inl 1
section PI2
variable {f g : Nat → Int64} {v u e : Nat} {o o' : Int32} {n fu : Nat} {r : RS}
theorem si_loop {s t : Sx} (ha : At f v 0 (strc s)) (hs : sok s) (hb : At g u 0 (strc t)) (ht : sok t) {r1 : RS} : ∀ (m n k c : Nat) (w : List Int64) (r2 : RS), k + m = s.length → Wr r1 w r2 → 4097 + m < n →
    ∃ r' : RS, fH_putStringIndices_b f (i3 v) o g (i3 u) o' n 1 (i3 k) (i3 c) r2.1 (i3 r2.2.1) r2.2.2 = some (i3 (c + ((List.range' k m).filter (fun k => pf t (s.drop k))).length), r'.1, i3 r'.2.1, r'.2.2) ∧ Wr r1 (w ++ (((List.range' k m).filter (fun k => pf t (s.drop k))).map (fun k => (jn (k : Nat) : JT (e + 1)))).flatMap (jc (e + 1))) r' := by
  have hl := ha.le
  have hlen : ∀ n, fR_length n 0 f (i3 v) o = some (i3 s.length) := fun n => ha.slen
  intro m
  induction m with
  | zero =>
    intro n k c w r2 hk hw hn
    obtain ⟨n, rfl⟩ : ∃ j, n = j + 1 := ⟨n - 1, by omega⟩
    refine ⟨r2, ?_, by simpa using hw⟩
    rw [fH_putStringIndices_b, hlen, Option.bind_some, if_pos (by rw [i3_le (by omega) (by omega)]; omega)]
    rfl
  | succ m ih =>
    intro n k c w r2 hk hw hn
    obtain ⟨n, rfl⟩ : ∃ j, n = j + 1 := ⟨n - 1, by omega⟩
    have hp : fR_hasParta n 0 (i3 k) 0 f (i3 v) o g (i3 u) o' = some (if pf t (s.drop k) then 1 else 0) := At.hp (p := 0) (q := 0) (k := k) (by omega) ha hb hs ht (by omega)
    rw [fH_putStringIndices_b, hlen, Option.bind_some, if_neg (by rw [i3_le (by omega) (by omega)]; omega), hp, Option.bind_some, List.range'_succ]
    cases h : pf t (s.drop k) with
    | false =>
      rw [if_pos (by decide), List.filter_cons_of_neg (by rw [h]; decide), i3_one]
      exact ih n (k + 1) c w r2 (by omega) hw (by omega)
    | true =>
      obtain ⟨r3, e3, w3⟩ := putNumber_w (n := n) hw.v (k : Nat)
      obtain ⟨r4, e4, w4⟩ := ih n (k + 1) (c + 1) _ r3 (by omega) (hw.app w3) (by omega)
      rw [if_neg (by decide), List.filter_cons_of_pos (by rw [h]), i3_64 (by omega), e3, Option.bind_some, i3_one, i3_one]
      refine ⟨r4, ?_, ?_⟩
      · rw [e4, List.length_cons, Nat.add_assoc, Nat.add_comm 1]
      · rw [List.map_cons, List.flatMap_cons, ← List.append_assoc]
        exact w4
/-- the elements of x one behind the other at this place -/
theorem sm_loop (hfu : e ≤ fu) (he : e ≤ 1000) {tot : Nat} (ht : tot < 65536) {y1 y3 : Int32} : ∀ (m l : List (JT e)) (n i p q : Nat), (∀ x ∈ m, jok e x) → (∀ x ∈ l, jok e x ∧ jd e x ≤ 60) → m.length ≤ l.length → i + m.length = tot → At f v p (l.flatMap (jc e)) → At g u q (m.flatMap (jc e)) → 20001 + m.length < n → fH_areSame_b fu f (i3 v) o g (i3 u) o' n 1 (i3 i) (i3 q) (i3 p) y1 y3 (i3 tot) = some (if pfc m l then 1 else 0) := by
  intro m
  induction m with
  | nil =>
    intro l n i p q _ _ _ hi _ _ hn
    obtain ⟨n, rfl⟩ : ∃ j, n = j + 1 := ⟨n - 1, by omega⟩
    rw [List.length_nil] at hi
    rw [fH_areSame_b, if_pos (by rw [i3_le (by omega) (by omega)]; omega)]
    rfl
  | cons y m ih =>
    intro l n i p q hom hol hml hi hat hbt hn
    obtain ⟨n, rfl⟩ : ∃ j, n = j + 1 := ⟨n - 1, by omega⟩
    rw [List.length_cons] at hi hn hml
    cases l with
    | nil => simp at hml
    | cons x l =>
      rw [List.length_cons] at hml
      obtain ⟨at1, at2⟩ := hat.acons
      obtain ⟨bt1, bt2⟩ := hbt.acons
      obtain ⟨hx, hjx⟩ := hol x (List.mem_cons_self ..)
      have hy := hom y (List.mem_cons_self ..)
      have hs := same_w (n := n) (by omega) (o := o) (o' := o') hx hy at1 bt1 hfu he hjx
      have ih' := ih l n (i + 1) _ _ (fun z hz => hom z (List.mem_cons_of_mem _ hz)) (fun z hz => hol z (List.mem_cons_of_mem _ hz)) (by omega) (by omega) at2 bt2 (by omega)
      obtain ⟨ca, _, eca⟩ := at1.cell0 (n := n) (o := o)
      obtain ⟨cb, _, ecb⟩ := bt1.cell0 (n := n) (o := o')
      have hof := of0_w (n := n) (by omega) (o := o) (o' := o') hx hy at1 bt1 hfu he hjx
      have hle := jcmp_le e x y
      unfold fO_isSame at hs
      rw [eca, Option.bind_some, ecb, Option.bind_some, hof, Option.bind_some] at hs
      rw [fH_areSame_b, if_neg (by rw [i3_le (by omega) (by omega)]; omega), eca, Option.bind_some, ecb, Option.bind_some, hof, Option.bind_some, at1.after hx, Option.bind_some, bt1.after hy, Option.bind_some, i3_one, ih', pfc]
      by_cases hc : lg_cmp ca cb = 0
      · rw [if_pos hc] at hs ⊢
        by_cases hj : jcmp e x y = 0
        · rw [if_pos (by rw [hj]; rfl), show decide (jcmp e x y = 0) = true by simpa using hj, Bool.true_and]
        · rw [if_neg (by rw [show (0 : Int32) = iz 0 from rfl, iz_eq (by omega) (by omega) (by omega) (by omega)]; exact hj), show decide (jcmp e x y = 0) = false by simpa using hj, Bool.false_and]
          rfl
      · rw [if_neg hc] at hs ⊢
        by_cases hj : jcmp e x y = 0
        · rw [if_pos hj] at hs
          exact absurd (Option.some.inj hs) (by decide)
        · rw [show decide (jcmp e x y = 0) = false by simpa using hj, Bool.false_and]
          rfl
theorem drop_flat {l : List (JT e)} : ∀ {k p : Nat}, k < l.length → At f v p ((l.drop k).flatMap (jc e)) → ∃ x, l[k]? = some x ∧ At f v p (jc e x) ∧ At f v (p + (jc e x).length) ((l.drop (k + 1)).flatMap (jc e)) := by
  intro k p hk hat
  rw [List.drop_eq_getElem_cons hk] at hat
  obtain ⟨h1, h2⟩ := hat.acons
  exact ⟨l[k], List.getElem?_eq_getElem hk, h1, h2⟩
/-- over all places; M is what is sought, W the elements in its type -/
theorem ai_loop {E E2 : Nat} (hfu : E ≤ fu) (he : E ≤ 1000) {l : List (JT e)} (ha : At f v 0 (jc (e + 1) (ja l))) (hoa : jok (e + 1) (ja l)) (hja : ∀ x ∈ l, jd e x ≤ 60) {up : JT e → JT E} (hup : ∀ x, jc E (up x) = jc e x) (hupo : ∀ x, jok e x → jok E (up x)) (hupd : ∀ x, jd E (up x) = jd e x) {M : List (JT E)} (hM : M ≠ []) {q : Nat} (hq : At g u q (M.flatMap (jc E))) (hoM : ∀ x ∈ M, jok E x) {r1 : RS} {y2 : Int32} : ∀ (m n k c p : Nat) (w : List Int64) (r2 : RS), k + m = l.length → At f v p ((l.drop k).flatMap (jc e)) → Wr r1 w r2 → 30000 + m < n →
    ∃ r' : RS, fH_putArrayIndices_b fu f (i3 v) o g (i3 u) o' n 1 (i3 k) (i3 p) (i3 c) (i3 M.length) (i3 q) y2 r2.1 (i3 r2.2.1) r2.2.2 = some (i3 (c + ((List.range' k m).filter (fun k => pfc M ((l.drop k).map up))).length), r'.1, i3 r'.2.1, r'.2.2) ∧ Wr r1 (w ++ (((List.range' k m).filter (fun k => pfc M ((l.drop k).map up))).map (fun k => (jn (k : Nat) : JT (E2 + 1)))).flatMap (jc (E2 + 1))) r' := by
  have hl := ha.asz
  have hlen : ∀ n, fR_length n 0 f (i3 v) o = some (i3 l.length) := fun n => ha.alen
  have hMl : 1 ≤ M.length := by
    cases M with
    | nil => exact absurd rfl hM
    | cons y M => simp
  have hMl2 : M.length ≤ 4096 := by
    have h1 := ja_len (l := M)
    have h2 := hq.2
    omega
  have hfl : ∀ k, ((l.drop k).map up).flatMap (jc E) = (l.drop k).flatMap (jc e) := fun k => by
    rw [List.flatMap_map]
    congr 1
    funext x
    exact hup x
  -- too near to the end
  have hnone : ∀ k, l.length < k + M.length → pfc M ((l.drop k).map up) = false := fun k hk => by
    cases h : pfc M ((l.drop k).map up) with
    | false => rfl
    | true =>
      have := pfc_len h
      rw [List.length_map, List.length_drop] at this
      omega
  intro m
  induction m with
  | zero =>
    intro n k c p w r2 hk hat hw hn
    obtain ⟨n, rfl⟩ : ∃ j, n = j + 1 := ⟨n - 1, by omega⟩
    refine ⟨r2, ?_, by simpa using hw⟩
    rw [fH_putArrayIndices_b, hlen, Option.bind_some, i3_add, if_pos (by rw [i3_lt (by omega) (by omega)]; omega)]
    rfl
  | succ m ih =>
    intro n k c p w r2 hk hat hw hn
    obtain ⟨n, rfl⟩ : ∃ j, n = j + 1 := ⟨n - 1, by omega⟩
    rw [fH_putArrayIndices_b, hlen, Option.bind_some, i3_add]
    by_cases hb : l.length < k + M.length
    · have hz : (List.range' k (m + 1)).filter (fun k => pfc M ((l.drop k).map up)) = [] := by
        rw [List.filter_eq_nil_iff]
        intro j hj
        rw [List.mem_range'_1] at hj
        rw [hnone j (by omega)]
        decide
      refine ⟨r2, ?_, by rw [hz]; simpa using hw⟩
      rw [if_pos (by rw [i3_lt (by omega) (by omega)]; omega), hz]
      rfl
    · obtain ⟨x, hx, at1, at2⟩ := drop_flat (l := l) (k := k) (by omega) hat
      have hxo := hoa x (List.mem_of_getElem? hx)
      have hsame : fH_areSame fu n (i3 p) (i3 q) (i3 M.length) f (i3 v) o g (i3 u) o' = some (if pfc M ((l.drop k).map up) then 1 else 0) := sm_loop (o := o) (o' := o') hfu he (tot := M.length) (by omega) M ((l.drop k).map up) n 0 p q hoM (fun z hz => by
        obtain ⟨z', hz', rfl⟩ := List.mem_map.mp hz
        have := List.mem_of_mem_drop hz'
        exact ⟨hupo z' (hoa z' this), by rw [hupd]; exact hja z' this⟩) (by rw [List.length_map, List.length_drop]; omega) (by omega) (by rw [hfl]; exact hat) hq (by omega)
      rw [if_neg (by rw [i3_lt (by omega) (by omega)]; omega), hsame, Option.bind_some, List.range'_succ]
      cases h : pfc M ((l.drop k).map up) with
      | false =>
        rw [if_pos (by decide), List.filter_cons_of_neg (by rw [h]; decide), at1.after hxo, Option.bind_some, i3_one]
        exact ih n (k + 1) c _ w r2 (by omega) at2 hw (by omega)
      | true =>
        obtain ⟨r3, e3, w3⟩ := putNumber_w (n := n) hw.v (k : Nat)
        obtain ⟨r4, e4, w4⟩ := ih n (k + 1) (c + 1) _ _ r3 (by omega) at2 (hw.app w3) (by omega)
        rw [if_neg (by decide), List.filter_cons_of_pos (by rw [h]), i3_64 (by omega), e3, Option.bind_some, at1.after hxo, Option.bind_some, i3_one, i3_one]
        refine ⟨r4, ?_, ?_⟩
        · rw [e4, List.length_cons, Nat.add_assoc, Nat.add_comm 1]
        · rw [List.map_cons, List.flatMap_cons, ← List.append_assoc]
          exact w4
theorem numsOf_fin {r0 r1 r2 : RS} {x0 : Int64} (h01 : Wr r0 [x0] r1) {L : List Nat} (hw : Wr r1 ((L.map (fun k => (jn (k : Nat) : JT (e + 1)))).flatMap (jc (e + 1))) r2) (hl : L.length < 65536) : OK (d := e + 2) r0 ((fR_close n (i3 r1.2.1 - 1) 5 (i3 L.length) r2.1 (i3 r2.2.1) r2.2.2).bind fun o25 => some ((0 : Int32), o25, i3 r2.2.1, r2.2.2)) (.inr (numsOf L)) := by
  obtain ⟨r3, e3, e4, w3⟩ := fin_a (n := n) h01 hw rfl (by rw [List.length_map]; exact hl)
  rw [List.length_map] at e3
  rw [e3, Option.bind_some]
  exact OK.val (r' := r3) (by rw [e4]) w3
theorem indices_w (hn : 60000 < n) (hfu : e + 2 ≤ fu) (he : e + 2 ≤ 1000) {a x : JT (e + 2)} (ha : At f v 0 (jc (e + 2) a)) (hoa : jok (e + 2) a) (hx : At g u 0 (jc (e + 2) x)) (hox : jok (e + 2) x) (hja : jd (e + 2) a ≤ 60) (hr : RV r) : OK r (fH_indices fu n f (i3 v) o g (i3 u) o' r.1 (i3 r.2.1) r.2.2) (oInd a x) := by
  obtain ⟨a0, _, a4, a5, _⟩ := isk (o := o) ha hoa n
  obtain ⟨_, _, x4, x5, _⟩ := isk (o := o') hx hox n
  have hst := strs_w (n := n) (o := o) (o' := o') ha hoa hx hox
  unfold fH_indices
  simp only [b4, a0, a4, a5, x4, x5, hst, Option.bind_some, c1]
  by_cases h0 : kd (e + 2) a = 0
  · have ha0 : a = jk (kd (e + 2) a) := kdk hoa (by show kd (e + 2) a < 3; omega)
    rw [h0] at ha0
    subst ha0
    rw [if_neg (Decidable.not_not.mpr h0)]
    exact nothing_w hr
  · rw [if_pos h0]
    by_cases h5 : kd (e + 2) a = 5
    · obtain ⟨l, rfl⟩ := kda hoa h5
      have hsz := ha.asz
      have hjl : ∀ x ∈ l, jd (e + 1) x ≤ 60 := fun x hx => Nat.le_succ_of_le (jd_a_le.mp hja x hx)
      rw [if_neg (Decidable.not_not.mpr h5), if_neg (Decidable.not_not.mpr h5)]
      obtain ⟨r1, e1, w1⟩ := open_w (n := n) hr
      by_cases hx5 : kd (e + 2) x = 5
      · obtain ⟨m, rfl⟩ := kda hox hx5
        have hsm := hx.asz
        have elm : fR_length n 0 g (i3 u) o' = some (i3 m.length) := hx.alen
        have hres : oInd (ja l : JT (e + 2)) (ja m) = .inr (if m = [] then jk 0 else numsOf (ixA l m)) := rfl
        rw [if_neg (Decidable.not_not.mpr hx5), elm, Option.bind_some, hres]
        by_cases hm : m = []
        · subst hm
          rw [if_pos (by rfl), if_pos rfl]
          exact nothing_w hr
        · have hml : m.length ≠ 0 := fun h => hm (List.length_eq_zero_iff.mp h)
          rw [if_neg (by rw [show (0 : Int32) = i3 0 from rfl, i3_eq (by omega) (by omega)]; exact hml), if_neg hm, e1, Option.bind_some, if_pos (by rw [kd_a]; omega)]
          obtain ⟨r2, e2, w2⟩ := ai_loop (fu := fu) (e := e + 1) (E2 := e) (o := o) (o' := o') (E := e + 1) (up := id) (y2 := 0) (by omega) (by omega) ha hoa hjl (fun _ => rfl) (fun _ h => h) (fun _ => rfl) hm hx.abody hox l.length n 0 0 1 [] r1 (by omega) ha.abody (Wr.nil w1.v) (by omega)
          have e2' : fH_putArrayIndices fu n 0 f (i3 v) o g (i3 u) o' r1.1 (i3 r1.2.1) r1.2.2 = some (i3 (0 + ((List.range' 0 l.length).filter (fun k => pfc m ((l.drop k).map id))).length), r2.1, i3 r2.2.1, r2.2.2) := by
            unfold fH_putArrayIndices
            rw [if_pos rfl, if_pos rfl, elm, Option.bind_some]
            exact e2
          dsimp only
          rw [e2', Option.bind_some, Nat.zero_add]
          dsimp only
          have hix : (List.range' 0 l.length).filter (fun k => pfc m ((l.drop k).map id)) = ixA l m := by
            unfold ixA
            rw [List.range_eq_range']
            simp only [List.map_id]
          rw [hix] at w2 ⊢
          have hle := filter_le (List.range l.length) (fun k => pfc m (l.drop k))
          rw [List.length_range] at hle
          exact numsOf_fin w1 w2 (by unfold ixA; omega)
      · have hres : oInd (ja l : JT (e + 2)) x = .inr (numsOf (ixO l x)) := by
          rcases jcases x with ⟨k', rfl⟩ | ⟨z', rfl⟩ | ⟨s', rfl⟩ | ⟨l', rfl⟩ | ⟨l', rfl⟩ <;> first | rfl | exact absurd rfl hx5
        rw [if_pos hx5, hres, e1, Option.bind_some, if_pos (by rw [kd_a]; omega)]
        obtain ⟨r2, e2, w2⟩ := ai_loop (fu := fu) (e := e + 1) (E2 := e) (o := o) (o' := o') (E := e + 2) (up := lf (e + 1)) (M := [x]) (q := 0) (y2 := 1) hfu he ha hoa hjl (fun y => jc_lf _ y) (fun y h => (jok_lf _ y).mpr h) (fun y => jd_lf _ y) (by simp) (by simpa using hx) (fun y hy => by rw [List.mem_singleton.mp hy]; exact hox) l.length n 0 0 1 [] r1 (by omega) ha.abody (Wr.nil w1.v) (by omega)
        have e2' : fH_putArrayIndices fu n 1 f (i3 v) o g (i3 u) o' r1.1 (i3 r1.2.1) r1.2.2 = some (i3 (0 + ((List.range' 0 l.length).filter (fun k => pfc [x] ((l.drop k).map (lf (e + 1))))).length), r2.1, i3 r2.2.1, r2.2.2) := by
          unfold fH_putArrayIndices
          rw [if_neg (by decide), if_neg (by decide)]
          exact e2
        dsimp only
        rw [e2', Option.bind_some, Nat.zero_add]
        dsimp only
        have hix : (List.range' 0 l.length).filter (fun k => pfc [x] ((l.drop k).map (lf (e + 1)))) = ixO l x := by
          unfold ixO
          rw [List.range_eq_range']
        rw [hix] at w2 ⊢
        have hle := filter_le (List.range l.length) (fun k => pfc [x] ((l.drop k).map (lf (e + 1))))
        rw [List.length_range] at hle
        exact numsOf_fin w1 w2 (by unfold ixO; omega)
    · rw [if_pos h5]
      by_cases hs : kd (e + 2) a = 4 ∧ kd (e + 2) x = 4
      · obtain ⟨s, rfl⟩ := kds hoa hs.1
        obtain ⟨t, rfl⟩ := kds hox hs.2
        have ha' : At f v 0 (strc s) := ha
        have hx' : At g u 0 (strc t) := hx
        have l1 := ha'.le
        have l2 := hx'.le
        have elm : fR_length n 0 g (i3 u) o' = some (i3 t.length) := hx'.slen
        have hres : oInd (js s : JT (e + 2)) (js t) = .inr (if t = [] then jk 0 else numsOf (ixS s t)) := rfl
        rw [if_neg (Decidable.not_not.mpr hs), if_pos h5, elm, Option.bind_some, hres]
        by_cases hm : t = []
        · subst hm
          rw [if_pos (by rfl), if_pos rfl]
          exact nothing_w hr
        · have hml : t.length ≠ 0 := fun h => hm (List.length_eq_zero_iff.mp h)
          obtain ⟨r1, e1, w1⟩ := open_w (n := n) hr
          rw [if_neg (by rw [show (0 : Int32) = i3 0 from rfl, i3_eq (by omega) (by omega)]; exact hml), if_neg hm, e1, Option.bind_some, if_neg (Decidable.not_not.mpr hs.1)]
          obtain ⟨r2, e2, w2⟩ := si_loop (e := e) (o := o) (o' := o') (r1 := r1) ha' hoa hx' hox s.length n 0 0 [] r1 (by omega) (Wr.nil w1.v) (by omega)
          have e2' : fH_putStringIndices n f (i3 v) o g (i3 u) o' r1.1 (i3 r1.2.1) r1.2.2 = some (i3 (0 + ((List.range' 0 s.length).filter (fun k => pf t (s.drop k))).length), r2.1, i3 r2.2.1, r2.2.2) := e2
          dsimp only
          rw [e2', Option.bind_some, Nat.zero_add]
          dsimp only
          have hix : (List.range' 0 s.length).filter (fun k => pf t (s.drop k)) = ixS s t := by
            unfold ixS
            rw [List.range_eq_range']
          rw [hix] at w2 ⊢
          have hle := filter_le (List.range s.length) (fun k => pf t (s.drop k))
          rw [List.length_range] at hle
          exact numsOf_fin w1 w2 (by unfold ixS; omega)
      · rw [if_pos hs]
        have : oInd a x = .inl 1 := by
          rcases jcases a with ⟨k, rfl⟩ | ⟨z, rfl⟩ | ⟨s, rfl⟩ | ⟨l, rfl⟩ | ⟨l, rfl⟩
          · have hk0 : k ≠ 0 := h0
            obtain ⟨k, rfl⟩ : ∃ j, k = j + 1 := ⟨k - 1, by omega⟩
            rcases jcases x with ⟨k', rfl⟩ | ⟨z', rfl⟩ | ⟨s', rfl⟩ | ⟨l', rfl⟩ | ⟨l', rfl⟩ <;> rfl
          · rcases jcases x with ⟨k', rfl⟩ | ⟨z', rfl⟩ | ⟨s', rfl⟩ | ⟨l', rfl⟩ | ⟨l', rfl⟩ <;> rfl
          · rcases jcases x with ⟨k', rfl⟩ | ⟨z', rfl⟩ | ⟨s', rfl⟩ | ⟨l', rfl⟩ | ⟨l', rfl⟩ <;> first | rfl | exact absurd ⟨rfl, rfl⟩ hs
          · exact absurd rfl h5
          · rcases jcases x with ⟨k', rfl⟩ | ⟨z', rfl⟩ | ⟨s', rfl⟩ | ⟨l', rfl⟩ | ⟨l', rfl⟩ <;> rfl
        rw [this]
        exact OK.refuse (k := 1) hr (by omega) (by omega)
end PI2
end ZPaic32
section ZPaid33
/-! flat, at -/
def flt : (e : Nat) → Nat → List (JT e) → List (JT e)
  | 0, _, l => l
  | e + 1, z, l => l.flatMap (fun x => match x with
    | .inr (.inl l') => if 0 < z then (flt e (z - 1) l').map (lf e) else [.inr (.inl l')]
    | x => [x])
def oFlat {e : Nat} (a x : JT (e + 1)) : Nat ⊕ JT (e + 1) :=
  match a, x with
  | .inr (.inl l), .inl (.inr (.inl z)) => if z < 0 then .inl 2 else .inr (ja (flt e z.toNat l))
  | _, _ => .inl 1
def atI (n : Nat) (z : Int) : Option Nat := let k := if z < 0 then z + n else z; if 0 ≤ k ∧ k < n then some k.toNat else none
def oAt1 {e : Nat} (a x : JT (e + 1)) : Nat ⊕ JT (e + 1) :=
  match a, x with
  | .inr (.inr l), .inl (.inr (.inr s)) => .inr (match lu s l with | none => jk 0 | some y => lf e y)
  | .inr (.inl l), .inl (.inr (.inl z)) => .inr (match (atI l.length z).bind (fun k => l[k]?) with | none => jk 0 | some y => lf e y)
  | .inl (.inl 0), .inl (.inl 0) => .inr (jk 0)
  | .inl (.inl 0), .inl (.inr (.inl _)) => .inr (jk 0)
  | .inl (.inl 0), .inl (.inr (.inr _)) => .inr (jk 0)
  | _, _ => .inl 1
def oAt {e : Nat} (a x : JT (e + 2)) : Nat ⊕ JT (e + 2) := if kd (e + 2) a = 5 ∧ kd (e + 2) x = 5 then oInd a x else oAt1 a x
section PD
variable {f g : Nat → Int64} {v u e : Nat} {o o' : Int32} {n fu : Nat} {r : RS}
abbrev RecF : Type := Int32 → Int64 → Int32 → (Nat → Int64) → Int32 → Int32 → (Nat → Int64) → Int32 → Int32 → Option (Int32 × (Nat → Int64) × Int32 × Int32)
theorem flt_cons {z : Nat} {x : JT (e + 1)} {l : List (JT (e + 1))} : flt (e + 1) z (x :: l) = flt (e + 1) z [x] ++ flt (e + 1) z l := by
  rw [flt, flt, flt, List.flatMap_cons, List.flatMap_cons, List.flatMap_nil, List.append_nil]
theorem flt_a {z : Nat} {l' : List (JT e)} (h : 0 < z) : flt (e + 1) z [ja l'] = (flt e (z - 1) l').map (lf e) := by
  rw [flt, List.flatMap_cons, List.flatMap_nil, List.append_nil]
  exact if_pos h
theorem flt_o {z : Nat} {x : JT (e + 1)} (h : z = 0 ∨ kd (e + 1) x ≠ 5) : flt (e + 1) z [x] = [x] := by
  rw [flt, List.flatMap_cons, List.flatMap_nil, List.append_nil]
  rcases jcases x with ⟨k, rfl⟩ | ⟨c, rfl⟩ | ⟨s, rfl⟩ | ⟨l, rfl⟩ | ⟨l, rfl⟩
  · rfl
  · rfl
  · rfl
  · rcases h with h | h
    · exact if_neg (by omega)
    · exact absurd rfl h
  · rfl
theorem flat_lf {l : List (JT e)} : (l.map (lf e)).flatMap (jc (e + 1)) = l.flatMap (jc e) := by
  rw [List.flatMap_map]
  congr 1
  funext x
  exact jc_lf e x
theorem fl_loop {rec : RecF} {p k z : Nat} (hz : z ≤ 9007199254740991) (hk : k ≤ 60) {l : List (JT (e + 1))} (hlen : ∀ n, fR_length n (i3 p) f (i3 v) o = some (i3 l.length)) (hll : l.length < 65536)
    (hrec : ∀ x ∈ l, kd (e + 1) x = 5 → 0 < z → k < 60 ∧ ∀ (L : List (JT e)) q (r2 : RS), x = ja L → At f v q (jc (e + 1) x) → RV r2 → ∃ r3 : RS, rec (i3 q) (cW ((z - 1 : Nat) : Int)) (i3 (k + 1)) f (i3 v) o r2.1 (i3 r2.2.1) r2.2.2 = some (i3 (flt e (z - 1) L).length, r3.1, i3 r3.2.1, r3.2.2) ∧ Wr r2 ((flt e (z - 1) L).flatMap (jc e)) r3) :
    ∀ (l' : List (JT (e + 1))) (n i q c : Nat) (r2 : RS), (∀ x ∈ l', x ∈ l ∧ jok (e + 1) x) → i + l'.length = l.length → At f v q (l'.flatMap (jc (e + 1))) → RV r2 → l'.length < n →
    ∃ r' : RS, fH_putFlat_b rec f (i3 v) o n 1 (i3 i) (i3 q) (i3 c) (i3 p) (cW (z : Int)) (i3 k) r2.1 (i3 r2.2.1) r2.2.2 = some (i3 (c + (flt (e + 1) z l').length), r'.1, i3 r'.2.1, r'.2.2) ∧ Wr r2 ((flt (e + 1) z l').flatMap (jc (e + 1))) r' := by
  intro l'
  induction l' with
  | nil =>
    intro n i q c r2 _ hi _ hr hn
    obtain ⟨n, rfl⟩ : ∃ j, n = j + 1 := ⟨n - 1, by omega⟩
    rw [List.length_nil] at hi
    refine ⟨r2, ?_, Wr.nil hr⟩
    rw [fH_putFlat_b, hlen, Option.bind_some, if_pos (by rw [i3_le (by omega) (by omega)]; omega)]
    rfl
  | cons x l' ih =>
    intro n i q c r2 hok hi hat hr hn
    obtain ⟨n, rfl⟩ : ∃ j, n = j + 1 := ⟨n - 1, by omega⟩
    rw [List.length_cons] at hi hn
    obtain ⟨at1, at2⟩ := hat.acons
    obtain ⟨hxl, hx⟩ := hok x (List.mem_cons_self ..)
    have i5 : fR_is n (i3 q) 5 f (i3 v) o = some (if kd (e + 1) x = 5 then 1 else 0) := at1.is (k := 5) hx (by omega)
    have ih' := fun c r2 hr => ih n (i + 1) _ c r2 (fun y hy => hok y (List.mem_cons_of_mem _ hy)) (by omega) at2 hr (by omega)
    have one : flt (e + 1) z [x] = [x] → ∃ r' : RS, ((fR_putCopy n (i3 q) r2.1 (i3 r2.2.1) r2.2.2 f (i3 v) o).bind fun o4 => (fR_after n (i3 q) f (i3 v) o).bind fun o6 => fH_putFlat_b rec f (i3 v) o n 1 (i3 i + 1) o6 (i3 c + 1) (i3 p) (cW (z : Int)) (i3 k) o4.1 o4.2.1 o4.2.2) = some (i3 (c + (flt (e + 1) z (x :: l')).length), r'.1, i3 r'.2.1, r'.2.2) ∧ Wr r2 ((flt (e + 1) z (x :: l')).flatMap (jc (e + 1))) r' := fun h1 => by
      obtain ⟨r3, e3, w3⟩ := putCopy_w (n := n) (o' := o) hr at1 hx
      obtain ⟨r4, e4, w4⟩ := ih' (c + 1) r3 w3.v
      refine ⟨r4, ?_, ?_⟩
      · rw [e3, Option.bind_some, at1.after hx, Option.bind_some, i3_one, i3_one, flt_cons, h1]
        dsimp only
        rw [e4, List.length_append, List.length_singleton, Nat.add_assoc]
      · rw [flt_cons, h1, List.flatMap_append]
        have := w3.app w4
        simpa using this
    rw [fH_putFlat_b, hlen, Option.bind_some, if_neg (by rw [i3_le (by omega) (by omega)]; omega), show (0 : Int64) = cW 0 from rfl, lg_cW (by omega) (by omega) (by omega) (by omega)]
    by_cases hz0 : z = 0
    · rw [if_pos (by rw [izs_le0]; omega)]
      exact one (flt_o (Or.inl hz0))
    · rw [if_neg (by rw [izs_le0]; omega)]
      by_cases h5 : kd (e + 1) x = 5
      · obtain ⟨hk60, hrc⟩ := hrec x hxl h5 (by omega)
        obtain ⟨L, rfl⟩ := kda hx h5
        obtain ⟨r3, e3, w3⟩ := hrc L q r2 rfl at1 hr
        obtain ⟨r4, e4, w4⟩ := ih' (c + (flt e (z - 1) L).length) r3 w3.v
        refine ⟨r4, ?_, ?_⟩
        · rw [if_neg (by rw [show (60 : Int32) = i3 60 from rfl, i3_le (by omega) (by omega)]; omega), i5, if_pos h5, Option.bind_some, if_neg (by decide), show (1 : Int64) = cW 1 from rfl, cW_sub, show ((z : Int) - 1) = ((z - 1 : Nat) : Int) by omega, i3_one, e3, Option.bind_some, at1.after hx, Option.bind_some, i3_one]
          dsimp only
          rw [i3_add, e4, flt_cons, flt_a (by omega), List.length_append, List.length_map, Nat.add_assoc]
        · rw [flt_cons, flt_a (by omega), List.flatMap_append, flat_lf]
          exact w3.app w4
      · have h1 := one (flt_o (Or.inr h5))
        split
        · exact h1
        · rw [i5, if_neg h5, Option.bind_some, if_pos (by decide)]
          exact h1
theorem flat_rec (hn : 10000 < n) : ∀ (e fu : Nat) (l : List (JT e)) (p z k : Nat) (r : RS), At f v p (jc (e + 1) (ja l)) → jok (e + 1) (ja l) → e + 1 ≤ fu → z ≤ 9007199254740991 → k + jd (e + 1) (ja l) ≤ 60 → RV r → ∃ r' : RS, fH_putFlat fu n (i3 p) (cW (z : Int)) (i3 k) f (i3 v) o r.1 (i3 r.2.1) r.2.2 = some (i3 (flt e z l).length, r'.1, i3 r'.2.1, r'.2.2) ∧ Wr r ((flt e z l).flatMap (jc e)) r' := by
  intro e
  induction e with
  | zero =>
    intro fu l p z k r ha hoa hfu hz hk hr
    obtain ⟨fu, rfl⟩ : ∃ j, fu = j + 1 := ⟨fu - 1, by omega⟩
    cases l with
    | cons x l => exact (j0 x).elim
    | nil =>
      refine ⟨r, ?_, Wr.nil hr⟩
      obtain ⟨n, rfl⟩ : ∃ j, n = j + 1 := ⟨n - 1, by omega⟩
      rw [fH_putFlat, fH_putFlat_b, ha.alen, Option.bind_some, if_pos (by decide)]
      rfl
  | succ e ih =>
    intro fu l p z k r ha hoa hfu hz hk hr
    obtain ⟨fu, rfl⟩ : ∃ j, fu = j + 1 := ⟨fu - 1, by omega⟩
    have hsz := ha.asz
    have hp := jd_a_pos (l := l)
    have hjd : ∀ x ∈ l, jd (e + 1) x ≤ 59 - k := jd_a_le.mp (by omega)
    obtain ⟨r', e1, w1⟩ := fl_loop (rec := fH_putFlat fu n) (o := o) (p := p) (k := k) hz (by omega) (l := l) (fun n => ha.alen) (by omega) (fun x hx h5 hz0 => by
      have hxo := hoa x hx
      have hj := hjd x hx
      refine ⟨?_, fun L q r2 hxl hq hr2 => ?_⟩
      · obtain ⟨L, rfl⟩ := kda hxo h5
        have := jd_a_pos (l := L)
        omega
      · subst hxl
        exact ih fu L q (z - 1) (k + 1) r2 hq hxo (by omega) (by omega) (by have := jd_a_pos (l := L); omega) hr2) l n 0 (p + 1) 0 r (fun x hx => ⟨hx, hoa x hx⟩) (by omega) ha.abody hr (by omega)
    refine ⟨r', ?_, w1⟩
    rw [fH_putFlat, i3_one]
    rw [Nat.zero_add] at e1
    exact e1
theorem flt_len : ∀ (e z : Nat) (l : List (JT e)), (flt e z l).length ≤ (l.flatMap (jc e)).length := by
  intro e
  induction e with
  | zero => intro z l; exact ja_len
  | succ e ih =>
    intro z l
    induction l with
    | nil => exact Nat.le_refl _
    | cons x l ihl =>
      rw [flt_cons, List.length_append, List.flatMap_cons, List.length_append]
      have h1 : (flt (e + 1) z [x]).length ≤ (jc (e + 1) x).length := by
        by_cases h : z = 0 ∨ kd (e + 1) x ≠ 5
        · rw [flt_o h]
          exact jc_pos _ _
        · rcases jcases x with ⟨k, rfl⟩ | ⟨c, rfl⟩ | ⟨s, rfl⟩ | ⟨L, rfl⟩ | ⟨L, rfl⟩
          · have : kd (e + 1) (jk k : JT (e + 1)) ≠ 5 ∨ (flt (e + 1) z [(jk k : JT (e + 1))]).length ≤ 1 := Or.inr (Nat.le_refl 1)
            exact Nat.le_trans (this.resolve_left (fun h' => h (Or.inr h'))) (jc_pos _ _)
          · exact absurd (Or.inr (by rw [kd_n]; omega)) h
          · exact absurd (Or.inr (by rw [kd_s]; omega)) h
          · rw [flt_a (by omega), List.length_map, jc_a, lst_len]
            have := ih (z - 1) L
            omega
          · exact absurd (Or.inr (by rw [kd_o]; omega)) h
      omega
theorem flat_w (hn : 10000 < n) (hfu : e + 1 ≤ fu) {a x : JT (e + 1)} (ha : At f v 0 (jc (e + 1) a)) (hoa : jok (e + 1) a) (hx : At g u 0 (jc (e + 1) x)) (hox : jok (e + 1) x) (hja : jd (e + 1) a ≤ 60) (hr : RV r) : OK r (fH_flat fu n f (i3 v) o g (i3 u) o' r.1 (i3 r.2.1) r.2.2) (oFlat a x) := by
  obtain ⟨_, _, _, a5, _⟩ := isk (o := o) ha hoa n
  obtain ⟨_, x3, _, _, _⟩ := isk (o := o') hx hox n
  unfold fH_flat
  simp only [a5, x3, Option.bind_some, c1]
  by_cases h1 : kd (e + 1) a = 5 ∧ kd (e + 1) x = 3
  · obtain ⟨l, rfl⟩ := kda hoa h1.1
    obtain ⟨z, rfl⟩ := kdn hox h1.2
    rw [jok_n] at hox
    have en : fR_number n 0 g (i3 u) o' = some (cW z) := At.num (p := 0) hx hox.1 hox.2
    have hres : oFlat (ja l : JT (e + 1)) (jn z) = if z < 0 then .inl 2 else .inr (ja (flt e z.toNat l)) := rfl
    rw [if_neg (Decidable.not_not.mpr h1.1), if_neg (Decidable.not_not.mpr h1.2), en, Option.bind_some, hres, show (0 : Int64) = cW 0 from rfl, lg_cW (by omega) (by omega) (by omega) (by omega)]
    by_cases hz : z < 0
    · rw [if_neg (by rw [izs_ge0]; omega), if_pos hz]
      exact OK.refuse (k := 2) hr (by omega) (by omega)
    · obtain ⟨y, rfl⟩ : ∃ y : Nat, z = y := ⟨z.toNat, by omega⟩
      obtain ⟨r1, e1, w1⟩ := open_w (n := n) hr
      obtain ⟨r2, e2, w2⟩ := flat_rec (o := o) hn e fu l 0 y 0 r1 ha hoa hfu (by omega) (by omega) w1.v
      have e2' : fH_putFlat fu n 0 (cW (y : Int)) 0 f (i3 v) o r1.1 (i3 r1.2.1) r1.2.2 = some (i3 (flt e y l).length, r2.1, i3 r2.2.1, r2.2.2) := e2
      have hll := flt_len e y l
      have hsz := ha.abody.2
      obtain ⟨r3, e3, e4, w3⟩ := fin_a (n := n) w1 w2 rfl (by omega)
      rw [if_pos (by rw [izs_ge0]; omega), if_neg hz, e1, Option.bind_some, Option.bind_some, e2', Option.bind_some]
      dsimp only
      rw [e3, Option.bind_some]
      exact OK.val (r' := r3) (by rw [e4]) w3
  · have : oFlat a x = .inl 1 := by
      unfold oFlat
      rcases jcases a with ⟨k, rfl⟩ | ⟨z, rfl⟩ | ⟨s, rfl⟩ | ⟨l, rfl⟩ | ⟨l, rfl⟩ <;> rcases jcases x with ⟨k', rfl⟩ | ⟨z', rfl⟩ | ⟨s', rfl⟩ | ⟨l', rfl⟩ | ⟨l', rfl⟩ <;> first | rfl | exact absurd ⟨rfl, rfl⟩ h1
    rw [this]
    split
    · exact OK.refuse (k := 1) hr (by omega) (by omega)
    · split
      · exact OK.refuse (k := 1) hr (by omega) (by omega)
      · rename_i p1 p2
        exact absurd ⟨Decidable.not_not.mp p1, Decidable.not_not.mp p2⟩ h1
/-! at -/
theorem el_loop {l : List (JT e)} (ha : At f v 0 (jc (e + 1) (ja l))) (hoa : jok (e + 1) (ja l)) {z : Nat} (hz : z < l.length) : ∀ (m n i p : Nat), i + m = z → At f v p ((l.drop i).flatMap (jc e)) → m < n → ∃ q x, l[z]? = some x ∧ At f v q (jc e x) ∧ fR_element_b f (i3 v) o n 1 (i3 i) (i3 p) 0 (cW (z : Int)) = some (i3 q) := by
  have hsz := ha.asz
  have hlen : ∀ n, fR_length n 0 f (i3 v) o = some (i3 l.length) := fun n => ha.alen
  intro m
  induction m with
  | zero =>
    intro n i p hi hat hn
    obtain ⟨n, rfl⟩ : ∃ j, n = j + 1 := ⟨n - 1, by omega⟩
    obtain rfl : i = z := by omega
    obtain ⟨x, hx, at1, _⟩ := drop_flat hz hat
    refine ⟨p, x, hx, at1, ?_⟩
    rw [fR_element_b, hlen, Option.bind_some, if_neg (by rw [i3_le (by omega) (by omega)]; omega), i3_64 (by omega), lg_cW (by omega) (by omega) (by omega) (by omega), if_pos (by rw [izs_ge0]; omega)]
  | succ m ih =>
    intro n i p hi hat hn
    obtain ⟨n, rfl⟩ : ∃ j, n = j + 1 := ⟨n - 1, by omega⟩
    obtain ⟨y, hy, at1, at2⟩ := drop_flat (k := i) (by omega) hat
    rw [fR_element_b, hlen, Option.bind_some, if_neg (by rw [i3_le (by omega) (by omega)]; omega), i3_64 (by omega), lg_cW (by omega) (by omega) (by omega) (by omega), if_neg (by rw [izs_ge0]; omega), at1.after (hoa y (List.mem_of_getElem? hy)), Option.bind_some, i3_one]
    exact ih n (i + 1) _ (by omega) at2 (by omega)
theorem element_w (hn : 10000 < n) {l : List (JT e)} (ha : At f v 0 (jc (e + 1) (ja l))) (hoa : jok (e + 1) (ja l)) {z : Nat} (hz : z < l.length) : ∃ q x, l[z]? = some x ∧ At f v q (jc e x) ∧ fR_element n 0 (cW (z : Int)) f (i3 v) o = some (i3 q) := by
  have hsz := ha.asz
  exact el_loop (o := o) ha hoa hz z n 0 1 (by omega) ha.abody (by omega)
theorem elementAt_w (hn : 10000 < n) {l : List (JT e)} {z : Int} (h1 : -9007199254740991 ≤ z) (h2 : z ≤ 9007199254740991) (ha : At f v 0 (jc (e + 1) (ja l))) (hoa : jok (e + 1) (ja l)) (hr : RV r) : OK r (fH_elementAt n (cW z) f (i3 v) o r.1 (i3 r.2.1) r.2.2) (.inr (match (atI l.length z).bind (fun k => l[k]?) with | none => (jk 0 : JT (e + 1)) | some y => lf e y)) := by
  have hsz := ha.asz
  have hlen : fR_length n 0 f (i3 v) o = some (i3 l.length) := ha.alen
  have go : ∀ k : Int, -9007199254740991 ≤ k → k ≤ 9007199254746000 → OK r (if lg_cmp (cW k) 0 < 0 then fH_nothing n r.1 (i3 r.2.1) r.2.2 else if 0 ≤ lg_cmp (cW k) (i3 l.length).toInt64 then fH_nothing n r.1 (i3 r.2.1) r.2.2 else (fR_element n 0 (cW k) f (i3 v) o).bind fun o4 => fH_copy n o4 f (i3 v) o r.1 (i3 r.2.1) r.2.2) (.inr (match (if 0 ≤ k ∧ k < l.length then some k.toNat else none : Option Nat).bind (fun k => l[k]?) with | none => (jk 0 : JT (e + 1)) | some y => lf e y)) := fun k k1 k2 => by
    rw [i3_64 (by omega), show (0 : Int64) = cW 0 from rfl, lg_cW (by omega) (by omega) (by omega) (by omega), lg_cW (by omega) (by omega) (by omega) (by omega)]
    by_cases hk : 0 ≤ k ∧ k < l.length
    · obtain ⟨y, rfl⟩ : ∃ y : Nat, k = y := ⟨k.toNat, by omega⟩
      obtain ⟨q, x, hx, hq, eq⟩ := element_w (n := n) (o := o) hn ha hoa (z := y) (by omega)
      rw [if_neg (by rw [izs_lt0]; omega), if_neg (by rw [izs_ge0]; omega), eq, Option.bind_some, if_pos hk, Option.bind_some, show ((y : Int).toNat) = y by omega, hx]
      have := copy_w (n := n) (o := o) (q := q) hr (d := e + 1) (j := lf e x) (by rw [jc_lf]; exact hq) ((jok_lf e x).mpr (hoa x (List.mem_of_getElem? hx)))
      exact this
    · rw [if_neg hk]
      by_cases h0 : k < 0
      · rw [if_pos (by rw [izs_lt0]; omega)]
        exact nothing_w hr
      · rw [if_neg (by rw [izs_lt0]; omega), if_pos (by rw [izs_ge0]; omega)]
        exact nothing_w hr
  unfold fH_elementAt
  simp only [b4, hlen, Option.bind_some]
  rw [show (0 : Int64) = cW 0 from rfl, lg_cW (a := z) (b := 0) (by omega) (by omega) (by omega) (by omega)]
  unfold atI
  by_cases hz : z < 0
  · rw [if_neg (by rw [izs_ge0]; omega), i3_64 (by omega), cW_add]
    have := go (z + (l.length : Nat)) (by omega) (by omega)
    rw [i3_64 (by omega)] at this
    simp only [if_pos hz]
    exact this
  · have := go z (by omega) (by omega)
    rw [show (0 : Int64) = cW 0 from rfl, lg_cW (a := z) (b := 0) (by omega) (by omega) (by omega) (by omega)] at this
    rw [if_pos (by rw [izs_ge0]; omega)]
    simp only [if_neg hz]
    exact this
end PD
end ZPaid33
section ZPaie34
def oTwo {e : Nat} (f : Nat) (a x : JT (e + 2)) : Nat ⊕ JT (e + 2) :=
  if f = 0 then oHas a x else if f = 1 then oCont a x else if f = 2 then oJoin a x else if f = 3 then oWB a x else if f = 4 then oWE a x else if f = 5 then oBeg a x else if f = 6 then oEnds a x else if f = 7 then oInd a x else if f = 8 then oFlat a x else oAt a x
section PE
variable {f g : Nat → Int64} {v u e : Nat} {o o' : Int32} {n fu : Nat} {r : RS}
theorem at_w (hn : 10000 < n) {a x : JT (e + 1)} (ha : At f v 0 (jc (e + 1) a)) (hoa : jok (e + 1) a) (hx : At g u 0 (jc (e + 1) x)) (hox : jok (e + 1) x) (hr : RV r) : OK r (fH_at n f (i3 v) o g (i3 u) o' r.1 (i3 r.2.1) r.2.2) (oAt1 a x) := by
  obtain ⟨a0, _, _, a5, a6⟩ := isk (o := o) ha hoa n
  obtain ⟨x0, x3, x4, _, _⟩ := isk (o := o') hx hox n
  unfold fH_at
  simp only [b4, a0, a5, a6, x0, x3, x4, Option.bind_some, c1]
  by_cases h1 : kd (e + 1) a = 6 ∧ kd (e + 1) x = 4
  · obtain ⟨l, rfl⟩ := kdo hoa h1.1
    obtain ⟨s, rfl⟩ := kds hox h1.2
    rw [if_neg (Decidable.not_not.mpr h1.1), if_neg (Decidable.not_not.mpr h1.2)]
    have hres : oAt1 (jo l : JT (e + 1)) (js s) = .inr (match lu s l with | none => jk 0 | some y => lf e y) := rfl
    rw [hres]
    rcases At.vo (n := n) (o := o) (o' := o') (q := 0) ha hoa hox (show At g u 0 (strc s) from hx) (by omega) with ⟨r', y, g1, g2, g3, g4⟩ | ⟨g1, g4⟩
    · have h5 := g3.2
      have h6 := jc_pos e y
      obtain ⟨y', hy', rfl⟩ := List.mem_map.mp g2
      have g4' : fR_valueOfa n 0 0 f (i3 v) o g (i3 u) o' = some (i3 r') := g4
      rw [g4', Option.bind_some, if_neg (by rw [i3_m1 (by omega)]; exact not_false), g1]
      exact copy_w (n := n) (o := o) (q := r') hr (d := e + 1) (j := lf e y'.2) (by rw [jc_lf]; exact g3) ((jok_lf e y'.2).mpr (hoa.1 y' hy').2)
    · have g4' : fR_valueOfa n 0 0 f (i3 v) o g (i3 u) o' = some (-1) := g4
      rw [g4', Option.bind_some, if_pos rfl, g1]
      exact nothing_w hr
  · by_cases h2 : kd (e + 1) a = 5 ∧ kd (e + 1) x = 3
    · obtain ⟨l, rfl⟩ := kda hoa h2.1
      obtain ⟨z, rfl⟩ := kdn hox h2.2
      rw [jok_n] at hox
      have en : fR_number n 0 g (i3 u) o' = some (cW z) := At.num (p := 0) hx hox.1 hox.2
      rw [if_pos (by rw [kd_a]; omega), if_neg (Decidable.not_not.mpr h2.1), if_neg (Decidable.not_not.mpr h2.2), en, Option.bind_some]
      exact elementAt_w hn hox.1 hox.2 ha hoa hr
    · have mid : OK r (if ¬ kd (e + 1) a = 0 then some ((1 : Int32), r.1, i3 r.2.1, r.2.2) else if ¬ kd (e + 1) x = 0 then (if ¬ kd (e + 1) x = 3 then (if ¬ kd (e + 1) x = 4 then some ((1 : Int32), r.1, i3 r.2.1, r.2.2) else fH_nothing n r.1 (i3 r.2.1) r.2.2) else fH_nothing n r.1 (i3 r.2.1) r.2.2) else fH_nothing n r.1 (i3 r.2.1) r.2.2) (oAt1 a x) := by
        by_cases h0 : kd (e + 1) a = 0
        · have ha0 := kdk hoa (by omega)
          rw [h0] at ha0
          subst ha0
          rw [if_neg (Decidable.not_not.mpr h0)]
          rcases jcases x with ⟨k', rfl⟩ | ⟨z', rfl⟩ | ⟨s', rfl⟩ | ⟨l', rfl⟩ | ⟨l', rfl⟩
          · rw [jok_k] at hox
            rw [kd_k]
            by_cases hk : k' = 0
            · subst hk
              rw [if_neg (by decide)]
              exact nothing_w hr
            · rw [if_pos hk, if_pos (by omega), if_pos (by omega)]
              have : oAt1 (jk 0 : JT (e + 1)) (jk k') = .inl 1 := by
                obtain ⟨k', rfl⟩ : ∃ j, k' = j + 1 := ⟨k' - 1, by omega⟩
                rfl
              rw [this]
              exact OK.refuse (k := 1) hr (by omega) (by omega)
          · rw [kd_n, if_pos (by decide), if_neg (by decide)]
            exact nothing_w hr
          · rw [kd_s, if_pos (by decide), if_pos (by decide), if_neg (by decide)]
            exact nothing_w hr
          · rw [kd_a, if_pos (by decide), if_pos (by decide), if_pos (by decide)]
            exact OK.refuse (k := 1) hr (by omega) (by omega)
          · rw [kd_o, if_pos (by decide), if_pos (by decide), if_pos (by decide)]
            exact OK.refuse (k := 1) hr (by omega) (by omega)
        · rw [if_pos h0]
          have : oAt1 a x = .inl 1 := by
            rcases jcases a with ⟨k, rfl⟩ | ⟨z, rfl⟩ | ⟨s, rfl⟩ | ⟨l, rfl⟩ | ⟨l, rfl⟩
            · have hk0 : k ≠ 0 := h0
              obtain ⟨k, rfl⟩ : ∃ j, k = j + 1 := ⟨k - 1, by omega⟩
              rcases jcases x with ⟨k', rfl⟩ | ⟨z', rfl⟩ | ⟨s', rfl⟩ | ⟨l', rfl⟩ | ⟨l', rfl⟩ <;> rfl
            · rcases jcases x with ⟨k', rfl⟩ | ⟨z', rfl⟩ | ⟨s', rfl⟩ | ⟨l', rfl⟩ | ⟨l', rfl⟩ <;> rfl
            · rcases jcases x with ⟨k', rfl⟩ | ⟨z', rfl⟩ | ⟨s', rfl⟩ | ⟨l', rfl⟩ | ⟨l', rfl⟩ <;> rfl
            · rcases jcases x with ⟨k', rfl⟩ | ⟨z', rfl⟩ | ⟨s', rfl⟩ | ⟨l', rfl⟩ | ⟨l', rfl⟩ <;> first | rfl | exact absurd ⟨rfl, rfl⟩ h2
            · rcases jcases x with ⟨k', rfl⟩ | ⟨z', rfl⟩ | ⟨s', rfl⟩ | ⟨l', rfl⟩ | ⟨l', rfl⟩ <;> first | rfl | exact absurd ⟨rfl, rfl⟩ h1
          rw [this]
          exact OK.refuse (k := 1) hr (by omega) (by omega)
      by_cases h6 : kd (e + 1) a = 6
      · have h4 : ¬ kd (e + 1) x = 4 := fun h => h1 ⟨h6, h⟩
        have h5 : ¬ kd (e + 1) a = 5 := by omega
        rw [if_neg (Decidable.not_not.mpr h6), if_pos h4, if_pos h5]
        exact mid
      · rw [if_pos h6]
        by_cases h5 : kd (e + 1) a = 5
        · have h3 : ¬ kd (e + 1) x = 3 := fun h => h2 ⟨h5, h⟩
          rw [if_neg (Decidable.not_not.mpr h5), if_pos h3]
          exact mid
        · rw [if_pos h5]
          exact mid
/-- the text is any that is whole -/
def OK7 {d : Nat} (r : RS) (out : Option (Int32 × (Nat → Int32) × Int32 × Int32 × (Nat → Int64) × Int32 × Int32)) (res : Nat ⊕ JT d) : Prop := ∃ (c : Nat) (t' : TS) (r' : RS), out = some (i3 c, t'.1, i3 t'.2.1, t'.2.2, r'.1, i3 r'.2.1, r'.2.2) ∧ RV t' ∧ OK r (some (i3 c, r'.1, i3 r'.2.1, r'.2.2)) res
theorem OK.up {d : Nat} {res : Nat ⊕ JT d} {out : Option Out4} {t : TS} (ht : RV t) (h : OK r out res) : OK7 r (out.bind fun y => some (y.1, t.1, i3 t.2.1, t.2.2, y.2.1, y.2.2.1, y.2.2.2)) res := by
  obtain ⟨c, r', e1, h1, h2⟩ := h
  refine ⟨c, t, r', ?_, ht, ⟨c, r', rfl, h1, h2⟩⟩
  rw [e1]
  rfl
theorem two_op (hn : 60000 < n) (hfu : e + 2 ≤ fu) (he : e + 2 ≤ 1000) {k : Nat} (hk : k ≤ 9) {a x : JT (e + 2)} {t : TS} (ha : At f v 0 (jc (e + 2) a)) (hoa : jok (e + 2) a) (hx : At g u 0 (jc (e + 2) x)) (hox : jok (e + 2) x) (hja : jd (e + 2) a ≤ 60) (ht : RV t) (hr : RV r) : OK7 r (fH_apply fu n (i3 k) f (i3 v) o g (i3 u) o' t.1 (i3 t.2.1) t.2.2 r.1 (i3 r.2.1) r.2.2) (oTwo k a x) := by
  obtain ⟨_, _, _, a5, _⟩ := isk (o := o) ha hoa n
  obtain ⟨_, _, _, x5, _⟩ := isk (o := o') hx hox n
  unfold fH_apply oTwo
  obtain rfl | rfl | rfl | rfl | rfl | rfl | rfl | rfl | rfl | rfl : k = 0 ∨ k = 1 ∨ k = 2 ∨ k = 3 ∨ k = 4 ∨ k = 5 ∨ k = 6 ∨ k = 7 ∨ k = 8 ∨ k = 9 := by omega
  · rw [if_pos (by decide), if_pos rfl]
    exact (has_w (by omega) ha hoa hx hox hr).up ht
  · rw [if_neg (by decide), if_pos (by decide), if_neg (by decide), if_pos rfl]
    exact (contains_w (by omega) (by omega) ha hoa hx hox hja hr).up ht
  · rw [if_neg (by decide), if_neg (by decide), if_pos (by decide), if_neg (by decide), if_neg (by decide), if_pos rfl]
    obtain ⟨c, t2, r', e1, h1, h2⟩ := joined_w (n := n) (fu := fu) (o := o) (o' := o') (by omega) (by omega) ha hoa hx hox ht hr
    rw [e1]
    exact ⟨c, t2, r', rfl, h1, h2⟩
  · rw [if_neg (by decide), if_neg (by decide), if_neg (by decide), if_pos (by decide), if_neg (by decide), if_neg (by decide), if_neg (by decide), if_pos rfl]
    exact (wb_w (by omega) ha hoa hx hox hr).up ht
  · rw [if_neg (by decide), if_neg (by decide), if_neg (by decide), if_neg (by decide), if_pos (by decide), if_neg (by decide), if_neg (by decide), if_neg (by decide), if_neg (by decide), if_pos rfl]
    exact (we_w (by omega) ha hoa hx hox hr).up ht
  · rw [if_neg (by decide), if_neg (by decide), if_neg (by decide), if_neg (by decide), if_neg (by decide), if_pos (by decide), if_neg (by decide), if_neg (by decide), if_neg (by decide), if_neg (by decide), if_neg (by decide), if_pos rfl]
    have h := (beg_w (n := n) (o := o) (o' := o') (by omega) ha hoa hx hox hr).up ht
    rw [strs_w ha hoa hx hox, Option.bind_some] at h ⊢
    by_cases hc : kd (e + 1 + 1) a = 4 ∧ kd (e + 1 + 1) x = 4
    · rw [if_pos hc, if_neg (by decide)] at h ⊢
      rw [Option.bind_assoc] at h
      exact h
    · rw [if_neg hc, if_pos (by decide)] at h ⊢
      exact h
  · rw [if_neg (by decide), if_neg (by decide), if_neg (by decide), if_neg (by decide), if_neg (by decide), if_neg (by decide), if_pos (by decide), if_neg (by decide), if_neg (by decide), if_neg (by decide), if_neg (by decide), if_neg (by decide), if_neg (by decide), if_pos rfl]
    have h := (end_w (n := n) (o := o) (o' := o') (by omega) ha hoa hx hox hr).up ht
    rw [strs_w ha hoa hx hox, Option.bind_some] at h ⊢
    by_cases hc : kd (e + 1 + 1) a = 4 ∧ kd (e + 1 + 1) x = 4
    · rw [if_pos hc, if_neg (by decide)] at h ⊢
      rw [Option.bind_assoc] at h
      exact h
    · rw [if_neg hc, if_pos (by decide)] at h ⊢
      exact h
  · rw [if_neg (by decide), if_neg (by decide), if_neg (by decide), if_neg (by decide), if_neg (by decide), if_neg (by decide), if_neg (by decide), if_pos (by decide), if_neg (by decide), if_neg (by decide), if_neg (by decide), if_neg (by decide), if_neg (by decide), if_neg (by decide), if_neg (by decide), if_pos rfl]
    exact (indices_w hn hfu he ha hoa hx hox hja hr).up ht
  · rw [if_neg (by decide), if_neg (by decide), if_neg (by decide), if_neg (by decide), if_neg (by decide), if_neg (by decide), if_neg (by decide), if_neg (by decide), if_pos (by decide), if_neg (by decide), if_neg (by decide), if_neg (by decide), if_neg (by decide), if_neg (by decide), if_neg (by decide), if_neg (by decide), if_neg (by decide), if_pos rfl]
    exact (flat_w (by omega) (by omega) ha hoa hx hox hja hr).up ht
  · rw [if_neg (by decide), if_neg (by decide), if_neg (by decide), if_neg (by decide), if_neg (by decide), if_neg (by decide), if_neg (by decide), if_neg (by decide), if_neg (by decide), if_neg (by decide), if_neg (by decide), if_neg (by decide), if_neg (by decide), if_neg (by decide), if_neg (by decide), if_neg (by decide), if_neg (by decide), if_neg (by decide), a5, Option.bind_some]
    unfold oAt
    by_cases h5 : kd (e + 2) a = 5
    · rw [if_pos h5, if_neg (by decide), x5, Option.bind_some]
      by_cases hx5 : kd (e + 2) x = 5
      · rw [if_pos hx5, if_neg (by decide), if_pos ⟨h5, hx5⟩]
        exact (indices_w hn hfu he ha hoa hx hox hja hr).up ht
      · rw [if_neg hx5, if_pos (by decide), if_neg (fun h => hx5 h.2)]
        exact (at_w (by omega) ha hoa hx hox hr).up ht
    · rw [if_neg h5, if_pos (by decide), if_neg (fun h => h5 h.1)]
      exact (at_w (by omega) ha hoa hx hox hr).up ht
end PE
end ZPaie34
