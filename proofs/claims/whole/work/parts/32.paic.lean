/-! indices -/
def pfc {e : Nat} : List (JT e) → List (JT e) → Bool
  | [], _ => true
  | _ :: _, [] => false
  | y :: m, x :: l => decide (jcmp e x y = 0) && pfc m l
theorem pfc_len {e : Nat} : ∀ {m l : List (JT e)}, pfc m l = true → m.length ≤ l.length := by
  intro m
  induction m with
  | nil => intro l _; exact Nat.zero_le _
  | cons y m ih =>
    intro l h
    cases l with
    | nil => exact absurd h (by simp [pfc])
    | cons x l =>
      simp only [pfc, Bool.and_eq_true] at h
      exact Nat.succ_le_succ (ih h.2)
def numsOf {e : Nat} (l : List Nat) : JT (e + 2) := ja (l.map (fun k => (jn (k : Nat) : JT (e + 1))))
def ixS (s t : Sx) : List Nat := (List.range s.length).filter (fun k => pf t (s.drop k))
def ixA {e : Nat} (l m : List (JT e)) : List Nat := (List.range l.length).filter (fun k => pfc m (l.drop k))
def ixO {e : Nat} (l : List (JT e)) (x : JT (e + 1)) : List Nat := (List.range l.length).filter (fun k => pfc [x] ((l.drop k).map (lf e)))
def oInd {e : Nat} (a x : JT (e + 2)) : Nat ⊕ JT (e + 2) :=
  match a, x with
  | .inl (.inl 0), _ => .inr (jk 0)
  | .inl (.inr (.inr s)), .inl (.inr (.inr t)) => .inr (if t = [] then jk 0 else numsOf (ixS s t))
  | .inr (.inl l), .inr (.inl m) => .inr (if m = [] then jk 0 else numsOf (ixA l m))
  | .inr (.inl l), x => .inr (numsOf (ixO l x))
  | _, _ => .inl 1
section PI2
variable {f g : Nat → Int64} {v u e : Nat} {o o' : Int32} {n fu : Nat} {r : RS}
theorem si_loop {s t : Sx} (ha : At f v 0 (strc s)) (hs : sok s) (hb : At g u 0 (strc t)) (ht : sok t) {r1 : RS} : ∀ (m n k c : Nat) (w : List Int64) (r2 : RS), k + m = s.length → Wr r1 w r2 → 4097 + m < n →
    ∃ r' : RS, fH_putStringIndices_b f (i3 v) o g (i3 u) o' n 1 (i3 k) (i3 c) r2.1 (i3 r2.2.1) r2.2.2 = some (i3 (c + ((List.range' k m).filter (fun k => pf t (s.drop k))).length), r'.1, i3 r'.2.1, r'.2.2) ∧ Wr r1 (w ++ (((List.range' k m).filter (fun k => pf t (s.drop k))).map (fun k => (jn (k : Nat) : JT (e + 1)))).flatMap (jc (e + 1))) r' := by
  have hl := ha.le
  have hlen : ∀ n, fR_length n 0 f (i3 v) o = some (i3 s.length) := fun n => ha.slen
  intro m
  induction m with
  | zero =>
    intro n k c w r2 hk hw hn
    obtain ⟨n, rfl⟩ : ∃ j, n = j + 1 := ⟨n - 1, by omega⟩
    refine ⟨r2, ?_, by simpa using hw⟩
    rw [fH_putStringIndices_b, hlen, Option.bind_some, if_pos (by rw [i3_le (by omega) (by omega)]; omega)]
    rfl
  | succ m ih =>
    intro n k c w r2 hk hw hn
    obtain ⟨n, rfl⟩ : ∃ j, n = j + 1 := ⟨n - 1, by omega⟩
    have hp : fR_hasParta n 0 (i3 k) 0 f (i3 v) o g (i3 u) o' = some (if pf t (s.drop k) then 1 else 0) := At.hp (p := 0) (q := 0) (k := k) (by omega) ha hb hs ht (by omega)
    rw [fH_putStringIndices_b, hlen, Option.bind_some, if_neg (by rw [i3_le (by omega) (by omega)]; omega), hp, Option.bind_some, List.range'_succ]
    cases h : pf t (s.drop k) with
    | false =>
      rw [if_pos (by decide), List.filter_cons_of_neg (by rw [h]; decide), i3_one]
      exact ih n (k + 1) c w r2 (by omega) hw (by omega)
    | true =>
      obtain ⟨r3, e3, w3⟩ := putNumber_w (n := n) hw.v (k : Nat)
      obtain ⟨r4, e4, w4⟩ := ih n (k + 1) (c + 1) _ r3 (by omega) (hw.app w3) (by omega)
      rw [if_neg (by decide), List.filter_cons_of_pos (by rw [h]), i3_64 (by omega), e3, Option.bind_some, i3_one, i3_one]
      refine ⟨r4, ?_, ?_⟩
      · rw [e4, List.length_cons, Nat.add_assoc, Nat.add_comm 1]
      · rw [List.map_cons, List.flatMap_cons, ← List.append_assoc]
        exact w4
/-- the elements of x one behind the other at this place -/
theorem sm_loop (hfu : e ≤ fu) (he : e ≤ 1000) {tot : Nat} (ht : tot < 65536) {y1 y3 : Int32} : ∀ (m l : List (JT e)) (n i p q : Nat), (∀ x ∈ m, jok e x) → (∀ x ∈ l, jok e x ∧ jd e x ≤ 60) → m.length ≤ l.length → i + m.length = tot → At f v p (l.flatMap (jc e)) → At g u q (m.flatMap (jc e)) → 20001 + m.length < n → fH_areSame_b fu f (i3 v) o g (i3 u) o' n 1 (i3 i) (i3 q) (i3 p) y1 y3 (i3 tot) = some (if pfc m l then 1 else 0) := by
  intro m
  induction m with
  | nil =>
    intro l n i p q _ _ _ hi _ _ hn
    obtain ⟨n, rfl⟩ : ∃ j, n = j + 1 := ⟨n - 1, by omega⟩
    rw [List.length_nil] at hi
    rw [fH_areSame_b, if_pos (by rw [i3_le (by omega) (by omega)]; omega)]
    rfl
  | cons y m ih =>
    intro l n i p q hom hol hml hi hat hbt hn
    obtain ⟨n, rfl⟩ : ∃ j, n = j + 1 := ⟨n - 1, by omega⟩
    rw [List.length_cons] at hi hn hml
    cases l with
    | nil => simp at hml
    | cons x l =>
      rw [List.length_cons] at hml
      obtain ⟨at1, at2⟩ := hat.acons
      obtain ⟨bt1, bt2⟩ := hbt.acons
      obtain ⟨hx, hjx⟩ := hol x (List.mem_cons_self ..)
      have hy := hom y (List.mem_cons_self ..)
      have hs := same_w (n := n) (by omega) (o := o) (o' := o') hx hy at1 bt1 hfu he hjx
      have ih' := ih l n (i + 1) _ _ (fun z hz => hom z (List.mem_cons_of_mem _ hz)) (fun z hz => hol z (List.mem_cons_of_mem _ hz)) (by omega) (by omega) at2 bt2 (by omega)
      obtain ⟨ca, _, eca⟩ := at1.cell0 (n := n) (o := o)
      obtain ⟨cb, _, ecb⟩ := bt1.cell0 (n := n) (o := o')
      have hof := of0_w (n := n) (by omega) (o := o) (o' := o') hx hy at1 bt1 hfu he hjx
      have hle := jcmp_le e x y
      unfold fO_isSame at hs
      rw [eca, Option.bind_some, ecb, Option.bind_some, hof, Option.bind_some] at hs
      rw [fH_areSame_b, if_neg (by rw [i3_le (by omega) (by omega)]; omega), eca, Option.bind_some, ecb, Option.bind_some, hof, Option.bind_some, at1.after hx, Option.bind_some, bt1.after hy, Option.bind_some, i3_one, ih', pfc]
      by_cases hc : lg_cmp ca cb = 0
      · rw [if_pos hc] at hs ⊢
        by_cases hj : jcmp e x y = 0
        · rw [if_pos (by rw [hj]; rfl), show decide (jcmp e x y = 0) = true by simpa using hj, Bool.true_and]
        · rw [if_neg (by rw [show (0 : Int32) = iz 0 from rfl, iz_eq (by omega) (by omega) (by omega) (by omega)]; exact hj), show decide (jcmp e x y = 0) = false by simpa using hj, Bool.false_and]
          rfl
      · rw [if_neg hc] at hs ⊢
        by_cases hj : jcmp e x y = 0
        · rw [if_pos hj] at hs
          exact absurd (Option.some.inj hs) (by decide)
        · rw [show decide (jcmp e x y = 0) = false by simpa using hj, Bool.false_and]
          rfl
theorem drop_flat {l : List (JT e)} : ∀ {k p : Nat}, k < l.length → At f v p ((l.drop k).flatMap (jc e)) → ∃ x, l[k]? = some x ∧ At f v p (jc e x) ∧ At f v (p + (jc e x).length) ((l.drop (k + 1)).flatMap (jc e)) := by
  intro k p hk hat
  rw [List.drop_eq_getElem_cons hk] at hat
  obtain ⟨h1, h2⟩ := hat.acons
  exact ⟨l[k], List.getElem?_eq_getElem hk, h1, h2⟩
/-- over all places; M is what is sought, W the elements in its type -/
theorem ai_loop {E E2 : Nat} (hfu : E ≤ fu) (he : E ≤ 1000) {l : List (JT e)} (ha : At f v 0 (jc (e + 1) (ja l))) (hoa : jok (e + 1) (ja l)) (hja : ∀ x ∈ l, jd e x ≤ 60) {up : JT e → JT E} (hup : ∀ x, jc E (up x) = jc e x) (hupo : ∀ x, jok e x → jok E (up x)) (hupd : ∀ x, jd E (up x) = jd e x) {M : List (JT E)} (hM : M ≠ []) {q : Nat} (hq : At g u q (M.flatMap (jc E))) (hoM : ∀ x ∈ M, jok E x) {r1 : RS} {y2 : Int32} : ∀ (m n k c p : Nat) (w : List Int64) (r2 : RS), k + m = l.length → At f v p ((l.drop k).flatMap (jc e)) → Wr r1 w r2 → 30000 + m < n →
    ∃ r' : RS, fH_putArrayIndices_b fu f (i3 v) o g (i3 u) o' n 1 (i3 k) (i3 p) (i3 c) (i3 M.length) (i3 q) y2 r2.1 (i3 r2.2.1) r2.2.2 = some (i3 (c + ((List.range' k m).filter (fun k => pfc M ((l.drop k).map up))).length), r'.1, i3 r'.2.1, r'.2.2) ∧ Wr r1 (w ++ (((List.range' k m).filter (fun k => pfc M ((l.drop k).map up))).map (fun k => (jn (k : Nat) : JT (E2 + 1)))).flatMap (jc (E2 + 1))) r' := by
  have hl := ha.asz
  have hlen : ∀ n, fR_length n 0 f (i3 v) o = some (i3 l.length) := fun n => ha.alen
  have hMl : 1 ≤ M.length := by
    cases M with
    | nil => exact absurd rfl hM
    | cons y M => simp
  have hMl2 : M.length ≤ 4096 := by
    have h1 := ja_len (l := M)
    have h2 := hq.2
    omega
  have hfl : ∀ k, ((l.drop k).map up).flatMap (jc E) = (l.drop k).flatMap (jc e) := fun k => by
    rw [List.flatMap_map]
    congr 1
    funext x
    exact hup x
  -- too near to the end
  have hnone : ∀ k, l.length < k + M.length → pfc M ((l.drop k).map up) = false := fun k hk => by
    cases h : pfc M ((l.drop k).map up) with
    | false => rfl
    | true =>
      have := pfc_len h
      rw [List.length_map, List.length_drop] at this
      omega
  intro m
  induction m with
  | zero =>
    intro n k c p w r2 hk hat hw hn
    obtain ⟨n, rfl⟩ : ∃ j, n = j + 1 := ⟨n - 1, by omega⟩
    refine ⟨r2, ?_, by simpa using hw⟩
    rw [fH_putArrayIndices_b, hlen, Option.bind_some, i3_add, if_pos (by rw [i3_lt (by omega) (by omega)]; omega)]
    rfl
  | succ m ih =>
    intro n k c p w r2 hk hat hw hn
    obtain ⟨n, rfl⟩ : ∃ j, n = j + 1 := ⟨n - 1, by omega⟩
    rw [fH_putArrayIndices_b, hlen, Option.bind_some, i3_add]
    by_cases hb : l.length < k + M.length
    · have hz : (List.range' k (m + 1)).filter (fun k => pfc M ((l.drop k).map up)) = [] := by
        rw [List.filter_eq_nil_iff]
        intro j hj
        rw [List.mem_range'_1] at hj
        rw [hnone j (by omega)]
        decide
      refine ⟨r2, ?_, by rw [hz]; simpa using hw⟩
      rw [if_pos (by rw [i3_lt (by omega) (by omega)]; omega), hz]
      rfl
    · obtain ⟨x, hx, at1, at2⟩ := drop_flat (l := l) (k := k) (by omega) hat
      have hxo := hoa x (List.mem_of_getElem? hx)
      have hsame : fH_areSame fu n (i3 p) (i3 q) (i3 M.length) f (i3 v) o g (i3 u) o' = some (if pfc M ((l.drop k).map up) then 1 else 0) := sm_loop (o := o) (o' := o') hfu he (tot := M.length) (by omega) M ((l.drop k).map up) n 0 p q hoM (fun z hz => by
        obtain ⟨z', hz', rfl⟩ := List.mem_map.mp hz
        have := List.mem_of_mem_drop hz'
        exact ⟨hupo z' (hoa z' this), by rw [hupd]; exact hja z' this⟩) (by rw [List.length_map, List.length_drop]; omega) (by omega) (by rw [hfl]; exact hat) hq (by omega)
      rw [if_neg (by rw [i3_lt (by omega) (by omega)]; omega), hsame, Option.bind_some, List.range'_succ]
      cases h : pfc M ((l.drop k).map up) with
      | false =>
        rw [if_pos (by decide), List.filter_cons_of_neg (by rw [h]; decide), at1.after hxo, Option.bind_some, i3_one]
        exact ih n (k + 1) c _ w r2 (by omega) at2 hw (by omega)
      | true =>
        obtain ⟨r3, e3, w3⟩ := putNumber_w (n := n) hw.v (k : Nat)
        obtain ⟨r4, e4, w4⟩ := ih n (k + 1) (c + 1) _ _ r3 (by omega) at2 (hw.app w3) (by omega)
        rw [if_neg (by decide), List.filter_cons_of_pos (by rw [h]), i3_64 (by omega), e3, Option.bind_some, at1.after hxo, Option.bind_some, i3_one, i3_one]
        refine ⟨r4, ?_, ?_⟩
        · rw [e4, List.length_cons, Nat.add_assoc, Nat.add_comm 1]
        · rw [List.map_cons, List.flatMap_cons, ← List.append_assoc]
          exact w4
theorem numsOf_fin {r0 r1 r2 : RS} {x0 : Int64} (h01 : Wr r0 [x0] r1) {L : List Nat} (hw : Wr r1 ((L.map (fun k => (jn (k : Nat) : JT (e + 1)))).flatMap (jc (e + 1))) r2) (hl : L.length < 65536) : OK (d := e + 2) r0 ((fR_close n (i3 r1.2.1 - 1) 5 (i3 L.length) r2.1 (i3 r2.2.1) r2.2.2).bind fun o25 => some ((0 : Int32), o25, i3 r2.2.1, r2.2.2)) (.inr (numsOf L)) := by
  obtain ⟨r3, e3, e4, w3⟩ := fin_a (n := n) h01 hw rfl (by rw [List.length_map]; exact hl)
  rw [List.length_map] at e3
  rw [e3, Option.bind_some]
  exact OK.val (r' := r3) (by rw [e4]) w3
theorem indices_w (hn : 60000 < n) (hfu : e + 2 ≤ fu) (he : e + 2 ≤ 1000) {a x : JT (e + 2)} (ha : At f v 0 (jc (e + 2) a)) (hoa : jok (e + 2) a) (hx : At g u 0 (jc (e + 2) x)) (hox : jok (e + 2) x) (hja : jd (e + 2) a ≤ 60) (hr : RV r) : OK r (fH_indices fu n f (i3 v) o g (i3 u) o' r.1 (i3 r.2.1) r.2.2) (oInd a x) := by
  obtain ⟨a0, _, a4, a5, _⟩ := isk (o := o) ha hoa n
  obtain ⟨_, _, x4, x5, _⟩ := isk (o := o') hx hox n
  have hst := strs_w (n := n) (o := o) (o' := o') ha hoa hx hox
  unfold fH_indices
  simp only [b4, a0, a4, a5, x4, x5, hst, Option.bind_some, c1]
  by_cases h0 : kd (e + 2) a = 0
  · have ha0 : a = jk (kd (e + 2) a) := kdk hoa (by show kd (e + 2) a < 3; omega)
    rw [h0] at ha0
    subst ha0
    rw [if_neg (Decidable.not_not.mpr h0)]
    exact nothing_w hr
  · rw [if_pos h0]
    by_cases h5 : kd (e + 2) a = 5
    · obtain ⟨l, rfl⟩ := kda hoa h5
      have hsz := ha.asz
      have hjl : ∀ x ∈ l, jd (e + 1) x ≤ 60 := fun x hx => Nat.le_succ_of_le (jd_a_le.mp hja x hx)
      rw [if_neg (Decidable.not_not.mpr h5), if_neg (Decidable.not_not.mpr h5)]
      obtain ⟨r1, e1, w1⟩ := open_w (n := n) hr
      by_cases hx5 : kd (e + 2) x = 5
      · obtain ⟨m, rfl⟩ := kda hox hx5
        have hsm := hx.asz
        have elm : fR_length n 0 g (i3 u) o' = some (i3 m.length) := hx.alen
        have hres : oInd (ja l : JT (e + 2)) (ja m) = .inr (if m = [] then jk 0 else numsOf (ixA l m)) := rfl
        rw [if_neg (Decidable.not_not.mpr hx5), elm, Option.bind_some, hres]
        by_cases hm : m = []
        · subst hm
          rw [if_pos (by rfl), if_pos rfl]
          exact nothing_w hr
        · have hml : m.length ≠ 0 := fun h => hm (List.length_eq_zero_iff.mp h)
          rw [if_neg (by rw [show (0 : Int32) = i3 0 from rfl, i3_eq (by omega) (by omega)]; exact hml), if_neg hm, e1, Option.bind_some, if_pos (by rw [kd_a]; omega)]
          obtain ⟨r2, e2, w2⟩ := ai_loop (fu := fu) (e := e + 1) (E2 := e) (o := o) (o' := o') (E := e + 1) (up := id) (y2 := 0) (by omega) (by omega) ha hoa hjl (fun _ => rfl) (fun _ h => h) (fun _ => rfl) hm hx.abody hox l.length n 0 0 1 [] r1 (by omega) ha.abody (Wr.nil w1.v) (by omega)
          have e2' : fH_putArrayIndices fu n 0 f (i3 v) o g (i3 u) o' r1.1 (i3 r1.2.1) r1.2.2 = some (i3 (0 + ((List.range' 0 l.length).filter (fun k => pfc m ((l.drop k).map id))).length), r2.1, i3 r2.2.1, r2.2.2) := by
            unfold fH_putArrayIndices
            rw [if_pos rfl, if_pos rfl, elm, Option.bind_some]
            exact e2
          dsimp only
          rw [e2', Option.bind_some, Nat.zero_add]
          dsimp only
          have hix : (List.range' 0 l.length).filter (fun k => pfc m ((l.drop k).map id)) = ixA l m := by
            unfold ixA
            rw [List.range_eq_range']
            simp only [List.map_id]
          rw [hix] at w2 ⊢
          have hle := filter_le (List.range l.length) (fun k => pfc m (l.drop k))
          rw [List.length_range] at hle
          exact numsOf_fin w1 w2 (by unfold ixA; omega)
      · have hres : oInd (ja l : JT (e + 2)) x = .inr (numsOf (ixO l x)) := by
          rcases jcases x with ⟨k', rfl⟩ | ⟨z', rfl⟩ | ⟨s', rfl⟩ | ⟨l', rfl⟩ | ⟨l', rfl⟩ <;> first | rfl | exact absurd rfl hx5
        rw [if_pos hx5, hres, e1, Option.bind_some, if_pos (by rw [kd_a]; omega)]
        obtain ⟨r2, e2, w2⟩ := ai_loop (fu := fu) (e := e + 1) (E2 := e) (o := o) (o' := o') (E := e + 2) (up := lf (e + 1)) (M := [x]) (q := 0) (y2 := 1) hfu he ha hoa hjl (fun y => jc_lf _ y) (fun y h => (jok_lf _ y).mpr h) (fun y => jd_lf _ y) (by simp) (by simpa using hx) (fun y hy => by rw [List.mem_singleton.mp hy]; exact hox) l.length n 0 0 1 [] r1 (by omega) ha.abody (Wr.nil w1.v) (by omega)
        have e2' : fH_putArrayIndices fu n 1 f (i3 v) o g (i3 u) o' r1.1 (i3 r1.2.1) r1.2.2 = some (i3 (0 + ((List.range' 0 l.length).filter (fun k => pfc [x] ((l.drop k).map (lf (e + 1))))).length), r2.1, i3 r2.2.1, r2.2.2) := by
          unfold fH_putArrayIndices
          rw [if_neg (by decide), if_neg (by decide)]
          exact e2
        dsimp only
        rw [e2', Option.bind_some, Nat.zero_add]
        dsimp only
        have hix : (List.range' 0 l.length).filter (fun k => pfc [x] ((l.drop k).map (lf (e + 1)))) = ixO l x := by
          unfold ixO
          rw [List.range_eq_range']
        rw [hix] at w2 ⊢
        have hle := filter_le (List.range l.length) (fun k => pfc [x] ((l.drop k).map (lf (e + 1))))
        rw [List.length_range] at hle
        exact numsOf_fin w1 w2 (by unfold ixO; omega)
    · rw [if_pos h5]
      by_cases hs : kd (e + 2) a = 4 ∧ kd (e + 2) x = 4
      · obtain ⟨s, rfl⟩ := kds hoa hs.1
        obtain ⟨t, rfl⟩ := kds hox hs.2
        have ha' : At f v 0 (strc s) := ha
        have hx' : At g u 0 (strc t) := hx
        have l1 := ha'.le
        have l2 := hx'.le
        have elm : fR_length n 0 g (i3 u) o' = some (i3 t.length) := hx'.slen
        have hres : oInd (js s : JT (e + 2)) (js t) = .inr (if t = [] then jk 0 else numsOf (ixS s t)) := rfl
        rw [if_neg (Decidable.not_not.mpr hs), if_pos h5, elm, Option.bind_some, hres]
        by_cases hm : t = []
        · subst hm
          rw [if_pos (by rfl), if_pos rfl]
          exact nothing_w hr
        · have hml : t.length ≠ 0 := fun h => hm (List.length_eq_zero_iff.mp h)
          obtain ⟨r1, e1, w1⟩ := open_w (n := n) hr
          rw [if_neg (by rw [show (0 : Int32) = i3 0 from rfl, i3_eq (by omega) (by omega)]; exact hml), if_neg hm, e1, Option.bind_some, if_neg (Decidable.not_not.mpr hs.1)]
          obtain ⟨r2, e2, w2⟩ := si_loop (e := e) (o := o) (o' := o') (r1 := r1) ha' hoa hx' hox s.length n 0 0 [] r1 (by omega) (Wr.nil w1.v) (by omega)
          have e2' : fH_putStringIndices n f (i3 v) o g (i3 u) o' r1.1 (i3 r1.2.1) r1.2.2 = some (i3 (0 + ((List.range' 0 s.length).filter (fun k => pf t (s.drop k))).length), r2.1, i3 r2.2.1, r2.2.2) := e2
          dsimp only
          rw [e2', Option.bind_some, Nat.zero_add]
          dsimp only
          have hix : (List.range' 0 s.length).filter (fun k => pf t (s.drop k)) = ixS s t := by
            unfold ixS
            rw [List.range_eq_range']
          rw [hix] at w2 ⊢
          have hle := filter_le (List.range s.length) (fun k => pf t (s.drop k))
          rw [List.length_range] at hle
          exact numsOf_fin w1 w2 (by unfold ixS; omega)
      · rw [if_pos hs]
        have : oInd a x = .inl 1 := by
          rcases jcases a with ⟨k, rfl⟩ | ⟨z, rfl⟩ | ⟨s, rfl⟩ | ⟨l, rfl⟩ | ⟨l, rfl⟩
          · have hk0 : k ≠ 0 := h0
            obtain ⟨k, rfl⟩ : ∃ j, k = j + 1 := ⟨k - 1, by omega⟩
            rcases jcases x with ⟨k', rfl⟩ | ⟨z', rfl⟩ | ⟨s', rfl⟩ | ⟨l', rfl⟩ | ⟨l', rfl⟩ <;> rfl
          · rcases jcases x with ⟨k', rfl⟩ | ⟨z', rfl⟩ | ⟨s', rfl⟩ | ⟨l', rfl⟩ | ⟨l', rfl⟩ <;> rfl
          · rcases jcases x with ⟨k', rfl⟩ | ⟨z', rfl⟩ | ⟨s', rfl⟩ | ⟨l', rfl⟩ | ⟨l', rfl⟩ <;> first | rfl | exact absurd ⟨rfl, rfl⟩ hs
          · exact absurd rfl h5
          · rcases jcases x with ⟨k', rfl⟩ | ⟨z', rfl⟩ | ⟨s', rfl⟩ | ⟨l', rfl⟩ | ⟨l', rfl⟩ <;> rfl
        rw [this]
        exact OK.refuse (k := 1) hr (by omega) (by omega)
end PI2
