/-! ===== what one makes ===== -/
def oLen {e : Nat} (a : JT (e + 1)) : Nat ⊕ JT (e + 1) :=
  match a with
  | .inl (.inl k) => if k = 0 then .inr (jn 0) else .inl 1
  | .inl (.inr (.inl z)) => .inr (jn (z.natAbs : Nat))
  | .inl (.inr (.inr s)) => .inr (jn (s.length : Nat))
  | .inr (.inl l) => .inr (jn (l.length : Nat))
  | .inr (.inr l) => .inr (jn (l.length : Nat))
def oKeys {e : Nat} (a : JT (e + 2)) : Nat ⊕ JT (e + 2) :=
  match a with
  | .inr (.inl l) => .inr (ja ((List.range l.length).map (fun k => (jn (k : Nat) : JT (e + 1)))))
  | .inr (.inr l) => .inr (ja (l.map (fun p => (js p.1 : JT (e + 1)))))
  | _ => .inl 1
/-- in the order of the turns -/
def byT {α : Type} (T : List Nat) (l : List α) : List α := T.filterMap (fun i => l[i]?)
def oSortK {e : Nat} (a : JT (e + 2)) : Nat ⊕ JT (e + 2) :=
  match a with
  | .inr (.inr l) => .inr (ja ((byT (tn (l.map (fun x => (js x.1 : JT 1)))) l).map (fun p => (js p.1 : JT (e + 1)))))
  | a => oKeys a
def oSort {e : Nat} (a : JT (e + 1)) : Nat ⊕ JT (e + 1) :=
  match a with
  | .inr (.inl l) => .inr (ja (byT (tn l) l))
  | _ => .inl 1
def oRev {e : Nat} (a : JT (e + 1)) : Nat ⊕ JT (e + 1) :=
  match a with
  | .inl (.inl k) => if k = 0 then .inr (ja []) else .inl 1
  | .inl (.inr (.inr s)) => .inr (js s.reverse)
  | .inr (.inl l) => .inr (ja l.reverse)
  | _ => .inl 1
def oExp {e : Nat} (a : JT (e + 2)) : Nat ⊕ JT (e + 2) :=
  match a with
  | .inl (.inr (.inr s)) => .inr (ja (s.map (fun c => (jn (c : Nat) : JT (e + 1)))))
  | _ => .inl 1
def numOf : (e : Nat) → JT e → Option Int
  | 0, j => Empty.elim j
  | _ + 1, .inl (.inr (.inl z)) => some z
  | _ + 1, _ => none
def oImp {e : Nat} (a : JT (e + 1)) : Nat ⊕ JT (e + 1) :=
  match a with
  | .inr (.inl l) => if l.all (fun x => (numOf e x).isSome) then (if (l.filterMap (numOf e)).all (fun z => decide (0 ≤ z ∧ z ≤ 127)) then .inr (js ((l.filterMap (numOf e)).map Int.toNat)) else .inl 2) else .inl 1
  | _ => .inl 1
def lowC (c : Nat) : Nat := if 65 ≤ c ∧ c < 91 then c + 32 else c
def upC (c : Nat) : Nat := if 97 ≤ c ∧ c < 123 then c - 32 else c
def oCase {e : Nat} (g : Nat → Nat) (a : JT (e + 1)) : Nat ⊕ JT (e + 1) :=
  match a with
  | .inl (.inr (.inr s)) => .inr (js (s.map g))
  | _ => .inl 1
section SI
variable {f : Nat → Int64} {v e : Nat} {o : Int32} {n fu : Nat} {r : RS}
theorem length_w {a : JT (e + 1)} (ha : At f v 0 (jc (e + 1) a)) (hoa : jok (e + 1) a) (hr : RV r) : OK r (fG_length n f (i3 v) o r.1 (i3 r.2.1) r.2.2) (oLen a) := by
  have hk : fR_kind n 0 f (i3 v) o = some (i3 (kd (e + 1) a)) := ha.kind hoa
  unfold fG_length
  rw [hk, Option.bind_some]
  rcases jcases a with ⟨k, rfl⟩ | ⟨z, rfl⟩ | ⟨s, rfl⟩ | ⟨l, rfl⟩ | ⟨l, rfl⟩
  · rw [jok_k] at hoa
    rw [kd_k]
    obtain rfl | rfl | rfl : k = 0 ∨ k = 1 ∨ k = 2 := by omega
    · obtain ⟨r1, e1, w1⟩ := putNumber_w (n := n) hr 0
      rw [if_pos (by decide), show (0 : Int64) = cW 0 from rfl, e1]
      exact OK.val (j := jn 0) rfl w1
    · rw [if_neg (by decide), if_pos (by decide)]
      exact OK.refuse (k := 1) hr (by omega) (by omega)
    · rw [if_neg (by decide), if_neg (by decide), if_pos (by decide)]
      exact OK.refuse (k := 1) hr (by omega) (by omega)
  · rw [jok_n] at hoa
    have hn : fR_number n 0 f (i3 v) o = some (cW z) := At.num (p := 0) ha hoa.1 hoa.2
    obtain ⟨r1, e1, w1⟩ := putNumber_w (n := n) hr (z.natAbs : Nat)
    rw [kd_n, if_neg (by decide), if_neg (by decide), if_neg (by decide), if_pos (by decide), hn, Option.bind_some, abs_cW (by omega) (by omega), e1]
    exact OK.val (j := jn (z.natAbs : Nat)) rfl w1
  · have hl := At.le ha
    have hn : fR_length n 0 f (i3 v) o = some (i3 s.length) := At.slen (p := 0) ha
    obtain ⟨r1, e1, w1⟩ := putNumber_w (n := n) hr (s.length : Nat)
    rw [kd_s, if_neg (by decide), if_neg (by decide), if_neg (by decide), if_neg (by decide), hn, Option.bind_some, i3_64 (by omega), e1]
    exact OK.val (j := jn (s.length : Nat)) rfl w1
  · have hl := ha.asz
    have hn : fR_length n 0 f (i3 v) o = some (i3 l.length) := ha.alen
    obtain ⟨r1, e1, w1⟩ := putNumber_w (n := n) hr (l.length : Nat)
    rw [kd_a, if_neg (by decide), if_neg (by decide), if_neg (by decide), if_neg (by decide), hn, Option.bind_some, i3_64 (by omega), e1]
    exact OK.val (j := jn (l.length : Nat)) rfl w1
  · have hl := ha.osz
    have hn : fR_length n 0 f (i3 v) o = some (i3 l.length) := ha.olen
    obtain ⟨r1, e1, w1⟩ := putNumber_w (n := n) hr (l.length : Nat)
    rw [kd_o, if_neg (by decide), if_neg (by decide), if_neg (by decide), if_neg (by decide), hn, Option.bind_some, i3_64 (by omega), e1]
    exact OK.val (j := jn (l.length : Nat)) rfl w1
/-- a list of values is closed -/
theorem fin_a {d : Nat} {r1 r2 : RS} {x0 : Int64} (h01 : Wr r [x0] r1) {l : List (JT d)} {w : List Int64} (hw : Wr r1 w r2) (hl : w = l.flatMap (jc d)) (hlen : l.length < 65536) : ∃ r3 : RS, fR_close n (i3 r1.2.1 - 1) 5 (i3 l.length) r2.1 (i3 r2.2.1) r2.2.2 = some r3.1 ∧ r3.2 = r2.2 ∧ Wr r (jc (d + 1) (ja l)) r3 := by
  obtain ⟨f3, e3, w3⟩ := close_w (n := n) (k := 5) (len := l.length) h01 hw (by omega) (fun _ => hlen)
  exact ⟨(f3, r2.2.1, r2.2.2), e3, rfl, by rw [jc_a, ← hl]; exact w3⟩
theorem fin_s {r1 r2 : RS} {x0 : Int64} (h01 : Wr r [x0] r1) {s : Sx} {w : List Int64} (hw : Wr r1 w r2) (hl : w = s.map (fun c => cW (c : Nat))) (hlen : s.length < 65536) : ∃ r3 : RS, fR_close n (i3 r1.2.1 - 1) 4 (i3 s.length) r2.1 (i3 r2.2.1) r2.2.2 = some r3.1 ∧ r3.2 = r2.2 ∧ Wr r (strc s) r3 := by
  obtain ⟨f3, e3, w3⟩ := close_w (n := n) (k := 4) (len := s.length) h01 hw (by omega) (fun _ => hlen)
  exact ⟨(f3, r2.2.1, r2.2.2), e3, rfl, by rw [strc_lst, ← hl]; exact w3⟩
theorem keysA_loop {l : List (JT (e + 1))} (ha : At f v 0 (jc (e + 2) (ja l))) (hoa : jok (e + 2) (ja l)) {r0 r1 : RS} {x0 : Int64} (h01 : Wr r0 [x0] r1) {y : Int32} : ∀ (m n i : Nat) (r2 : RS), i + m = l.length → Wr r1 (((List.range i).map (fun k => (jn (k : Nat) : JT (e + 1)))).flatMap (jc (e + 1))) r2 → m < n →
    ∃ r' : RS, fG_keys_b f (i3 v) o n 1 (i3 i) y (i3 r1.2.1 - 1) r2.1 (i3 r2.2.1) r2.2.2 = some (0, r'.1, i3 r'.2.1, r'.2.2) ∧ Wr r0 (jc (e + 2) (ja ((List.range l.length).map (fun k => (jn (k : Nat) : JT (e + 1)))))) r' := by
  have hsz := ha.asz
  have hlen : ∀ n, fR_length n 0 f (i3 v) o = some (i3 l.length) := fun n => ha.alen
  have his : ∀ n, fR_is n 0 5 f (i3 v) o = some 1 := fun n => At.isT (k := 5) (p := 0) ha hoa rfl
  intro m
  induction m with
  | zero =>
    intro n i r2 hi hw hn
    obtain ⟨n, rfl⟩ : ∃ j, n = j + 1 := ⟨n - 1, by omega⟩
    obtain rfl : i = l.length := by omega
    obtain ⟨r3, e3, e4, w3⟩ := fin_a (n := n) h01 hw rfl (by rw [List.length_map, List.length_range]; omega)
    rw [List.length_map, List.length_range] at e3
    refine ⟨r3, ?_, w3⟩
    rw [fG_keys_b, hlen, Option.bind_some, if_pos (by rw [i3_le (by omega) (by omega)]; omega), Option.bind_some, e3, Option.bind_some, e4]
  | succ m ih =>
    intro n i r2 hi hw hn
    obtain ⟨n, rfl⟩ : ∃ j, n = j + 1 := ⟨n - 1, by omega⟩
    obtain ⟨r3, e3, w3⟩ := putNumber_w (n := n) hw.v (i : Nat)
    rw [fG_keys_b, hlen, Option.bind_some, if_neg (by rw [i3_le (by omega) (by omega)]; omega), his, Option.bind_some, if_neg (by decide), i3_64 (by omega), e3, Option.bind_some, i3_one]
    refine ih n (i + 1) r3 (by omega) ?_ (by omega)
    rw [List.range_succ, List.map_append, List.flatMap_append]
    exact hw.app w3
theorem keysO_loop {l : List (Sx × JT (e + 1))} (ha : At f v 0 (jc (e + 2) (jo l))) (hoa : jok (e + 2) (jo l)) {r0 r1 : RS} {x0 : Int64} (h01 : Wr r0 [x0] r1) : ∀ (l' : List (Sx × JT (e + 1))) (n i q : Nat) (L : List (Sx × JT (e + 1))) (r2 : RS), L ++ l' = l → L.length = i → At f v q (l'.flatMap oc) → Wr r1 ((L.map (fun p => (js p.1 : JT (e + 1)))).flatMap (jc (e + 1))) r2 → l'.length < n →
    ∃ r' : RS, fG_keys_b f (i3 v) o n 1 (i3 i) (i3 q) (i3 r1.2.1 - 1) r2.1 (i3 r2.2.1) r2.2.2 = some (0, r'.1, i3 r'.2.1, r'.2.2) ∧ Wr r0 (jc (e + 2) (ja (l.map (fun p => (js p.1 : JT (e + 1)))))) r' := by
  have hsz := ha.osz
  have hlen : ∀ n, fR_length n 0 f (i3 v) o = some (i3 l.length) := fun n => ha.olen
  have his : ∀ n, fR_is n 0 5 f (i3 v) o = some 0 := fun n => At.isF (k := 5) (p := 0) ha hoa (by omega) (by rw [kd_o]; omega)
  intro l'
  induction l' with
  | nil =>
    intro n i q L r2 hL hi hat hw hn
    obtain ⟨n, rfl⟩ : ∃ j, n = j + 1 := ⟨n - 1, by omega⟩
    rw [List.append_nil] at hL
    subst hL
    obtain ⟨r3, e3, e4, w3⟩ := fin_a (n := n) h01 hw rfl (by rw [List.length_map]; omega)
    rw [List.length_map] at e3
    refine ⟨r3, ?_, w3⟩
    rw [fG_keys_b, hlen, Option.bind_some, if_pos (by rw [i3_le (by omega) (by omega)]; omega), Option.bind_some, e3, Option.bind_some, e4]
  | cons x l' ih =>
    intro n i q L r2 hL hi hat hw hn
    obtain ⟨n, rfl⟩ : ∃ j, n = j + 1 := ⟨n - 1, by omega⟩
    rw [List.length_cons] at hn
    have hll : l.length = L.length + (l'.length + 1) := by rw [← hL, List.length_append, List.length_cons]
    obtain ⟨at1, at2, at3⟩ := At.ocons hat
    have hx := (hoa.1 x (by rw [← hL]; simp)).2
    obtain ⟨r3, e3, w3⟩ := putCopyS_w (n := n) (o' := o) hw.v at1
    rw [fG_keys_b, hlen, Option.bind_some, if_neg (by rw [i3_le (by omega) (by omega)]; omega), his, Option.bind_some, if_pos (by decide), e3, Option.bind_some, at1.safter, Option.bind_some, at2.after hx, Option.bind_some, i3_one]
    refine ih n (i + 1) _ (L ++ [x]) r3 (by rw [← hL]; simp) (by simp; omega) at3 ?_ (by omega)
    rw [List.map_append, List.flatMap_append]
    have := hw.app w3
    simpa [jc_s] using this
theorem keys_w (hn : 5000 < n) {a : JT (e + 2)} (ha : At f v 0 (jc (e + 2) a)) (hoa : jok (e + 2) a) (hr : RV r) : OK r (fG_keys n f (i3 v) o r.1 (i3 r.2.1) r.2.2) (oKeys a) := by
  have i5 : fR_is n 0 5 f (i3 v) o = some (if kd (e + 2) a = 5 then 1 else 0) := At.is (p := 0) (k := 5) ha hoa (by omega)
  have i6 : fR_is n 0 6 f (i3 v) o = some (if kd (e + 2) a = 6 then 1 else 0) := At.is (p := 0) (k := 6) ha hoa (by omega)
  unfold fG_keys
  rw [i5, i6]
  by_cases h5 : kd (e + 2) a = 5
  · obtain ⟨l, rfl⟩ := kda hoa h5
    have hsz := ha.asz
    obtain ⟨r1, e1, w1⟩ := open_w (n := n) hr
    obtain ⟨r2, e2, w2⟩ := keysA_loop (o := o) (y := 1) ha hoa w1 l.length n 0 r1 (by omega) (Wr.nil w1.v) (by omega)
    rw [if_pos h5, Option.bind_some, if_neg (by decide), e1, Option.bind_some]
    exact OK.val e2 w2
  · rw [if_neg h5, Option.bind_some, if_pos (by decide), Option.bind_some]
    by_cases h6 : kd (e + 2) a = 6
    · obtain ⟨l, rfl⟩ := kdo hoa h6
      have hsz := ha.osz
      obtain ⟨r1, e1, w1⟩ := open_w (n := n) hr
      obtain ⟨r2, e2, w2⟩ := keysO_loop (o := o) ha hoa w1 l n 0 1 [] r1 rfl rfl ha.obody (Wr.nil w1.v) (by omega)
      rw [if_pos h6, if_neg (by decide), e1, Option.bind_some]
      exact OK.val e2 w2
    · rw [if_neg h6, if_pos (by decide)]
      have : oKeys a = .inl 1 := by
        unfold oKeys
        rcases jcases a with ⟨k, rfl⟩ | ⟨z, rfl⟩ | ⟨s, rfl⟩ | ⟨l, rfl⟩ | ⟨l, rfl⟩ <;> first | rfl | exact absurd rfl h5 | exact absurd rfl h6
      rw [this]
      exact OK.refuse (k := 1) hr (by omega) (by omega)
/-- the values at the turns, one behind another -/
theorem byT_cons {α : Type} {t : Nat} {T : List Nat} {l : List α} {x : α} (h : l[t]? = some x) : byT (t :: T) l = x :: byT T l := by
  unfold byT
  rw [List.filterMap_cons, h]
theorem byT_len {α : Type} {l : List α} : ∀ {T : List Nat}, (∀ t ∈ T, t < l.length) → (byT T l).length = T.length := by
  intro T
  induction T with
  | nil => intro _; rfl
  | cons t T ih =>
    intro h
    rw [byT_cons (List.getElem?_eq_getElem (h t (List.mem_cons_self ..))), List.length_cons, List.length_cons, ih (fun x hx => h x (List.mem_cons_of_mem _ hx))]
theorem byT_app {α : Type} {T U : List Nat} {l : List α} : byT (T ++ U) l = byT T l ++ byT U l := List.filterMap_append
theorem sorted_loop {d : Nat} {K : List (JT d)} (hK : K.length ≤ 2048) {w0 w1 f4 : Nat → Int32} (hk : keysAt f v w0 K) {T : List Nat} (hT : T.length = K.length) (hTl : ∀ t ∈ T, t < K.length) (s1 : seg w1 0 (T.map i3)) (hlen : ∀ n, fR_length n 0 f (i3 v) o = some (i3 K.length)) {r0 r1 : RS} {x0 : Int64} (h01 : Wr r0 [x0] r1) {w2 w4 : Nat} {w3 : Nat → Int32} : ∀ (T' : List Nat) (n i : Nat) (U : List Nat) (r2 : RS), U ++ T' = T → U.length = i → Wr r1 ((byT U K).flatMap (jc d)) r2 → T'.length < n →
    ∃ r' : RS, fG_sorted_b fu f (i3 v) o f4 n 1 (i3 i) (i3 r1.2.1 - 1) w0 w1 w2 w3 w4 (i3 K.length) r2.1 (i3 r2.2.1) r2.2.2 = some (0, w0, w1, w2, w3, w4, i3 K.length, r'.1, i3 r'.2.1, r'.2.2) ∧ Wr r0 (jc (d + 1) (ja (byT T K))) r' := by
  intro T'
  induction T' with
  | nil =>
    intro n i U r2 hU hi hw hn
    obtain ⟨n, rfl⟩ : ∃ j, n = j + 1 := ⟨n - 1, by omega⟩
    rw [List.append_nil] at hU
    subst hU
    have hbl := byT_len (l := K) hTl
    obtain ⟨r3, e3, e4, w3'⟩ := fin_a (n := n) h01 hw rfl (by omega)
    rw [hbl, hT] at e3
    refine ⟨r3, ?_, w3'⟩
    rw [fG_sorted_b, hlen, Option.bind_some, if_pos (by rw [i3_le (by omega) (by omega)]; omega), Option.bind_some, e3, Option.bind_some, e4]
  | cons t T' ih =>
    intro n i U r2 hU hi hw hn
    obtain ⟨n, rfl⟩ : ∃ j, n = j + 1 := ⟨n - 1, by omega⟩
    rw [List.length_cons] at hn
    have hTL : T.length = U.length + (T'.length + 1) := by rw [← hU, List.length_append, List.length_cons]
    have ht : t < K.length := hTl t (by rw [← hU]; simp)
    have hti : w1 i = i3 t := by
      have := s1 i (i3 t) (by rw [← hU, List.map_append, List.getElem?_append_right (by rw [List.length_map]; omega), List.length_map, hi]; simp)
      rwa [Nat.zero_add] at this
    obtain ⟨p, ep, ap, op, _⟩ := kat (n := n) (i := 0) (f1 := f4) (f5 := w3) (p2 := w2) (p4 := w4) hk rfl hK rfl (k := i) (x := t) (j := K[t]) (by omega) hti (List.getElem?_eq_getElem ht)
    obtain ⟨r3, e3, w3'⟩ := putCopy_w (n := n) (o' := o) hw.v ap op
    rw [fG_sorted_b, hlen, Option.bind_some, if_neg (by rw [i3_le (by omega) (by omega)]; omega), ep, Option.bind_some, e3, Option.bind_some, i3_one]
    refine ih n (i + 1) (U ++ [t]) r3 (by rw [← hU]; simp) (by simp; omega) ?_ (by omega)
    rw [byT_app, List.flatMap_append, byT_cons (List.getElem?_eq_getElem ht)]
    have := hw.app w3'
    simpa [byT] using this
end SI
