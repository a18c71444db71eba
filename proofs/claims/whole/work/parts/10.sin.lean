section ZSing27
/-! ===== what one makes ===== -/
def oLen {e : Nat} (a : JT (e + 1)) : Nat ⊕ JT (e + 1) :=
  match a with
  | .inl (.inl k) => if k = 0 then .inr (jn 0) else .inl 1
  | .inl (.inr (.inl z)) => .inr (jn (z.natAbs : Nat))
  | .inl (.inr (.inr s)) => .inr (jn (s.length : Nat))
  | .inr (.inl l) => .inr (jn (l.length : Nat))
  | .inr (.inr l) => .inr (jn (l.length : Nat))
def oKeys {e : Nat} (a : JT (e + 2)) : Nat ⊕ JT (e + 2) :=
  match a with
  | .inr (.inl l) => .inr (ja ((List.range l.length).map (fun k => (jn (k : Nat) : JT (e + 1)))))
  | .inr (.inr l) => .inr (ja (l.map (fun p => (js p.1 : JT (e + 1)))))
  | _ => .inl 1
/-- in the order of the turns -/
def byT {α : Type} (T : List Nat) (l : List α) : List α := T.filterMap (fun i => l[i]?)
def oSortK {e : Nat} (a : JT (e + 2)) : Nat ⊕ JT (e + 2) :=
  match a with
  | .inr (.inr l) => .inr (ja ((byT (tn (l.map (fun x => (js x.1 : JT 1)))) l).map (fun p => (js p.1 : JT (e + 1)))))
  | a => oKeys a
def oSort {e : Nat} (a : JT (e + 1)) : Nat ⊕ JT (e + 1) :=
  match a with
  | .inr (.inl l) => .inr (ja (byT (tn l) l))
  | _ => .inl 1
def oRev {e : Nat} (a : JT (e + 1)) : Nat ⊕ JT (e + 1) :=
  match a with
  | .inl (.inl k) => if k = 0 then .inr (ja []) else .inl 1
  | .inl (.inr (.inr s)) => .inr (js s.reverse)
  | .inr (.inl l) => .inr (ja l.reverse)
  | _ => .inl 1
def oExp {e : Nat} (a : JT (e + 2)) : Nat ⊕ JT (e + 2) :=
  match a with
  | .inl (.inr (.inr s)) => .inr (ja (s.map (fun c => (jn (c : Nat) : JT (e + 1)))))
  | _ => .inl 1
def numOf : (e : Nat) → JT e → Option Int
  | 0, j => Empty.elim j
  | _ + 1, .inl (.inr (.inl z)) => some z
  | _ + 1, _ => none
def oImp {e : Nat} (a : JT (e + 1)) : Nat ⊕ JT (e + 1) :=
  match a with
  | .inr (.inl l) => if l.all (fun x => (numOf e x).isSome) then (if (l.filterMap (numOf e)).all (fun z => decide (0 ≤ z ∧ z ≤ 127)) then .inr (js ((l.filterMap (numOf e)).map Int.toNat)) else .inl 2) else .inl 1
  | _ => .inl 1
def lowC (c : Nat) : Nat := if 65 ≤ c ∧ c < 91 then c + 32 else c
def upC (c : Nat) : Nat := if 97 ≤ c ∧ c < 123 then c - 32 else c
def oCase {e : Nat} (g : Nat → Nat) (a : JT (e + 1)) : Nat ⊕ JT (e + 1) :=
  match a with
  | .inl (.inr (.inr s)) => .inr (js (s.map g))
  | _ => .inl 1
section SI
variable {f : Nat → Int64} {v e : Nat} {o : Int32} {n fu : Nat} {r : RS}
theorem length_w {a : JT (e + 1)} (ha : At f v 0 (jc (e + 1) a)) (hoa : jok (e + 1) a) (hr : RV r) : OK r (fG_length n f (i3 v) o r.1 (i3 r.2.1) r.2.2) (oLen a) := by
  have hk : fR_kind n 0 f (i3 v) o = some (i3 (kd (e + 1) a)) := ha.kind hoa
  unfold fG_length
  rw [hk, Option.bind_some]
  rcases jcases a with ⟨k, rfl⟩ | ⟨z, rfl⟩ | ⟨s, rfl⟩ | ⟨l, rfl⟩ | ⟨l, rfl⟩
  · rw [jok_k] at hoa
    rw [kd_k]
    obtain rfl | rfl | rfl : k = 0 ∨ k = 1 ∨ k = 2 := by omega
    · obtain ⟨r1, e1, w1⟩ := putNumber_w (n := n) hr 0
      rw [if_pos (by decide), show (0 : Int64) = cW 0 from rfl, e1]
      exact OK.val (j := jn 0) rfl w1
    · rw [if_neg (by decide), if_pos (by decide)]
      exact OK.refuse (k := 1) hr (by omega) (by omega)
    · rw [if_neg (by decide), if_neg (by decide), if_pos (by decide)]
      exact OK.refuse (k := 1) hr (by omega) (by omega)
  · rw [jok_n] at hoa
    have hn : fR_number n 0 f (i3 v) o = some (cW z) := At.num (p := 0) ha hoa.1 hoa.2
    obtain ⟨r1, e1, w1⟩ := putNumber_w (n := n) hr (z.natAbs : Nat)
    rw [kd_n, if_neg (by decide), if_neg (by decide), if_neg (by decide), if_pos (by decide), hn, Option.bind_some, abs_cW (by omega) (by omega), e1]
    exact OK.val (j := jn (z.natAbs : Nat)) rfl w1
  · have hl := At.le ha
    have hn : fR_length n 0 f (i3 v) o = some (i3 s.length) := At.slen (p := 0) ha
    obtain ⟨r1, e1, w1⟩ := putNumber_w (n := n) hr (s.length : Nat)
    rw [kd_s, if_neg (by decide), if_neg (by decide), if_neg (by decide), if_neg (by decide), hn, Option.bind_some, i3_64 (by omega), e1]
    exact OK.val (j := jn (s.length : Nat)) rfl w1
  · have hl := ha.asz
    have hn : fR_length n 0 f (i3 v) o = some (i3 l.length) := ha.alen
    obtain ⟨r1, e1, w1⟩ := putNumber_w (n := n) hr (l.length : Nat)
    rw [kd_a, if_neg (by decide), if_neg (by decide), if_neg (by decide), if_neg (by decide), hn, Option.bind_some, i3_64 (by omega), e1]
    exact OK.val (j := jn (l.length : Nat)) rfl w1
  · have hl := ha.osz
    have hn : fR_length n 0 f (i3 v) o = some (i3 l.length) := ha.olen
    obtain ⟨r1, e1, w1⟩ := putNumber_w (n := n) hr (l.length : Nat)
    rw [kd_o, if_neg (by decide), if_neg (by decide), if_neg (by decide), if_neg (by decide), hn, Option.bind_some, i3_64 (by omega), e1]
    exact OK.val (j := jn (l.length : Nat)) rfl w1
/-- a list of values is closed -/
theorem fin_a {d : Nat} {r1 r2 : RS} {x0 : Int64} (h01 : Wr r [x0] r1) {l : List (JT d)} {w : List Int64} (hw : Wr r1 w r2) (hl : w = l.flatMap (jc d)) (hlen : l.length < 65536) : ∃ r3 : RS, fR_close n (i3 r1.2.1 - 1) 5 (i3 l.length) r2.1 (i3 r2.2.1) r2.2.2 = some r3.1 ∧ r3.2 = r2.2 ∧ Wr r (jc (d + 1) (ja l)) r3 := by
  obtain ⟨f3, e3, w3⟩ := close_w (n := n) (k := 5) (len := l.length) h01 hw (by omega) (fun _ => hlen)
  exact ⟨(f3, r2.2.1, r2.2.2), e3, rfl, by rw [jc_a, ← hl]; exact w3⟩
theorem fin_s {r1 r2 : RS} {x0 : Int64} (h01 : Wr r [x0] r1) {s : Sx} {w : List Int64} (hw : Wr r1 w r2) (hl : w = s.map (fun c => cW (c : Nat))) (hlen : s.length < 65536) : ∃ r3 : RS, fR_close n (i3 r1.2.1 - 1) 4 (i3 s.length) r2.1 (i3 r2.2.1) r2.2.2 = some r3.1 ∧ r3.2 = r2.2 ∧ Wr r (strc s) r3 := by
  obtain ⟨f3, e3, w3⟩ := close_w (n := n) (k := 4) (len := s.length) h01 hw (by omega) (fun _ => hlen)
  exact ⟨(f3, r2.2.1, r2.2.2), e3, rfl, by rw [strc_lst, ← hl]; exact w3⟩
theorem keysA_loop {l : List (JT (e + 1))} (ha : At f v 0 (jc (e + 2) (ja l))) (hoa : jok (e + 2) (ja l)) {r0 r1 : RS} {x0 : Int64} (h01 : Wr r0 [x0] r1) {y : Int32} : ∀ (m n i : Nat) (r2 : RS), i + m = l.length → Wr r1 (((List.range i).map (fun k => (jn (k : Nat) : JT (e + 1)))).flatMap (jc (e + 1))) r2 → m < n →
    ∃ r' : RS, fG_keys_b f (i3 v) o n 1 (i3 i) y (i3 r1.2.1 - 1) r2.1 (i3 r2.2.1) r2.2.2 = some (0, r'.1, i3 r'.2.1, r'.2.2) ∧ Wr r0 (jc (e + 2) (ja ((List.range l.length).map (fun k => (jn (k : Nat) : JT (e + 1)))))) r' := by
  have hsz := ha.asz
  have hlen : ∀ n, fR_length n 0 f (i3 v) o = some (i3 l.length) := fun n => ha.alen
  have his : ∀ n, fR_is n 0 5 f (i3 v) o = some 1 := fun n => At.isT (k := 5) (p := 0) ha hoa rfl
  intro m
  induction m with
  | zero =>
    intro n i r2 hi hw hn
    obtain ⟨n, rfl⟩ : ∃ j, n = j + 1 := ⟨n - 1, by omega⟩
    obtain rfl : i = l.length := by omega
    obtain ⟨r3, e3, e4, w3⟩ := fin_a (n := n) h01 hw rfl (by rw [List.length_map, List.length_range]; omega)
    rw [List.length_map, List.length_range] at e3
    refine ⟨r3, ?_, w3⟩
    rw [fG_keys_b, hlen, Option.bind_some, if_pos (by rw [i3_le (by omega) (by omega)]; omega), Option.bind_some, e3, Option.bind_some, e4]
  | succ m ih =>
    intro n i r2 hi hw hn
    obtain ⟨n, rfl⟩ : ∃ j, n = j + 1 := ⟨n - 1, by omega⟩
    obtain ⟨r3, e3, w3⟩ := putNumber_w (n := n) hw.v (i : Nat)
    rw [fG_keys_b, hlen, Option.bind_some, if_neg (by rw [i3_le (by omega) (by omega)]; omega), his, Option.bind_some, if_neg (by decide), i3_64 (by omega), e3, Option.bind_some, i3_one]
    refine ih n (i + 1) r3 (by omega) ?_ (by omega)
    rw [List.range_succ, List.map_append, List.flatMap_append]
    exact hw.app w3
theorem keysO_loop {l : List (Sx × JT (e + 1))} (ha : At f v 0 (jc (e + 2) (jo l))) (hoa : jok (e + 2) (jo l)) {r0 r1 : RS} {x0 : Int64} (h01 : Wr r0 [x0] r1) : ∀ (l' : List (Sx × JT (e + 1))) (n i q : Nat) (L : List (Sx × JT (e + 1))) (r2 : RS), L ++ l' = l → L.length = i → At f v q (l'.flatMap oc) → Wr r1 ((L.map (fun p => (js p.1 : JT (e + 1)))).flatMap (jc (e + 1))) r2 → l'.length < n →
    ∃ r' : RS, fG_keys_b f (i3 v) o n 1 (i3 i) (i3 q) (i3 r1.2.1 - 1) r2.1 (i3 r2.2.1) r2.2.2 = some (0, r'.1, i3 r'.2.1, r'.2.2) ∧ Wr r0 (jc (e + 2) (ja (l.map (fun p => (js p.1 : JT (e + 1)))))) r' := by
  have hsz := ha.osz
  have hlen : ∀ n, fR_length n 0 f (i3 v) o = some (i3 l.length) := fun n => ha.olen
  have his : ∀ n, fR_is n 0 5 f (i3 v) o = some 0 := fun n => At.isF (k := 5) (p := 0) ha hoa (by omega) (by rw [kd_o]; omega)
  intro l'
  induction l' with
  | nil =>
    intro n i q L r2 hL hi hat hw hn
    obtain ⟨n, rfl⟩ : ∃ j, n = j + 1 := ⟨n - 1, by omega⟩
    rw [List.append_nil] at hL
    subst hL
    obtain ⟨r3, e3, e4, w3⟩ := fin_a (n := n) h01 hw rfl (by rw [List.length_map]; omega)
    rw [List.length_map] at e3
    refine ⟨r3, ?_, w3⟩
    rw [fG_keys_b, hlen, Option.bind_some, if_pos (by rw [i3_le (by omega) (by omega)]; omega), Option.bind_some, e3, Option.bind_some, e4]
  | cons x l' ih =>
    intro n i q L r2 hL hi hat hw hn
    obtain ⟨n, rfl⟩ : ∃ j, n = j + 1 := ⟨n - 1, by omega⟩
    rw [List.length_cons] at hn
    have hll : l.length = L.length + (l'.length + 1) := by rw [← hL, List.length_append, List.length_cons]
    obtain ⟨at1, at2, at3⟩ := At.ocons hat
    have hx := (hoa.1 x (by rw [← hL]; simp)).2
    obtain ⟨r3, e3, w3⟩ := putCopyS_w (n := n) (o' := o) hw.v at1
    rw [fG_keys_b, hlen, Option.bind_some, if_neg (by rw [i3_le (by omega) (by omega)]; omega), his, Option.bind_some, if_pos (by decide), e3, Option.bind_some, at1.safter, Option.bind_some, at2.after hx, Option.bind_some, i3_one]
    refine ih n (i + 1) _ (L ++ [x]) r3 (by rw [← hL]; simp) (by simp; omega) at3 ?_ (by omega)
    rw [List.map_append, List.flatMap_append]
    have := hw.app w3
    simpa [jc_s] using this
theorem keys_w (hn : 5000 < n) {a : JT (e + 2)} (ha : At f v 0 (jc (e + 2) a)) (hoa : jok (e + 2) a) (hr : RV r) : OK r (fG_keys n f (i3 v) o r.1 (i3 r.2.1) r.2.2) (oKeys a) := by
  have i5 : fR_is n 0 5 f (i3 v) o = some (if kd (e + 2) a = 5 then 1 else 0) := At.is (p := 0) (k := 5) ha hoa (by omega)
  have i6 : fR_is n 0 6 f (i3 v) o = some (if kd (e + 2) a = 6 then 1 else 0) := At.is (p := 0) (k := 6) ha hoa (by omega)
  unfold fG_keys
  rw [i5, i6]
  by_cases h5 : kd (e + 2) a = 5
  · obtain ⟨l, rfl⟩ := kda hoa h5
    have hsz := ha.asz
    obtain ⟨r1, e1, w1⟩ := open_w (n := n) hr
    obtain ⟨r2, e2, w2⟩ := keysA_loop (o := o) (y := 1) ha hoa w1 l.length n 0 r1 (by omega) (Wr.nil w1.v) (by omega)
    rw [if_pos h5, Option.bind_some, if_neg (by decide), e1, Option.bind_some]
    exact OK.val e2 w2
  · rw [if_neg h5, Option.bind_some, if_pos (by decide), Option.bind_some]
    by_cases h6 : kd (e + 2) a = 6
    · obtain ⟨l, rfl⟩ := kdo hoa h6
      have hsz := ha.osz
      obtain ⟨r1, e1, w1⟩ := open_w (n := n) hr
      obtain ⟨r2, e2, w2⟩ := keysO_loop (o := o) ha hoa w1 l n 0 1 [] r1 rfl rfl ha.obody (Wr.nil w1.v) (by omega)
      rw [if_pos h6, if_neg (by decide), e1, Option.bind_some]
      exact OK.val e2 w2
    · rw [if_neg h6, if_pos (by decide)]
      have : oKeys a = .inl 1 := by
        unfold oKeys
        rcases jcases a with ⟨k, rfl⟩ | ⟨z, rfl⟩ | ⟨s, rfl⟩ | ⟨l, rfl⟩ | ⟨l, rfl⟩ <;> first | rfl | exact absurd rfl h5 | exact absurd rfl h6
      rw [this]
      exact OK.refuse (k := 1) hr (by omega) (by omega)
/-- the values at the turns, one behind another -/
theorem byT_cons {α : Type} {t : Nat} {T : List Nat} {l : List α} {x : α} (h : l[t]? = some x) : byT (t :: T) l = x :: byT T l := by
  unfold byT
  rw [List.filterMap_cons, h]
theorem byT_len {α : Type} {l : List α} : ∀ {T : List Nat}, (∀ t ∈ T, t < l.length) → (byT T l).length = T.length := by
  intro T
  induction T with
  | nil => intro _; rfl
  | cons t T ih =>
    intro h
    rw [byT_cons (List.getElem?_eq_getElem (h t (List.mem_cons_self ..))), List.length_cons, List.length_cons, ih (fun x hx => h x (List.mem_cons_of_mem _ hx))]
theorem byT_app {α : Type} {T U : List Nat} {l : List α} : byT (T ++ U) l = byT T l ++ byT U l := List.filterMap_append
theorem sorted_loop {d : Nat} {K : List (JT d)} (hK : K.length ≤ 2048) {w0 w1 f4 : Nat → Int32} (hk : keysAt f v w0 K) {T : List Nat} (hT : T.length = K.length) (hTl : ∀ t ∈ T, t < K.length) (s1 : seg w1 0 (T.map i3)) (hlen : ∀ n, fR_length n 0 f (i3 v) o = some (i3 K.length)) {r0 r1 : RS} {x0 : Int64} (h01 : Wr r0 [x0] r1) {w2 w4 : Nat} {w3 : Nat → Int32} : ∀ (T' : List Nat) (n i : Nat) (U : List Nat) (r2 : RS), U ++ T' = T → U.length = i → Wr r1 ((byT U K).flatMap (jc d)) r2 → T'.length < n →
    ∃ r' : RS, fG_sorted_b fu f (i3 v) o f4 n 1 (i3 i) (i3 r1.2.1 - 1) w0 w1 w2 w3 w4 (i3 K.length) r2.1 (i3 r2.2.1) r2.2.2 = some (0, w0, w1, w2, w3, w4, i3 K.length, r'.1, i3 r'.2.1, r'.2.2) ∧ Wr r0 (jc (d + 1) (ja (byT T K))) r' := by
  intro T'
  induction T' with
  | nil =>
    intro n i U r2 hU hi hw hn
    obtain ⟨n, rfl⟩ : ∃ j, n = j + 1 := ⟨n - 1, by omega⟩
    rw [List.append_nil] at hU
    subst hU
    have hbl := byT_len (l := K) hTl
    obtain ⟨r3, e3, e4, w3'⟩ := fin_a (n := n) h01 hw rfl (by omega)
    rw [hbl, hT] at e3
    refine ⟨r3, ?_, w3'⟩
    rw [fG_sorted_b, hlen, Option.bind_some, if_pos (by rw [i3_le (by omega) (by omega)]; omega), Option.bind_some, e3, Option.bind_some, e4]
  | cons t T' ih =>
    intro n i U r2 hU hi hw hn
    obtain ⟨n, rfl⟩ : ∃ j, n = j + 1 := ⟨n - 1, by omega⟩
    rw [List.length_cons] at hn
    have hTL : T.length = U.length + (T'.length + 1) := by rw [← hU, List.length_append, List.length_cons]
    have ht : t < K.length := hTl t (by rw [← hU]; simp)
    have hti : w1 i = i3 t := by
      have := s1 i (i3 t) (by rw [← hU, List.map_append, List.getElem?_append_right (by rw [List.length_map]; omega), List.length_map, hi]; simp)
      rwa [Nat.zero_add] at this
    obtain ⟨p, ep, ap, op, _⟩ := kat (n := n) (i := 0) (f1 := f4) (f5 := w3) (p2 := w2) (p4 := w4) hk rfl hK rfl (k := i) (x := t) (j := K[t]) (by omega) hti (List.getElem?_eq_getElem ht)
    obtain ⟨r3, e3, w3'⟩ := putCopy_w (n := n) (o' := o) hw.v ap op
    rw [fG_sorted_b, hlen, Option.bind_some, if_neg (by rw [i3_le (by omega) (by omega)]; omega), ep, Option.bind_some, e3, Option.bind_some, i3_one]
    refine ih n (i + 1) (U ++ [t]) r3 (by rw [← hU]; simp) (by simp; omega) ?_ (by omega)
    rw [byT_app, List.flatMap_append, byT_cons (List.getElem?_eq_getElem ht)]
    have := hw.app w3'
    simpa [byT] using this
end SI
end ZSing27
section ZSinb28
theorem byT_map {α β : Type} {T : List Nat} {l : List α} {g : α → β} : byT T (l.map g) = (byT T l).map g := by
  unfold byT
  rw [List.map_filterMap]
  congr 1
  funext i
  rw [List.getElem?_map]
section SB
variable {f : Nat → Int64} {v e : Nat} {o : Int32} {n fu : Nat} {r : RS} {f3 f4 f6 f8 : Nat → Int32} {p5 p7 : Nat} {v9 : Int32}
theorem jcs_map {d d' : Nat} {l : List Sx} : jc (d + 2) (ja (l.map (fun s => (js s : JT (d + 1))))) = jc (d' + 2) (ja (l.map (fun s => (js s : JT (d' + 1))))) := by
  rw [jc_a, jc_a, List.length_map, List.length_map, List.flatMap_map, List.flatMap_map]
  rfl
theorem sortedA_w (hn : 100000 < n) (hfu : e ≤ fu) (he : e ≤ 1000) {l : List (JT e)} (ha : At f v 0 (jc (e + 1) (ja l))) (hoa : jok (e + 1) (ja l)) (hl : l.length ≤ 2048) (hjd : ∀ x ∈ l, jd e x ≤ 60) (hr : RV r) : ∃ w0 w1 w2 w3 w4 v', ∃ r' : RS, fG_sorted fu n f (i3 v) o f3 f4 p5 f6 p7 f8 v9 r.1 (i3 r.2.1) r.2.2 = some (0, w0, w1, w2, w3, w4, v', r'.1, i3 r'.2.1, r'.2.2) ∧ Wr r (jc (e + 1) (ja (byT (tn l) l))) r' := by
  obtain ⟨r1, e1, w1⟩ := open_w (n := n) hr
  obtain ⟨k0, k1, k2, k3, k4, e2, hk, s1⟩ := arrange_a (n := n) (o := o) (f0 := f3) (f1 := f4) (f3 := f6) (f5 := f8) (p2 := p5) (p4 := p7) (v6 := v9) hfu he ha hoa hl hn hjd
  obtain ⟨r2, e3, w3⟩ := sorted_loop (fu := fu) (o := o) (f4 := f4) (w2 := k2) (w3 := k3) (w4 := k4) hl hk (tn_len l) (fun t ht => tn_lt ht) s1 (fun n => ha.alen) w1 (tn l) n 0 [] r1 rfl rfl (Wr.nil w1.v) (by rw [tn_len]; omega)
  refine ⟨k0, k1, k2, k3, k4, i3 l.length, r2, ?_, w3⟩
  have e2' : fS_arrange fu n 0 f3 f4 p5 f6 p7 f8 v9 f (i3 v) o = some (k0, k1, k2, k3, k4, i3 l.length) := e2
  unfold fG_sorted
  rw [e1, Option.bind_some, e2', Option.bind_some]
  exact e3
theorem sortedO_w (hn : 100000 < n) (hfu : 1 ≤ fu) {l : List (Sx × JT (e + 1))} (ha : At f v 0 (jc (e + 2) (jo l))) (hoa : jok (e + 2) (jo l)) (hl : l.length ≤ 2048) (hr : RV r) : ∃ w0 w1 w2 w3 w4 v', ∃ r' : RS, fG_sorted fu n f (i3 v) o f3 f4 p5 f6 p7 f8 v9 r.1 (i3 r.2.1) r.2.2 = some (0, w0, w1, w2, w3, w4, v', r'.1, i3 r'.2.1, r'.2.2) ∧ Wr r (jc (e + 2) (ja ((byT (tn (l.map (fun x => (js x.1 : JT 1)))) l).map (fun p => (js p.1 : JT (e + 1)))))) r' := by
  obtain ⟨r1, e1, w1⟩ := open_w (n := n) hr
  obtain ⟨k0, k1, k2, k3, k4, e2, hk, s1⟩ := arrange_o (n := n) (o := o) (f0 := f3) (f1 := f4) (f3 := f6) (f5 := f8) (p2 := p5) (p4 := p7) (v6 := v9) hfu ha hoa hl hn
  have hKl : (l.map (fun x => (js x.1 : JT 1))).length = l.length := List.length_map _
  obtain ⟨r2, e3, w3⟩ := sorted_loop (fu := fu) (o := o) (f4 := f4) (w2 := k2) (w3 := k3) (w4 := k4) (K := l.map (fun x => (js x.1 : JT 1))) (by omega) hk (tn_len _) (fun t ht => tn_lt ht) s1 (fun n => by rw [hKl]; exact ha.olen) w1 (tn (l.map (fun x => (js x.1 : JT 1)))) n 0 [] r1 rfl rfl (Wr.nil w1.v) (by rw [tn_len]; omega)
  refine ⟨k0, k1, k2, k3, k4, i3 l.length, r2, ?_, ?_⟩
  · have e2' : fS_arrange fu n 0 f3 f4 p5 f6 p7 f8 v9 f (i3 v) o = some (k0, k1, k2, k3, k4, i3 l.length) := e2
    unfold fG_sorted
    rw [e1, Option.bind_some, e2', Option.bind_some]
    rw [hKl] at e3
    exact e3
  · rw [byT_map] at w3
    have := jcs_map (d := 0) (d' := e) (l := (byT (tn (l.map (fun x => (js x.1 : JT 1)))) l).map (fun p => p.1))
    rw [List.map_map, List.map_map] at this
    rw [show ((fun s => (js s : JT (0 + 1))) ∘ fun p : Sx × JT (e + 1) => p.1) = (fun x => (js x.1 : JT 1)) from rfl, show ((fun s => (js s : JT (e + 1))) ∘ fun p : Sx × JT (e + 1) => p.1) = (fun p => (js p.1 : JT (e + 1))) from rfl] at this
    rw [← this]
    exact w3
/-! reversed -/
theorem i3_dn (k : Nat) : i3 k + (-1) = i3 k - 1 := (Int32.sub_eq_add_neg _ _).symm
theorem revS_loop {s : Sx} (hs : sok s) (ha : At f v 0 (strc s)) {r0 r1 : RS} {x0 : Int64} (h01 : Wr r0 [x0] r1) : ∀ (k n : Nat) (w : List Int64) (r2 : RS), k ≤ s.length → Wr r1 w r2 → w = ((s.drop k).reverse).map (fun c => cW (c : Nat)) → k + 1 < n →
    ∃ r' : RS, fG_putReversedString_b f (i3 v) o n 1 (i3 k - 1) (i3 r1.2.1 - 1) r2.1 (i3 r2.2.1) r2.2.2 = some (r'.1, i3 r'.2.1, r'.2.2) ∧ Wr r0 (strc s.reverse) r' := by
  have hl := ha.le
  have hlen : ∀ n, fR_length n 0 f (i3 v) o = some (i3 s.length) := fun n => ha.slen
  intro k
  induction k with
  | zero =>
    intro n w r2 _ hw he hn
    obtain ⟨n, rfl⟩ : ∃ j, n = j + 1 := ⟨n - 1, by omega⟩
    rw [List.drop_zero] at he
    obtain ⟨r3, e3, e4, w3⟩ := fin_s (n := n) h01 hw he (by rw [List.length_reverse]; omega)
    rw [List.length_reverse] at e3
    refine ⟨r3, ?_, w3⟩
    rw [fG_putReversedString_b, if_pos (by decide), hlen, Option.bind_some, e3, Option.bind_some, e4]
  | succ k ih =>
    intro n w r2 hk hw he hn
    obtain ⟨n, rfl⟩ : ∃ j, n = j + 1 := ⟨n - 1, by omega⟩
    have hcd : fR_code n 0 (i3 k) f (i3 v) o = some (i3 (s[k]'(by omega))) := At.scode (p := 0) ha (by omega)
    have hdr : s.drop k = s[k]'(by omega) :: s.drop (k + 1) := List.drop_eq_getElem_cons (by omega)
    obtain ⟨r3, e3, w3⟩ := put_w (n := n) hw.v (cW (s[k]'(by omega) : Nat))
    obtain ⟨r4, e4, w4⟩ := ih n _ r3 (by omega) (hw.app w3) (by rw [he, hdr, List.reverse_cons, List.map_append]; rfl) (by omega)
    refine ⟨r4, ?_, w4⟩
    have hbig : s[k]'(by omega) < 128 := hs _ (List.getElem_mem _)
    rw [fG_putReversedString_b, i3_pred (by omega), Nat.add_sub_cancel, if_neg (i3_nn (by omega)), hcd, Option.bind_some, i3_64 (by omega), e3, Option.bind_some, i3_dn]
    exact e4
theorem revA_loop {l : List (JT e)} (ha : At f v 0 (jc (e + 1) (ja l))) (hoa : jok (e + 1) (ja l)) (hl : l.length ≤ 2048) {w0 w1 : Nat → Int32} (hk : keysAt f v w0 l) (s1 : seg w1 0 ((List.range l.length).map i3)) {r0 r1 : RS} {x0 : Int64} (h01 : Wr r0 [x0] r1) : ∀ (k n : Nat) (w : List Int64) (r2 : RS), k ≤ l.length → Wr r1 w r2 → w = ((l.drop k).reverse).flatMap (jc e) → k + 1 < n →
    ∃ r' : RS, fG_putReversedArray_b f (i3 v) o f4 p5 p7 f8 n 1 (i3 k - 1) (i3 r1.2.1 - 1) w0 w1 (i3 l.length) r2.1 (i3 r2.2.1) r2.2.2 = some (w0, w1, i3 l.length, r'.1, i3 r'.2.1, r'.2.2) ∧ Wr r0 (jc (e + 1) (ja l.reverse)) r' := by
  have hsz := ha.asz
  have hlen : ∀ n, fR_length n 0 f (i3 v) o = some (i3 l.length) := fun n => ha.alen
  intro k
  induction k with
  | zero =>
    intro n w r2 _ hw he hn
    obtain ⟨n, rfl⟩ : ∃ j, n = j + 1 := ⟨n - 1, by omega⟩
    rw [List.drop_zero] at he
    obtain ⟨r3, e3, e4, w3⟩ := fin_a (n := n) h01 hw he (by rw [List.length_reverse]; omega)
    rw [List.length_reverse] at e3
    refine ⟨r3, ?_, w3⟩
    rw [fG_putReversedArray_b, if_pos (by decide), hlen, Option.bind_some, e3, Option.bind_some, e4]
  | succ k ih =>
    intro n w r2 hk2 hw he hn
    obtain ⟨n, rfl⟩ : ∃ j, n = j + 1 := ⟨n - 1, by omega⟩
    have hdr : l.drop k = l[k]'(by omega) :: l.drop (k + 1) := List.drop_eq_getElem_cons (by omega)
    have hti : w1 k = i3 k := by
      have := s1 k (i3 k) (by rw [List.getElem?_map, List.getElem?_range (by omega)]; rfl)
      rwa [Nat.zero_add] at this
    obtain ⟨p, ep, ap, op, _⟩ := kat (n := n) (i := 0) (f1 := f4) (f5 := f8) (p2 := p5) (p4 := p7) hk rfl hl rfl (k := k) (x := k) (j := l[k]'(by omega)) (by omega) hti (List.getElem?_eq_getElem (by omega))
    obtain ⟨r3, e3, w3⟩ := putCopy_w (n := n) (o' := o) hw.v ap op
    obtain ⟨r4, e4, w4⟩ := ih n _ r3 (by omega) (hw.app w3) (by rw [he, hdr, List.reverse_cons, List.flatMap_append]; simp) (by omega)
    refine ⟨r4, ?_, w4⟩
    rw [fG_putReversedArray_b, i3_pred (by omega), Nat.add_sub_cancel, if_neg (i3_nn (by omega)), ep, Option.bind_some, e3, Option.bind_some, i3_dn]
    exact e4
theorem reversed_w (hn : 10000 < n) {a : JT (e + 1)} (ha : At f v 0 (jc (e + 1) a)) (hoa : jok (e + 1) a) (hl : ∀ l, a = ja l → l.length ≤ 2048 ∧ ∀ x ∈ l, jd e x ≤ 60) (hr : RV r) : ∃ (c : Nat) (a1 a2 : Nat → Int32) (a3 : Int32), ∃ r' : RS, fG_reversed n f (i3 v) o f3 f4 p5 f6 p7 f8 v9 r.1 (i3 r.2.1) r.2.2 = some (i3 c, a1, a2, a3, r'.1, i3 r'.2.1, r'.2.2) ∧ OK r (some (i3 c, r'.1, i3 r'.2.1, r'.2.2)) (oRev a) := by
  have hk : fR_kind n 0 f (i3 v) o = some (i3 (kd (e + 1) a)) := ha.kind hoa
  have hk8 := kd_lt8 hoa
  unfold fG_reversed
  rw [hk, Option.bind_some]
  rcases jcases a with ⟨k, rfl⟩ | ⟨z, rfl⟩ | ⟨s, rfl⟩ | ⟨l, rfl⟩ | ⟨l, rfl⟩
  · rw [jok_k] at hoa
    rw [kd_k]
    by_cases hk0 : k = 0
    · subst hk0
      obtain ⟨r1, e1, w1⟩ := open_w (n := n) hr
      obtain ⟨r3, e3, e4, w3⟩ := fin_a (n := n) (d := e) (l := []) w1 (Wr.nil w1.v) rfl (by simp)
      have e3' : fR_close n (i3 r1.2.1 - 1) 5 0 r1.1 (i3 r1.2.1) r1.2.2 = some r3.1 := e3
      refine ⟨0, f3, f6, v9, r3, ?_, OK.val rfl w3⟩
      rw [if_pos (by decide), e1, Option.bind_some]
      dsimp only
      rw [e3', Option.bind_some, e4]
      rfl
    · refine ⟨1, f3, f6, v9, r, ?_, ?_⟩
      · rw [if_neg (by rw [show (0 : Int32) = i3 0 from rfl, i3_eq (by omega) (by omega)]; exact hk0), if_neg (by rw [show (4 : Int32) = i3 4 from rfl, i3_eq (by omega) (by omega)]; omega), if_neg (by rw [show (5 : Int32) = i3 5 from rfl, i3_eq (by omega) (by omega)]; omega)]
        rfl
      · have : oRev (jk k : JT (e + 1)) = .inl 1 := if_neg hk0
        rw [this]
        exact OK.refuse hr (by omega) (by omega)
  · refine ⟨1, f3, f6, v9, r, ?_, OK.refuse (k := 1) hr (by omega) (by omega)⟩
    rw [kd_n, if_neg (by decide), if_neg (by decide), if_neg (by decide)]
    rfl
  · have ha' : At f v 0 (strc s) := ha
    have hle := ha'.le
    have hlen : fR_length n 0 f (i3 v) o = some (i3 s.length) := ha'.slen
    obtain ⟨r1, e1, w1⟩ := open_w (n := n) hr
    obtain ⟨r2, e2, w2⟩ := revS_loop (o := o) hoa ha' w1 s.length n [] r1 (by omega) (Wr.nil w1.v) (by simp) (by omega)
    refine ⟨0, f3, f6, v9, r2, ?_, OK.val (j := js s.reverse) rfl w2⟩
    unfold fG_putReversedString
    rw [kd_s, if_neg (by decide), if_pos (by decide), e1, Option.bind_some, hlen, Option.bind_some]
    dsimp only
    rw [e2]
    rfl
  · have hsz := ha.asz
    obtain ⟨hl1, hl2⟩ := hl l rfl
    have hlen : fR_length n 0 f (i3 v) o = some (i3 l.length) := ha.alen
    obtain ⟨r1, e1, w1⟩ := open_w (n := n) hr
    obtain ⟨k0, k1, e2, hk2, s1⟩ := gather_a (n := n) (o := o) (f0 := f3) (f1 := f4) (f3 := f6) (f5 := f8) (p2 := p5) (p4 := p7) (v6 := v9) ha hoa hl1 (by omega) hl2
    have e2' : fS_gather n 0 f3 f4 p5 f6 p7 f8 v9 f (i3 v) o = some (k0, k1, i3 l.length) := e2
    obtain ⟨r2, e3, w3⟩ := revA_loop (o := o) (f4 := f4) (p5 := p5) (p7 := p7) (f8 := f8) ha hoa hl1 hk2 s1 w1 l.length n [] r1 (by omega) (Wr.nil w1.v) (by simp) (by omega)
    refine ⟨0, k0, k1, i3 l.length, r2, ?_, OK.val (j := ja l.reverse) rfl w3⟩
    unfold fG_putReversedArray
    rw [kd_a, if_neg (by decide), if_neg (by decide), if_pos (by decide), e1, Option.bind_some, e2', Option.bind_some, hlen, Option.bind_some]
    dsimp only
    rw [e3]
    rfl
  · refine ⟨1, f3, f6, v9, r, ?_, OK.refuse (k := 1) hr (by omega) (by omega)⟩
    rw [kd_o, if_neg (by decide), if_neg (by decide), if_neg (by decide)]
    rfl
/-! character by character -/
theorem codes_loop {s : Sx} (hs : sok s) (ha : At f v 0 (strc s)) {r0 r1 : RS} {x0 : Int64} (h01 : Wr r0 [x0] r1) : ∀ (s' : Sx) (n i : Nat) (U : Sx) (r2 : RS), U ++ s' = s → U.length = i → Wr r1 ((U.map (fun c => (jn (c : Nat) : JT (e + 1)))).flatMap (jc (e + 1))) r2 → s'.length < n →
    ∃ r' : RS, fG_codes_b f (i3 v) o n 1 (i3 i) (i3 r1.2.1 - 1) r2.1 (i3 r2.2.1) r2.2.2 = some (0, r'.1, i3 r'.2.1, r'.2.2) ∧ Wr r0 (jc (e + 2) (ja (s.map (fun c => (jn (c : Nat) : JT (e + 1)))))) r' := by
  have hl := ha.le
  have hlen : ∀ n, fR_length n 0 f (i3 v) o = some (i3 s.length) := fun n => ha.slen
  intro s'
  induction s' with
  | nil =>
    intro n i U r2 hU hi hw hn
    obtain ⟨n, rfl⟩ : ∃ j, n = j + 1 := ⟨n - 1, by omega⟩
    rw [List.append_nil] at hU
    subst hU
    obtain ⟨r3, e3, e4, w3⟩ := fin_a (n := n) h01 hw rfl (by rw [List.length_map]; omega)
    rw [List.length_map] at e3
    refine ⟨r3, ?_, w3⟩
    rw [fG_codes_b, hlen, Option.bind_some, if_pos (by rw [i3_le (by omega) (by omega)]; omega), Option.bind_some, e3, Option.bind_some, e4]
  | cons c s' ih =>
    intro n i U r2 hU hi hw hn
    obtain ⟨n, rfl⟩ : ∃ j, n = j + 1 := ⟨n - 1, by omega⟩
    rw [List.length_cons] at hn
    have hsl : s.length = U.length + (s'.length + 1) := by rw [← hU, List.length_append, List.length_cons]
    have hc : s[i]'(by omega) = c := by
      have h1 : s[i]? = some c := by rw [← hU, List.getElem?_append_right (by omega), hi]; simp
      exact (List.getElem?_eq_some_iff.mp h1).2
    have hc1 : c < 128 := by rw [← hc]; exact hs _ (List.getElem_mem _)
    have hcd : fR_code n 0 (i3 i) f (i3 v) o = some (i3 (s[i]'(by omega))) := At.scode (p := 0) ha (by omega)
    obtain ⟨r3, e3, w3⟩ := putNumber_w (n := n) hw.v (c : Nat)
    rw [fG_codes_b, hlen, Option.bind_some, if_neg (by rw [i3_le (by omega) (by omega)]; omega), hcd, Option.bind_some, hc, i3_64 (by omega), e3, Option.bind_some, i3_one]
    refine ih n (i + 1) (U ++ [c]) r3 (by rw [← hU]; simp) (by simp; omega) ?_ (by omega)
    rw [List.map_append, List.flatMap_append]
    have := hw.app w3
    simpa [jc_n] using this
theorem codes_w (hn : 10000 < n) {a : JT (e + 2)} (ha : At f v 0 (jc (e + 2) a)) (hoa : jok (e + 2) a) (hr : RV r) : OK r (fG_codes n f (i3 v) o r.1 (i3 r.2.1) r.2.2) (oExp a) := by
  have i4 : fR_is n 0 4 f (i3 v) o = some (if kd (e + 2) a = 4 then 1 else 0) := At.is (p := 0) (k := 4) ha hoa (by omega)
  unfold fG_codes
  rw [i4, Option.bind_some]
  by_cases h4 : kd (e + 2) a = 4
  · obtain ⟨s, rfl⟩ := kds hoa h4
    have ha' : At f v 0 (strc s) := ha
    have hle := ha'.le
    obtain ⟨r1, e1, w1⟩ := open_w (n := n) hr
    obtain ⟨r2, e2, w2⟩ := codes_loop (e := e) (o := o) hoa ha' w1 s n 0 [] r1 rfl rfl (Wr.nil w1.v) (by omega)
    rw [if_pos h4, if_neg (by decide), e1, Option.bind_some]
    exact OK.val e2 w2
  · rw [if_neg h4, if_pos (by decide)]
    have : oExp a = .inl 1 := by
      unfold oExp
      rcases jcases a with ⟨k, rfl⟩ | ⟨z, rfl⟩ | ⟨s, rfl⟩ | ⟨l, rfl⟩ | ⟨l, rfl⟩ <;> first | rfl | exact absurd rfl h4
    rw [this]
    exact OK.refuse (k := 1) hr (by omega) (by omega)
theorem case_loop {s : Sx} (hs : sok s) {first : Nat} {step : Int32} {g : Nat → Nat} (hf : first < 128) (hg : ∀ c, c < 128 → g c < 128 ∧ ((first ≤ c ∧ c < first + 26 → i3 c + step = i3 (g c)) ∧ (¬ (first ≤ c ∧ c < first + 26) → g c = c))) (ha : At f v 0 (strc s)) {r0 r1 : RS} {x0 : Int64} (h01 : Wr r0 [x0] r1) : ∀ (s' : Sx) (n i : Nat) (U : Sx) (r2 : RS), U ++ s' = s → U.length = i → Wr r1 ((U.map g).map (fun c => cW (c : Nat))) r2 → s'.length < n →
    ∃ r' : RS, fG_inCase_b f (i3 v) o n 1 (i3 i) (i3 r1.2.1 - 1) (i3 first) step r2.1 (i3 r2.2.1) r2.2.2 = some (0, r'.1, i3 r'.2.1, r'.2.2) ∧ Wr r0 (strc (s.map g)) r' := by
  have hl := ha.le
  have hlen : ∀ n, fR_length n 0 f (i3 v) o = some (i3 s.length) := fun n => ha.slen
  intro s'
  induction s' with
  | nil =>
    intro n i U r2 hU hi hw hn
    obtain ⟨n, rfl⟩ : ∃ j, n = j + 1 := ⟨n - 1, by omega⟩
    rw [List.append_nil] at hU
    subst hU
    obtain ⟨r3, e3, e4, w3⟩ := fin_s (n := n) h01 hw rfl (by rw [List.length_map]; omega)
    rw [List.length_map] at e3
    refine ⟨r3, ?_, w3⟩
    rw [fG_inCase_b, hlen, Option.bind_some, if_pos (by rw [i3_le (by omega) (by omega)]; omega), Option.bind_some, e3, Option.bind_some, e4]
  | cons c s' ih =>
    intro n i U r2 hU hi hw hn
    obtain ⟨n, rfl⟩ : ∃ j, n = j + 1 := ⟨n - 1, by omega⟩
    rw [List.length_cons] at hn
    have hsl : s.length = U.length + (s'.length + 1) := by rw [← hU, List.length_append, List.length_cons]
    have hc : s[i]'(by omega) = c := by
      have h1 : s[i]? = some c := by rw [← hU, List.getElem?_append_right (by omega), hi]; simp
      exact (List.getElem?_eq_some_iff.mp h1).2
    have hc1 : c < 128 := by rw [← hc]; exact hs _ (List.getElem_mem _)
    have hcd : fR_code n 0 (i3 i) f (i3 v) o = some (i3 (s[i]'(by omega))) := At.scode (p := 0) ha (by omega)
    obtain ⟨g1, g2, g3⟩ := hg c hc1
    obtain ⟨r3, e3, w3⟩ := put_w (n := n) hw.v (cW (g c : Nat))
    have go := ih n (i + 1) (U ++ [c]) r3 (by rw [← hU]; simp) (by simp; omega) (by
      rw [List.map_append, List.map_append]
      exact hw.app w3) (by omega)
    rw [fG_inCase_b, hlen, Option.bind_some, if_neg (by rw [i3_le (by omega) (by omega)]; omega), hcd, Option.bind_some, hc]
    by_cases h1 : c < first
    · have hgc := g3 (by omega)
      rw [hgc] at e3
      rw [if_pos (by rw [i3_lt (by omega) (by omega)]; exact h1), i3_64 (by omega), e3, Option.bind_some, i3_one]
      exact go
    · rw [if_neg (by rw [i3_lt (by omega) (by omega)]; exact h1), show (26 : Int32) = i3 26 from rfl, i3_add]
      by_cases h2 : first + 26 ≤ c
      · have hgc := g3 (by omega)
        rw [hgc] at e3
        rw [if_pos (by rw [i3_le (by omega) (by omega)]; exact h2), i3_64 (by omega), e3, Option.bind_some, i3_one]
        exact go
      · rw [if_neg (by rw [i3_le (by omega) (by omega)]; exact h2), g2 (by omega), i3_64 (by omega), e3, Option.bind_some, i3_one]
        exact go
theorem case_w (hn : 10000 < n) {first : Nat} {step : Int32} {g : Nat → Nat} (hf : first < 128) (hg : ∀ c, c < 128 → g c < 128 ∧ ((first ≤ c ∧ c < first + 26 → i3 c + step = i3 (g c)) ∧ (¬ (first ≤ c ∧ c < first + 26) → g c = c))) {a : JT (e + 1)} (ha : At f v 0 (jc (e + 1) a)) (hoa : jok (e + 1) a) (hr : RV r) : OK r (fG_inCase n (i3 first) step f (i3 v) o r.1 (i3 r.2.1) r.2.2) (oCase g a) := by
  have i4 : fR_is n 0 4 f (i3 v) o = some (if kd (e + 1) a = 4 then 1 else 0) := At.is (p := 0) (k := 4) ha hoa (by omega)
  unfold fG_inCase
  rw [i4, Option.bind_some]
  by_cases h4 : kd (e + 1) a = 4
  · obtain ⟨s, rfl⟩ := kds hoa h4
    have ha' : At f v 0 (strc s) := ha
    have hle := ha'.le
    obtain ⟨r1, e1, w1⟩ := open_w (n := n) hr
    obtain ⟨r2, e2, w2⟩ := case_loop (o := o) hoa hf hg ha' w1 s n 0 [] r1 rfl rfl (Wr.nil w1.v) (by omega)
    rw [if_pos h4, if_neg (by decide), e1, Option.bind_some]
    exact OK.val (j := js (s.map g)) e2 w2
  · rw [if_neg h4, if_pos (by decide)]
    have : oCase g a = .inl 1 := by
      unfold oCase
      rcases jcases a with ⟨k, rfl⟩ | ⟨z, rfl⟩ | ⟨s, rfl⟩ | ⟨l, rfl⟩ | ⟨l, rfl⟩ <;> first | rfl | exact absurd rfl h4
    rw [this]
    exact OK.refuse (k := 1) hr (by omega) (by omega)
theorem low_all : ∀ c, c < 128 → lowC c < 128 ∧ ((65 ≤ c ∧ c < 65 + 26 → i3 c + 32 = i3 (lowC c)) ∧ (¬ (65 ≤ c ∧ c < 65 + 26) → lowC c = c)) := by decide +kernel
theorem up_all : ∀ c, c < 128 → upC c < 128 ∧ ((97 ≤ c ∧ c < 97 + 26 → i3 c + (-32) = i3 (upC c)) ∧ (¬ (97 ≤ c ∧ c < 97 + 26) → upC c = c)) := by decide +kernel
end SB
end ZSinb28
section ZSinc29
theorem numOf_n {e : Nat} {z : Int} : numOf (e + 1) (jn z) = some z := rfl
theorem numOf_some {e : Nat} {x : JT (e + 1)} : (numOf (e + 1) x).isSome = true ↔ ∃ z, x = jn z := by
  rcases jcases x with ⟨k, rfl⟩ | ⟨z, rfl⟩ | ⟨s, rfl⟩ | ⟨l, rfl⟩ | ⟨l, rfl⟩
  · exact ⟨fun h => absurd (show (none : Option Int).isSome = true from h) (by decide), fun ⟨z, h⟩ => by unfold jk jn at h; cases h⟩
  · exact ⟨fun _ => ⟨z, rfl⟩, fun _ => rfl⟩
  · exact ⟨fun h => absurd (show (none : Option Int).isSome = true from h) (by decide), fun ⟨z, h⟩ => by unfold js jn at h; cases h⟩
  · exact ⟨fun h => absurd (show (none : Option Int).isSome = true from h) (by decide), fun ⟨z, h⟩ => by unfold ja jn at h; cases h⟩
  · exact ⟨fun h => absurd (show (none : Option Int).isSome = true from h) (by decide), fun ⟨z, h⟩ => by unfold jo jn at h; cases h⟩
theorem kd3_num {e : Nat} {x : JT e} (ho : jok e x) : kd e x = 3 ↔ (numOf e x).isSome = true := by
  cases e with
  | zero => exact (j0 x).elim
  | succ e =>
    rw [numOf_some]
    exact ⟨fun h => kdn ho h, fun ⟨z, h⟩ => by rw [h]; rfl⟩
section SC
variable {f : Nat → Int64} {v e : Nat} {o : Int32} {n fu : Nat} {r : RS}
theorem ofn_loop {l : List (JT e)} (ha : At f v 0 (jc (e + 1) (ja l))) (hoa : jok (e + 1) (ja l)) : ∀ (l' : List (JT e)) (n i q : Nat), (∀ x ∈ l', x ∈ l) → i + l'.length = l.length → At f v q (l'.flatMap (jc e)) → l'.length < n → fG_isOfNumbers_b f (i3 v) o n 1 (i3 i) (i3 q) = some (if l'.all (fun x => (numOf e x).isSome) then 1 else 0) := by
  have hsz := ha.asz
  have hlen : ∀ n, fR_length n 0 f (i3 v) o = some (i3 l.length) := fun n => ha.alen
  intro l'
  induction l' with
  | nil =>
    intro n i q _ hi _ hn
    obtain ⟨n, rfl⟩ : ∃ j, n = j + 1 := ⟨n - 1, by omega⟩
    rw [List.length_nil] at hi
    rw [fG_isOfNumbers_b, hlen, Option.bind_some, if_pos (by rw [i3_le (by omega) (by omega)]; omega)]
    rfl
  | cons x l' ih =>
    intro n i q hsub hi hat hn
    obtain ⟨n, rfl⟩ : ∃ j, n = j + 1 := ⟨n - 1, by omega⟩
    rw [List.length_cons] at hi hn
    obtain ⟨at1, at2⟩ := hat.acons
    have hx := hoa x (hsub x (List.mem_cons_self ..))
    have his : fR_is n (i3 q) 3 f (i3 v) o = some (if kd e x = 3 then 1 else 0) := at1.is (k := 3) hx (by omega)
    rw [fG_isOfNumbers_b, hlen, Option.bind_some, if_neg (by rw [i3_le (by omega) (by omega)]; omega), his, Option.bind_some, List.all_cons]
    by_cases h : kd e x = 3
    · rw [if_pos h, if_neg (by decide), at1.after hx, Option.bind_some, i3_one, ih n (i + 1) _ (fun y hy => hsub y (List.mem_cons_of_mem _ hy)) (by omega) at2 (by omega), (kd3_num hx).mp h, Bool.true_and]
    · rw [if_neg h, if_pos (by decide)]
      have : (numOf e x).isSome = false := by
        cases hh : (numOf e x).isSome with
        | false => rfl
        | true => exact absurd ((kd3_num hx).mpr hh) h
      rw [this, Bool.false_and]
      rfl
theorem ofc_loop {l : List (JT e)} (ha : At f v 0 (jc (e + 1) (ja l))) (hoa : jok (e + 1) (ja l)) {r0 r1 : RS} {x0 : Int64} (h01 : Wr r0 [x0] r1) : ∀ (l' : List (JT e)) (n i : Nat) (U : Sx) (r2 : RS), (∀ x ∈ l', x ∈ l ∧ (numOf e x).isSome = true) → i + l'.length = l.length → U.length = i → At f v (i + 1) (l'.flatMap (jc e)) → Wr r1 (U.map (fun c => cW (c : Nat))) r2 → l'.length < n →
    OK (d := e + 1) r0 (fG_ofCodes_b f (i3 v) o n 1 (i3 (i + 1)) (i3 r1.2.1 - 1) r2.1 (i3 r2.2.1) r2.2.2) (if (l'.filterMap (numOf e)).all (fun z => decide (0 ≤ z ∧ z ≤ 127)) then .inr (js (U ++ (l'.filterMap (numOf e)).map Int.toNat)) else .inl 2) := by
  have hsz := ha.asz
  have hlen : ∀ n, fR_length n 0 f (i3 v) o = some (i3 l.length) := fun n => ha.alen
  intro l'
  induction l' with
  | nil =>
    intro n i U r2 _ hi hU _ hw hn
    obtain ⟨n, rfl⟩ : ∃ j, n = j + 1 := ⟨n - 1, by omega⟩
    rw [List.length_nil] at hi
    obtain ⟨r3, e3, e4, w3⟩ := fin_s (n := n) h01 hw rfl (by omega)
    rw [fG_ofCodes_b, hlen, Option.bind_some, if_pos (by rw [i3_lt (by omega) (by omega)]; omega), Option.bind_some, show l.length = U.length by omega, e3, Option.bind_some, List.filterMap_nil, List.all_nil, if_pos rfl, List.map_nil, List.append_nil]
    exact OK.val (r' := r3) (j := js U) (by rw [e4]) w3
  | cons x l' ih =>
    intro n i U r2 hsub hi hU hat hw hn
    obtain ⟨n, rfl⟩ : ∃ j, n = j + 1 := ⟨n - 1, by omega⟩
    rw [List.length_cons] at hi hn
    obtain ⟨at1, at2⟩ := hat.acons
    obtain ⟨hxl, hx1⟩ := hsub x (List.mem_cons_self ..)
    have hx := hoa x hxl
    cases e with
    | zero => exact (j0 x).elim
    | succ e =>
      obtain ⟨z, rfl⟩ := numOf_some.mp hx1
      rw [jok_n] at hx
      have hnum : fR_number n (i3 (i + 1)) f (i3 v) o = some (cW z) := at1.num hx.1 hx.2
      rw [fG_ofCodes_b, hlen, Option.bind_some, if_neg (by rw [i3_lt (by omega) (by omega)]; omega), hnum, Option.bind_some, show (0 : Int64) = cW 0 from rfl, show (127 : Int64) = cW 127 from rfl, lg_cW (by omega) (by omega) (by omega) (by omega), lg_cW (by omega) (by omega) (by omega) (by omega), List.filterMap_cons, numOf_n]
      dsimp only
      rw [List.all_cons]
      by_cases hz : 0 ≤ z ∧ z ≤ 127
      · obtain ⟨r3, e3, w3⟩ := put_w (n := n) hw.v (cW z)
        rw [if_neg (by rw [izs_lt0]; omega), if_pos (by rw [izs_le0]; omega), e3, Option.bind_some, i3_one, show decide (0 ≤ z ∧ z ≤ 127) = true by simpa using hz, Bool.true_and, List.map_cons]
        have := ih n (i + 1) (U ++ [z.toNat]) r3 (fun y hy => hsub y (List.mem_cons_of_mem _ hy)) (by omega) (by simp; omega) at2 (by
          rw [List.map_append]
          have h5 := hw.app w3
          rw [show cW z = cW ((z.toNat : Nat) : Int) by congr 1; omega] at h5
          exact h5) (by omega)
        rw [List.append_assoc] at this
        exact this
      · rw [show decide (0 ≤ z ∧ z ≤ 127) = false by simpa using hz, Bool.false_and, if_neg (by decide : ¬ (false = true))]
        by_cases h0 : z < 0
        · rw [if_pos (by rw [izs_lt0]; omega)]
          exact OK.ref (k := 2) rfl hw.v (by omega) (by omega)
        · rw [if_neg (by rw [izs_lt0]; omega), if_neg (by rw [izs_le0]; omega)]
          exact OK.ref (k := 2) rfl hw.v (by omega) (by omega)
theorem ofCodes_w (hn : 10000 < n) {a : JT (e + 1)} (ha : At f v 0 (jc (e + 1) a)) (hoa : jok (e + 1) a) (hr : RV r) : OK r (fG_ofCodes n f (i3 v) o r.1 (i3 r.2.1) r.2.2) (oImp a) := by
  have i5 : fR_is n 0 5 f (i3 v) o = some (if kd (e + 1) a = 5 then 1 else 0) := At.is (p := 0) (k := 5) ha hoa (by omega)
  unfold fG_ofCodes fG_isOfNumbers
  rw [i5, Option.bind_some]
  by_cases h5 : kd (e + 1) a = 5
  · obtain ⟨l, rfl⟩ := kda hoa h5
    have hsz := ha.asz
    have hn1 : fG_isOfNumbers_b f (i3 v) o n 1 0 1 = some (if l.all (fun x => (numOf e x).isSome) then 1 else 0) := ofn_loop (o := o) ha hoa l n 0 1 (fun x hx => hx) (by omega) ha.abody (by omega)
    rw [if_pos h5, if_neg (by decide), hn1, Option.bind_some]
    have hres : oImp (ja l : JT (e + 1)) = if l.all (fun x => (numOf e x).isSome) then (if (l.filterMap (numOf e)).all (fun z => decide (0 ≤ z ∧ z ≤ 127)) then .inr (js ((l.filterMap (numOf e)).map Int.toNat)) else .inl 2) else .inl 1 := rfl
    rw [hres]
    cases hall : l.all (fun x => (numOf e x).isSome) with
    | true =>
      rw [if_neg (by decide), if_pos rfl]
      obtain ⟨r1, e1, w1⟩ := open_w (n := n) hr
      rw [e1, Option.bind_some]
      exact ofc_loop (o := o) ha hoa w1 l n 0 [] r1 (fun x hx => ⟨hx, List.all_eq_true.mp hall x hx⟩) (by omega) rfl ha.abody (Wr.nil w1.v) (by omega)
    | false =>
      rw [if_pos (by decide), if_neg (by decide : ¬ (false = true))]
      exact OK.refuse (k := 1) hr (by omega) (by omega)
  · rw [if_neg h5, if_pos (by decide), Option.bind_some, if_pos (by decide)]
    have : oImp a = .inl 1 := by
      unfold oImp
      rcases jcases a with ⟨k, rfl⟩ | ⟨z, rfl⟩ | ⟨s, rfl⟩ | ⟨l, rfl⟩ | ⟨l, rfl⟩ <;> first | rfl | exact absurd rfl h5
    rw [this]
    exact OK.refuse (k := 1) hr (by omega) (by omega)
/-! texts into rows -/
theorem text_at {t : TS} {s : Sx} (hs : ∀ c ∈ s, c < 256) (hseg : seg t.1 0 (s.map sb)) (hl : s.length = t.2.1) (h4 : t.2.1 ≤ 4096) {i : Nat} (hi : i < s.length) : fT_at n (i3 i) t.1 (i3 t.2.1) t.2.2 = some (i3 s[i]) := by
  unfold fT_at
  have h1 := seg_get hseg (i := i) (by simpa using hi)
  rw [Nat.zero_add, List.getElem_map] at h1
  rw [if_neg (i3_nn (by omega)), if_neg (i3_nle (by omega) (by omega)), if_neg (i3_idx (by omega) (by omega)), i3_N (by omega), h1, sb_and (hs _ (List.getElem_mem _))]
theorem text_end {t : TS} (h4 : t.2.1 ≤ 4096) {i : Nat} (hi : t.2.1 ≤ i) (hi2 : i < 2147483648) : fT_at n (i3 i) t.1 (i3 t.2.1) t.2.2 = some (-1) := by
  unfold fT_at
  rw [if_neg (i3_nn (by omega)), if_pos (by rw [i3_le (by omega) (by omega)]; omega)]
theorem pt_loop {t : TS} {s : Sx} (hs : ∀ c ∈ s, c < 256) (hseg : seg t.1 0 (s.map sb)) (hl : s.length = t.2.1) (h4 : t.2.1 ≤ 4096) (ho : t.2.2 = 0) {r0 r1 : RS} {x0 : Int64} (h01 : Wr r0 [x0] r1) : ∀ (s' : Sx) (n i : Nat) (U : Sx) (r2 : RS), U ++ s' = s → U.length = i → Wr r1 (U.map (fun c => cW (c : Nat))) r2 → s'.length < n →
    ∃ r' : RS, fR_putText_b t.1 (i3 t.2.1) t.2.2 n 1 (i3 i) (i3 r1.2.1 - 1) r2.1 (i3 r2.2.1) r2.2.2 = some (r'.1, i3 r'.2.1, r'.2.2) ∧ Wr r0 (strc s) r' := by
  have hsz : ∀ n, fT_size n t.1 (i3 t.2.1) t.2.2 = some (i3 t.2.1) := fun n => rfl
  have hov : ∀ n, fT_isOver n t.1 (i3 t.2.1) t.2.2 = some 0 := fun n => by
    unfold fT_isOver
    rw [ho]
    rfl
  intro s'
  induction s' with
  | nil =>
    intro n i U r2 hU hi hw hn
    obtain ⟨n, rfl⟩ : ∃ j, n = j + 1 := ⟨n - 1, by omega⟩
    rw [List.append_nil] at hU
    subst hU
    obtain ⟨r3, e3, e4, w3⟩ := fin_s (n := n) h01 hw rfl (by omega)
    rw [hl] at e3
    refine ⟨r3, ?_, w3⟩
    rw [fR_putText_b, hsz, Option.bind_some, if_pos (by rw [i3_le (by omega) (by omega)]; omega), Option.bind_some, e3, Option.bind_some]
    rw [e4]
    rcases hw.v.2 with h0 | h1
    · rw [if_pos h0, hov, Option.bind_some, if_pos rfl, h0]
    · rw [if_neg (by rw [h1]; decide), h1]
  | cons c s' ih =>
    intro n i U r2 hU hi hw hn
    obtain ⟨n, rfl⟩ : ∃ j, n = j + 1 := ⟨n - 1, by omega⟩
    rw [List.length_cons] at hn
    have hsl : s.length = U.length + (s'.length + 1) := by rw [← hU, List.length_append, List.length_cons]
    have hc : s[i]'(by omega) = c := by
      have h1 : s[i]? = some c := by rw [← hU, List.getElem?_append_right (by omega), hi]; simp
      exact (List.getElem?_eq_some_iff.mp h1).2
    have hc1 : c < 256 := by rw [← hc]; exact hs _ (List.getElem_mem _)
    obtain ⟨r3, e3, w3⟩ := put_w (n := n) hw.v (cW (c : Nat))
    rw [fR_putText_b, hsz, Option.bind_some, if_neg (by rw [i3_le (by omega) (by omega)]; omega), text_at hs hseg hl h4 (i := i) (by omega), Option.bind_some, hc, i3_64 (by omega), e3, Option.bind_some, i3_one]
    exact ih n (i + 1) (U ++ [c]) r3 (by rw [← hU]; simp) (by simp; omega) (by rw [List.map_append]; exact hw.app w3) (by omega)
theorem putText_w (hn : 5000 < n) {t : TS} {s : Sx} (hs : ∀ c ∈ s, c < 256) (hseg : seg t.1 0 (s.map sb)) (hl : s.length = t.2.1) (h4 : t.2.1 ≤ 4096) (ho : t.2.2 = 0) (hr : RV r) : ∃ r' : RS, fR_putText n r.1 (i3 r.2.1) r.2.2 t.1 (i3 t.2.1) t.2.2 = some (r'.1, i3 r'.2.1, r'.2.2) ∧ Wr r (strc s) r' := by
  obtain ⟨r1, e1, w1⟩ := open_w (n := n) hr
  obtain ⟨r2, e2, w2⟩ := pt_loop hs hseg hl h4 ho w1 s n 0 [] r1 rfl rfl (Wr.nil w1.v) (by omega)
  refine ⟨r2, ?_, w2⟩
  unfold fR_putText
  rw [e1, Option.bind_some]
  exact e2
/-- a text that is over makes the row over -/
theorem pt_over {t : TS} (h4 : t.2.1 ≤ 4096) (ho : t.2.2 = 1) {y : Int32} : ∀ (m n i : Nat) (r2 : RS), i + m = t.2.1 → RV r2 → m < n →
    ∃ r' : RS, fR_putText_b t.1 (i3 t.2.1) t.2.2 n 1 (i3 i) y r2.1 (i3 r2.2.1) r2.2.2 = some (r'.1, i3 r'.2.1, r'.2.2) ∧ RV r' ∧ r'.2.2 = 1 := by
  have hsz : ∀ n, fT_size n t.1 (i3 t.2.1) t.2.2 = some (i3 t.2.1) := fun n => rfl
  have hov : ∀ n, fT_isOver n t.1 (i3 t.2.1) t.2.2 = some 1 := fun n => by
    unfold fT_isOver
    rw [ho]
    rfl
  intro m
  induction m with
  | zero =>
    intro n i r2 hi hr hn
    obtain ⟨n, rfl⟩ : ∃ j, n = j + 1 := ⟨n - 1, by omega⟩
    obtain ⟨f3, hf3⟩ : ∃ f3, fR_close n y 4 (i3 t.2.1) r2.1 (i3 r2.2.1) r2.2.2 = some f3 := by
      unfold fR_close
      split
      · split
        · exact ⟨_, rfl⟩
        · split
          · exact ⟨_, rfl⟩
          · rename_i h1 h2 h3
            rcases i3_cases y with hy | ⟨p, hp, rfl⟩
            · exact absurd hy h2
            · rw [i3_le (by have := hr.1; omega) hp] at h3
              have := hr.1
              rw [if_neg (i3_idx (by omega) hp)]
              exact ⟨_, rfl⟩
      · exact ⟨_, rfl⟩
    refine ⟨(f3, r2.2.1, 1), ?_, ⟨hr.1, Or.inr rfl⟩, rfl⟩
    rw [fR_putText_b, hsz, Option.bind_some, if_pos (by rw [i3_le (by omega) (by omega)]; omega), Option.bind_some, hf3, Option.bind_some]
    split
    · rw [hov, Option.bind_some, if_neg (by decide)]
    · rfl
  | succ m ih =>
    intro n i r2 hi hr hn
    obtain ⟨n, rfl⟩ : ∃ j, n = j + 1 := ⟨n - 1, by omega⟩
    obtain ⟨z, hz⟩ : ∃ z, fT_at n (i3 i) t.1 (i3 t.2.1) t.2.2 = some z := by
      unfold fT_at
      rw [if_neg (i3_nn (by omega)), if_neg (i3_nle (by omega) (by omega)), if_neg (i3_idx (by omega) (by omega))]
      exact ⟨_, rfl⟩
    obtain ⟨r3, e3, w3⟩ := put_w (n := n) hr z.toInt64
    rw [fR_putText_b, hsz, Option.bind_some, if_neg (by rw [i3_le (by omega) (by omega)]; omega), hz, Option.bind_some, e3, Option.bind_some, i3_one]
    exact ih n (i + 1) r3 (by omega) w3.v (by omega)
theorem putText_over (hn : 5000 < n) {t : TS} (h4 : t.2.1 ≤ 4096) (ho : t.2.2 = 1) (hr : RV r) : ∃ r' : RS, fR_putText n r.1 (i3 r.2.1) r.2.2 t.1 (i3 t.2.1) t.2.2 = some (r'.1, i3 r'.2.1, r'.2.2) ∧ RV r' ∧ r'.2.2 = 1 := by
  obtain ⟨r1, e1, w1⟩ := open_w (n := n) hr
  obtain ⟨r2, e2, w2⟩ := pt_over h4 ho t.2.1 n 0 r1 (by omega) w1.v (by omega)
  refine ⟨r2, ?_, w2⟩
  unfold fR_putText
  rw [e1, Option.bind_some]
  exact e2
end SC
end ZSinc29
section ZPair30
/-! ===== what two makes ===== -/
def tru {e : Nat} (b : Bool) : JT (e + 1) := jk (if b then 2 else 1)
def oHas {e : Nat} (a x : JT (e + 1)) : Nat ⊕ JT (e + 1) :=
  match a, x with
  | .inr (.inr l), .inl (.inr (.inr s)) => .inr (tru (lu s l).isSome)
  | .inr (.inl l), .inl (.inr (.inl z)) => .inr (tru (decide (0 ≤ z ∧ z < l.length)))
  | _, _ => .inl 1
def sub (t s : Sx) : Bool := (List.range (s.length + 1)).any (fun k => pf t (s.drop k))
def luB {α : Type} (l : List (Sx × α)) (s : Sx) (c : α → Bool) : Bool := match lu s l with
  | none => false
  | some x => c x
theorem luB_some {α : Type} {l : List (Sx × α)} {s : Sx} {c : α → Bool} {x : α} (h : lu s l = some x) : luB l s c = c x := by
  unfold luB
  rw [h]
theorem luB_none {α : Type} {l : List (Sx × α)} {s : Sx} {c : α → Bool} (h : lu s l = none) : luB l s c = false := by
  unfold luB
  rw [h]
def jin : (d : Nat) → JT d → JT d → Bool
  | 0, j, _ => Empty.elim j
  | _ + 1, .inl (.inl a), .inl (.inl b) => decide (a = b)
  | _ + 1, .inl (.inr (.inl a)), .inl (.inr (.inl b)) => decide (a = b)
  | _ + 1, .inl (.inr (.inr a)), .inl (.inr (.inr b)) => sub b a
  | d + 1, .inr (.inl l), .inr (.inl m) => m.all (fun y => l.any (fun x => jin d x y))
  | d + 1, .inr (.inr l), .inr (.inr m) => m.all (fun p => luB l p.1 (fun x => jin d x p.2))
  | _ + 1, _, _ => false
def alike (a b : Nat) : Bool := decide (a = b) || ((decide (a = 1) || decide (a = 2)) && (decide (b = 1) || decide (b = 2)))
def oCont {e : Nat} (a x : JT (e + 1)) : Nat ⊕ JT (e + 1) := if alike (kd (e + 1) a) (kd (e + 1) x) then .inr (tru (jin (e + 1) a x)) else .inl 1
def oWB {e : Nat} (a x : JT (e + 1)) : Nat ⊕ JT (e + 1) :=
  match a, x with
  | .inl (.inr (.inr s)), .inl (.inr (.inr t)) => .inr (if pf t s then js (s.drop t.length) else js s)
  | a, _ => .inr a
def endsS (s t : Sx) : Bool := decide (t.length ≤ s.length) && pf t (s.drop (s.length - t.length))
def oWE {e : Nat} (a x : JT (e + 1)) : Nat ⊕ JT (e + 1) :=
  match a, x with
  | .inl (.inr (.inr s)), .inl (.inr (.inr t)) => .inr (if endsS s t then js (s.take (s.length - t.length)) else js s)
  | a, _ => .inr a
def oBeg {e : Nat} (a x : JT (e + 1)) : Nat ⊕ JT (e + 1) :=
  match a, x with
  | .inl (.inr (.inr s)), .inl (.inr (.inr t)) => .inr (tru (pf t s))
  | _, _ => .inl 1
def oEnds {e : Nat} (a x : JT (e + 1)) : Nat ⊕ JT (e + 1) :=
  match a, x with
  | .inl (.inr (.inr s)), .inl (.inr (.inr t)) => .inr (tru (endsS s t))
  | _, _ => .inl 1
theorem c1 (P : Prop) [Decidable P] : ((if P then 1 else 0 : Int32) = 0) = ¬ P := by
  by_cases hP : P
  · rw [if_pos hP]; exact propext ⟨fun h => absurd h (by decide), fun h => absurd hP h⟩
  · rw [if_neg hP]; exact propext ⟨fun _ => hP, fun _ => rfl⟩
theorem ib (b : Bool) : ((if b then 1 else 0 : Int32) = 0) = (b = false) := by cases b <;> decide
section PA
variable {f g : Nat → Int64} {v u e : Nat} {o o' : Int32} {n fu : Nat} {r : RS}
theorem truth_w (hr : RV r) (b : Bool) : OK (d := e + 1) r (fH_truth n (if b then 1 else 0) r.1 (i3 r.2.1) r.2.2) (.inr (tru b)) := by
  obtain ⟨r1, e1, w1⟩ := putTruth_w (n := n) hr b
  unfold fH_truth
  rw [e1]
  exact OK.val rfl w1
theorem nothing_w (hr : RV r) : OK (d := e + 1) r (fH_nothing n r.1 (i3 r.2.1) r.2.2) (.inr (jk 0)) := by
  obtain ⟨r1, e1, w1⟩ := putNull_w (n := n) hr
  unfold fH_nothing
  rw [e1]
  exact OK.val rfl w1
theorem copy_w (hr : RV r) {d q : Nat} {j : JT d} (h : At f v q (jc d j)) (ho : jok d j) : OK r (fH_copy n (i3 q) f (i3 v) o r.1 (i3 r.2.1) r.2.2) (.inr j) := by
  obtain ⟨r1, e1, w1⟩ := putCopy_w (n := n) (o' := o) hr h ho
  unfold fH_copy
  rw [e1]
  exact OK.val rfl w1
/-- the kinds as the program asks for them -/
theorem isk {d : Nat} {a : JT d} (ha : At f v 0 (jc d a)) (hoa : jok d a) (n : Nat) : fR_is n 0 0 f (i3 v) o = some (if kd d a = 0 then 1 else 0) ∧ fR_is n 0 3 f (i3 v) o = some (if kd d a = 3 then 1 else 0) ∧ fR_is n 0 4 f (i3 v) o = some (if kd d a = 4 then 1 else 0) ∧ fR_is n 0 5 f (i3 v) o = some (if kd d a = 5 then 1 else 0) ∧ fR_is n 0 6 f (i3 v) o = some (if kd d a = 6 then 1 else 0) :=
  ⟨At.is (p := 0) (k := 0) ha hoa (by omega), At.is (p := 0) (k := 3) ha hoa (by omega), At.is (p := 0) (k := 4) ha hoa (by omega), At.is (p := 0) (k := 5) ha hoa (by omega), At.is (p := 0) (k := 6) ha hoa (by omega)⟩
theorem has_w (hn : 10000 < n) {a x : JT (e + 1)} (ha : At f v 0 (jc (e + 1) a)) (hoa : jok (e + 1) a) (hx : At g u 0 (jc (e + 1) x)) (hox : jok (e + 1) x) (hr : RV r) : OK r (fH_has n f (i3 v) o g (i3 u) o' r.1 (i3 r.2.1) r.2.2) (oHas a x) := by
  obtain ⟨_, _, _, a5, a6⟩ := isk (o := o) ha hoa n
  obtain ⟨_, x3, x4, _, _⟩ := isk (o := o') hx hox n
  unfold fH_has
  simp only [b4, a5, a6, x3, x4, Option.bind_some, c1]
  by_cases h1 : kd (e + 1) a = 6 ∧ kd (e + 1) x = 4
  · obtain ⟨l, rfl⟩ := kdo hoa h1.1
    obtain ⟨s, rfl⟩ := kds hox h1.2
    rw [if_neg (Decidable.not_not.mpr h1.1), if_neg (Decidable.not_not.mpr h1.2)]
    have hres : oHas (jo l : JT (e + 1)) (js s) = .inr (tru (lu s l).isSome) := rfl
    rw [hres]
    rcases At.vo (n := n) (o := o) (o' := o') (q := 0) ha hoa hox (show At g u 0 (strc s) from hx) (by omega) with ⟨r', y, g1, g2, g3, g4⟩ | ⟨g1, g4⟩
    · have h5 := g3.2
      have h6 := jc_pos e y
      have g4' : fR_valueOfa n 0 0 f (i3 v) o g (i3 u) o' = some (i3 r') := g4
      rw [g4', Option.bind_some, if_neg (by rw [i3_m1 (by omega)]; exact not_false), g1]
      exact truth_w hr true
    · have g4' : fR_valueOfa n 0 0 f (i3 v) o g (i3 u) o' = some (-1) := g4
      rw [g4', Option.bind_some, if_pos rfl, g1]
      exact truth_w hr false
  · have mid : OK r (if ¬ kd (e + 1) a = 5 then some ((1 : Int32), r.1, i3 r.2.1, r.2.2) else if ¬ kd (e + 1) x = 3 then some ((1 : Int32), r.1, i3 r.2.1, r.2.2) else (fR_number n 0 g (i3 u) o').bind fun o10 => (if (lg_cmp o10 0) < 0 then fH_truth n 0 r.1 (i3 r.2.1) r.2.2 else (fR_number n 0 g (i3 u) o').bind fun o13 => (fR_length n 0 f (i3 v) o).bind fun o16 => (if 0 ≤ (lg_cmp o13 o16.toInt64) then fH_truth n 0 r.1 (i3 r.2.1) r.2.2 else fH_truth n 1 r.1 (i3 r.2.1) r.2.2))) (oHas a x) := by
      by_cases h2 : kd (e + 1) a = 5 ∧ kd (e + 1) x = 3
      · obtain ⟨l, rfl⟩ := kda hoa h2.1
        obtain ⟨z, rfl⟩ := kdn hox h2.2
        rw [jok_n] at hox
        have hsz := ha.asz
        have en : fR_number n 0 g (i3 u) o' = some (cW z) := At.num (p := 0) hx hox.1 hox.2
        have el : fR_length n 0 f (i3 v) o = some (i3 l.length) := ha.alen
        have hres : oHas (ja l : JT (e + 1)) (jn z) = .inr (tru (decide (0 ≤ z ∧ z < l.length))) := rfl
        rw [if_neg (Decidable.not_not.mpr h2.1), if_neg (Decidable.not_not.mpr h2.2), hres, en, Option.bind_some, Option.bind_some, el, Option.bind_some, i3_64 (by omega), show (0 : Int64) = cW 0 from rfl, lg_cW (by omega) (by omega) (by omega) (by omega), lg_cW (by omega) (by omega) (by omega) (by omega)]
        by_cases z1 : z < 0
        · rw [if_pos (by rw [izs_lt0]; omega), show decide (0 ≤ z ∧ z < l.length) = false by simp; omega]
          exact truth_w hr false
        · rw [if_neg (by rw [izs_lt0]; omega)]
          by_cases z2 : z < l.length
          · rw [if_neg (by rw [izs_ge0]; omega), show decide (0 ≤ z ∧ z < l.length) = true by simp; omega]
            exact truth_w hr true
          · rw [if_pos (by rw [izs_ge0]; omega), show decide (0 ≤ z ∧ z < l.length) = false by simp; omega]
            exact truth_w hr false
      · have : oHas a x = .inl 1 := by
          unfold oHas
          rcases jcases a with ⟨k, rfl⟩ | ⟨z, rfl⟩ | ⟨s, rfl⟩ | ⟨l, rfl⟩ | ⟨l, rfl⟩ <;> rcases jcases x with ⟨k', rfl⟩ | ⟨z', rfl⟩ | ⟨s', rfl⟩ | ⟨l', rfl⟩ | ⟨l', rfl⟩ <;> first | rfl | exact absurd ⟨rfl, rfl⟩ h1 | exact absurd ⟨rfl, rfl⟩ h2
        rw [this]
        split
        · exact OK.refuse (k := 1) hr (by omega) (by omega)
        · split
          · exact OK.refuse (k := 1) hr (by omega) (by omega)
          · rename_i p1 p2
            exact absurd ⟨Decidable.not_not.mp p1, Decidable.not_not.mp p2⟩ h2
    by_cases h6 : kd (e + 1) a = 6
    · rw [if_neg (Decidable.not_not.mpr h6), if_pos (fun h => h1 ⟨h6, h⟩)]
      exact mid
    · rw [if_pos h6]
      exact mid
/-! contains -/
theorem ip_loop {p q : Nat} {s t : Sx} (ha : At f v p (strc s)) (hs : sok s) (hb : At g u q (strc t)) (ht : sok t) : ∀ (m n k : Nat), k + m = s.length + 1 → 4097 + m < n → fH_isPart_b f (i3 v) o g (i3 u) o' n 1 (i3 k) (i3 p) (i3 q) = some (if (List.range' k m).any (fun k => pf t (s.drop k)) then 1 else 0) := by
  have hl := ha.le
  intro m
  induction m with
  | zero =>
    intro n k hk hn
    obtain ⟨n, rfl⟩ : ∃ j, n = j + 1 := ⟨n - 1, by omega⟩
    rw [fH_isPart_b, ha.slen, Option.bind_some, if_pos (by rw [i3_lt (by omega) (by omega)]; omega)]
    rfl
  | succ m ih =>
    intro n k hk hn
    obtain ⟨n, rfl⟩ : ∃ j, n = j + 1 := ⟨n - 1, by omega⟩
    rw [fH_isPart_b, ha.slen, Option.bind_some, if_neg (by rw [i3_lt (by omega) (by omega)]; omega), At.hp (k := k) (by omega) ha hb hs ht (by omega), Option.bind_some, List.range'_succ, List.any_cons]
    by_cases h : pf t (s.drop k) = true
    · rw [h, if_neg (by decide), Bool.true_or]
      rfl
    · rw [Bool.not_eq_true] at h
      rw [h, if_pos (by decide), Bool.false_or, i3_one, ih n (k + 1) (by omega) (by omega)]
theorem isPart_w (hn : 10000 < n) {p q : Nat} {s t : Sx} (ha : At f v p (strc s)) (hs : sok s) (hb : At g u q (strc t)) (ht : sok t) : fH_isPart n (i3 p) (i3 q) f (i3 v) o g (i3 u) o' = some (if sub t s then 1 else 0) := by
  have hl := ha.le
  unfold fH_isPart sub
  rw [List.range_eq_range']
  exact ip_loop ha hs hb ht (s.length + 1) n 0 (by omega) (by omega)
theorem is_loop {rec : RecO} {p q k : Nat} {l : List (JT e)} (hlen : ∀ n, fR_length n (i3 p) f (i3 v) o = some (i3 l.length)) (hll : l.length < 65536) {y : JT e} : ∀ (l' : List (JT e)) (n i s : Nat), (∀ x ∈ l', jok e x) → (∀ x ∈ l', ∀ s, At f v s (jc e x) → rec (i3 s) (i3 q) (i3 (k + 1)) f (i3 v) o g (i3 u) o' = some (if jin e x y then 1 else 0)) → i + l'.length = l.length → At f v s (l'.flatMap (jc e)) → l'.length < n → fH_isInSome_b rec f (i3 v) o g (i3 u) o' n 1 (i3 i) (i3 s) (i3 p) (i3 q) (i3 k) = some (if l'.any (fun x => jin e x y) then 1 else 0) := by
  intro l'
  induction l' with
  | nil =>
    intro n i s _ _ hi _ hn
    obtain ⟨n, rfl⟩ : ∃ j, n = j + 1 := ⟨n - 1, by omega⟩
    rw [List.length_nil] at hi
    rw [fH_isInSome_b, hlen, Option.bind_some, if_pos (by rw [i3_le (by omega) (by omega)]; omega)]
    rfl
  | cons x l' ih =>
    intro n i s hok hrec hi hat hn
    obtain ⟨n, rfl⟩ : ∃ j, n = j + 1 := ⟨n - 1, by omega⟩
    rw [List.length_cons] at hi hn
    obtain ⟨at1, at2⟩ := hat.acons
    rw [fH_isInSome_b, hlen, Option.bind_some, if_neg (by rw [i3_le (by omega) (by omega)]; omega), i3_one, hrec x (List.mem_cons_self ..) s at1, Option.bind_some, List.any_cons]
    cases h : jin e x y with
    | true =>
      rw [if_neg (by decide), Bool.true_or]
      rfl
    | false =>
      rw [if_pos (by decide), at1.after (hok x (List.mem_cons_self ..)), Option.bind_some, i3_one, Bool.false_or, ih n (i + 1) _ (fun z hz => hok z (List.mem_cons_of_mem _ hz)) (fun z hz => hrec z (List.mem_cons_of_mem _ hz)) (by omega) at2 (by omega)]
theorem ae_loop {rec : RecO} {p q k : Nat} {l m : List (JT e)} (ha : At f v p (jc (e + 1) (ja l))) (hoa : jok (e + 1) (ja l)) (hlen : ∀ n, fR_length n (i3 q) g (i3 u) o' = some (i3 m.length)) (hml : m.length < 65536) : ∀ (m' : List (JT e)) (n i s : Nat), (∀ y ∈ m', jok e y) → (∀ x ∈ l, ∀ y ∈ m', ∀ r s, At f v r (jc e x) → At g u s (jc e y) → rec (i3 r) (i3 s) (i3 (k + 1)) f (i3 v) o g (i3 u) o' = some (if jin e x y then 1 else 0)) → i + m'.length = m.length → At g u s (m'.flatMap (jc e)) → 4097 + m'.length < n → fH_areElementsIn_b rec f (i3 v) o g (i3 u) o' n 1 (i3 i) (i3 s) (i3 p) (i3 q) (i3 k) = some (if m'.all (fun y => l.any (fun x => jin e x y)) then 1 else 0) := by
  have hsz := ha.asz
  intro m'
  induction m' with
  | nil =>
    intro n i s _ _ hi _ hn
    obtain ⟨n, rfl⟩ : ∃ j, n = j + 1 := ⟨n - 1, by omega⟩
    rw [List.length_nil] at hi
    rw [fH_areElementsIn_b, hlen, Option.bind_some, if_pos (by rw [i3_le (by omega) (by omega)]; omega)]
    rfl
  | cons y m' ih =>
    intro n i s hok hrec hi hat hn
    obtain ⟨n, rfl⟩ : ∃ j, n = j + 1 := ⟨n - 1, by omega⟩
    rw [List.length_cons] at hi hn
    obtain ⟨at1, at2⟩ := hat.acons
    have h1 : fH_isInSome rec n (i3 p) (i3 s) (i3 k) f (i3 v) o g (i3 u) o' = some (if l.any (fun x => jin e x y) then 1 else 0) := by
      unfold fH_isInSome
      rw [i3_one]
      exact is_loop (l := l) (fun n => ha.alen) (by omega) l n 0 (p + 1) hoa (fun x hx r hr => hrec x hx y (List.mem_cons_self ..) r s hr at1) (by omega) ha.abody (by omega)
    rw [fH_areElementsIn_b, hlen, Option.bind_some, if_neg (by rw [i3_le (by omega) (by omega)]; omega), h1, Option.bind_some, List.all_cons]
    cases h : l.any (fun x => jin e x y) with
    | true =>
      rw [if_neg (by decide), at1.after (hok y (List.mem_cons_self ..)), Option.bind_some, i3_one, Bool.true_and, ih n (i + 1) _ (fun z hz => hok z (List.mem_cons_of_mem _ hz)) (fun x hx z hz => hrec x hx z (List.mem_cons_of_mem _ hz)) (by omega) at2 (by omega)]
    | false =>
      rw [if_pos (by decide), Bool.false_and]
      rfl
theorem an_loop {rec : RecO} {p q k : Nat} {l m : List (Sx × JT e)} (ha : At f v p (jc (e + 1) (jo l))) (hoa : jok (e + 1) (jo l)) (hlen : ∀ n, fR_length n (i3 q) g (i3 u) o' = some (i3 m.length)) (hml : m.length < 65536) : ∀ (m' : List (Sx × JT e)) (n i s : Nat), (∀ y ∈ m', sok y.1 ∧ jok e y.2) → (∀ x ∈ l, ∀ y ∈ m', ∀ r s, At f v r (jc e x.2) → At g u s (jc e y.2) → rec (i3 r) (i3 s) (i3 (k + 1)) f (i3 v) o g (i3 u) o' = some (if jin e x.2 y.2 then 1 else 0)) → i + m'.length = m.length → At g u s (m'.flatMap oc) → 8300 + m'.length < n → fH_areNamesIn_b rec f (i3 v) o g (i3 u) o' n 1 (i3 i) (i3 s) (i3 p) (i3 q) (i3 k) = some (if m'.all (fun p => luB l p.1 (fun x => jin e x p.2)) then 1 else 0) := by
  have hsz := ha.osz
  intro m'
  induction m' with
  | nil =>
    intro n i s _ _ hi _ hn
    obtain ⟨n, rfl⟩ : ∃ j, n = j + 1 := ⟨n - 1, by omega⟩
    rw [List.length_nil] at hi
    rw [fH_areNamesIn_b, hlen, Option.bind_some, if_pos (by rw [i3_le (by omega) (by omega)]; omega)]
    rfl
  | cons y m' ih =>
    intro n i s hok hrec hi hat hn
    obtain ⟨n, rfl⟩ : ∃ j, n = j + 1 := ⟨n - 1, by omega⟩
    rw [List.length_cons] at hi hn
    obtain ⟨at1, at2, at3⟩ := At.ocons hat
    obtain ⟨hs, hy⟩ := hok y (List.mem_cons_self ..)
    rw [fH_areNamesIn_b, hlen, Option.bind_some, if_neg (by rw [i3_le (by omega) (by omega)]; omega), at1.safter, Option.bind_some, List.all_cons]
    rcases ha.vo (n := n) (o := o) (o' := o') hoa hs at1 (by omega) with ⟨r', x, g1, g2, g3, g4⟩ | ⟨g1, g4⟩
    · have h5 := g3.2
      have h6 := jc_pos e x
      obtain ⟨x', hx', rfl⟩ := List.mem_map.mp g2
      rw [g4, Option.bind_some, if_neg (by rw [i3_m1 (by omega)]; exact not_false), i3_one, hrec x' hx' y (List.mem_cons_self ..) _ _ g3 at2, Option.bind_some, luB_some g1]
      cases h : jin e x'.2 y.2 with
      | true =>
        rw [if_neg (by decide), at2.after hy, Option.bind_some, i3_one, Bool.true_and, ih n (i + 1) _ (fun z hz => hok z (List.mem_cons_of_mem _ hz)) (fun x hx z hz => hrec x hx z (List.mem_cons_of_mem _ hz)) (by omega) at3 (by omega)]
      | false =>
        rw [if_pos (by decide), Bool.false_and]
        rfl
    · rw [g4, Option.bind_some, if_pos rfl, luB_none g1, Bool.false_and]
      rfl
theorem bz (b : Bool) : ¬ ¬ ((if b then 1 else 0 : Int32) = 0 ∨ (if b then 1 else 0 : Int32) = 1) := by cases b <;> decide
theorem isIn_w (hn : 20000 < n) : ∀ (d fu : Nat) (x y : JT d) (p q k : Nat), jok d x → jok d y → At f v p (jc d x) → At g u q (jc d y) → d ≤ fu → k + jd d x ≤ 60 → fH_isIn fu n (i3 p) (i3 q) (i3 k) f (i3 v) o g (i3 u) o' = some (if jin d x y then 1 else 0) := by
  intro d
  induction d with
  | zero => exact fun fu x => (j0 x).elim
  | succ d ih =>
    intro fu x y p q k hox hoy hax hay hfu hk
    obtain ⟨fu, rfl⟩ : ∃ m, fu = m + 1 := ⟨fu - 1, by omega⟩
    have kx := kd_lt8 hox
    have ky := kd_lt8 hoy
    rw [fH_isIn, hax.kind hox, Option.bind_some, hay.kind hoy, Option.bind_some]
    by_cases h : kd (d + 1) x = kd (d + 1) y
    · rw [if_pos (by rw [h]), if_pos (by rw [show (60 : Int32) = i3 60 from rfl, i3_le (by omega) (by omega)]; omega), Option.bind_some]
      rcases rk_same (show rk (d + 1) x = rk (d + 1) y by rw [rk_ok hox, rk_ok hoy, h]) with ⟨a, b, rfl, rfl, h3⟩ | ⟨a, b, rfl, rfl⟩ | ⟨a, b, rfl, rfl⟩ | ⟨a, b, rfl, rfl⟩ | ⟨a, b, rfl, rfl⟩
      · rw [jok_k] at hox hoy
        have hab : a = b := by rw [kd_k, kd_k] at h; exact h
        obtain ⟨c1', hc1, ec1⟩ := hax.cell0 (n := n) (o := o)
        obtain ⟨c2', hc2, ec2⟩ := hay.cell0 (n := n) (o := o')
        rw [jc_k] at hc1 hc2
        rw [kd_k, if_neg (by rw [show (4 : Int32) = i3 4 from rfl, i3_eq (by omega) (by omega)]; omega), if_neg (by rw [show (5 : Int32) = i3 5 from rfl, i3_eq (by omega) (by omega)]; omega), if_neg (by rw [show (6 : Int32) = i3 6 from rfl, i3_eq (by omega) (by omega)]; omega), ec1, Option.bind_some, ec2, Option.bind_some]
        have e1 : c1' = cW (a : Nat) := (Option.some.inj hc1).symm
        have e2 : c2' = cW (b : Nat) := (Option.some.inj hc2).symm
        rw [e1, e2, hab, if_pos (by rw [lg_zero])]
        have : jin (d + 1) (jk b) (jk b) = true := by
          show decide (b = b) = true
          simp
        rw [this]
        rfl
      · rw [jok_n] at hox hoy
        obtain ⟨c1', hc1, ec1⟩ := hax.cell0 (n := n) (o := o)
        obtain ⟨c2', hc2, ec2⟩ := hay.cell0 (n := n) (o := o')
        rw [jc_n] at hc1 hc2
        rw [kd_n, if_neg (by decide), if_neg (by decide), if_neg (by decide), ec1, Option.bind_some, ec2, Option.bind_some]
        have e1 : c1' = cW (a * 8 + 3) := (Option.some.inj hc1).symm
        have e2 : c2' = cW (b * 8 + 3) := (Option.some.inj hc2).symm
        have hj : jin (d + 1) (jn a) (jn b) = decide (a = b) := rfl
        rw [e1, e2, hj]
        by_cases hab : a = b
        · rw [if_pos (by rw [lg_zero, hab]), hab]
          simp
        · rw [if_neg (by rw [lg_zero, cW_eq (by omega) (by omega) (by omega) (by omega)]; omega)]
          simp [hab]
      · rw [jok_s] at hox hoy
        have hj : jin (d + 1) (js a) (js b) = sub b a := rfl
        rw [kd_s, if_pos (by decide), isPart_w (by omega) hax hox hay hoy, Option.bind_some, if_neg (bz _), hj]
      · have s1 := hax.asz
        have s2 := hay.asz
        have hp := jd_a_pos (l := a)
        have hd : ∀ z ∈ a, jd d z ≤ 59 - k := jd_a_le.mp (by omega)
        have hj : jin (d + 1) (ja a) (ja b) = b.all (fun y => a.any (fun x => jin d x y)) := rfl
        rw [kd_a, if_neg (by decide), if_pos (by decide), hj]
        unfold fH_areElementsIn
        rw [i3_one, show (0 : Int32) = i3 0 from rfl, ae_loop (rec := fH_isIn fu n) (o := o) (o' := o') (k := k) hax hox (m := b) (fun n => hay.alen) (by omega) b n 0 (q + 1) hoy (fun z hz w hw r s hr hs => ih fu z w r s (k + 1) (hox z hz) (hoy w hw) hr hs (by omega) (by have := hd z hz; omega)) (by omega) hay.abody (by omega), Option.bind_some]
        exact if_neg (bz _)
      · have s1 := hax.osz
        have s2 := hay.osz
        have hp := jd_o_pos (l := a)
        have hd : ∀ z ∈ a, jd d z.2 ≤ 59 - k := jd_o_le.mp (by omega)
        have hj : jin (d + 1) (jo a) (jo b) = b.all (fun p => luB a p.1 (fun x => jin d x p.2)) := rfl
        rw [kd_o, if_neg (by decide), if_neg (by decide), if_pos (by decide), hj]
        unfold fH_areNamesIn
        rw [i3_one, show (0 : Int32) = i3 0 from rfl, an_loop (rec := fH_isIn fu n) (o := o) (o' := o') (k := k) hax hox (m := b) (fun n => hay.olen) (by omega) b n 0 (q + 1) hoy.1 (fun z hz w hw r s hr hs => ih fu z.2 w.2 r s (k + 1) (hox.1 z hz).2 (hoy.1 w hw).2 hr hs (by omega) (by have := hd z hz; omega)) (by omega) hay.obody (by omega), Option.bind_some]
        exact if_neg (bz _)
    · rw [if_neg (by rw [i3_eq (by omega) (by omega)]; exact h)]
      have : jin (d + 1) x y = false := by
        rcases jcases x with ⟨k, rfl⟩ | ⟨z, rfl⟩ | ⟨s, rfl⟩ | ⟨l, rfl⟩ | ⟨l, rfl⟩ <;> rcases jcases y with ⟨k', rfl⟩ | ⟨z', rfl⟩ | ⟨s', rfl⟩ | ⟨l', rfl⟩ | ⟨l', rfl⟩ <;> first | rfl | exact absurd rfl h | exact decide_eq_false h
      rw [this]
      rfl
theorem contains_w (hn : 20000 < n) (hfu : e + 1 ≤ fu) {a x : JT (e + 1)} (ha : At f v 0 (jc (e + 1) a)) (hoa : jok (e + 1) a) (hx : At g u 0 (jc (e + 1) x)) (hox : jok (e + 1) x) (hja : jd (e + 1) a ≤ 60) (hr : RV r) : OK r (fH_contains fu n f (i3 v) o g (i3 u) o' r.1 (i3 r.2.1) r.2.2) (oCont a x) := by
  have k1 := kd_lt8 hoa
  have k2 := kd_lt8 hox
  have ka : fR_kind n 0 f (i3 v) o = some (i3 (kd (e + 1) a)) := ha.kind hoa
  have kx : fR_kind n 0 g (i3 u) o' = some (i3 (kd (e + 1) x)) := hx.kind hox
  have it : ∀ k, k < 8 → fH_isTruth n (i3 k) = some (if (decide (k = 1) || decide (k = 2)) then 1 else 0) := fun k hk => by
    obtain rfl | rfl | rfl | rfl | rfl | rfl | rfl | rfl : k = 0 ∨ k = 1 ∨ k = 2 ∨ k = 3 ∨ k = 4 ∨ k = 5 ∨ k = 6 ∨ k = 7 := by omega
    all_goals rfl
  have hk : fH_areOfOneKind n 0 0 f (i3 v) o g (i3 u) o' = some (if alike (kd (e + 1) a) (kd (e + 1) x) then 1 else 0) := by
    unfold fH_areOfOneKind alike
    rw [ka, Option.bind_some, kx, Option.bind_some, Option.bind_some, Option.bind_some, it _ k1, Option.bind_some, it _ k2, Option.bind_some]
    by_cases h : kd (e + 1) a = kd (e + 1) x
    · rw [if_pos (by rw [h]), h]
      simp
    · rw [if_neg (by rw [i3_eq (by omega) (by omega)]; exact h)]
      simp only [ib, h, decide_false, Bool.false_or]
      cases h1 : (decide (kd (e + 1) a = 1) || decide (kd (e + 1) a = 2)) with
      | false => rw [if_pos rfl, Bool.false_and]; rfl
      | true =>
        rw [if_neg (by decide), Bool.true_and]
        cases h2 : (decide (kd (e + 1) x = 1) || decide (kd (e + 1) x = 2)) with
        | false => rw [if_pos rfl]; rfl
        | true => rw [if_neg (by decide)]; rfl
  unfold fH_contains oCont
  simp only [b4]
  rw [hk, Option.bind_some]
  cases h : alike (kd (e + 1) a) (kd (e + 1) x) with
  | false =>
    rw [if_pos (by decide), if_neg (by decide : ¬ (false = true))]
    exact OK.refuse (k := 1) hr (by omega) (by omega)
  | true =>
    have hi : fH_isIn fu n 0 0 0 f (i3 v) o g (i3 u) o' = some (if jin (e + 1) a x then 1 else 0) := isIn_w (o := o) (o' := o') hn (e + 1) fu a x 0 0 0 hoa hox ha hx hfu (by omega)
    rw [if_neg (by decide), if_pos rfl, hi, Option.bind_some]
    exact truth_w hr _
end PA
end ZPair30
