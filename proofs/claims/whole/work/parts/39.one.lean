/-! ===== the rest of the operations on one value ===== -/
theorem esc_lt : ∀ c, c < 128 → ∀ x ∈ esc c, x < 128 := by decide +kernel
theorem qt_lt {s : Sx} (hs : sok s) : ∀ c ∈ qt s, c < 128 := by
  intro c hc
  unfold qt at hc
  rcases List.mem_cons.mp hc with rfl | hc
  · omega
  · rcases List.mem_append.mp hc with hc | hc
    · obtain ⟨x, hx, hc⟩ := List.mem_flatMap.mp hc
      exact esc_lt x (hs x hx) c hc
    · rw [List.mem_singleton.mp hc]; omega
theorem cj_lt {l : List (List Nat)} (h : ∀ x ∈ l, ∀ c ∈ x, c < 128) : ∀ c ∈ cj l, c < 128 := by
  intro c hc
  cases l with
  | nil => exact absurd hc (by simp [cj])
  | cons x l =>
    unfold cj at hc
    rcases List.mem_append.mp hc with hc | hc
    · exact h x (List.mem_cons_self ..) c hc
    · obtain ⟨y, hy, hc⟩ := List.mem_flatMap.mp hc
      rcases List.mem_cons.mp hc with rfl | hc
      · omega
      · exact h y (List.mem_cons_of_mem _ hy) c hc
theorem jt_lt : ∀ (d : Nat) (j : JT d), jok d j → sok (jt d j) := by
  intro d
  induction d with
  | zero => exact fun j => (j0 j).elim
  | succ d ih =>
    intro j hj
    rcases jcases j with ⟨k, rfl⟩ | ⟨z, rfl⟩ | ⟨s, rfl⟩ | ⟨l, rfl⟩ | ⟨l, rfl⟩
    · exact wd_lt k
    · exact nt_lt z
    · exact qt_lt hj
    · rw [jt_a]
      intro c hc
      rcases List.mem_cons.mp hc with rfl | hc
      · omega
      · rcases List.mem_append.mp hc with hc | hc
        · refine cj_lt (fun x hx => ?_) c hc
          obtain ⟨y, hy, rfl⟩ := List.mem_map.mp hx
          exact ih y (hj y hy)
        · rw [List.mem_singleton.mp hc]; omega
    · rw [jt_o]
      intro c hc
      rcases List.mem_cons.mp hc with rfl | hc
      · omega
      · rcases List.mem_append.mp hc with hc | hc
        · refine cj_lt (fun x hx => ?_) c hc
          obtain ⟨y, hy, rfl⟩ := List.mem_map.mp hx
          intro c hc
          rcases List.mem_append.mp hc with hc | hc
          · exact qt_lt (hj.1 y hy).1 c hc
          · rcases List.mem_cons.mp hc with rfl | hc
            · omega
            · exact ih y.2 (hj.1 y hy).2 c hc
        · rw [List.mem_singleton.mp hc]; omega
def oStr {e : Nat} (a : JT (e + 1)) : Nat ⊕ JT (e + 1) :=
  match a with
  | .inl (.inr (.inr s)) => .inr (js s)
  | a => .inr (js (jt (e + 1) a))
def oNumb {e : Nat} (a : JT (e + 1)) : Nat ⊕ JT (e + 1) :=
  match a with
  | .inl (.inr (.inl z)) => .inr (jn z)
  | .inl (.inr (.inr s)) => (match pTN s with
    | none => .inl 4
    | some z => .inr (jn z))
  | _ => .inl 1
def oFrom {e : Nat} (a : JT (e + 1)) : Nat ⊕ JT (e + 1) :=
  match a with
  | .inl (.inr (.inr s)) => (match pT e 40 s with
    | .inl _ => .inl 5
    | .inr j => .inr j)
  | _ => .inl 1
def oOne {e : Nat} (f : Nat) (a : JT (e + 2)) : Nat ⊕ JT (e + 2) :=
  if f = 0 then .inr (tru (decide (kd (e + 2) a < 2))) else if f = 1 then oLen a else if f = 2 then oSortK a else if f = 3 then oKeys a else if f = 4 then oStr a else if f = 5 then oNumb a else if f = 6 then .inr (js (jt (e + 2) a)) else if f = 7 then oFrom a else if f = 8 then oSort a else if f = 9 then oRev a else if f = 10 then oExp a else if f = 11 then oImp a else if f = 12 then oCase lowC a else oCase upC a
section OE
variable {f : Nat → Int64} {v e : Nat} {o : Int32} {n fu : Nat} {r : RS} {t : TS}
theorem printed_w (hn : 10000 < n) (hfu : e + 1 ≤ fu) {a : JT (e + 1)} (ha : At f v 0 (jc (e + 1) a)) (hoa : jok (e + 1) a) (hja : jd (e + 1) a ≤ 60) (hr : RV r) : OK7 r (fG_printed fu n f (i3 v) o t.1 (i3 t.2.1) t.2.2 r.1 (i3 r.2.1) r.2.2) (.inr (js (jt (e + 1) a) : JT (e + 1))) := by
  unfold fG_printed fT_clear
  rw [Option.bind_some]
  obtain ⟨t1, e1, h1, h2, _⟩ := write_w hn (e + 1) fu a f 0 v 0 o (t.1, 0, 0) hoa ha hfu (by omega) ⟨by simp, Or.inl rfl⟩
  have hw := h2 (Or.inr (by omega))
  obtain ⟨r', e2, w2⟩ := joinEnd (n := n) (t0 := (t.1, 0, 0)) (by omega) ⟨rfl, rfl⟩ (jt_lt _ a hoa) hw hr
  have e1' : fP_write fu n 0 0 f (i3 v) o t.1 0 0 = some (t1.1, i3 t1.2.1, t1.2.2) := e1
  dsimp only
  rw [e1', Option.bind_some]
  dsimp only
  rw [e2]
  exact ⟨0, t1, r', rfl, h1, OK.val rfl w2⟩
theorem itself_w (hr : RV r) {a : JT (e + 1)} (ha : At f v 0 (jc (e + 1) a)) (hoa : jok (e + 1) a) : OK r (fG_itself n f (i3 v) o r.1 (i3 r.2.1) r.2.2) (.inr a) := by
  have h : OK r (fH_copy n 0 f (i3 v) o r.1 (i3 r.2.1) r.2.2) (.inr a) := copyO_w hr ha hoa
  exact h
theorem readerOf_w (hn : 5000 < n) {s : Sx} (hs : sok s) (ha : At f v 0 (strc s)) {f6 : Nat → Int64} {v7 v8 : Int32} : ∃ t' : TS, fG_readerOf n f (i3 v) o t.1 (i3 t.2.1) t.2.2 f6 v7 v8 = some (t'.1, i3 t'.2.1, t'.2.2) ∧ RV t' ∧ TSrc t' s := by
  obtain ⟨t1, e1, w1⟩ := addString_w (n := n) (o := o) (t := (t.1, 0, 0)) hn hs ha ⟨by simp, Or.inl rfl⟩
  unfold fG_readerOf fT_clear
  rw [Option.bind_some]
  have e1' : fT_addString n 0 t.1 0 0 f (i3 v) o = some (t1.1, i3 t1.2.1, t1.2.2) := e1
  dsimp only
  rw [e1', Option.bind_some]
  have h1 := ha.2.1
  have h2 := ha.2.2
  rw [strc_len] at h1
  have h3 := w1.fits rfl (by rw [List.length_map]; show 0 + s.length ≤ 4096; omega)
  obtain ⟨h4, _, h5⟩ := w1.end0 h3
  rw [List.length_map] at h4
  have h6 : t1.2.1 = s.length := by rw [h4]; show 0 + s.length = s.length; omega
  refine ⟨t1, rfl, w1.v, fun c hc => by have := hs c hc; omega, ?_, h6.symm, h5⟩
  rcases w1.2 with ⟨_, _, _, _, _, g⟩ | ⟨_, g⟩
  · exact g
  · rw [h3] at g
    exact absurd g (by decide)
theorem toNumber_w (hn : 20000 < n) {a : JT (e + 1)} (ha : At f v 0 (jc (e + 1) a)) (hoa : jok (e + 1) a) (ht : RV t) (hr : RV r) : OK7 r (fG_toNumber n f (i3 v) o t.1 (i3 t.2.1) t.2.2 r.1 (i3 r.2.1) r.2.2) (oNumb a) := by
  obtain ⟨_, a3, a4, _, _⟩ := isk (o := o) ha hoa n
  unfold fG_toNumber
  rw [a3, Option.bind_some]
  by_cases h3 : kd (e + 1) a = 3
  · obtain ⟨z, rfl⟩ := kdn hoa h3
    rw [if_pos h3, if_neg (by decide)]
    exact (itself_w hr ha hoa).up ht
  · rw [if_neg h3, if_pos (by decide), a4, Option.bind_some]
    by_cases h4 : kd (e + 1) a = 4
    · obtain ⟨s, rfl⟩ := kds hoa h4
      rw [if_pos h4, if_neg (by decide)]
      obtain ⟨t1, e1, g1, g2⟩ := readerOf_w (n := n) (o := o) (t := t) (by omega) hoa ha (f6 := r.1) (v7 := i3 r.2.1) (v8 := r.2.2)
      rw [e1, Option.bind_some]
      dsimp only
      obtain ⟨r', x, y, z, g3, e2, g4⟩ := readNumber_w g2 hn hr
      rw [e2, Option.bind_some]
      dsimp only
      show OK7 r _ (match pTN s with | none => .inl 4 | some z => .inr (jn z))
      cases hp : pTN s with
      | none =>
        rw [hp] at g4
        rw [if_neg g4]
        exact ⟨4, t1, r', rfl, g1, OK.ref (k := 4) rfl g3 (by omega) (by omega)⟩
      | some q =>
        rw [hp] at g4
        rw [if_pos g4.1]
        exact ⟨0, t1, r', rfl, g1, OK.val rfl g4.2.1⟩
    · rw [if_neg h4, if_pos (by decide)]
      have : oNumb a = .inl 1 := by
        unfold oNumb
        rcases jcases a with ⟨k, rfl⟩ | ⟨z, rfl⟩ | ⟨s, rfl⟩ | ⟨l, rfl⟩ | ⟨l, rfl⟩ <;> first | rfl | exact absurd rfl h3 | exact absurd rfl h4
      rw [this]
      exact ⟨1, t, r, rfl, ht, OK.refuse (k := 1) hr (by omega) (by omega)⟩
theorem fromJson_w (hn : 20000 < n) (he : 40 ≤ e) (hfu : e < fu) {a : JT (e + 1)} (ha : At f v 0 (jc (e + 1) a)) (hoa : jok (e + 1) a) (ht : RV t) (hr : RV r) (h0 : r.2.1 = 0 ∧ r.2.2 = 0) : OK7 r (fG_fromJson fu n f (i3 v) o t.1 (i3 t.2.1) t.2.2 r.1 (i3 r.2.1) r.2.2) (oFrom a) := by
  obtain ⟨_, _, a4, _, _⟩ := isk (o := o) ha hoa n
  unfold fG_fromJson
  rw [a4, Option.bind_some]
  by_cases h4 : kd (e + 1) a = 4
  · obtain ⟨s, rfl⟩ := kds hoa h4
    rw [if_pos h4, if_neg (by decide)]
    obtain ⟨t1, e1, g1, g2⟩ := readerOf_w (n := n) (o := o) (t := t) (by omega) hoa ha (f6 := r.1) (v7 := i3 r.2.1) (v8 := r.2.2)
    rw [e1, Option.bind_some]
    dsimp only
    obtain ⟨r', x, g3, g4⟩ := readValue_w g2 hn he hfu hr h0
    show OK7 r _ (match pT e 40 s with | .inl _ => .inl 5 | .inr j => .inr j)
    cases hp : pT e 40 s with
    | inl q =>
      rw [hp] at g4
      obtain ⟨g4, g5⟩ := g4
      rw [g4, Option.bind_some]
      dsimp only
      rw [if_neg (by rw [pos_m1 g2 g5]; exact id)]
      exact ⟨5, t1, r', rfl, g1, OK.ref (k := 5) rfl g3 (by omega) (by omega)⟩
    | inr j =>
      rw [hp] at g4
      obtain ⟨g4, g5, _⟩ := g4
      rw [g4, Option.bind_some]
      dsimp only
      rw [if_pos rfl]
      exact ⟨0, t1, r', rfl, g1, OK.val rfl g5⟩
  · rw [if_neg h4, if_pos (by decide)]
    have : oFrom a = .inl 1 := by
      unfold oFrom
      rcases jcases a with ⟨k, rfl⟩ | ⟨z, rfl⟩ | ⟨s, rfl⟩ | ⟨l, rfl⟩ | ⟨l, rfl⟩ <;> first | rfl | exact absurd rfl h4
    rw [this]
    exact ⟨1, t, r, rfl, ht, OK.refuse (k := 1) hr (by omega) (by omega)⟩
abbrev Out13 : Type := Int32 × (Nat → Int32) × Int32 × Int32 × (Nat → Int32) × (Nat → Int32) × Nat × (Nat → Int32) × Nat × Int32 × (Nat → Int64) × Int32 × Int32
def OK13 {d : Nat} (r : RS) (out : Option Out13) (res : Nat ⊕ JT d) : Prop := ∃ (c : Nat) (t' : TS) (a1 a2 : Nat → Int32) (b1 : Nat) (a3 : Nat → Int32) (b2 : Nat) (a4 : Int32) (r' : RS), out = some (i3 c, t'.1, i3 t'.2.1, t'.2.2, a1, a2, b1, a3, b2, a4, r'.1, i3 r'.2.1, r'.2.2) ∧ RV t' ∧ OK r (some (i3 c, r'.1, i3 r'.2.1, r'.2.2)) res
theorem OK7.up {d : Nat} {res : Nat ⊕ JT d} {out : Option (Int32 × (Nat → Int32) × Int32 × Int32 × (Nat → Int64) × Int32 × Int32)} {a1 a2 a3 : Nat → Int32} {b1 b2 : Nat} {a4 : Int32} (h : OK7 r out res) : OK13 r (out.bind fun o => some (o.1, o.2.1, o.2.2.1, o.2.2.2.1, a1, a2, b1, a3, b2, a4, o.2.2.2.2.1, o.2.2.2.2.2.1, o.2.2.2.2.2.2)) res := by
  obtain ⟨c, t', r', rfl, h1, h2⟩ := h
  exact ⟨c, t', a1, a2, b1, a3, b2, a4, r', rfl, h1, h2⟩
theorem OK.up13 {d : Nat} {res : Nat ⊕ JT d} {out : Option Out4} {a1 a2 a3 : Nat → Int32} {b1 b2 : Nat} {a4 : Int32} (ht : RV t) (h : OK r out res) : OK13 r (out.bind fun o => some (o.1, t.1, i3 t.2.1, t.2.2, a1, a2, b1, a3, b2, a4, o.2.1, o.2.2.1, o.2.2.2)) res := by
  obtain ⟨c, r', rfl, h1, h2⟩ := h
  exact ⟨c, t, a1, a2, b1, a3, b2, a4, r', rfl, ht, c, r', rfl, h1, h2⟩
variable {f6 f7 f9 f11 : Nat → Int32} {p8 p10 : Nat} {v12 : Int32}
theorem srtA_up (hn : 100000 < n) (hfu : e ≤ fu) (he : e ≤ 1000) {l : List (JT e)} (ha : At f v 0 (jc (e + 1) (ja l))) (hoa : jok (e + 1) (ja l)) (hl : l.length ≤ 2048) (hjd : ∀ x ∈ l, jd e x ≤ 60) (ht : RV t) (hr : RV r) : OK13 (d := e + 1) r ((fG_sorted fu n f (i3 v) o f6 f7 p8 f9 p10 f11 v12 r.1 (i3 r.2.1) r.2.2).bind fun o37 => some (o37.1, t.1, i3 t.2.1, t.2.2, o37.2.1, o37.2.2.1, o37.2.2.2.1, o37.2.2.2.2.1, o37.2.2.2.2.2.1, o37.2.2.2.2.2.2.1, o37.2.2.2.2.2.2.2.1, o37.2.2.2.2.2.2.2.2.1, o37.2.2.2.2.2.2.2.2.2)) (.inr (ja (byT (tn l) l))) := by
  obtain ⟨w0, w1, w2, w3, w4, v', r', e1, g1⟩ := sortedA_w (n := n) (fu := fu) (o := o) (f3 := f6) (f4 := f7) (p5 := p8) (f6 := f9) (p7 := p10) (f8 := f11) (v9 := v12) hn hfu he ha hoa hl hjd hr
  rw [e1]
  exact ⟨0, t, w0, w1, w2, w3, w4, v', r', rfl, ht, OK.val rfl g1⟩
theorem srtO_up (hn : 100000 < n) (hfu : 1 ≤ fu) {l : List (Sx × JT (e + 1))} (ha : At f v 0 (jc (e + 2) (jo l))) (hoa : jok (e + 2) (jo l)) (hl : l.length ≤ 2048) (ht : RV t) (hr : RV r) : OK13 (d := e + 2) r ((fG_sorted fu n f (i3 v) o f6 f7 p8 f9 p10 f11 v12 r.1 (i3 r.2.1) r.2.2).bind fun o37 => some (o37.1, t.1, i3 t.2.1, t.2.2, o37.2.1, o37.2.2.1, o37.2.2.2.1, o37.2.2.2.2.1, o37.2.2.2.2.2.1, o37.2.2.2.2.2.2.1, o37.2.2.2.2.2.2.2.1, o37.2.2.2.2.2.2.2.2.1, o37.2.2.2.2.2.2.2.2.2)) (oSortK (jo l)) := by
  obtain ⟨w0, w1, w2, w3, w4, v', r', e1, g1⟩ := sortedO_w (n := n) (fu := fu) (o := o) (f3 := f6) (f4 := f7) (p5 := p8) (f6 := f9) (p7 := p10) (f8 := f11) (v9 := v12) hn hfu ha hoa hl hr
  rw [e1]
  exact ⟨0, t, w0, w1, w2, w3, w4, v', r', rfl, ht, OK.val rfl g1⟩
theorem one_op (hn : 100000 < n) (hfu : e + 2 ≤ fu) (he : 40 ≤ e + 1) (he' : e + 2 ≤ 1000) {k : Nat} (hk : k ≤ 13) {a : JT (e + 2)} (ha : At f v 0 (jc (e + 2) a)) (hoa : jok (e + 2) a) (hja : jd (e + 2) a ≤ 60) (hlA : ∀ l, a = ja l → l.length ≤ 2048) (hlO : ∀ l, a = jo l → l.length ≤ 2048) (ht : RV t) (hr : RV r) (h0 : r.2.1 = 0 ∧ r.2.2 = 0) : OK13 r (fG_apply fu n (i3 k) f (i3 v) o t.1 (i3 t.2.1) t.2.2 f6 f7 p8 f9 p10 f11 v12 r.1 (i3 r.2.1) r.2.2) (oOne k a) := by
  obtain ⟨a0, _, a4, a5, a6⟩ := isk (o := o) ha hoa n
  have hjl : ∀ l, a = ja l → ∀ x ∈ l, jd (e + 1) x ≤ 60 := fun l hl x hx => by
    subst hl
    have : jd (e + 2) (ja l) ≤ 59 + 1 := hja
    have := jd_a_le.mp this x hx
    omega
  unfold fG_apply oOne
  obtain rfl | rfl | rfl | rfl | rfl | rfl | rfl | rfl | rfl | rfl | rfl | rfl | rfl | rfl : k = 0 ∨ k = 1 ∨ k = 2 ∨ k = 3 ∨ k = 4 ∨ k = 5 ∨ k = 6 ∨ k = 7 ∨ k = 8 ∨ k = 9 ∨ k = 10 ∨ k = 11 ∨ k = 12 ∨ k = 13 := by omega
  · rw [if_pos (by decide), if_pos rfl, a0, Option.bind_some]
    have a1 : fR_is n 0 1 f (i3 v) o = some (if kd (e + 2) a = 1 then 1 else 0) := ha.is (k := 1) hoa (by omega)
    obtain ⟨r1, e1, w1⟩ := putTruth_w (n := n) hr true
    obtain ⟨r2, e2, w2⟩ := putTruth_w (n := n) hr false
    have e1' : fR_putTruth n 1 r.1 (i3 r.2.1) r.2.2 = some (r1.1, i3 r1.2.1, r1.2.2) := e1
    have e2' : fR_putTruth n 0 r.1 (i3 r.2.1) r.2.2 = some (r2.1, i3 r2.2.1, r2.2.2) := e2
    by_cases h0 : kd (e + 2) a = 0
    · rw [if_pos h0, if_neg (by decide), e1', show decide (kd (e + 2) a < 2) = true by simp; omega]
      exact ⟨0, t, _, _, _, _, _, _, r1, rfl, ht, OK.val rfl w1⟩
    · rw [if_neg h0, if_pos (by decide), a1, Option.bind_some]
      by_cases h1 : kd (e + 2) a = 1
      · rw [if_pos h1, if_neg (by decide), e1', show decide (kd (e + 2) a < 2) = true by simp; omega]
        exact ⟨0, t, _, _, _, _, _, _, r1, rfl, ht, OK.val rfl w1⟩
      · rw [if_neg h1, if_pos (by decide), e2', show decide (kd (e + 2) a < 2) = false by simp; omega]
        exact ⟨0, t, _, _, _, _, _, _, r2, rfl, ht, OK.val rfl w2⟩
  · iterate 1 rw [if_neg (by decide)]
    rw [if_pos (by decide)]
    exact (length_w ha hoa hr).up13 ht
  · iterate 2 rw [if_neg (by decide)]
    rw [if_pos (by decide), a6, Option.bind_some]
    by_cases h6 : kd (e + 2) a = 6
    · obtain ⟨l, rfl⟩ := kdo hoa h6
      rw [if_pos h6, if_neg (by decide)]
      exact srtO_up hn (by omega) ha hoa (hlO l rfl) ht hr
    · rw [if_neg h6, if_pos (by decide)]
      have : oSortK a = oKeys a := by
        unfold oSortK
        rcases jcases a with ⟨k, rfl⟩ | ⟨z, rfl⟩ | ⟨s, rfl⟩ | ⟨l, rfl⟩ | ⟨l, rfl⟩ <;> first | rfl | exact absurd rfl h6
      show OK13 r _ (oSortK a)
      rw [this]
      exact (keys_w (by omega) ha hoa hr).up13 ht
  · iterate 3 rw [if_neg (by decide)]
    rw [if_pos (by decide)]
    exact (keys_w (by omega) ha hoa hr).up13 ht
  · iterate 4 rw [if_neg (by decide)]
    rw [if_pos (by decide), a4, Option.bind_some]
    by_cases h4 : kd (e + 2) a = 4
    · obtain ⟨s, rfl⟩ := kds hoa h4
      rw [if_pos h4, if_neg (by decide)]
      exact (itself_w hr ha hoa).up13 ht
    · rw [if_neg h4, if_pos (by decide)]
      have : oStr a = .inr (js (jt (e + 2) a)) := by
        unfold oStr
        rcases jcases a with ⟨k, rfl⟩ | ⟨z, rfl⟩ | ⟨s, rfl⟩ | ⟨l, rfl⟩ | ⟨l, rfl⟩ <;> first | rfl | exact absurd rfl h4
      show OK13 r _ (oStr a)
      rw [this]
      exact (printed_w (by omega) (by omega) ha hoa hja hr).up
  · iterate 5 rw [if_neg (by decide)]
    rw [if_pos (by decide)]
    exact (toNumber_w (by omega) ha hoa ht hr).up
  · iterate 6 rw [if_neg (by decide)]
    rw [if_pos (by decide)]
    exact (printed_w (by omega) (by omega) ha hoa hja hr).up
  · iterate 7 rw [if_neg (by decide)]
    rw [if_pos (by decide)]
    exact (fromJson_w (by omega) he (by omega) ha hoa ht hr h0).up
  · iterate 8 rw [if_neg (by decide)]
    rw [if_pos (by decide), a5, Option.bind_some]
    show OK13 r _ (oSort a)
    by_cases h5 : kd (e + 2) a = 5
    · obtain ⟨l, rfl⟩ := kda hoa h5
      rw [if_pos h5, if_neg (by decide)]
      exact srtA_up hn (by omega) (by omega) ha hoa (hlA l rfl) (hjl l rfl) ht hr
    · rw [if_neg h5, if_pos (by decide)]
      have : oSort a = .inl 1 := by
        unfold oSort
        rcases jcases a with ⟨k, rfl⟩ | ⟨z, rfl⟩ | ⟨s, rfl⟩ | ⟨l, rfl⟩ | ⟨l, rfl⟩ <;> first | rfl | exact absurd rfl h5
      rw [this]
      exact ⟨1, t, _, _, _, _, _, _, r, rfl, ht, OK.refuse (k := 1) hr (by omega) (by omega)⟩
  · iterate 9 rw [if_neg (by decide)]
    rw [if_pos (by decide)]
    obtain ⟨c, a1, a2, a3, r', e1, g1⟩ := reversed_w (n := n) (o := o) (f3 := f6) (f4 := f7) (p5 := p8) (f6 := f9) (p7 := p10) (f8 := f11) (v9 := v12) (by omega) ha hoa (fun l hl => ⟨hlA l hl, hjl l hl⟩) hr
    rw [e1]
    exact ⟨c, t, a1, a2, _, _, _, a3, r', rfl, ht, g1⟩
  · iterate 10 rw [if_neg (by decide)]
    rw [if_pos (by decide)]
    exact (codes_w (by omega) ha hoa hr).up13 ht
  · iterate 11 rw [if_neg (by decide)]
    rw [if_pos (by decide)]
    exact (ofCodes_w (by omega) ha hoa hr).up13 ht
  · iterate 12 rw [if_neg (by decide)]
    rw [if_pos (by decide)]
    exact (case_w (first := 65) (step := 32) (by omega) (by omega) low_all ha hoa hr).up13 ht
  · iterate 13 rw [if_neg (by decide)]
    exact (case_w (first := 97) (step := -32) (by omega) (by omega) up_all ha hoa hr).up13 ht
end OE
