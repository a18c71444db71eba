section ZOne39
/-! ===== the rest of the operations on one value ===== -/
theorem esc_lt : ∀ c, c < 128 → ∀ x ∈ esc c, x < 128 := by decide +kernel
theorem qt_lt {s : Sx} (hs : sok s) : ∀ c ∈ qt s, c < 128 := by
  intro c hc
  unfold qt at hc
  rcases List.mem_cons.mp hc with rfl | hc
  · omega
  · rcases List.mem_append.mp hc with hc | hc
    · obtain ⟨x, hx, hc⟩ := List.mem_flatMap.mp hc
      exact esc_lt x (hs x hx) c hc
    · rw [List.mem_singleton.mp hc]; omega
theorem cj_lt {l : List (List Nat)} (h : ∀ x ∈ l, ∀ c ∈ x, c < 128) : ∀ c ∈ cj l, c < 128 := by
  intro c hc
  cases l with
  | nil => exact absurd hc (by simp [cj])
  | cons x l =>
    unfold cj at hc
    rcases List.mem_append.mp hc with hc | hc
    · exact h x (List.mem_cons_self ..) c hc
    · obtain ⟨y, hy, hc⟩ := List.mem_flatMap.mp hc
      rcases List.mem_cons.mp hc with rfl | hc
      · omega
      · exact h y (List.mem_cons_of_mem _ hy) c hc
theorem jt_lt : ∀ (d : Nat) (j : JT d), jok d j → sok (jt d j) := by
  intro d
  induction d with
  | zero => exact fun j => (j0 j).elim
  | succ d ih =>
    intro j hj
    rcases jcases j with ⟨k, rfl⟩ | ⟨z, rfl⟩ | ⟨s, rfl⟩ | ⟨l, rfl⟩ | ⟨l, rfl⟩
    · exact wd_lt k
    · exact nt_lt z
    · exact qt_lt hj
    · rw [jt_a]
      intro c hc
      rcases List.mem_cons.mp hc with rfl | hc
      · omega
      · rcases List.mem_append.mp hc with hc | hc
        · refine cj_lt (fun x hx => ?_) c hc
          obtain ⟨y, hy, rfl⟩ := List.mem_map.mp hx
          exact ih y (hj y hy)
        · rw [List.mem_singleton.mp hc]; omega
    · rw [jt_o]
      intro c hc
      rcases List.mem_cons.mp hc with rfl | hc
      · omega
      · rcases List.mem_append.mp hc with hc | hc
        · refine cj_lt (fun x hx => ?_) c hc
          obtain ⟨y, hy, rfl⟩ := List.mem_map.mp hx
          intro c hc
          rcases List.mem_append.mp hc with hc | hc
          · exact qt_lt (hj.1 y hy).1 c hc
          · rcases List.mem_cons.mp hc with rfl | hc
            · omega
            · exact ih y.2 (hj.1 y hy).2 c hc
        · rw [List.mem_singleton.mp hc]; omega
def oStr {e : Nat} (a : JT (e + 1)) : Nat ⊕ JT (e + 1) :=
  match a with
  | .inl (.inr (.inr s)) => .inr (js s)
  | a => .inr (js (jt (e + 1) a))
def oNumb {e : Nat} (a : JT (e + 1)) : Nat ⊕ JT (e + 1) :=
  match a with
  | .inl (.inr (.inl z)) => .inr (jn z)
  | .inl (.inr (.inr s)) => (match pTN s with
    | none => .inl 4
    | some z => .inr (jn z))
  | _ => .inl 1
def oFrom {e : Nat} (a : JT (e + 1)) : Nat ⊕ JT (e + 1) :=
  match a with
  | .inl (.inr (.inr s)) => (match pT e 40 s with
    | .inl _ => .inl 5
    | .inr j => .inr j)
  | _ => .inl 1
def oOne {e : Nat} (f : Nat) (a : JT (e + 2)) : Nat ⊕ JT (e + 2) :=
  if f = 0 then .inr (tru (decide (kd (e + 2) a < 2))) else if f = 1 then oLen a else if f = 2 then oSortK a else if f = 3 then oKeys a else if f = 4 then oStr a else if f = 5 then oNumb a else if f = 6 then .inr (js (jt (e + 2) a)) else if f = 7 then oFrom a else if f = 8 then oSort a else if f = 9 then oRev a else if f = 10 then oExp a else if f = 11 then oImp a else if f = 12 then oCase lowC a else oCase upC a
section OE
variable {f : Nat → Int64} {v e : Nat} {o : Int32} {n fu : Nat} {r : RS} {t : TS}
theorem printed_w (hn : 10000 < n) (hfu : e + 1 ≤ fu) {a : JT (e + 1)} (ha : At f v 0 (jc (e + 1) a)) (hoa : jok (e + 1) a) (hja : jd (e + 1) a ≤ 60) (hr : RV r) : OK7 r (fG_printed fu n f (i3 v) o t.1 (i3 t.2.1) t.2.2 r.1 (i3 r.2.1) r.2.2) (.inr (js (jt (e + 1) a) : JT (e + 1))) := by
  unfold fG_printed fT_clear
  rw [Option.bind_some]
  obtain ⟨t1, e1, h1, h2, _⟩ := write_w hn (e + 1) fu a f 0 v 0 o (t.1, 0, 0) hoa ha hfu (by omega) ⟨by simp, Or.inl rfl⟩
  have hw := h2 (Or.inr (by omega))
  obtain ⟨r', e2, w2⟩ := joinEnd (n := n) (t0 := (t.1, 0, 0)) (by omega) ⟨rfl, rfl⟩ (jt_lt _ a hoa) hw hr
  have e1' : fP_write fu n 0 0 f (i3 v) o t.1 0 0 = some (t1.1, i3 t1.2.1, t1.2.2) := e1
  dsimp only
  rw [e1', Option.bind_some]
  dsimp only
  rw [e2]
  exact ⟨0, t1, r', rfl, h1, OK.val rfl w2⟩
theorem itself_w (hr : RV r) {a : JT (e + 1)} (ha : At f v 0 (jc (e + 1) a)) (hoa : jok (e + 1) a) : OK r (fG_itself n f (i3 v) o r.1 (i3 r.2.1) r.2.2) (.inr a) := by
  have h : OK r (fH_copy n 0 f (i3 v) o r.1 (i3 r.2.1) r.2.2) (.inr a) := copyO_w hr ha hoa
  exact h
theorem readerOf_w (hn : 5000 < n) {s : Sx} (hs : sok s) (ha : At f v 0 (strc s)) {f6 : Nat → Int64} {v7 v8 : Int32} : ∃ t' : TS, fG_readerOf n f (i3 v) o t.1 (i3 t.2.1) t.2.2 f6 v7 v8 = some (t'.1, i3 t'.2.1, t'.2.2) ∧ RV t' ∧ TSrc t' s := by
  obtain ⟨t1, e1, w1⟩ := addString_w (n := n) (o := o) (t := (t.1, 0, 0)) hn hs ha ⟨by simp, Or.inl rfl⟩
  unfold fG_readerOf fT_clear
  rw [Option.bind_some]
  have e1' : fT_addString n 0 t.1 0 0 f (i3 v) o = some (t1.1, i3 t1.2.1, t1.2.2) := e1
  dsimp only
  rw [e1', Option.bind_some]
  have h1 := ha.2.1
  have h2 := ha.2.2
  rw [strc_len] at h1
  have h3 := w1.fits rfl (by rw [List.length_map]; show 0 + s.length ≤ 4096; omega)
  obtain ⟨h4, _, h5⟩ := w1.end0 h3
  rw [List.length_map] at h4
  have h6 : t1.2.1 = s.length := by rw [h4]; show 0 + s.length = s.length; omega
  refine ⟨t1, rfl, w1.v, fun c hc => by have := hs c hc; omega, ?_, h6.symm, h5⟩
  rcases w1.2 with ⟨_, _, _, _, _, g⟩ | ⟨_, g⟩
  · exact g
  · rw [h3] at g
    exact absurd g (by decide)
theorem toNumber_w (hn : 20000 < n) {a : JT (e + 1)} (ha : At f v 0 (jc (e + 1) a)) (hoa : jok (e + 1) a) (ht : RV t) (hr : RV r) : OK7 r (fG_toNumber n f (i3 v) o t.1 (i3 t.2.1) t.2.2 r.1 (i3 r.2.1) r.2.2) (oNumb a) := by
  obtain ⟨_, a3, a4, _, _⟩ := isk (o := o) ha hoa n
  unfold fG_toNumber
  rw [a3, Option.bind_some]
  by_cases h3 : kd (e + 1) a = 3
  · obtain ⟨z, rfl⟩ := kdn hoa h3
    rw [if_pos h3, if_neg (by decide)]
    exact (itself_w hr ha hoa).up ht
  · rw [if_neg h3, if_pos (by decide), a4, Option.bind_some]
    by_cases h4 : kd (e + 1) a = 4
    · obtain ⟨s, rfl⟩ := kds hoa h4
      rw [if_pos h4, if_neg (by decide)]
      obtain ⟨t1, e1, g1, g2⟩ := readerOf_w (n := n) (o := o) (t := t) (by omega) hoa ha (f6 := r.1) (v7 := i3 r.2.1) (v8 := r.2.2)
      rw [e1, Option.bind_some]
      dsimp only
      obtain ⟨r', x, y, z, g3, e2, g4⟩ := readNumber_w g2 hn hr
      rw [e2, Option.bind_some]
      dsimp only
      show OK7 r _ (match pTN s with | none => .inl 4 | some z => .inr (jn z))
      cases hp : pTN s with
      | none =>
        rw [hp] at g4
        rw [if_neg g4]
        exact ⟨4, t1, r', rfl, g1, OK.ref (k := 4) rfl g3 (by omega) (by omega)⟩
      | some q =>
        rw [hp] at g4
        rw [if_pos g4.1]
        exact ⟨0, t1, r', rfl, g1, OK.val rfl g4.2.1⟩
    · rw [if_neg h4, if_pos (by decide)]
      have : oNumb a = .inl 1 := by
        unfold oNumb
        rcases jcases a with ⟨k, rfl⟩ | ⟨z, rfl⟩ | ⟨s, rfl⟩ | ⟨l, rfl⟩ | ⟨l, rfl⟩ <;> first | rfl | exact absurd rfl h3 | exact absurd rfl h4
      rw [this]
      exact ⟨1, t, r, rfl, ht, OK.refuse (k := 1) hr (by omega) (by omega)⟩
theorem fromJson_w (hn : 20000 < n) (he : 40 ≤ e) (hfu : e < fu) {a : JT (e + 1)} (ha : At f v 0 (jc (e + 1) a)) (hoa : jok (e + 1) a) (ht : RV t) (hr : RV r) (h0 : r.2.1 = 0 ∧ r.2.2 = 0) : OK7 r (fG_fromJson fu n f (i3 v) o t.1 (i3 t.2.1) t.2.2 r.1 (i3 r.2.1) r.2.2) (oFrom a) := by
  obtain ⟨_, _, a4, _, _⟩ := isk (o := o) ha hoa n
  unfold fG_fromJson
  rw [a4, Option.bind_some]
  by_cases h4 : kd (e + 1) a = 4
  · obtain ⟨s, rfl⟩ := kds hoa h4
    rw [if_pos h4, if_neg (by decide)]
    obtain ⟨t1, e1, g1, g2⟩ := readerOf_w (n := n) (o := o) (t := t) (by omega) hoa ha (f6 := r.1) (v7 := i3 r.2.1) (v8 := r.2.2)
    rw [e1, Option.bind_some]
    dsimp only
    obtain ⟨r', x, g3, g4⟩ := readValue_w g2 hn he hfu hr h0
    show OK7 r _ (match pT e 40 s with | .inl _ => .inl 5 | .inr j => .inr j)
    cases hp : pT e 40 s with
    | inl q =>
      rw [hp] at g4
      obtain ⟨g4, g5⟩ := g4
      rw [g4, Option.bind_some]
      dsimp only
      rw [if_neg (by rw [pos_m1 g2 g5]; exact id)]
      exact ⟨5, t1, r', rfl, g1, OK.ref (k := 5) rfl g3 (by omega) (by omega)⟩
    | inr j =>
      rw [hp] at g4
      obtain ⟨g4, g5, _⟩ := g4
      rw [g4, Option.bind_some]
      dsimp only
      rw [if_pos rfl]
      exact ⟨0, t1, r', rfl, g1, OK.val rfl g5⟩
  · rw [if_neg h4, if_pos (by decide)]
    have : oFrom a = .inl 1 := by
      unfold oFrom
      rcases jcases a with ⟨k, rfl⟩ | ⟨z, rfl⟩ | ⟨s, rfl⟩ | ⟨l, rfl⟩ | ⟨l, rfl⟩ <;> first | rfl | exact absurd rfl h4
    rw [this]
    exact ⟨1, t, r, rfl, ht, OK.refuse (k := 1) hr (by omega) (by omega)⟩
abbrev Out13 : Type := Int32 × (Nat → Int32) × Int32 × Int32 × (Nat → Int32) × (Nat → Int32) × Nat × (Nat → Int32) × Nat × Int32 × (Nat → Int64) × Int32 × Int32
def OK13 {d : Nat} (r : RS) (out : Option Out13) (res : Nat ⊕ JT d) : Prop := ∃ (c : Nat) (t' : TS) (a1 a2 : Nat → Int32) (b1 : Nat) (a3 : Nat → Int32) (b2 : Nat) (a4 : Int32) (r' : RS), out = some (i3 c, t'.1, i3 t'.2.1, t'.2.2, a1, a2, b1, a3, b2, a4, r'.1, i3 r'.2.1, r'.2.2) ∧ RV t' ∧ OK r (some (i3 c, r'.1, i3 r'.2.1, r'.2.2)) res
theorem OK7.up {d : Nat} {res : Nat ⊕ JT d} {out : Option (Int32 × (Nat → Int32) × Int32 × Int32 × (Nat → Int64) × Int32 × Int32)} {a1 a2 a3 : Nat → Int32} {b1 b2 : Nat} {a4 : Int32} (h : OK7 r out res) : OK13 r (out.bind fun o => some (o.1, o.2.1, o.2.2.1, o.2.2.2.1, a1, a2, b1, a3, b2, a4, o.2.2.2.2.1, o.2.2.2.2.2.1, o.2.2.2.2.2.2)) res := by
  obtain ⟨c, t', r', rfl, h1, h2⟩ := h
  exact ⟨c, t', a1, a2, b1, a3, b2, a4, r', rfl, h1, h2⟩
theorem OK.up13 {d : Nat} {res : Nat ⊕ JT d} {out : Option Out4} {a1 a2 a3 : Nat → Int32} {b1 b2 : Nat} {a4 : Int32} (ht : RV t) (h : OK r out res) : OK13 r (out.bind fun o => some (o.1, t.1, i3 t.2.1, t.2.2, a1, a2, b1, a3, b2, a4, o.2.1, o.2.2.1, o.2.2.2)) res := by
  obtain ⟨c, r', rfl, h1, h2⟩ := h
  exact ⟨c, t, a1, a2, b1, a3, b2, a4, r', rfl, ht, c, r', rfl, h1, h2⟩
variable {f6 f7 f9 f11 : Nat → Int32} {p8 p10 : Nat} {v12 : Int32}
theorem srtA_up (hn : 100000 < n) (hfu : e ≤ fu) (he : e ≤ 1000) {l : List (JT e)} (ha : At f v 0 (jc (e + 1) (ja l))) (hoa : jok (e + 1) (ja l)) (hl : l.length ≤ 2048) (hjd : ∀ x ∈ l, jd e x ≤ 60) (ht : RV t) (hr : RV r) : OK13 (d := e + 1) r ((fG_sorted fu n f (i3 v) o f6 f7 p8 f9 p10 f11 v12 r.1 (i3 r.2.1) r.2.2).bind fun o37 => some (o37.1, t.1, i3 t.2.1, t.2.2, o37.2.1, o37.2.2.1, o37.2.2.2.1, o37.2.2.2.2.1, o37.2.2.2.2.2.1, o37.2.2.2.2.2.2.1, o37.2.2.2.2.2.2.2.1, o37.2.2.2.2.2.2.2.2.1, o37.2.2.2.2.2.2.2.2.2)) (.inr (ja (byT (tn l) l))) := by
  obtain ⟨w0, w1, w2, w3, w4, v', r', e1, g1⟩ := sortedA_w (n := n) (fu := fu) (o := o) (f3 := f6) (f4 := f7) (p5 := p8) (f6 := f9) (p7 := p10) (f8 := f11) (v9 := v12) hn hfu he ha hoa hl hjd hr
  rw [e1]
  exact ⟨0, t, w0, w1, w2, w3, w4, v', r', rfl, ht, OK.val rfl g1⟩
theorem srtO_up (hn : 100000 < n) (hfu : 1 ≤ fu) {l : List (Sx × JT (e + 1))} (ha : At f v 0 (jc (e + 2) (jo l))) (hoa : jok (e + 2) (jo l)) (hl : l.length ≤ 2048) (ht : RV t) (hr : RV r) : OK13 (d := e + 2) r ((fG_sorted fu n f (i3 v) o f6 f7 p8 f9 p10 f11 v12 r.1 (i3 r.2.1) r.2.2).bind fun o37 => some (o37.1, t.1, i3 t.2.1, t.2.2, o37.2.1, o37.2.2.1, o37.2.2.2.1, o37.2.2.2.2.1, o37.2.2.2.2.2.1, o37.2.2.2.2.2.2.1, o37.2.2.2.2.2.2.2.1, o37.2.2.2.2.2.2.2.2.1, o37.2.2.2.2.2.2.2.2.2)) (oSortK (jo l)) := by
  obtain ⟨w0, w1, w2, w3, w4, v', r', e1, g1⟩ := sortedO_w (n := n) (fu := fu) (o := o) (f3 := f6) (f4 := f7) (p5 := p8) (f6 := f9) (p7 := p10) (f8 := f11) (v9 := v12) hn hfu ha hoa hl hr
  rw [e1]
  exact ⟨0, t, w0, w1, w2, w3, w4, v', r', rfl, ht, OK.val rfl g1⟩
theorem one_op (hn : 100000 < n) (hfu : e + 2 ≤ fu) (he : 40 ≤ e + 1) (he' : e + 2 ≤ 1000) {k : Nat} (hk : k ≤ 13) {a : JT (e + 2)} (ha : At f v 0 (jc (e + 2) a)) (hoa : jok (e + 2) a) (hja : jd (e + 2) a ≤ 60) (hlA : ∀ l, a = ja l → l.length ≤ 2048) (hlO : ∀ l, a = jo l → l.length ≤ 2048) (ht : RV t) (hr : RV r) (h0 : r.2.1 = 0 ∧ r.2.2 = 0) : OK13 r (fG_apply fu n (i3 k) f (i3 v) o t.1 (i3 t.2.1) t.2.2 f6 f7 p8 f9 p10 f11 v12 r.1 (i3 r.2.1) r.2.2) (oOne k a) := by
  obtain ⟨a0, _, a4, a5, a6⟩ := isk (o := o) ha hoa n
  have hjl : ∀ l, a = ja l → ∀ x ∈ l, jd (e + 1) x ≤ 60 := fun l hl x hx => by
    subst hl
    have : jd (e + 2) (ja l) ≤ 59 + 1 := hja
    have := jd_a_le.mp this x hx
    omega
  unfold fG_apply oOne
  obtain rfl | rfl | rfl | rfl | rfl | rfl | rfl | rfl | rfl | rfl | rfl | rfl | rfl | rfl : k = 0 ∨ k = 1 ∨ k = 2 ∨ k = 3 ∨ k = 4 ∨ k = 5 ∨ k = 6 ∨ k = 7 ∨ k = 8 ∨ k = 9 ∨ k = 10 ∨ k = 11 ∨ k = 12 ∨ k = 13 := by omega
  · rw [if_pos (by decide), if_pos rfl, a0, Option.bind_some]
    have a1 : fR_is n 0 1 f (i3 v) o = some (if kd (e + 2) a = 1 then 1 else 0) := ha.is (k := 1) hoa (by omega)
    obtain ⟨r1, e1, w1⟩ := putTruth_w (n := n) hr true
    obtain ⟨r2, e2, w2⟩ := putTruth_w (n := n) hr false
    have e1' : fR_putTruth n 1 r.1 (i3 r.2.1) r.2.2 = some (r1.1, i3 r1.2.1, r1.2.2) := e1
    have e2' : fR_putTruth n 0 r.1 (i3 r.2.1) r.2.2 = some (r2.1, i3 r2.2.1, r2.2.2) := e2
    by_cases h0 : kd (e + 2) a = 0
    · rw [if_pos h0, if_neg (by decide), e1', show decide (kd (e + 2) a < 2) = true by simp; omega]
      exact ⟨0, t, _, _, _, _, _, _, r1, rfl, ht, OK.val rfl w1⟩
    · rw [if_neg h0, if_pos (by decide), a1, Option.bind_some]
      by_cases h1 : kd (e + 2) a = 1
      · rw [if_pos h1, if_neg (by decide), e1', show decide (kd (e + 2) a < 2) = true by simp; omega]
        exact ⟨0, t, _, _, _, _, _, _, r1, rfl, ht, OK.val rfl w1⟩
      · rw [if_neg h1, if_pos (by decide), e2', show decide (kd (e + 2) a < 2) = false by simp; omega]
        exact ⟨0, t, _, _, _, _, _, _, r2, rfl, ht, OK.val rfl w2⟩
  · iterate 1 rw [if_neg (by decide)]
    rw [if_pos (by decide)]
    exact (length_w ha hoa hr).up13 ht
  · iterate 2 rw [if_neg (by decide)]
    rw [if_pos (by decide), a6, Option.bind_some]
    by_cases h6 : kd (e + 2) a = 6
    · obtain ⟨l, rfl⟩ := kdo hoa h6
      rw [if_pos h6, if_neg (by decide)]
      exact srtO_up hn (by omega) ha hoa (hlO l rfl) ht hr
    · rw [if_neg h6, if_pos (by decide)]
      have : oSortK a = oKeys a := by
        unfold oSortK
        rcases jcases a with ⟨k, rfl⟩ | ⟨z, rfl⟩ | ⟨s, rfl⟩ | ⟨l, rfl⟩ | ⟨l, rfl⟩ <;> first | rfl | exact absurd rfl h6
      show OK13 r _ (oSortK a)
      rw [this]
      exact (keys_w (by omega) ha hoa hr).up13 ht
  · iterate 3 rw [if_neg (by decide)]
    rw [if_pos (by decide)]
    exact (keys_w (by omega) ha hoa hr).up13 ht
  · iterate 4 rw [if_neg (by decide)]
    rw [if_pos (by decide), a4, Option.bind_some]
    by_cases h4 : kd (e + 2) a = 4
    · obtain ⟨s, rfl⟩ := kds hoa h4
      rw [if_pos h4, if_neg (by decide)]
      exact (itself_w hr ha hoa).up13 ht
    · rw [if_neg h4, if_pos (by decide)]
      have : oStr a = .inr (js (jt (e + 2) a)) := by
        unfold oStr
        rcases jcases a with ⟨k, rfl⟩ | ⟨z, rfl⟩ | ⟨s, rfl⟩ | ⟨l, rfl⟩ | ⟨l, rfl⟩ <;> first | rfl | exact absurd rfl h4
      show OK13 r _ (oStr a)
      rw [this]
      exact (printed_w (by omega) (by omega) ha hoa hja hr).up
  · iterate 5 rw [if_neg (by decide)]
    rw [if_pos (by decide)]
    exact (toNumber_w (by omega) ha hoa ht hr).up
  · iterate 6 rw [if_neg (by decide)]
    rw [if_pos (by decide)]
    exact (printed_w (by omega) (by omega) ha hoa hja hr).up
  · iterate 7 rw [if_neg (by decide)]
    rw [if_pos (by decide)]
    exact (fromJson_w (by omega) he (by omega) ha hoa ht hr h0).up
  · iterate 8 rw [if_neg (by decide)]
    rw [if_pos (by decide), a5, Option.bind_some]
    show OK13 r _ (oSort a)
    by_cases h5 : kd (e + 2) a = 5
    · obtain ⟨l, rfl⟩ := kda hoa h5
      rw [if_pos h5, if_neg (by decide)]
      exact srtA_up hn (by omega) (by omega) ha hoa (hlA l rfl) (hjl l rfl) ht hr
    · rw [if_neg h5, if_pos (by decide)]
      have : oSort a = .inl 1 := by
        unfold oSort
        rcases jcases a with ⟨k, rfl⟩ | ⟨z, rfl⟩ | ⟨s, rfl⟩ | ⟨l, rfl⟩ | ⟨l, rfl⟩ <;> first | rfl | exact absurd rfl h5
      rw [this]
      exact ⟨1, t, _, _, _, _, _, _, r, rfl, ht, OK.refuse (k := 1) hr (by omega) (by omega)⟩
  · iterate 9 rw [if_neg (by decide)]
    rw [if_pos (by decide)]
    obtain ⟨c, a1, a2, a3, r', e1, g1⟩ := reversed_w (n := n) (o := o) (f3 := f6) (f4 := f7) (p5 := p8) (f6 := f9) (p7 := p10) (f8 := f11) (v9 := v12) (by omega) ha hoa (fun l hl => ⟨hlA l hl, hjl l hl⟩) hr
    rw [e1]
    exact ⟨c, t, a1, a2, _, _, _, a3, r', rfl, ht, g1⟩
  · iterate 10 rw [if_neg (by decide)]
    rw [if_pos (by decide)]
    exact (codes_w (by omega) ha hoa hr).up13 ht
  · iterate 11 rw [if_neg (by decide)]
    rw [if_pos (by decide)]
    exact (ofCodes_w (by omega) ha hoa hr).up13 ht
  · iterate 12 rw [if_neg (by decide)]
    rw [if_pos (by decide)]
    exact (case_w (first := 65) (step := 32) (by omega) (by omega) low_all ha hoa hr).up13 ht
  · iterate 13 rw [if_neg (by decide)]
    exact (case_w (first := 97) (step := -32) (by omega) (by omega) up_all ha hoa hr).up13 ht
end OE
end ZOne39
section ZKey40
/-! ===== operations by keys ===== -/
def bgn {d : Nat} (K : List (JT d)) (p : Option Nat) (t : Nat) : Bool := match p with
  | none => true
  | some q => decide (kc K q t ≠ 0)
def run {d : Nat} (K : List (JT d)) : Nat → List Nat → List Nat
  | _, [] => []
  | p, t :: T => if bgn K (some p) t then [] else t :: run K t T
def grs {d : Nat} (K : List (JT d)) : Option Nat → List Nat → List (List Nat)
  | _, [] => []
  | p, t :: T => if bgn K p t then (t :: run K t T) :: grs K (some t) T else grs K (some t) T
def fsts {d : Nat} (K : List (JT d)) : Option Nat → List Nat → List Nat
  | _, [] => []
  | p, t :: T => if bgn K p t then t :: fsts K (some t) T else fsts K (some t) T
theorem run_sub {d : Nat} {K : List (JT d)} : ∀ (T : List Nat) (p : Nat), ∀ x ∈ run K p T, x ∈ T := by
  intro T
  induction T with
  | nil => intro p x hx; exact hx
  | cons t T ih =>
    intro p x hx
    rw [run] at hx
    split at hx
    · exact absurd hx (by simp)
    · rcases List.mem_cons.mp hx with rfl | hx
      · exact List.mem_cons_self ..
      · exact List.mem_cons_of_mem _ (ih _ x hx)
theorem grs_len {d : Nat} {K : List (JT d)} : ∀ (T : List Nat) (p : Option Nat), (grs K p T).length ≤ T.length := by
  intro T
  induction T with
  | nil => intro p; exact Nat.le_refl _
  | cons t T ih =>
    intro p
    rw [grs]
    have := ih (some t)
    split
    · rw [List.length_cons, List.length_cons]; omega
    · rw [List.length_cons]; omega
theorem fsts_sub {d : Nat} {K : List (JT d)} : ∀ (T : List Nat) (p : Option Nat), ∀ x ∈ fsts K p T, x ∈ T := by
  intro T
  induction T with
  | nil => intro p x hx; exact hx
  | cons t T ih =>
    intro p x hx
    rw [fsts] at hx
    split at hx
    · rcases List.mem_cons.mp hx with rfl | hx
      · exact List.mem_cons_self ..
      · exact List.mem_cons_of_mem _ (ih _ x hx)
    · exact List.mem_cons_of_mem _ (ih _ x hx)
theorem fsts_len {d : Nat} {K : List (JT d)} : ∀ (T : List Nat) (p : Option Nat), (fsts K p T).length ≤ T.length := by
  intro T
  induction T with
  | nil => intro p; exact Nat.le_refl _
  | cons t T ih =>
    intro p
    rw [fsts]
    have := ih (some t)
    split
    · rw [List.length_cons, List.length_cons]; omega
    · rw [List.length_cons]; omega
/-- by keys: 0 sorted, 1 groups, 2 firsts, 3 least, 4 greatest -/
def oKeyed {e : Nat} (k : Nat) (a x : JT (e + 1)) : Nat ⊕ JT (e + 2) :=
  match a, x with
  | .inr (.inl l), .inr (.inl K) => if l.length = K.length then
      (if k = 0 then .inr (ja ((byT (tn K) l).map (lf e)))
      else if k = 1 then .inr (ja ((grs K none (tn K)).map (fun g => (ja (byT g l) : JT (e + 1)))))
      else if k = 2 then .inr (ja ((byT (fsts K none (tn K)) l).map (lf e)))
      else if k = 3 then .inr (match ((tn K).head?).bind (fun t => l[t]?) with | none => jk 0 | some y => lf (e + 1) (lf e y))
      else .inr (match ((tn K).getLast?).bind (fun t => l[t]?) with | none => jk 0 | some y => lf (e + 1) (lf e y)))
    else .inl 1
  | _, _ => .inl 1
section KY
variable {f g : Nat → Int64} {v u e : Nat} {o o' : Int32} {n fu : Nat} {r : RS}
theorem att_loop {f0 f3 f5 : Nat → Int32} {p2 p4 : Nat} {y2 : Int32} {tot : Nat} (h2 : tot ≤ 2048) : ∀ (l : List (JT e)) (n i q : Nat) (w : Nat → Int32), (∀ x ∈ l, jok e x) → i + l.length = tot → At f v q (l.flatMap (jc e)) → l.length < n →
    ∃ w', fS_attach_b f0 p2 f3 p4 f5 (i3 tot) f (i3 v) o n 1 (i3 i) (i3 q) y2 w = some w' ∧ (∀ j, j < i → w' j = w j) ∧ (∀ (j : Nat) x, l[j]? = some x → ∃ q', w' (i + j) = i3 q' ∧ At f v q' (jc e x)) := by
  intro l
  induction l with
  | nil =>
    intro n i q w _ hi _ hn
    obtain ⟨n, rfl⟩ : ∃ j, n = j + 1 := ⟨n - 1, by omega⟩
    rw [List.length_nil] at hi
    refine ⟨w, ?_, fun _ _ => rfl, fun j x h => by simp at h⟩
    rw [fS_attach_b, if_pos (by rw [i3_le (by omega) (by omega)]; omega)]
  | cons x l ih =>
    intro n i q w hok hi hat hn
    obtain ⟨n, rfl⟩ : ∃ j, n = j + 1 := ⟨n - 1, by omega⟩
    rw [List.length_cons] at hi hn
    obtain ⟨at1, at2⟩ := hat.acons
    obtain ⟨w', e, g1, g2⟩ := ih n (i + 1) _ (upd w i (i3 q)) (fun y hy => hok y (List.mem_cons_of_mem _ hy)) (by omega) at2 (by omega)
    refine ⟨w', ?_, fun j hj => ?_, fun j y hy => ?_⟩
    · rw [fS_attach_b, if_neg (by rw [i3_le (by omega) (by omega)]; omega), if_neg (i3_idx (by omega) (by omega)), at1.after (hok x (List.mem_cons_self ..)), Option.bind_some, i3_N (by omega), i3_one]
      exact e
    · rw [g1 j (by omega), upd_ne (by omega)]
    · cases j with
      | zero =>
        obtain rfl := Option.some.inj hy
        refine ⟨q, ?_, at1⟩
        rw [Nat.add_zero, g1 i (by omega), upd_eq]
      | succ j =>
        obtain ⟨q', a, b⟩ := g2 j y (by simpa using hy)
        exact ⟨q', by rw [← a]; congr 1; omega, b⟩
theorem attach_w (hn : 5000 < n) {f0 f1 f3 f5 : Nat → Int32} {p2 p4 : Nat} {l : List (JT e)} (ha : At f v 0 (jc (e + 1) (ja l))) (hoa : jok (e + 1) (ja l)) (hl : l.length ≤ 2048) (hjd : ∀ x ∈ l, jd e x ≤ 60) : ∃ w', fS_attach n 0 f0 f1 p2 f3 p4 f5 (i3 l.length) f (i3 v) o = some w' ∧ keysAt f v w' l := by
  obtain ⟨w', e1, _, g2⟩ := att_loop (o := o) (f0 := f0) (f3 := f3) (f5 := f5) (p2 := p2) (p4 := p4) (y2 := 0) hl l n 0 1 f1 hoa (by omega) ha.abody (by omega)
  refine ⟨w', e1, fun i x hx => ?_⟩
  obtain ⟨q, h1, h2⟩ := g2 i x hx
  rw [Nat.zero_add] at h1
  have hm := List.mem_of_getElem? hx
  exact ⟨q, h1, h2, hoa x hm, hjd x hm⟩
theorem eat {l : List (JT e)} {tot i : Nat} {f0 f1 f3 f5 : Nat → Int32} {p2 p4 : Nat} (hk : keysAt f v f1 l) (ht : tot = l.length) (h2 : tot ≤ 2048) {k x : Nat} {j : JT e} (hk2 : k < tot) (h3 : f3 k = i3 x) (hx : l[x]? = some j) : ∃ p, fS_elementAtTurn n (i3 k) f0 f1 p2 f3 p4 f5 (i3 tot) = some (i3 p) ∧ At f v p (jc e j) ∧ jok e j := by
  obtain ⟨p, e, h4, h5, h6⟩ := hk x j hx
  have hxl : x < l.length := (List.getElem?_eq_some_iff.mp hx).1
  refine ⟨p, ?_, h4, h5⟩
  unfold fS_elementAtTurn
  rw [if_neg (i3_nn (by omega)), if_neg (i3_nle (by omega) (by omega)), if_neg (i3_idx (by omega) (by omega)), i3_N (by omega), h3, if_neg (i3_idx (by omega) (by omega)), i3_N (by omega), e]
/-- the sorter's tables, over keys K in the row g and elements l in the row f -/
def STab (f : Nat → Int64) (v : Nat) (g : Nat → Int64) (u : Nat) (o : Int32) (w0 w1 w3 : Nat → Int32) {e : Nat} (K l : List (JT e)) (T : List Nat) : Prop :=
  keysAt g u w0 K ∧ keysAt f v w1 l ∧ seg w3 0 (T.map i3) ∧ T.length = l.length ∧ K.length = l.length ∧ l.length ≤ 2048 ∧ (∀ t ∈ T, t < l.length) ∧ (∀ n, fR_length n 0 f (i3 v) o = some (i3 l.length)) ∧ v ≤ 4096
variable {w0 w1 w3 w5 : Nat → Int32} {p2 p4 : Nat} {K l : List (JT e)} {T : List Nat}
theorem turn_at (hS : STab f v g u o w0 w1 w3 K l T) {U T' : List Nat} {t : Nat} (hU : U ++ t :: T' = T) : w3 U.length = i3 t ∧ t < l.length ∧ U.length < l.length := by
  obtain ⟨_, _, s1, hT, _, _, hTl, _⟩ := hS
  have hTL : T.length = U.length + (T'.length + 1) := by rw [← hU, List.length_append, List.length_cons]
  refine ⟨?_, hTl t (by rw [← hU]; simp), by omega⟩
  have := s1 U.length (i3 t) (by rw [← hU, List.map_append, List.getElem?_append_right (by rw [List.length_map]; omega), List.length_map]; simp)
  rwa [Nat.zero_add] at this
theorem begins_g (hS : STab f v g u o w0 w1 w3 K l T) (hn : 20000 < n) (hfu : e ≤ fu) (he : e ≤ 1000) {U T' : List Nat} {t : Nat} (hU : U ++ t :: T' = T) : fK_beginsGroup fu n (i3 U.length) g (i3 u) o' w0 w1 p2 w3 p4 w5 (i3 l.length) = some (if bgn K U.getLast? t then 1 else 0) := by
  obtain ⟨h1, h2, h3⟩ := turn_at hS hU
  have hS' := hS
  obtain ⟨hk, _, _, _, hKl, h2048, _, _, _⟩ := hS'
  unfold fK_beginsGroup
  rcases List.eq_nil_or_concat U with rfl | ⟨U', q, rfl⟩
  · rw [if_pos (by decide)]
    rfl
  · rw [List.concat_eq_append] at *
    have hU2 : U' ++ q :: (t :: T') = T := by rw [← hU]; simp
    obtain ⟨g1, g2, g3⟩ := turn_at hS hU2
    rw [List.length_append, List.length_cons, List.length_nil] at *
    obtain ⟨p, ep, ap, op, dp⟩ := kat (n := n) (i := 0) (f1 := w1) (f5 := w5) (p2 := p2) (p4 := p4) hk rfl (by omega) rfl (k := U'.length) (x := q) (j := K[q]) (by omega) g1 (List.getElem?_eq_getElem (by omega))
    obtain ⟨p', ep', ap', op', dp'⟩ := kat (n := n) (i := 0) (f1 := w1) (f5 := w5) (p2 := p2) (p4 := p4) hk rfl (by omega) rfl (k := U'.length + 1) (x := t) (j := K[t]) (by omega) h1 (List.getElem?_eq_getElem (by omega))
    rw [hKl] at ep ep'
    have hz : ¬ i3 (U'.length + (0 + 1)) = 0 := by
      rw [show (0 : Int32) = i3 0 from rfl, i3_eq (by omega) (by omega)]; omega
    rw [if_neg hz, show U'.length + (0 + 1) = U'.length + 1 from rfl, i3_pred (by omega), Nat.add_sub_cancel, ep, Option.bind_some, ep', Option.bind_some, al_of, of0_w hn op op' ap ap' hfu he dp, Option.bind_some, List.getLast?_append, List.getLast?_singleton]
    have hkc : kc K q t = jcmp e K[q] K[t] := by
      unfold kc
      rw [List.getElem?_eq_getElem (by omega), List.getElem?_eq_getElem (by omega)]
    have hle := jcmp_le e K[q] K[t]
    show _ = some (if decide (kc K q t ≠ 0) then 1 else 0)
    rw [hkc]
    by_cases hc : jcmp e K[q] K[t] = 0
    · rw [hc]
      rfl
    · rw [if_neg (by rw [show (0 : Int32) = iz 0 from rfl, iz_eq (by omega) (by omega) (by omega) (by omega)]; exact hc), if_pos (by simpa using hc)]
theorem byT_snoc {α : Type} {G : List Nat} {t : Nat} {l : List α} {x : α} (h : l[t]? = some x) : byT (G ++ [t]) l = byT G l ++ [x] := by
  rw [byT_app, byT_cons h]
  rfl
theorem group_loop (hS : STab f v g u o w0 w1 w3 K l T) (hfu : e ≤ fu) (he : e ≤ 1000) {first : Nat} {r0 r1 : RS} {x0 : Int64} (h01 : Wr r0 [x0] r1) : ∀ (T' : List Nat) (n : Nat) (U G : List Nat) (t : Nat) (r2 : RS), U ++ T' = T → U.getLast? = some t → first + G.length = U.length → (∀ x ∈ G, x < l.length) → Wr r1 ((byT G l).flatMap (jc e)) r2 → 20001 + T'.length < n →
    ∃ r' : RS, fK_putGroup_b fu f (i3 v) o g (i3 u) o' w0 w1 p2 w3 p4 w5 (i3 l.length) n 1 (i3 U.length) (i3 r1.2.1 - 1) (i3 first) r2.1 (i3 r2.2.1) r2.2.2 = some (r'.1, i3 r'.2.1, r'.2.2) ∧ Wr r0 (jc (e + 1) (ja (byT (G ++ run K t T') l))) r' := by
  have hS' := hS
  obtain ⟨_, hk1, _, hT, hKl, h2048, _, hlen, _⟩ := hS'
  intro T'
  induction T' with
  | nil =>
    intro n U G t r2 hU _ hG hGl hw hn
    obtain ⟨n, rfl⟩ : ∃ j, n = j + 1 := ⟨n - 1, by omega⟩
    rw [List.append_nil] at hU
    subst hU
    have hbl := byT_len (l := l) hGl
    obtain ⟨r3, e3, e4, w3'⟩ := fin_a (n := n) h01 hw rfl (by omega)
    rw [hbl] at e3
    refine ⟨r3, ?_, by rw [run, List.append_nil]; exact w3'⟩
    rw [fK_putGroup_b, hlen, Option.bind_some, if_pos (by rw [i3_le (by omega) (by omega)]; omega), i3_sub (by omega), show U.length - first = G.length by omega, e3, Option.bind_some, e4]
  | cons s T' ih =>
    intro n U G t r2 hU hlast hG hGl hw hn
    obtain ⟨n, rfl⟩ : ∃ j, n = j + 1 := ⟨n - 1, by omega⟩
    rw [List.length_cons] at hn
    obtain ⟨g1, g2, g3⟩ := turn_at hS hU
    have hb := begins_g (n := n) (o' := o') (w5 := w5) (p2 := p2) (p4 := p4) hS (by omega) hfu he hU
    rw [fK_putGroup_b, hlen, Option.bind_some, if_neg (by rw [i3_le (by omega) (by omega)]; omega), hb, Option.bind_some, hlast, run]
    cases hbg : bgn K (some t) s with
    | true =>
      rw [if_pos rfl, if_neg (by decide), if_pos rfl, List.append_nil]
      have hbl := byT_len (l := l) hGl
      obtain ⟨r3, e3, e4, w3'⟩ := fin_a (n := n) h01 hw rfl (by omega)
      rw [hbl] at e3
      refine ⟨r3, ?_, w3'⟩
      rw [i3_sub (by omega), show U.length - first = G.length by omega, e3, Option.bind_some, e4]
    | false =>
      rw [if_pos (by decide), if_neg (by decide)]
      obtain ⟨p, ep, ap, op⟩ := eat (n := n) (i := 0) (f0 := w0) (f5 := w5) (p2 := p2) (p4 := p4) hk1 rfl h2048 (k := U.length) (x := s) (j := l[s]) g3 g1 (List.getElem?_eq_getElem g2)
      obtain ⟨r3, e3, w3'⟩ := putCopy_w (n := n) (o' := o) hw.v ap op
      rw [ep, Option.bind_some, e3, Option.bind_some, i3_one]
      obtain ⟨r', a1, a2⟩ := ih n (U ++ [s]) (G ++ [s]) s r3 (by rw [← hU]; simp) (by simp) (by simp; omega) (fun x hx => by
        rcases List.mem_append.mp hx with hx | hx
        · exact hGl x hx
        · rw [List.mem_singleton.mp hx]; exact g2) (by
        rw [byT_snoc (List.getElem?_eq_getElem g2), List.flatMap_append]
        have := hw.app w3'
        simpa using this) (by omega)
      refine ⟨r', ?_, ?_⟩
      · rw [List.length_append] at a1
        exact a1
      · rw [List.append_assoc] at a2
        exact a2
theorem group_w (hS : STab f v g u o w0 w1 w3 K l T) (hfu : e ≤ fu) (he : e ≤ 1000) (hn : 30000 < n) {U T' : List Nat} {t : Nat} (hU : U ++ t :: T' = T) (hr : RV r) : ∃ r' : RS, fK_putGroup fu n (i3 U.length) f (i3 v) o g (i3 u) o' w0 w1 p2 w3 p4 w5 (i3 l.length) r.1 (i3 r.2.1) r.2.2 = some (r'.1, i3 r'.2.1, r'.2.2) ∧ Wr r (jc (e + 1) (ja (byT (t :: run K t T') l))) r' := by
  have hS' := hS
  obtain ⟨_, hk1, _, hT, hKl, h2048, _, hlen, _⟩ := hS'
  obtain ⟨g1, g2, g3⟩ := turn_at hS hU
  obtain ⟨r1, e1, x1⟩ := open_w (n := n) hr
  obtain ⟨p, ep, ap, op⟩ := eat (n := n) (i := 0) (f0 := w0) (f5 := w5) (p2 := p2) (p4 := p4) hk1 rfl h2048 (k := U.length) (x := t) (j := l[t]) g3 g1 (List.getElem?_eq_getElem g2)
  obtain ⟨r2, e2, x2⟩ := putCopy_w (n := n) (o' := o) x1.v ap op
  have hTL : T.length = U.length + (T'.length + 1) := by rw [← hU, List.length_append, List.length_cons]
  obtain ⟨r3, e3, x3⟩ := group_loop (o' := o') (w5 := w5) (p2 := p2) (p4 := p4) hS hfu he (first := U.length) x1 T' n (U ++ [t]) [t] t r2 (by rw [← hU]; simp) (by simp) (by simp) (fun x hx => by rw [List.mem_singleton.mp hx]; exact g2) (by
    have : byT [t] l = [l[t]] := byT_snoc (G := []) (List.getElem?_eq_getElem g2)
    rw [this]
    simpa using x2) (by omega)
  refine ⟨r3, ?_, x3⟩
  unfold fK_putGroup
  rw [e1, Option.bind_some, ep, Option.bind_some]
  dsimp only
  rw [e2, Option.bind_some, i3_one]
  rw [List.length_append] at e3
  exact e3
theorem groups_loop (hS : STab f v g u o w0 w1 w3 K l T) (hfu : e ≤ fu) (he : e ≤ 1000) {r0 r1 : RS} {x0 : Int64} (h01 : Wr r0 [x0] r1) : ∀ (T' : List Nat) (n : Nat) (U : List Nat) (gs : List (List Nat)) (r2 : RS), U ++ T' = T → gs.length ≤ U.length → Wr r1 ((gs.map (fun g => (ja (byT g l) : JT (e + 1)))).flatMap (jc (e + 1))) r2 → 30001 + T'.length < n →
    ∃ r' : RS, fK_putGroups_b fu f (i3 v) o g (i3 u) o' w0 w1 p2 w3 p4 w5 (i3 l.length) n 1 (i3 U.length) (i3 gs.length) (i3 r1.2.1 - 1) r2.1 (i3 r2.2.1) r2.2.2 = some (r'.1, i3 r'.2.1, r'.2.2) ∧ Wr r0 (jc (e + 2) (ja ((gs ++ grs K U.getLast? T').map (fun g => (ja (byT g l) : JT (e + 1)))))) r' := by
  have hS' := hS
  obtain ⟨_, hk1, _, hT, hKl, h2048, _, hlen, _⟩ := hS'
  intro T'
  induction T' with
  | nil =>
    intro n U gs r2 hU hc hw hn
    obtain ⟨n, rfl⟩ : ∃ j, n = j + 1 := ⟨n - 1, by omega⟩
    rw [List.append_nil] at hU
    subst hU
    obtain ⟨r3, e3, e4, w3'⟩ := fin_a (n := n) h01 hw rfl (by rw [List.length_map]; omega)
    rw [List.length_map] at e3
    refine ⟨r3, ?_, by rw [grs, List.append_nil]; exact w3'⟩
    rw [fK_putGroups_b, hlen, Option.bind_some, if_pos (by rw [i3_le (by omega) (by omega)]; omega), e3, Option.bind_some, e4]
  | cons s T' ih =>
    intro n U gs r2 hU hc hw hn
    obtain ⟨n, rfl⟩ : ∃ j, n = j + 1 := ⟨n - 1, by omega⟩
    rw [List.length_cons] at hn
    obtain ⟨g1, g2, g3⟩ := turn_at hS hU
    have hb := begins_g (n := n) (o' := o') (w5 := w5) (p2 := p2) (p4 := p4) hS (by omega) hfu he hU
    rw [fK_putGroups_b, hlen, Option.bind_some, if_neg (by rw [i3_le (by omega) (by omega)]; omega), hb, Option.bind_some, grs]
    have hU' : (U ++ [s]) ++ T' = T := by rw [← hU]; simp
    have hl' : (U ++ [s]).getLast? = some s := by simp
    have hn' : i3 (U.length) + 1 = i3 (U ++ [s]).length := by rw [i3_one, List.length_append]; rfl
    rw [hn']
    cases hbg : bgn K U.getLast? s with
    | true =>
      rw [if_pos rfl, if_neg (by decide), if_pos rfl]
      obtain ⟨r3, e3, w3'⟩ := group_w (n := n) (o' := o') (w5 := w5) (p2 := p2) (p4 := p4) hS hfu he (by omega) hU hw.v
      rw [e3, Option.bind_some]
      obtain ⟨r', a1, a2⟩ := ih n (U ++ [s]) (gs ++ [s :: run K s T']) r3 hU' (by simp; omega) (by
        rw [List.map_append, List.flatMap_append]
        have := hw.app w3'
        simpa using this) (by omega)
      refine ⟨r', ?_, ?_⟩
      · rw [List.length_append (as := gs)] at a1
        rw [i3_one]
        exact a1
      · rw [hl', List.append_assoc] at a2
        exact a2
    | false =>
      rw [if_pos (by decide), if_neg (by decide)]
      obtain ⟨r', a1, a2⟩ := ih n (U ++ [s]) gs r2 hU' (by simp; omega) hw (by omega)
      rw [hl'] at a2
      exact ⟨r', a1, a2⟩
theorem groups_w (hS : STab f v g u o w0 w1 w3 K l T) (hfu : e ≤ fu) (he : e ≤ 1000) (hn : 40000 < n) (hr : RV r) : ∃ r' : RS, fK_putGroups fu n f (i3 v) o g (i3 u) o' w0 w1 p2 w3 p4 w5 (i3 l.length) r.1 (i3 r.2.1) r.2.2 = some (r'.1, i3 r'.2.1, r'.2.2) ∧ Wr r (jc (e + 2) (ja ((grs K none T).map (fun g => (ja (byT g l) : JT (e + 1)))))) r' := by
  obtain ⟨r1, e1, x1⟩ := open_w (n := n) hr
  have hS' := hS
  obtain ⟨_, hk1, _, hT, hKl, h2048, _, hlen, _⟩ := hS'
  obtain ⟨r2, e2, x2⟩ := groups_loop (o' := o') (w5 := w5) (p2 := p2) (p4 := p4) hS hfu he x1 T n [] [] r1 rfl (Nat.le_refl _) (Wr.nil x1.v) (by omega)
  refine ⟨r2, ?_, x2⟩
  unfold fK_putGroups
  rw [e1, Option.bind_some]
  exact e2
theorem firsts_loop (hS : STab f v g u o w0 w1 w3 K l T) (hfu : e ≤ fu) (he : e ≤ 1000) {r0 r1 : RS} {x0 : Int64} (h01 : Wr r0 [x0] r1) : ∀ (T' : List Nat) (n : Nat) (U gs : List Nat) (r2 : RS), U ++ T' = T → gs.length ≤ U.length → (∀ x ∈ gs, x < l.length) → Wr r1 ((byT gs l).flatMap (jc e)) r2 → 30001 + T'.length < n →
    ∃ r' : RS, fK_putFirsts_b fu f (i3 v) o g (i3 u) o' w0 w1 p2 w3 p4 w5 (i3 l.length) n 1 (i3 U.length) (i3 gs.length) (i3 r1.2.1 - 1) r2.1 (i3 r2.2.1) r2.2.2 = some (r'.1, i3 r'.2.1, r'.2.2) ∧ Wr r0 (jc (e + 1) (ja (byT (gs ++ fsts K U.getLast? T') l))) r' := by
  have hS' := hS
  obtain ⟨_, hk1, _, hT, hKl, h2048, _, hlen, _⟩ := hS'
  intro T'
  induction T' with
  | nil =>
    intro n U gs r2 hU hc hgl hw hn
    obtain ⟨n, rfl⟩ : ∃ j, n = j + 1 := ⟨n - 1, by omega⟩
    rw [List.append_nil] at hU
    subst hU
    have hbl := byT_len (l := l) hgl
    obtain ⟨r3, e3, e4, w3'⟩ := fin_a (n := n) h01 hw rfl (by omega)
    rw [hbl] at e3
    refine ⟨r3, ?_, by rw [fsts, List.append_nil]; exact w3'⟩
    rw [fK_putFirsts_b, hlen, Option.bind_some, if_pos (by rw [i3_le (by omega) (by omega)]; omega), e3, Option.bind_some, e4]
  | cons s T' ih =>
    intro n U gs r2 hU hc hgl hw hn
    obtain ⟨n, rfl⟩ : ∃ j, n = j + 1 := ⟨n - 1, by omega⟩
    rw [List.length_cons] at hn
    obtain ⟨g1, g2, g3⟩ := turn_at hS hU
    have hb := begins_g (n := n) (o' := o') (w5 := w5) (p2 := p2) (p4 := p4) hS (by omega) hfu he hU
    rw [fK_putFirsts_b, hlen, Option.bind_some, if_neg (by rw [i3_le (by omega) (by omega)]; omega), hb, Option.bind_some, fsts]
    have hU' : (U ++ [s]) ++ T' = T := by rw [← hU]; simp
    have hl' : (U ++ [s]).getLast? = some s := by simp
    have hn' : i3 (U.length) + 1 = i3 (U ++ [s]).length := by rw [i3_one, List.length_append]; rfl
    cases hbg : bgn K U.getLast? s with
    | true =>
      rw [if_pos rfl, if_neg (by decide), if_pos rfl]
      obtain ⟨p, ep, ap, op⟩ := eat (n := n) (i := 0) (f0 := w0) (f5 := w5) (p2 := p2) (p4 := p4) hk1 rfl h2048 (k := U.length) (x := s) (j := l[s]) g3 g1 (List.getElem?_eq_getElem g2)
      obtain ⟨r3, e3, w3'⟩ := putCopy_w (n := n) (o' := o) hw.v ap op
      rw [ep, Option.bind_some, e3, Option.bind_some, hn', i3_one]
      obtain ⟨r', a1, a2⟩ := ih n (U ++ [s]) (gs ++ [s]) r3 hU' (by simp; omega) (fun x hx => by
        rcases List.mem_append.mp hx with hx | hx
        · exact hgl x hx
        · rw [List.mem_singleton.mp hx]; exact g2) (by
        rw [byT_snoc (List.getElem?_eq_getElem g2), List.flatMap_append]
        have := hw.app w3'
        simpa using this) (by omega)
      refine ⟨r', ?_, ?_⟩
      · rw [List.length_append (as := gs)] at a1
        exact a1
      · rw [hl', List.append_assoc] at a2
        exact a2
    | false =>
      rw [if_pos (by decide), if_neg (by decide), hn']
      obtain ⟨r', a1, a2⟩ := ih n (U ++ [s]) gs r2 hU' (by simp; omega) hgl hw (by omega)
      rw [hl'] at a2
      exact ⟨r', a1, a2⟩
theorem firsts_w (hS : STab f v g u o w0 w1 w3 K l T) (hfu : e ≤ fu) (he : e ≤ 1000) (hn : 40000 < n) (hr : RV r) : ∃ r' : RS, fK_putFirsts fu n f (i3 v) o g (i3 u) o' w0 w1 p2 w3 p4 w5 (i3 l.length) r.1 (i3 r.2.1) r.2.2 = some (r'.1, i3 r'.2.1, r'.2.2) ∧ Wr r (jc (e + 1) (ja (byT (fsts K none T) l))) r' := by
  obtain ⟨r1, e1, x1⟩ := open_w (n := n) hr
  have hS' := hS
  obtain ⟨_, hk1, _, hT, hKl, h2048, _, hlen, _⟩ := hS'
  obtain ⟨r2, e2, x2⟩ := firsts_loop (o' := o') (w5 := w5) (p2 := p2) (p4 := p4) hS hfu he x1 T n [] [] r1 rfl (Nat.le_refl _) (fun x hx => absurd hx (by simp)) (Wr.nil x1.v) (by omega)
  refine ⟨r2, ?_, x2⟩
  unfold fK_putFirsts
  rw [e1, Option.bind_some]
  exact e2
theorem sortE_loop (hS : STab f v g u o w0 w1 w3 K l T) {r0 r1 : RS} {x0 : Int64} (h01 : Wr r0 [x0] r1) : ∀ (T' : List Nat) (n : Nat) (U : List Nat) (r2 : RS), U ++ T' = T → Wr r1 ((byT U l).flatMap (jc e)) r2 → T'.length < n →
    ∃ r' : RS, fK_putSorted_b f (i3 v) o w0 w1 p2 w3 p4 w5 (i3 l.length) n 1 (i3 U.length) (i3 r1.2.1 - 1) r2.1 (i3 r2.2.1) r2.2.2 = some (r'.1, i3 r'.2.1, r'.2.2) ∧ Wr r0 (jc (e + 1) (ja (byT T l))) r' := by
  have hS' := hS
  obtain ⟨_, hk1, _, hT, hKl, h2048, hTl, hlen, _⟩ := hS'
  intro T'
  induction T' with
  | nil =>
    intro n U r2 hU hw hn
    obtain ⟨n, rfl⟩ : ∃ j, n = j + 1 := ⟨n - 1, by omega⟩
    rw [List.append_nil] at hU
    subst hU
    have hbl := byT_len (l := l) hTl
    obtain ⟨r3, e3, e4, w3'⟩ := fin_a (n := n) h01 hw rfl (by omega)
    rw [hbl, hT] at e3
    refine ⟨r3, ?_, w3'⟩
    rw [fK_putSorted_b, hlen, Option.bind_some, if_pos (by rw [i3_le (by omega) (by omega)]; omega), Option.bind_some, e3, Option.bind_some, e4]
  | cons s T' ih =>
    intro n U r2 hU hw hn
    obtain ⟨n, rfl⟩ : ∃ j, n = j + 1 := ⟨n - 1, by omega⟩
    rw [List.length_cons] at hn
    obtain ⟨g1, g2, g3⟩ := turn_at hS hU
    obtain ⟨p, ep, ap, op⟩ := eat (n := n) (i := 0) (f0 := w0) (f5 := w5) (p2 := p2) (p4 := p4) hk1 rfl h2048 (k := U.length) (x := s) (j := l[s]) g3 g1 (List.getElem?_eq_getElem g2)
    obtain ⟨r3, e3, w3'⟩ := putCopy_w (n := n) (o' := o) hw.v ap op
    rw [fK_putSorted_b, hlen, Option.bind_some, if_neg (by rw [i3_le (by omega) (by omega)]; omega), ep, Option.bind_some, e3, Option.bind_some, i3_one]
    have := ih n (U ++ [s]) r3 (by rw [← hU]; simp) (by
      rw [byT_snoc (List.getElem?_eq_getElem g2), List.flatMap_append]
      have := hw.app w3'
      simpa using this) (by omega)
    rw [List.length_append] at this
    exact this
theorem sortE_w (hS : STab f v g u o w0 w1 w3 K l T) (hn : 40000 < n) (hr : RV r) : ∃ r' : RS, fK_putSorted n f (i3 v) o w0 w1 p2 w3 p4 w5 (i3 l.length) r.1 (i3 r.2.1) r.2.2 = some (r'.1, i3 r'.2.1, r'.2.2) ∧ Wr r (jc (e + 1) (ja (byT T l))) r' := by
  obtain ⟨r1, e1, x1⟩ := open_w (n := n) hr
  have hS' := hS
  obtain ⟨_, hk1, _, hT, hKl, h2048, _, hlen, _⟩ := hS'
  obtain ⟨r2, e2, x2⟩ := sortE_loop (w5 := w5) (p2 := p2) (p4 := p4) hS x1 T n [] r1 rfl (Wr.nil x1.v) (by omega)
  refine ⟨r2, ?_, x2⟩
  unfold fK_putSorted
  rw [e1, Option.bind_some]
  exact e2
theorem turn_w (hS : STab f v g u o w0 w1 w3 K l T) (hr : RV r) {k : Nat} {k' : Int32} (hk' : l ≠ [] → k' = i3 k) (hk : l ≠ [] → k < l.length) : ∃ r' : RS, fK_putTurnOrNull n k' f (i3 v) o w0 w1 p2 w3 p4 w5 (i3 l.length) r.1 (i3 r.2.1) r.2.2 = some (r'.1, i3 r'.2.1, r'.2.2) ∧ Wr r (jc (e + 1) (match (T[k]?).bind (fun t => l[t]?) with | none => jk 0 | some y => lf e y)) r' := by
  have hS' := hS
  obtain ⟨_, hk1, s1, hT, hKl, h2048, hTl, hlen, _⟩ := hS'
  unfold fK_putTurnOrNull
  rw [hlen, Option.bind_some]
  by_cases hl : l = []
  · subst hl
    obtain rfl : T = [] := List.length_eq_zero_iff.mp hT
    rw [if_pos (by rfl)]
    obtain ⟨r1, e1, x1⟩ := put_w (n := n) hr (x := cW (0 : Nat))
    unfold fR_putNull
    have e1' : fR_put n 0 r.1 (i3 r.2.1) r.2.2 = some (r1.1, i3 r1.2.1, r1.2.2) := e1
    rw [e1']
    exact ⟨r1, rfl, x1⟩
  · have h1 := hk hl
    rw [hk' hl, if_neg (by rw [show (0 : Int32) = i3 0 from rfl, i3_eq (by omega) (by omega)]; omega)]
    have hTk : T[k]? = some T[k] := List.getElem?_eq_getElem (by omega)
    have ht : T[k] < l.length := hTl _ (List.getElem_mem _)
    have h3 : w3 k = i3 T[k] := by
      have := s1 k (i3 T[k]) (by rw [List.getElem?_map, hTk]; rfl)
      rwa [Nat.zero_add] at this
    obtain ⟨p, ep, ap, op⟩ := eat (n := n) (i := 0) (f0 := w0) (f5 := w5) (p2 := p2) (p4 := p4) hk1 rfl h2048 (k := k) (x := T[k]) (j := l[T[k]]) h1 h3 (List.getElem?_eq_getElem ht)
    obtain ⟨r3, e3, w3'⟩ := putCopy_w (n := n) (o' := o) hr ap op
    rw [ep, Option.bind_some, e3, hTk, show (some T[k]).bind (fun t => l[t]?) = some l[T[k]] from List.getElem?_eq_getElem ht]
    refine ⟨r3, rfl, ?_⟩
    dsimp only
    rw [jc_lf]
    exact w3'
abbrev Out11 : Type := Int32 × (Nat → Int32) × (Nat → Int32) × (Nat → Int32) × Nat × (Nat → Int32) × Nat × Int32 × (Nat → Int64) × Int32 × Int32
def OK11 {d : Nat} (r : RS) (out : Option Out11) (res : Nat ⊕ JT d) : Prop := ∃ (c : Nat) (a1 a2 a3 : Nat → Int32) (b1 : Nat) (a4 : Nat → Int32) (b2 : Nat) (a5 : Int32) (r' : RS), out = some (i3 c, a1, a2, a3, b1, a4, b2, a5, r'.1, i3 r'.2.1, r'.2.2) ∧ OK r (some (i3 c, r'.1, i3 r'.2.1, r'.2.2)) res
variable {f6 f7 f9 f11 : Nat → Int32} {p8 p10 : Nat} {v12 : Int32}
theorem keyed_op (hn : 100000 < n) (hfu : e + 1 ≤ fu) (he : e + 1 ≤ 1000) {k : Nat} (hk : k ≤ 4) {a x : JT (e + 1)} (ha : At f v 0 (jc (e + 1) a)) (hoa : jok (e + 1) a) (hx : At g u 0 (jc (e + 1) x)) (hox : jok (e + 1) x) (hja : jd (e + 1) a ≤ 60) (hjx : jd (e + 1) x ≤ 60) (hla : ∀ l, a = ja l → l.length ≤ 2048) (hr : RV r) : OK11 r (fK_apply fu n (i3 k) f (i3 v) o g (i3 u) o' f6 f7 p8 f9 p10 f11 v12 r.1 (i3 r.2.1) r.2.2) (oKeyed k a x) := by
  obtain ⟨_, _, _, a5, _⟩ := isk (o := o) ha hoa n
  obtain ⟨_, _, _, x5, _⟩ := isk (o := o') hx hox n
  unfold fK_apply
  rw [a5, Option.bind_some]
  by_cases h5 : kd (e + 1) a = 5 ∧ kd (e + 1) x = 5
  · obtain ⟨l, rfl⟩ := kda hoa h5.1
    obtain ⟨K, rfl⟩ := kda hox h5.2
    have hl := hla l rfl
    rw [if_pos h5.1, if_neg (by decide), x5, Option.bind_some, if_pos h5.2, if_neg (by decide)]
    have la : ∀ n, fR_length n 0 f (i3 v) o = some (i3 l.length) := fun n => ha.alen
    have lx : ∀ n, fR_length n 0 g (i3 u) o' = some (i3 K.length) := fun n => hx.alen
    have sa := ha.asz
    have sx := hx.asz
    rw [la, Option.bind_some, lx, Option.bind_some]
    show OK11 r _ (if l.length = K.length then _ else _)
    by_cases hlk : l.length = K.length
    · rw [if_pos hlk, if_pos (by rw [hlk])]
      have hjl : ∀ y ∈ l, jd e y ≤ 60 := fun y hy => by
        have h1 : jd (e + 1) (ja l) ≤ 59 + 1 := hja
        have := jd_a_le.mp h1 y hy
        omega
      have hjK : ∀ y ∈ K, jd e y ≤ 60 := fun y hy => by
        have h1 : jd (e + 1) (ja K) ≤ 59 + 1 := hjx
        have := jd_a_le.mp h1 y hy
        omega
      obtain ⟨k0, k1, k2, k3, k4, e2, hk', s1⟩ := arrange_a (n := n) (fu := fu) (o := o') (f0 := f6) (f1 := f7) (f3 := f9) (f5 := f11) (p2 := p8) (p4 := p10) (v6 := v12) (by omega) (by omega) hx hox (by omega) hn hjK
      have e2' : fS_arrange fu n 0 f6 f7 p8 f9 p10 f11 v12 g (i3 u) o' = some (k0, k1, k2, k3, k4, i3 l.length) := by rw [hlk]; exact e2
      rw [e2', Option.bind_some]
      dsimp only
      obtain ⟨w', e3, hk1⟩ := attach_w (n := n) (o := o) (f0 := k0) (f1 := f7) (f3 := k1) (f5 := k3) (p2 := k2) (p4 := k4) (by omega) ha hoa hl hjl
      rw [e3, Option.bind_some]
      have hS : STab f v g u o k0 w' k1 K l (tn K) := ⟨hk', hk1, s1, by rw [tn_len, hlk], hlk.symm, hl, fun t ht => by rw [hlk]; exact tn_lt ht, la, ha.2.2⟩
      obtain rfl | rfl | rfl | rfl | rfl : k = 0 ∨ k = 1 ∨ k = 2 ∨ k = 3 ∨ k = 4 := by omega
      · rw [if_pos (by decide), if_pos rfl]
        obtain ⟨r', e4, x4⟩ := sortE_w (n := n) (w5 := k3) (p2 := k2) (p4 := k4) hS (by omega) hr
        rw [e4]
        refine ⟨0, k0, w', k1, k2, k3, k4, _, r', rfl, OK.val rfl ?_⟩
        rw [← lf_a, jc_lf]
        exact x4
      · rw [if_neg (by decide), if_pos (by decide), if_neg (by decide), if_pos rfl]
        obtain ⟨r', e4, x4⟩ := groups_w (n := n) (o' := o') (w5 := k3) (p2 := k2) (p4 := k4) hS (fu := fu) (by omega) (by omega) (by omega) hr
        rw [e4]
        exact ⟨0, k0, w', k1, k2, k3, k4, _, r', rfl, OK.val rfl x4⟩
      · rw [if_neg (by decide), if_neg (by decide), if_pos (by decide), if_neg (by decide), if_neg (by decide), if_pos rfl]
        obtain ⟨r', e4, x4⟩ := firsts_w (n := n) (o' := o') (w5 := k3) (p2 := k2) (p4 := k4) hS (fu := fu) (by omega) (by omega) (by omega) hr
        rw [e4]
        refine ⟨0, k0, w', k1, k2, k3, k4, _, r', rfl, OK.val rfl ?_⟩
        rw [← lf_a, jc_lf]
        exact x4
      · rw [if_neg (by decide), if_neg (by decide), if_neg (by decide), if_pos (by decide), if_neg (by decide), if_neg (by decide), if_neg (by decide), if_pos rfl]
        obtain ⟨r', e4, x4⟩ := turn_w (n := n) (w5 := k3) (p2 := k2) (p4 := k4) hS hr (k := 0) (k' := 0) (fun _ => rfl) (fun h => List.length_pos_iff.mpr h)
        rw [e4]
        refine ⟨0, k0, w', k1, k2, k3, k4, _, r', rfl, OK.val rfl ?_⟩
        rw [List.head?_eq_getElem?]
        cases hc : ((tn K)[0]?).bind (fun t => l[t]?) with
        | none => rw [hc] at x4; exact x4
        | some y =>
          rw [hc] at x4
          dsimp only at x4 ⊢
          rw [jc_lf]
          exact x4
      · rw [if_neg (by decide), if_neg (by decide), if_neg (by decide), if_neg (by decide), if_neg (by decide), if_neg (by decide), if_neg (by decide), if_neg (by decide), Option.bind_some]
        obtain ⟨r', e4, x4⟩ := turn_w (n := n) (w5 := k3) (p2 := k2) (p4 := k4) hS hr (k := l.length - 1) (k' := i3 l.length - 1) (fun h => i3_pred (List.length_pos_iff.mpr h)) (fun h => by have := List.length_pos_iff.mpr h; omega)
        rw [e4]
        refine ⟨0, k0, w', k1, k2, k3, k4, _, r', rfl, OK.val rfl ?_⟩
        rw [List.getLast?_eq_getElem?, tn_len, ← hlk]
        cases hc : ((tn K)[l.length - 1]?).bind (fun t => l[t]?) with
        | none => rw [hc] at x4; exact x4
        | some y =>
          rw [hc] at x4
          dsimp only at x4 ⊢
          rw [jc_lf]
          exact x4
    · rw [if_neg hlk, if_neg (by rw [i3_eq (by omega) (by omega)]; exact hlk)]
      exact ⟨1, _, _, _, _, _, _, _, r, rfl, OK.refuse (k := 1) hr (by omega) (by omega)⟩
  · have : oKeyed k a x = .inl 1 := by
      unfold oKeyed
      rcases jcases a with ⟨k, rfl⟩ | ⟨z, rfl⟩ | ⟨s, rfl⟩ | ⟨l, rfl⟩ | ⟨l, rfl⟩ <;> rcases jcases x with ⟨k', rfl⟩ | ⟨z', rfl⟩ | ⟨s', rfl⟩ | ⟨l', rfl⟩ | ⟨l', rfl⟩ <;> first | rfl | exact absurd ⟨rfl, rfl⟩ h5
    rw [this]
    refine ⟨1, f6, f7, f9, p8, f11, p10, v12, r, ?_, OK.refuse (k := 1) hr (by omega) (by omega)⟩
    by_cases h6 : kd (e + 1) a = 5
    · rw [if_pos h6, if_neg (by decide), x5, Option.bind_some, if_neg (fun h => h5 ⟨h6, h⟩), if_pos (by decide)]
      rfl
    · rw [if_neg h6, if_pos (by decide)]
      rfl
end KY
end ZKey40
