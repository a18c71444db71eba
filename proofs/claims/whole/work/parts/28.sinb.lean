theorem byT_map {α β : Type} {T : List Nat} {l : List α} {g : α → β} : byT T (l.map g) = (byT T l).map g := by
  unfold byT
  rw [List.map_filterMap]
  congr 1
  funext i
  rw [List.getElem?_map]
section SB
variable {f : Nat → Int64} {v e : Nat} {o : Int32} {n fu : Nat} {r : RS} {f3 f4 f6 f8 : Nat → Int32} {p5 p7 : Nat} {v9 : Int32}
theorem jcs_map {d d' : Nat} {l : List Sx} : jc (d + 2) (ja (l.map (fun s => (js s : JT (d + 1))))) = jc (d' + 2) (ja (l.map (fun s => (js s : JT (d' + 1))))) := by
  rw [jc_a, jc_a, List.length_map, List.length_map, List.flatMap_map, List.flatMap_map]
  rfl
theorem sortedA_w (hn : 100000 < n) (hfu : e ≤ fu) (he : e ≤ 1000) {l : List (JT e)} (ha : At f v 0 (jc (e + 1) (ja l))) (hoa : jok (e + 1) (ja l)) (hl : l.length ≤ 2048) (hjd : ∀ x ∈ l, jd e x ≤ 60) (hr : RV r) : ∃ w0 w1 w2 w3 w4 v', ∃ r' : RS, fG_sorted fu n f (i3 v) o f3 f4 p5 f6 p7 f8 v9 r.1 (i3 r.2.1) r.2.2 = some (0, w0, w1, w2, w3, w4, v', r'.1, i3 r'.2.1, r'.2.2) ∧ Wr r (jc (e + 1) (ja (byT (tn l) l))) r' := by
  obtain ⟨r1, e1, w1⟩ := open_w (n := n) hr
  obtain ⟨k0, k1, k2, k3, k4, e2, hk, s1⟩ := arrange_a (n := n) (o := o) (f0 := f3) (f1 := f4) (f3 := f6) (f5 := f8) (p2 := p5) (p4 := p7) (v6 := v9) hfu he ha hoa hl hn hjd
  obtain ⟨r2, e3, w3⟩ := sorted_loop (fu := fu) (o := o) (f4 := f4) (w2 := k2) (w3 := k3) (w4 := k4) hl hk (tn_len l) (fun t ht => tn_lt ht) s1 (fun n => ha.alen) w1 (tn l) n 0 [] r1 rfl rfl (Wr.nil w1.v) (by rw [tn_len]; omega)
  refine ⟨k0, k1, k2, k3, k4, i3 l.length, r2, ?_, w3⟩
  have e2' : fS_arrange fu n 0 f3 f4 p5 f6 p7 f8 v9 f (i3 v) o = some (k0, k1, k2, k3, k4, i3 l.length) := e2
  unfold fG_sorted
  rw [e1, Option.bind_some, e2', Option.bind_some]
  exact e3
theorem sortedO_w (hn : 100000 < n) (hfu : 1 ≤ fu) {l : List (Sx × JT (e + 1))} (ha : At f v 0 (jc (e + 2) (jo l))) (hoa : jok (e + 2) (jo l)) (hl : l.length ≤ 2048) (hr : RV r) : ∃ w0 w1 w2 w3 w4 v', ∃ r' : RS, fG_sorted fu n f (i3 v) o f3 f4 p5 f6 p7 f8 v9 r.1 (i3 r.2.1) r.2.2 = some (0, w0, w1, w2, w3, w4, v', r'.1, i3 r'.2.1, r'.2.2) ∧ Wr r (jc (e + 2) (ja ((byT (tn (l.map (fun x => (js x.1 : JT 1)))) l).map (fun p => (js p.1 : JT (e + 1)))))) r' := by
  obtain ⟨r1, e1, w1⟩ := open_w (n := n) hr
  obtain ⟨k0, k1, k2, k3, k4, e2, hk, s1⟩ := arrange_o (n := n) (o := o) (f0 := f3) (f1 := f4) (f3 := f6) (f5 := f8) (p2 := p5) (p4 := p7) (v6 := v9) hfu ha hoa hl hn
  have hKl : (l.map (fun x => (js x.1 : JT 1))).length = l.length := List.length_map _
  obtain ⟨r2, e3, w3⟩ := sorted_loop (fu := fu) (o := o) (f4 := f4) (w2 := k2) (w3 := k3) (w4 := k4) (K := l.map (fun x => (js x.1 : JT 1))) (by omega) hk (tn_len _) (fun t ht => tn_lt ht) s1 (fun n => by rw [hKl]; exact ha.olen) w1 (tn (l.map (fun x => (js x.1 : JT 1)))) n 0 [] r1 rfl rfl (Wr.nil w1.v) (by rw [tn_len]; omega)
  refine ⟨k0, k1, k2, k3, k4, i3 l.length, r2, ?_, ?_⟩
  · have e2' : fS_arrange fu n 0 f3 f4 p5 f6 p7 f8 v9 f (i3 v) o = some (k0, k1, k2, k3, k4, i3 l.length) := e2
    unfold fG_sorted
    rw [e1, Option.bind_some, e2', Option.bind_some]
    rw [hKl] at e3
    exact e3
  · rw [byT_map] at w3
    have := jcs_map (d := 0) (d' := e) (l := (byT (tn (l.map (fun x => (js x.1 : JT 1)))) l).map (fun p => p.1))
    rw [List.map_map, List.map_map] at this
    rw [show ((fun s => (js s : JT (0 + 1))) ∘ fun p : Sx × JT (e + 1) => p.1) = (fun x => (js x.1 : JT 1)) from rfl, show ((fun s => (js s : JT (e + 1))) ∘ fun p : Sx × JT (e + 1) => p.1) = (fun p => (js p.1 : JT (e + 1))) from rfl] at this
    rw [← this]
    exact w3
/-! reversed -/
theorem i3_dn (k : Nat) : i3 k + (-1) = i3 k - 1 := (Int32.sub_eq_add_neg _ _).symm
theorem revS_loop {s : Sx} (hs : sok s) (ha : At f v 0 (strc s)) {r0 r1 : RS} {x0 : Int64} (h01 : Wr r0 [x0] r1) : ∀ (k n : Nat) (w : List Int64) (r2 : RS), k ≤ s.length → Wr r1 w r2 → w = ((s.drop k).reverse).map (fun c => cW (c : Nat)) → k + 1 < n →
    ∃ r' : RS, fG_putReversedString_b f (i3 v) o n 1 (i3 k - 1) (i3 r1.2.1 - 1) r2.1 (i3 r2.2.1) r2.2.2 = some (r'.1, i3 r'.2.1, r'.2.2) ∧ Wr r0 (strc s.reverse) r' := by
  have hl := ha.le
  have hlen : ∀ n, fR_length n 0 f (i3 v) o = some (i3 s.length) := fun n => ha.slen
  intro k
  induction k with
  | zero =>
    intro n w r2 _ hw he hn
    obtain ⟨n, rfl⟩ : ∃ j, n = j + 1 := ⟨n - 1, by omega⟩
    rw [List.drop_zero] at he
    obtain ⟨r3, e3, e4, w3⟩ := fin_s (n := n) h01 hw he (by rw [List.length_reverse]; omega)
    rw [List.length_reverse] at e3
    refine ⟨r3, ?_, w3⟩
    rw [fG_putReversedString_b, if_pos (by decide), hlen, Option.bind_some, e3, Option.bind_some, e4]
  | succ k ih =>
    intro n w r2 hk hw he hn
    obtain ⟨n, rfl⟩ : ∃ j, n = j + 1 := ⟨n - 1, by omega⟩
    have hcd : fR_code n 0 (i3 k) f (i3 v) o = some (i3 (s[k]'(by omega))) := At.scode (p := 0) ha (by omega)
    have hdr : s.drop k = s[k]'(by omega) :: s.drop (k + 1) := List.drop_eq_getElem_cons (by omega)
    obtain ⟨r3, e3, w3⟩ := put_w (n := n) hw.v (cW (s[k]'(by omega) : Nat))
    obtain ⟨r4, e4, w4⟩ := ih n _ r3 (by omega) (hw.app w3) (by rw [he, hdr, List.reverse_cons, List.map_append]; rfl) (by omega)
    refine ⟨r4, ?_, w4⟩
    have hbig : s[k]'(by omega) < 128 := hs _ (List.getElem_mem _)
    rw [fG_putReversedString_b, i3_pred (by omega), Nat.add_sub_cancel, if_neg (i3_nn (by omega)), hcd, Option.bind_some, i3_64 (by omega), e3, Option.bind_some, i3_dn]
    exact e4
theorem revA_loop {l : List (JT e)} (ha : At f v 0 (jc (e + 1) (ja l))) (hoa : jok (e + 1) (ja l)) (hl : l.length ≤ 2048) {w0 w1 : Nat → Int32} (hk : keysAt f v w0 l) (s1 : seg w1 0 ((List.range l.length).map i3)) {r0 r1 : RS} {x0 : Int64} (h01 : Wr r0 [x0] r1) : ∀ (k n : Nat) (w : List Int64) (r2 : RS), k ≤ l.length → Wr r1 w r2 → w = ((l.drop k).reverse).flatMap (jc e) → k + 1 < n →
    ∃ r' : RS, fG_putReversedArray_b f (i3 v) o f4 p5 p7 f8 n 1 (i3 k - 1) (i3 r1.2.1 - 1) w0 w1 (i3 l.length) r2.1 (i3 r2.2.1) r2.2.2 = some (w0, w1, i3 l.length, r'.1, i3 r'.2.1, r'.2.2) ∧ Wr r0 (jc (e + 1) (ja l.reverse)) r' := by
  have hsz := ha.asz
  have hlen : ∀ n, fR_length n 0 f (i3 v) o = some (i3 l.length) := fun n => ha.alen
  intro k
  induction k with
  | zero =>
    intro n w r2 _ hw he hn
    obtain ⟨n, rfl⟩ : ∃ j, n = j + 1 := ⟨n - 1, by omega⟩
    rw [List.drop_zero] at he
    obtain ⟨r3, e3, e4, w3⟩ := fin_a (n := n) h01 hw he (by rw [List.length_reverse]; omega)
    rw [List.length_reverse] at e3
    refine ⟨r3, ?_, w3⟩
    rw [fG_putReversedArray_b, if_pos (by decide), hlen, Option.bind_some, e3, Option.bind_some, e4]
  | succ k ih =>
    intro n w r2 hk2 hw he hn
    obtain ⟨n, rfl⟩ : ∃ j, n = j + 1 := ⟨n - 1, by omega⟩
    have hdr : l.drop k = l[k]'(by omega) :: l.drop (k + 1) := List.drop_eq_getElem_cons (by omega)
    have hti : w1 k = i3 k := by
      have := s1 k (i3 k) (by rw [List.getElem?_map, List.getElem?_range (by omega)]; rfl)
      rwa [Nat.zero_add] at this
    obtain ⟨p, ep, ap, op, _⟩ := kat (n := n) (i := 0) (f1 := f4) (f5 := f8) (p2 := p5) (p4 := p7) hk rfl hl rfl (k := k) (x := k) (j := l[k]'(by omega)) (by omega) hti (List.getElem?_eq_getElem (by omega))
    obtain ⟨r3, e3, w3⟩ := putCopy_w (n := n) (o' := o) hw.v ap op
    obtain ⟨r4, e4, w4⟩ := ih n _ r3 (by omega) (hw.app w3) (by rw [he, hdr, List.reverse_cons, List.flatMap_append]; simp) (by omega)
    refine ⟨r4, ?_, w4⟩
    rw [fG_putReversedArray_b, i3_pred (by omega), Nat.add_sub_cancel, if_neg (i3_nn (by omega)), ep, Option.bind_some, e3, Option.bind_some, i3_dn]
    exact e4
theorem reversed_w (hn : 10000 < n) {a : JT (e + 1)} (ha : At f v 0 (jc (e + 1) a)) (hoa : jok (e + 1) a) (hl : ∀ l, a = ja l → l.length ≤ 2048 ∧ ∀ x ∈ l, jd e x ≤ 60) (hr : RV r) : ∃ (c : Nat) (a1 a2 : Nat → Int32) (a3 : Int32), ∃ r' : RS, fG_reversed n f (i3 v) o f3 f4 p5 f6 p7 f8 v9 r.1 (i3 r.2.1) r.2.2 = some (i3 c, a1, a2, a3, r'.1, i3 r'.2.1, r'.2.2) ∧ OK r (some (i3 c, r'.1, i3 r'.2.1, r'.2.2)) (oRev a) := by
  have hk : fR_kind n 0 f (i3 v) o = some (i3 (kd (e + 1) a)) := ha.kind hoa
  have hk8 := kd_lt8 hoa
  unfold fG_reversed
  rw [hk, Option.bind_some]
  rcases jcases a with ⟨k, rfl⟩ | ⟨z, rfl⟩ | ⟨s, rfl⟩ | ⟨l, rfl⟩ | ⟨l, rfl⟩
  · rw [jok_k] at hoa
    rw [kd_k]
    by_cases hk0 : k = 0
    · subst hk0
      obtain ⟨r1, e1, w1⟩ := open_w (n := n) hr
      obtain ⟨r3, e3, e4, w3⟩ := fin_a (n := n) (d := e) (l := []) w1 (Wr.nil w1.v) rfl (by simp)
      have e3' : fR_close n (i3 r1.2.1 - 1) 5 0 r1.1 (i3 r1.2.1) r1.2.2 = some r3.1 := e3
      refine ⟨0, f3, f6, v9, r3, ?_, OK.val rfl w3⟩
      rw [if_pos (by decide), e1, Option.bind_some]
      dsimp only
      rw [e3', Option.bind_some, e4]
      rfl
    · refine ⟨1, f3, f6, v9, r, ?_, ?_⟩
      · rw [if_neg (by rw [show (0 : Int32) = i3 0 from rfl, i3_eq (by omega) (by omega)]; exact hk0), if_neg (by rw [show (4 : Int32) = i3 4 from rfl, i3_eq (by omega) (by omega)]; omega), if_neg (by rw [show (5 : Int32) = i3 5 from rfl, i3_eq (by omega) (by omega)]; omega)]
        rfl
      · have : oRev (jk k : JT (e + 1)) = .inl 1 := if_neg hk0
        rw [this]
        exact OK.refuse hr (by omega) (by omega)
  · refine ⟨1, f3, f6, v9, r, ?_, OK.refuse (k := 1) hr (by omega) (by omega)⟩
    rw [kd_n, if_neg (by decide), if_neg (by decide), if_neg (by decide)]
    rfl
  · have ha' : At f v 0 (strc s) := ha
    have hle := ha'.le
    have hlen : fR_length n 0 f (i3 v) o = some (i3 s.length) := ha'.slen
    obtain ⟨r1, e1, w1⟩ := open_w (n := n) hr
    obtain ⟨r2, e2, w2⟩ := revS_loop (o := o) hoa ha' w1 s.length n [] r1 (by omega) (Wr.nil w1.v) (by simp) (by omega)
    refine ⟨0, f3, f6, v9, r2, ?_, OK.val (j := js s.reverse) rfl w2⟩
    unfold fG_putReversedString
    rw [kd_s, if_neg (by decide), if_pos (by decide), e1, Option.bind_some, hlen, Option.bind_some]
    dsimp only
    rw [e2]
    rfl
  · have hsz := ha.asz
    obtain ⟨hl1, hl2⟩ := hl l rfl
    have hlen : fR_length n 0 f (i3 v) o = some (i3 l.length) := ha.alen
    obtain ⟨r1, e1, w1⟩ := open_w (n := n) hr
    obtain ⟨k0, k1, e2, hk2, s1⟩ := gather_a (n := n) (o := o) (f0 := f3) (f1 := f4) (f3 := f6) (f5 := f8) (p2 := p5) (p4 := p7) (v6 := v9) ha hoa hl1 (by omega) hl2
    have e2' : fS_gather n 0 f3 f4 p5 f6 p7 f8 v9 f (i3 v) o = some (k0, k1, i3 l.length) := e2
    obtain ⟨r2, e3, w3⟩ := revA_loop (o := o) (f4 := f4) (p5 := p5) (p7 := p7) (f8 := f8) ha hoa hl1 hk2 s1 w1 l.length n [] r1 (by omega) (Wr.nil w1.v) (by simp) (by omega)
    refine ⟨0, k0, k1, i3 l.length, r2, ?_, OK.val (j := ja l.reverse) rfl w3⟩
    unfold fG_putReversedArray
    rw [kd_a, if_neg (by decide), if_neg (by decide), if_pos (by decide), e1, Option.bind_some, e2', Option.bind_some, hlen, Option.bind_some]
    dsimp only
    rw [e3]
    rfl
  · refine ⟨1, f3, f6, v9, r, ?_, OK.refuse (k := 1) hr (by omega) (by omega)⟩
    rw [kd_o, if_neg (by decide), if_neg (by decide), if_neg (by decide)]
    rfl
/-! character by character -/
theorem codes_loop {s : Sx} (hs : sok s) (ha : At f v 0 (strc s)) {r0 r1 : RS} {x0 : Int64} (h01 : Wr r0 [x0] r1) : ∀ (s' : Sx) (n i : Nat) (U : Sx) (r2 : RS), U ++ s' = s → U.length = i → Wr r1 ((U.map (fun c => (jn (c : Nat) : JT (e + 1)))).flatMap (jc (e + 1))) r2 → s'.length < n →
    ∃ r' : RS, fG_codes_b f (i3 v) o n 1 (i3 i) (i3 r1.2.1 - 1) r2.1 (i3 r2.2.1) r2.2.2 = some (0, r'.1, i3 r'.2.1, r'.2.2) ∧ Wr r0 (jc (e + 2) (ja (s.map (fun c => (jn (c : Nat) : JT (e + 1)))))) r' := by
  have hl := ha.le
  have hlen : ∀ n, fR_length n 0 f (i3 v) o = some (i3 s.length) := fun n => ha.slen
  intro s'
  induction s' with
  | nil =>
    intro n i U r2 hU hi hw hn
    obtain ⟨n, rfl⟩ : ∃ j, n = j + 1 := ⟨n - 1, by omega⟩
    rw [List.append_nil] at hU
    subst hU
    obtain ⟨r3, e3, e4, w3⟩ := fin_a (n := n) h01 hw rfl (by rw [List.length_map]; omega)
    rw [List.length_map] at e3
    refine ⟨r3, ?_, w3⟩
    rw [fG_codes_b, hlen, Option.bind_some, if_pos (by rw [i3_le (by omega) (by omega)]; omega), Option.bind_some, e3, Option.bind_some, e4]
  | cons c s' ih =>
    intro n i U r2 hU hi hw hn
    obtain ⟨n, rfl⟩ : ∃ j, n = j + 1 := ⟨n - 1, by omega⟩
    rw [List.length_cons] at hn
    have hsl : s.length = U.length + (s'.length + 1) := by rw [← hU, List.length_append, List.length_cons]
    have hc : s[i]'(by omega) = c := by
      have h1 : s[i]? = some c := by rw [← hU, List.getElem?_append_right (by omega), hi]; simp
      exact (List.getElem?_eq_some_iff.mp h1).2
    have hc1 : c < 128 := by rw [← hc]; exact hs _ (List.getElem_mem _)
    have hcd : fR_code n 0 (i3 i) f (i3 v) o = some (i3 (s[i]'(by omega))) := At.scode (p := 0) ha (by omega)
    obtain ⟨r3, e3, w3⟩ := putNumber_w (n := n) hw.v (c : Nat)
    rw [fG_codes_b, hlen, Option.bind_some, if_neg (by rw [i3_le (by omega) (by omega)]; omega), hcd, Option.bind_some, hc, i3_64 (by omega), e3, Option.bind_some, i3_one]
    refine ih n (i + 1) (U ++ [c]) r3 (by rw [← hU]; simp) (by simp; omega) ?_ (by omega)
    rw [List.map_append, List.flatMap_append]
    have := hw.app w3
    simpa [jc_n] using this
theorem codes_w (hn : 10000 < n) {a : JT (e + 2)} (ha : At f v 0 (jc (e + 2) a)) (hoa : jok (e + 2) a) (hr : RV r) : OK r (fG_codes n f (i3 v) o r.1 (i3 r.2.1) r.2.2) (oExp a) := by
  have i4 : fR_is n 0 4 f (i3 v) o = some (if kd (e + 2) a = 4 then 1 else 0) := At.is (p := 0) (k := 4) ha hoa (by omega)
  unfold fG_codes
  rw [i4, Option.bind_some]
  by_cases h4 : kd (e + 2) a = 4
  · obtain ⟨s, rfl⟩ := kds hoa h4
    have ha' : At f v 0 (strc s) := ha
    have hle := ha'.le
    obtain ⟨r1, e1, w1⟩ := open_w (n := n) hr
    obtain ⟨r2, e2, w2⟩ := codes_loop (e := e) (o := o) hoa ha' w1 s n 0 [] r1 rfl rfl (Wr.nil w1.v) (by omega)
    rw [if_pos h4, if_neg (by decide), e1, Option.bind_some]
    exact OK.val e2 w2
  · rw [if_neg h4, if_pos (by decide)]
    have : oExp a = .inl 1 := by
      unfold oExp
      rcases jcases a with ⟨k, rfl⟩ | ⟨z, rfl⟩ | ⟨s, rfl⟩ | ⟨l, rfl⟩ | ⟨l, rfl⟩ <;> first | rfl | exact absurd rfl h4
    rw [this]
    exact OK.refuse (k := 1) hr (by omega) (by omega)
theorem case_loop {s : Sx} (hs : sok s) {first : Nat} {step : Int32} {g : Nat → Nat} (hf : first < 128) (hg : ∀ c, c < 128 → g c < 128 ∧ ((first ≤ c ∧ c < first + 26 → i3 c + step = i3 (g c)) ∧ (¬ (first ≤ c ∧ c < first + 26) → g c = c))) (ha : At f v 0 (strc s)) {r0 r1 : RS} {x0 : Int64} (h01 : Wr r0 [x0] r1) : ∀ (s' : Sx) (n i : Nat) (U : Sx) (r2 : RS), U ++ s' = s → U.length = i → Wr r1 ((U.map g).map (fun c => cW (c : Nat))) r2 → s'.length < n →
    ∃ r' : RS, fG_inCase_b f (i3 v) o n 1 (i3 i) (i3 r1.2.1 - 1) (i3 first) step r2.1 (i3 r2.2.1) r2.2.2 = some (0, r'.1, i3 r'.2.1, r'.2.2) ∧ Wr r0 (strc (s.map g)) r' := by
  have hl := ha.le
  have hlen : ∀ n, fR_length n 0 f (i3 v) o = some (i3 s.length) := fun n => ha.slen
  intro s'
  induction s' with
  | nil =>
    intro n i U r2 hU hi hw hn
    obtain ⟨n, rfl⟩ : ∃ j, n = j + 1 := ⟨n - 1, by omega⟩
    rw [List.append_nil] at hU
    subst hU
    obtain ⟨r3, e3, e4, w3⟩ := fin_s (n := n) h01 hw rfl (by rw [List.length_map]; omega)
    rw [List.length_map] at e3
    refine ⟨r3, ?_, w3⟩
    rw [fG_inCase_b, hlen, Option.bind_some, if_pos (by rw [i3_le (by omega) (by omega)]; omega), Option.bind_some, e3, Option.bind_some, e4]
  | cons c s' ih =>
    intro n i U r2 hU hi hw hn
    obtain ⟨n, rfl⟩ : ∃ j, n = j + 1 := ⟨n - 1, by omega⟩
    rw [List.length_cons] at hn
    have hsl : s.length = U.length + (s'.length + 1) := by rw [← hU, List.length_append, List.length_cons]
    have hc : s[i]'(by omega) = c := by
      have h1 : s[i]? = some c := by rw [← hU, List.getElem?_append_right (by omega), hi]; simp
      exact (List.getElem?_eq_some_iff.mp h1).2
    have hc1 : c < 128 := by rw [← hc]; exact hs _ (List.getElem_mem _)
    have hcd : fR_code n 0 (i3 i) f (i3 v) o = some (i3 (s[i]'(by omega))) := At.scode (p := 0) ha (by omega)
    obtain ⟨g1, g2, g3⟩ := hg c hc1
    obtain ⟨r3, e3, w3⟩ := put_w (n := n) hw.v (cW (g c : Nat))
    have go := ih n (i + 1) (U ++ [c]) r3 (by rw [← hU]; simp) (by simp; omega) (by
      rw [List.map_append, List.map_append]
      exact hw.app w3) (by omega)
    rw [fG_inCase_b, hlen, Option.bind_some, if_neg (by rw [i3_le (by omega) (by omega)]; omega), hcd, Option.bind_some, hc]
    by_cases h1 : c < first
    · have hgc := g3 (by omega)
      rw [hgc] at e3
      rw [if_pos (by rw [i3_lt (by omega) (by omega)]; exact h1), i3_64 (by omega), e3, Option.bind_some, i3_one]
      exact go
    · rw [if_neg (by rw [i3_lt (by omega) (by omega)]; exact h1), show (26 : Int32) = i3 26 from rfl, i3_add]
      by_cases h2 : first + 26 ≤ c
      · have hgc := g3 (by omega)
        rw [hgc] at e3
        rw [if_pos (by rw [i3_le (by omega) (by omega)]; exact h2), i3_64 (by omega), e3, Option.bind_some, i3_one]
        exact go
      · rw [if_neg (by rw [i3_le (by omega) (by omega)]; exact h2), g2 (by omega), i3_64 (by omega), e3, Option.bind_some, i3_one]
        exact go
theorem case_w (hn : 10000 < n) {first : Nat} {step : Int32} {g : Nat → Nat} (hf : first < 128) (hg : ∀ c, c < 128 → g c < 128 ∧ ((first ≤ c ∧ c < first + 26 → i3 c + step = i3 (g c)) ∧ (¬ (first ≤ c ∧ c < first + 26) → g c = c))) {a : JT (e + 1)} (ha : At f v 0 (jc (e + 1) a)) (hoa : jok (e + 1) a) (hr : RV r) : OK r (fG_inCase n (i3 first) step f (i3 v) o r.1 (i3 r.2.1) r.2.2) (oCase g a) := by
  have i4 : fR_is n 0 4 f (i3 v) o = some (if kd (e + 1) a = 4 then 1 else 0) := At.is (p := 0) (k := 4) ha hoa (by omega)
  unfold fG_inCase
  rw [i4, Option.bind_some]
  by_cases h4 : kd (e + 1) a = 4
  · obtain ⟨s, rfl⟩ := kds hoa h4
    have ha' : At f v 0 (strc s) := ha
    have hle := ha'.le
    obtain ⟨r1, e1, w1⟩ := open_w (n := n) hr
    obtain ⟨r2, e2, w2⟩ := case_loop (o := o) hoa hf hg ha' w1 s n 0 [] r1 rfl rfl (Wr.nil w1.v) (by omega)
    rw [if_pos h4, if_neg (by decide), e1, Option.bind_some]
    exact OK.val (j := js (s.map g)) e2 w2
  · rw [if_neg h4, if_pos (by decide)]
    have : oCase g a = .inl 1 := by
      unfold oCase
      rcases jcases a with ⟨k, rfl⟩ | ⟨z, rfl⟩ | ⟨s, rfl⟩ | ⟨l, rfl⟩ | ⟨l, rfl⟩ <;> first | rfl | exact absurd rfl h4
    rw [this]
    exact OK.refuse (k := 1) hr (by omega) (by omega)
theorem low_all : ∀ c, c < 128 → lowC c < 128 ∧ ((65 ≤ c ∧ c < 65 + 26 → i3 c + 32 = i3 (lowC c)) ∧ (¬ (65 ≤ c ∧ c < 65 + 26) → lowC c = c)) := by decide +kernel
theorem up_all : ∀ c, c < 128 → upC c < 128 ∧ ((97 ≤ c ∧ c < 97 + 26 → i3 c + (-32) = i3 (upC c)) ∧ (¬ (97 ≤ c ∧ c < 97 + 26) → upC c = c)) := by decide +kernel
end SB
