section ZOpd23
section OPD
variable {f g : Nat → Int64} {v u e : Nat} {o o' : Int32} {n fu : Nat} {r : RS}
theorem he_loop (hfu : e ≤ fu) (he : e ≤ 1000) {m : List (JT e)} (hb : At g u 0 (jc (e + 1) (ja m))) {x : JT e} (hx : jok e x) {q : Nat} (hq : At f v q (jc e x)) : ∀ (m' : List (JT e)) (n i s : Nat), (∀ y ∈ m', jok e y ∧ jd e y ≤ 60) → i + m'.length = m.length → At g u s (m'.flatMap (jc e)) → 20001 + m'.length < n → fA_hasElement_b fu g (i3 u) o' f (i3 v) o n 1 (i3 i) (i3 s) (i3 q) = some (if has m' x then 1 else 0) := by
  have hsz := hb.asz
  have hlen : ∀ n, fR_length n 0 g (i3 u) o' = some (i3 m.length) := fun n => hb.alen
  intro m'
  induction m' with
  | nil =>
    intro n i s _ hi _ hn
    obtain ⟨n, rfl⟩ : ∃ j, n = j + 1 := ⟨n - 1, by omega⟩
    rw [List.length_nil] at hi
    rw [fA_hasElement_b, hlen, Option.bind_some, if_pos (by rw [i3_le (by omega) (by omega)]; omega)]
    rfl
  | cons y m' ih =>
    intro n i s hok hi hat hn
    obtain ⟨n, rfl⟩ : ∃ j, n = j + 1 := ⟨n - 1, by omega⟩
    rw [List.length_cons] at hi hn
    obtain ⟨at1, at2⟩ := hat.acons
    have hy := hok y (List.mem_cons_self ..)
    rw [fA_hasElement_b, hlen, Option.bind_some, if_neg (by rw [i3_le (by omega) (by omega)]; omega), same_w (by omega) hy.1 hx at1 hq hfu he hy.2, Option.bind_some]
    by_cases h : jcmp e y x = 0
    · rw [if_pos h, if_neg (by decide), if_pos (by unfold has; simp [h])]
    · rw [if_neg h, if_pos (by decide), at1.after hy.1, Option.bind_some, i3_one, ih n (i + 1) _ (fun z hz => hok z (List.mem_cons_of_mem _ hz)) (by omega) at2 (by omega)]
      unfold has
      rw [List.any_cons, show decide (jcmp e y x = 0) = false by simpa using h, Bool.false_or]
theorem mi_loop (hfu : e ≤ fu) (he : e ≤ 1000) {l m : List (JT e)} (ha : At f v 0 (jc (e + 1) (ja l))) (hoa : jok (e + 1) (ja l)) (hb : At g u 0 (jc (e + 1) (ja m))) (hob : jok (e + 1) (ja m)) (hjm : ∀ y ∈ m, jd e y ≤ 60) {r0 r1 : RS} {x0 : Int64} (h01 : Wr r0 [x0] r1) : ∀ (l' : List (JT e)) (n i s c : Nat) (w : List Int64) (r2 : RS), (∀ x ∈ l', x ∈ l) → i + l'.length = l.length → At f v s (l'.flatMap (jc e)) → Wr r1 w r2 → c ≤ i → 25000 + l'.length < n →
    ∃ r' : RS, fA_minus_b fu f (i3 v) o g (i3 u) o' n 1 (i3 i) (i3 s) (i3 c) (i3 r1.2.1 - 1) r2.1 (i3 r2.2.1) r2.2.2 = some (0, r'.1, i3 r'.2.1, r'.2.2) ∧ Wr r0 (lst 5 (c + (l'.filter (fun x => !has m x)).length) (w ++ (l'.filter (fun x => !has m x)).flatMap (jc e))) r' := by
  have hsz := ha.asz
  have hlen : ∀ n, fR_length n 0 f (i3 v) o = some (i3 l.length) := fun n => ha.alen
  have hsm := hb.asz
  intro l'
  induction l' with
  | nil =>
    intro n i s c w r2 _ hi _ hw hc hn
    obtain ⟨n, rfl⟩ : ∃ j, n = j + 1 := ⟨n - 1, by omega⟩
    rw [List.length_nil] at hi
    obtain ⟨f3, e3, w3⟩ := close_w (n := n) (k := 5) (len := c) h01 hw (by omega) (fun _ => by omega)
    refine ⟨(f3, r2.2.1, r2.2.2), ?_, by rw [List.filter_nil, List.flatMap_nil, List.append_nil]; exact w3⟩
    rw [fA_minus_b, hlen, Option.bind_some, if_pos (by rw [i3_le (by omega) (by omega)]; omega), show (5 : Int32) = i3 5 from rfl, e3]
    rfl
  | cons x l' ih =>
    intro n i s c w r2 hsub hi hat hw hc hn
    obtain ⟨n, rfl⟩ : ∃ j, n = j + 1 := ⟨n - 1, by omega⟩
    rw [List.length_cons] at hi hn
    obtain ⟨at1, at2⟩ := hat.acons
    have hx := hoa x (hsub x (List.mem_cons_self ..))
    have hh : fA_hasElement fu n (i3 s) g (i3 u) o' f (i3 v) o = some (if has m x then 1 else 0) := he_loop (o := o) (o' := o') (x := x) hfu he hb hx at1 m n 0 1 (fun y hy => ⟨hob y hy, hjm y hy⟩) (by omega) hb.abody (by omega)
    rw [fA_minus_b, hlen, Option.bind_some, if_neg (by rw [i3_le (by omega) (by omega)]; omega)]
    rw [hh, Option.bind_some]
    cases hm : has m x with
    | true =>
      rw [if_neg (by decide), at1.after hx, Option.bind_some, i3_one, List.filter_cons_of_neg (by rw [hm]; decide)]
      exact ih n (i + 1) _ c w r2 (fun y hy => hsub y (List.mem_cons_of_mem _ hy)) (by omega) at2 hw (by omega) (by omega)
    | false =>
      obtain ⟨r3, e3, w3⟩ := putCopy_w (n := n) (o' := o) hw.v at1 hx
      rw [if_pos (by decide), e3, Option.bind_some, at1.after hx, Option.bind_some, i3_one, i3_one, List.filter_cons_of_pos (by rw [hm]; decide), List.length_cons, List.flatMap_cons]
      obtain ⟨r4, e4, w4⟩ := ih n (i + 1) _ (c + 1) (w ++ jc e x) r3 (fun y hy => hsub y (List.mem_cons_of_mem _ hy)) (by omega) at2 (hw.app w3) (by omega) (by omega)
      refine ⟨r4, e4, ?_⟩
      rw [List.append_assoc, Nat.add_assoc, Nat.add_comm 1] at w4
      exact w4
theorem minus_w (hn : 40000 < n) (hfu : e ≤ fu) (he : e ≤ 1000) {a b : JT (e + 1)} (ha : At f v 0 (jc (e + 1) a)) (hoa : jok (e + 1) a) (hb : At g u 0 (jc (e + 1) b)) (hob : jok (e + 1) b) (hjb : jd (e + 1) b ≤ 61) (hr : RV r) : OK r (fA_minus fu n f (i3 v) o g (i3 u) o' r.1 (i3 r.2.1) r.2.2) (oMinus a b) := by
  unfold fA_minus
  rw [show (0 : Int32) = i3 0 from rfl, show (5 : Int32) = i3 5 from rfl]
  by_cases h1 : kd (e + 1) a = 5
  · rw [ha.isT hoa h1, Option.bind_some, if_neg (by decide)]
    by_cases h2 : kd (e + 1) b = 5
    · rw [hb.isT hob h2, Option.bind_some, if_neg (by decide)]
      rcases rk_same (show rk (e + 1) a = rk (e + 1) b by rw [rk_ok hoa, rk_ok hob, h1, h2]) with ⟨x, y, rfl, rfl, _⟩ | ⟨x, y, rfl, rfl⟩ | ⟨x, y, rfl, rfl⟩ | ⟨x, y, rfl, rfl⟩ | ⟨x, y, rfl, rfl⟩
      · rw [jok_k] at hoa; rw [kd_k] at h1; omega
      · rw [kd_n] at h1; omega
      · rw [kd_s] at h1; omega
      · obtain ⟨r1, e1, w1⟩ := open_w (n := n) hr
        have hsz := ha.asz
        obtain ⟨r2, e2, w2⟩ := mi_loop (o := o) (o' := o') hfu he ha hoa hb hob (jd_a_le.mp hjb) w1 x n 0 1 0 [] r1 (fun x hx => hx) (by omega) ha.abody (Wr.nil w1.v) (by omega) (by omega)
        rw [e1, Option.bind_some]
        dsimp only
        refine OK.val (j := ja (x.filter (fun z => !has y z))) e2 ?_
        rw [jc_a]
        rw [Nat.zero_add] at w2
        exact w2
      · rw [kd_o] at h1; omega
    · rw [hb.isF hob (by omega) h2, Option.bind_some, if_pos (by decide)]
      have : oMinus a b = .inl 1 := by
        unfold oMinus
        rcases jcases a with ⟨k, rfl⟩ | ⟨z, rfl⟩ | ⟨s, rfl⟩ | ⟨l, rfl⟩ | ⟨l, rfl⟩ <;> rcases jcases b with ⟨k', rfl⟩ | ⟨z', rfl⟩ | ⟨s', rfl⟩ | ⟨l', rfl⟩ | ⟨l', rfl⟩ <;> first | rfl | exact absurd rfl h2
      rw [this]
      exact OK.refuse (k := 1) hr (by omega) (by omega)
  · rw [ha.isF hoa (by omega) h1, Option.bind_some, if_pos (by decide)]
    have : oMinus a b = .inl 1 := by
      unfold oMinus
      rcases jcases a with ⟨k, rfl⟩ | ⟨z, rfl⟩ | ⟨s, rfl⟩ | ⟨l, rfl⟩ | ⟨l, rfl⟩ <;> first | rfl | exact absurd rfl h1
    rw [this]
    exact OK.refuse (k := 1) hr (by omega) (by omega)
/-! a string some times -/
theorem rep_add {s : Sx} {k z : Nat} (h : k ≤ z) : rep s z = rep s k ++ rep s ((z - k : Nat) : Int) := by
  unfold rep
  rw [show (z : Int).toNat = k + (z - k) by omega, show (k : Int).toNat = k by omega, show ((z - k : Nat) : Int).toNat = z - k by omega, ← List.flatten_append, List.replicate_append_replicate]
theorem rep_nil {z : Int} : rep [] z = [] := by
  unfold rep
  simp
theorem rep_succ {s : Sx} {k : Nat} : rep s ((k + 1 : Nat) : Int) = rep s k ++ s := by
  rw [rep_add (k := k) (by omega), Nat.add_sub_cancel_left]
  unfold rep
  simp
theorem rep_len {s : Sx} {k : Nat} : (rep s k).length = k * s.length := by
  unfold rep
  rw [List.length_flatten, List.map_replicate, List.sum_replicate_nat]
  congr 1
theorem pr_loop {s : Sx} {z : Nat} (hz : z ≤ 9007199254740991) (ha : At f v 0 (strc s)) {r0 r1 : RS} {x0 : Int64} (h01 : Wr r0 [x0] r1) : ∀ (m n k : Nat) (r2 : RS), k + m = 4096 → k ≤ z → Wr r1 ((rep s k).map (fun c => cW (c : Nat))) r2 → m + 2 < n →
    ∃ r' : RS, fA_putRepeated_b f (i3 v) o n 1 (i3 k) (i3 r1.2.1 - 1) (cW (z : Int)) r2.1 (i3 r2.2.1) r2.2.2 = some (r'.1, i3 r'.2.1, r'.2.2) ∧ Wr r0 (strc (rep s z)) r' := by
  have hl := ha.le
  -- the end, when all is written or the row is over
  have fin : ∀ (n k : Nat) (r2 : RS), k ≤ z → Wr r1 ((rep s k).map (fun c => cW (c : Nat))) r2 → (r2.2.2 = 1 ∨ rep s k = rep s z) → ∃ r' : RS, ((fR_size n r2.1 (i3 r2.2.1) r2.2.2).bind fun o1 => (fR_close n (i3 r1.2.1 - 1) 4 ((o1 - (i3 r1.2.1 - 1)) - 1) r2.1 (i3 r2.2.1) r2.2.2).bind fun o4 => some (o4, i3 r2.2.1, r2.2.2)) = some (r'.1, i3 r'.2.1, r'.2.2) ∧ Wr r0 (strc (rep s z)) r' := by
    intro n k r2 hkz hw hor
    have hs : fR_size n r2.1 (i3 r2.2.1) r2.2.2 = some (i3 r2.2.1) := rfl
    rw [hs, Option.bind_some]
    by_cases hov : r2.2.2 = 1
    · refine ⟨r2, ?_, ?_⟩
      · rw [hov, close_over]
        rfl
      · have w1 : Wr r1 ((rep s z).map (fun c => cW (c : Nat))) r2 := by
          rw [rep_add hkz, List.map_append]
          exact hw.more hov
        obtain ⟨f3, e3, w3⟩ := close_w (n := n) (k := 4) (len := (rep s z).length) h01 w1 (by omega) (fun h => by rw [hov] at h; exact absurd h (by decide))
        rw [hov, close_over] at e3
        rw [strc_lst]
        have e4 : f3 = r2.1 := (Option.some.inj e3).symm
        rw [e4] at w3
        exact w3
    · have he := hor.resolve_left hov
      have h0 : r2.2.2 = 0 := hw.v.2.resolve_right hov
      obtain ⟨a1, a2, a3⟩ := hw.at0 h0
      obtain ⟨b1, b2, b3'⟩ := h01.at0 a3
      have hv2 := hw.v.1
      rw [List.length_singleton] at b2
      rw [List.length_map] at a2
      obtain ⟨f3, e3, w3⟩ := close_w (n := n) (k := 4) (len := (rep s k).length) h01 hw (by omega) (fun h => by omega)
      refine ⟨(f3, r2.2.1, r2.2.2), ?_, by rw [strc_lst, ← he]; exact w3⟩
      have e5 : (i3 r2.2.1 - (i3 r1.2.1 - 1)) - 1 = i3 (rep s k).length := by
        rw [i3_pred (by omega), i3_sub (by omega), i3_pred (by omega)]
        congr 1
        omega
      rw [e5, show (4 : Int32) = i3 4 from rfl, e3]
      rfl
  intro m
  induction m with
  | zero =>
    intro n k r2 hk hkz hw hn
    obtain ⟨n, rfl⟩ : ∃ j, n = j + 1 := ⟨n - 1, by omega⟩
    obtain rfl : k = 4096 := by omega
    rw [fA_putRepeated_b, if_pos (by decide)]
    refine fin n 4096 r2 hkz hw ?_
    by_cases hs : s.length = 0
    · right
      have : s = [] := List.length_eq_zero_iff.mp hs
      subst this
      rw [rep_nil, rep_nil]
    · left
      rcases hw.v.2 with h0 | h1
      · exfalso
        obtain ⟨a1, a2, a3⟩ := hw.at0 h0
        obtain ⟨_, b2, _⟩ := h01.at0 a3
        have hv2 := hw.v.1
        rw [List.length_map, rep_len] at a2
        rw [List.length_singleton] at b2
        have : 4096 * 1 ≤ 4096 * s.length := Nat.mul_le_mul_left _ (by omega)
        omega
      · exact h1
  | succ m ih =>
    intro n k r2 hk hkz hw hn
    obtain ⟨n, rfl⟩ : ∃ j, n = j + 1 := ⟨n - 1, by omega⟩
    rw [fA_putRepeated_b, if_neg (by rw [show (4096 : Int32) = i3 4096 from rfl, i3_le (by omega) (by omega)]; omega), i3_64 (by omega), lg_cW (by omega) (by omega) (by omega) (by omega)]
    by_cases hkz2 : k < z
    · rw [if_neg (by rw [izs_ge0]; omega)]
      rcases hw.v.2 with h0 | h1
      · obtain ⟨r3, e3, w3⟩ := putInsideS_w (n := n) (o' := o) hw.v ha
        have ho : fR_isOver n r2.1 (i3 r2.2.1) r2.2.2 = some 0 := by
          unfold fR_isOver
          rw [h0]
          rfl
        have e4 : fR_putInside n 0 r2.1 (i3 r2.2.1) r2.2.2 f (i3 v) o = some (r3.1, i3 r3.2.1, r3.2.2) := e3
        rw [ho, Option.bind_some, if_pos rfl, e4, Option.bind_some, i3_one]
        exact ih n (k + 1) r3 (by omega) (by omega) (by rw [rep_succ, List.map_append]; exact hw.app w3) (by omega)
      · have ho : fR_isOver n r2.1 (i3 r2.2.1) r2.2.2 = some 1 := by
          unfold fR_isOver
          rw [h1]
          rfl
        rw [ho, Option.bind_some, if_neg (by decide)]
        exact fin n k r2 hkz hw (Or.inl h1)
    · rw [if_pos (by rw [izs_ge0]; omega)]
      exact fin n k r2 hkz hw (Or.inr (by rw [show k = z by omega]))
theorem repeated_w (hn : 5000 < n) {s : Sx} {z : Int} (h1 : -9007199254740991 ≤ z) (h2 : z ≤ 9007199254740991) (ha : At f v 0 (strc s)) (hr : RV r) : OK (d := e + 1) r ((fA_putRepeated n (cW z) f (i3 v) o r.1 (i3 r.2.1) r.2.2).bind fun y => some ((0 : Int32), y.1, y.2.1, y.2.2)) (repR s z) := by
  unfold fA_putRepeated repR
  rw [show (1 : Int64) = cW 1 from rfl, lg_cW (by omega) (by omega) (by omega) (by omega)]
  by_cases h : z < 1
  · obtain ⟨r1, e1, w1⟩ := putNull_w (n := n) hr
    rw [if_neg (by rw [izs_ge0]; omega), if_pos h, e1]
    exact OK.val (j := jk 0) rfl w1
  · obtain ⟨r1, e1, w1⟩ := open_w (n := n) hr
    obtain ⟨y, rfl⟩ : ∃ y : Nat, z = y := ⟨z.toNat, by omega⟩
    obtain ⟨r2, e2, w2⟩ := pr_loop (o := o) (s := s) (z := y) (by omega) ha w1 4096 n 0 r1 (by omega) (by omega) (Wr.nil w1.v) (by omega)
    rw [if_pos (by rw [izs_ge0]; omega), if_neg h, e1, Option.bind_some]
    dsimp only
    have e3 : fA_putRepeated_b f (i3 v) o n 1 0 (i3 r1.2.1 - 1) (cW (y : Int)) r1.1 (i3 r1.2.1) r1.2.2 = some (r2.1, i3 r2.2.1, r2.2.2) := e2
    rw [e3]
    exact OK.val (j := js (rep s y)) rfl w2
end OPD
end ZOpd23
section ZOpe24
section OPE
variable {f g : Nat → Int64} {v u e : Nat} {o o' : Int32} {n fu : Nat} {r : RS}
theorem times_w (hn : 40000 < n) (hfu : e + 1 ≤ fu) {a b : JT (e + 1)} (ha : At f v 0 (jc (e + 1) a)) (hoa : jok (e + 1) a) (hb : At g u 0 (jc (e + 1) b)) (hob : jok (e + 1) b) (hja : jd (e + 1) a ≤ 60) (hr : RV r) (hnn : ¬ (kd (e + 1) a = 3 ∧ kd (e + 1) b = 3)) : OK r (fA_times fu n f (i3 v) o g (i3 u) o' r.1 (i3 r.2.1) r.2.2) (oTimes a b) := by
  have isa : ∀ k, k < 8 → fR_is n 0 (i3 k) f (i3 v) o = some (if kd (e + 1) a = k then 1 else 0) := fun k hk => ha.is hoa hk
  have isb : ∀ k, k < 8 → fR_is n 0 (i3 k) g (i3 u) o' = some (if kd (e + 1) b = k then 1 else 0) := fun k hk => hb.is hob hk
  have a6 := isa 6 (by omega)
  have a4 := isa 4 (by omega)
  have a3 := isa 3 (by omega)
  have b6 := isb 6 (by omega)
  have b4' := isb 4 (by omega)
  have b3' := isb 3 (by omega)
  unfold fA_times
  rw [show (6 : Int32) = i3 6 from rfl, show (4 : Int32) = i3 4 from rfl, show (3 : Int32) = i3 3 from rfl]
  simp only [a6, a4, a3, b6, b4', b3', Option.bind_some]
  by_cases h1 : kd (e + 1) a = 6 ∧ kd (e + 1) b = 6
  · rw [if_pos h1.1, if_neg (by decide), if_pos h1.2, if_neg (by decide)]
    rcases rk_same (show rk (e + 1) a = rk (e + 1) b by rw [rk_ok hoa, rk_ok hob, h1.1, h1.2]) with ⟨x, y, rfl, rfl, _⟩ | ⟨x, y, rfl, rfl⟩ | ⟨x, y, rfl, rfl⟩ | ⟨x, y, rfl, rfl⟩ | ⟨x, y, rfl, rfl⟩
    · rw [jok_k] at hoa; rw [kd_k] at h1; omega
    · rw [kd_n] at h1; omega
    · rw [kd_s] at h1; omega
    · rw [kd_a] at h1; omega
    · obtain ⟨r1, e1, w1⟩ := both_deep (o := o) (o' := o') (n := n) (by omega) e fu 0 0 0 x y r ha hoa hb hob hr hfu (by omega)
      have e2 : fA_putBoth fu n 0 0 1 0 f (i3 v) o g (i3 u) o' r.1 (i3 r.2.1) r.2.2 = some (r1.1, i3 r1.2.1, r1.2.2) := e1
      rw [e2]
      exact OK.val (j := jo (bw (selD e) x y)) rfl w1
  · by_cases h2 : kd (e + 1) a = 4 ∧ kd (e + 1) b = 3
    · obtain ⟨s, rfl⟩ := kds hoa h2.1
      obtain ⟨z, rfl⟩ := kdn hob h2.2
      rw [jok_n] at hob
      have en : fR_number n 0 g (i3 u) o' = some (cW z) := At.num (p := 0) hb hob.1 hob.2
      rw [kd_s, kd_n, if_pos (by decide), if_neg (by decide), if_neg (by decide), en, Option.bind_some]
      exact repeated_w (e := e) (by omega) hob.1 hob.2 ha hr
    · by_cases h3 : kd (e + 1) a = 3 ∧ kd (e + 1) b = 4
      · obtain ⟨s, rfl⟩ := kds hob h3.2
        obtain ⟨z, rfl⟩ := kdn hoa h3.1
        rw [jok_n] at hoa
        have en : fR_number n 0 f (i3 v) o = some (cW z) := At.num (p := 0) ha hoa.1 hoa.2
        rw [kd_s, kd_n, if_pos (by decide), if_pos (by decide), if_neg (by decide), if_neg (by decide), en, Option.bind_some]
        exact repeated_w (e := e) (by omega) hoa.1 hoa.2 hb hr
      · have hres : oTimes a b = .inl 1 := by
          unfold oTimes
          rcases jcases a with ⟨k, rfl⟩ | ⟨z, rfl⟩ | ⟨s, rfl⟩ | ⟨l, rfl⟩ | ⟨l, rfl⟩ <;> rcases jcases b with ⟨k', rfl⟩ | ⟨z', rfl⟩ | ⟨s', rfl⟩ | ⟨l', rfl⟩ | ⟨l', rfl⟩ <;> first | rfl | exact absurd ⟨rfl, rfl⟩ h1 | exact absurd ⟨rfl, rfl⟩ h2 | exact absurd ⟨rfl, rfl⟩ h3
        rw [hres]
        have fin : OK (d := e + 1) r (some ((1 : Int32), r.1, i3 r.2.1, r.2.2)) (.inl 1) := OK.refuse (k := 1) hr (by omega) (by omega)
        have c1 : ∀ P : Prop, [Decidable P] → ((if P then 1 else 0 : Int32) = 0) = ¬ P := fun P _ => by
          by_cases hP : P
          · rw [if_pos hP]; exact propext ⟨fun h => absurd h (by decide), fun h => absurd hP h⟩
          · rw [if_neg hP]; exact propext ⟨fun _ => hP, fun _ => rfl⟩
        simp only [c1]
        by_cases g6 : kd (e + 1) a = 6
        · have : ¬ kd (e + 1) b = 6 := fun h => h1 ⟨g6, h⟩
          have g4 : ¬ kd (e + 1) a = 4 := by omega
          have g3 : ¬ kd (e + 1) a = 3 := by omega
          simp only [g6, this, g4, g3, not_true, not_false_eq_true, if_true, if_false, if_neg, not_false]
          simpa using fin
        · by_cases g4 : kd (e + 1) a = 4
          · have g3 : ¬ kd (e + 1) a = 3 := by omega
            have : ¬ kd (e + 1) b = 3 := fun h => h2 ⟨g4, h⟩
            simpa [g6, g4, g3, this] using fin
          · by_cases g3 : kd (e + 1) a = 3
            · have : ¬ kd (e + 1) b = 4 := fun h => h3 ⟨g3, h⟩
              simpa [g6, g4, g3, this] using fin
            · simpa [g6, g4, g3] using fin
theorem chars_loop {s : Sx} (ha : At f v 0 (strc s)) {r1 : RS} : ∀ (s' : Sx) (n i : Nat) (w : List Int64) (r2 : RS), s.drop i = s' → i + s'.length = s.length → Wr r1 w r2 → s'.length < n →
    ∃ r' : RS, fA_putCharacters_b f (i3 v) o n 1 (i3 i) r2.1 (i3 r2.2.1) r2.2.2 = some (i3 s.length, r'.1, i3 r'.2.1, r'.2.2) ∧ Wr r1 (w ++ s'.flatMap (fun c => strc [c])) r' := by
  have hl := ha.le
  have hlen : ∀ n, fR_length n 0 f (i3 v) o = some (i3 s.length) := fun n => ha.slen
  intro s'
  induction s' with
  | nil =>
    intro n i w r2 _ hi hw hn
    obtain ⟨n, rfl⟩ : ∃ j, n = j + 1 := ⟨n - 1, by omega⟩
    rw [List.length_nil] at hi
    refine ⟨r2, ?_, by rw [List.flatMap_nil, List.append_nil]; exact hw⟩
    rw [fA_putCharacters_b, hlen, Option.bind_some, if_pos (by rw [i3_le (by omega) (by omega)]; omega), Option.bind_some]
  | cons c s' ih =>
    intro n i w r2 hd hi hw hn
    rw [List.length_cons] at hi hn
    obtain ⟨n, rfl⟩ : ∃ j, n = j + 1 := ⟨n - 1, by omega⟩
    obtain ⟨r3, e3, w3⟩ := putPart_w (n := n) (o' := o) hw.v ha (a := i) (b := i + 1) (by omega) (by omega)
    rw [hd, Nat.add_sub_cancel_left, List.take_succ_cons, List.take_zero] at w3
    obtain ⟨r4, e4, w4⟩ := ih n (i + 1) (w ++ strc [c]) r3 (by rw [← List.drop_drop, hd]; rfl) (by omega) (hw.app w3) (by omega)
    refine ⟨r4, ?_, by rw [List.flatMap_cons, ← List.append_assoc]; exact w4⟩
    have e5 : fR_putPart n 0 (i3 i) (i3 (i + 1)) r2.1 (i3 r2.2.1) r2.2.2 f (i3 v) o = some (r3.1, i3 r3.2.1, r3.2.2) := e3
    rw [fA_putCharacters_b, hlen, Option.bind_some, if_neg (by rw [i3_le (by omega) (by omega)]; omega), i3_one, e5, Option.bind_some]
    exact e4
theorem pieces_loop {s t : Sx} (ha : At f v 0 (strc s)) (hs : sok s) (hb : At g u 0 (strc t)) (ht : sok t) {r1 : RS} : ∀ (m n k b c : Nat) (w : List Int64) (r2 : RS), k + m = s.length → b ≤ s.length → Wr r1 w r2 → 4097 + m < n →
    ∃ r' : RS, fA_putPieces_b f (i3 v) o g (i3 u) o' n 1 (i3 k) (i3 b) (i3 c) r2.1 (i3 r2.2.1) r2.2.2 = some (i3 (c + (spl s t m k b).length - 1), r'.1, i3 r'.2.1, r'.2.2) ∧ Wr r1 (w ++ (spl s t m k b).flatMap strc) r' := by
  have hl := ha.le
  have hl2 := hb.le
  have hlen : ∀ n, fR_length n 0 f (i3 v) o = some (i3 s.length) := fun n => ha.slen
  have hlen2 : ∀ n, fR_length n 0 g (i3 u) o' = some (i3 t.length) := fun n => hb.slen
  intro m
  induction m with
  | zero =>
    intro n k b c w r2 hk hb2 hw hn
    obtain ⟨n, rfl⟩ : ∃ j, n = j + 1 := ⟨n - 1, by omega⟩
    obtain ⟨r3, e3, w3⟩ := putPart_w (n := n) (o' := o) hw.v ha (a := b) (b := s.length) hb2 (by omega)
    rw [List.take_of_length_le (by rw [List.length_drop]; omega)] at w3
    have e5 : fR_putPart n 0 (i3 b) (i3 s.length) r2.1 (i3 r2.2.1) r2.2.2 f (i3 v) o = some (r3.1, i3 r3.2.1, r3.2.2) := e3
    refine ⟨r3, ?_, ?_⟩
    · rw [fA_putPieces_b, hlen, Option.bind_some, if_pos (by rw [i3_le (by omega) (by omega)]; omega), Option.bind_some, e5]
      rfl
    · have := hw.app w3
      simpa [spl] using this
  | succ m ih =>
    intro n k b c w r2 hk hb2 hw hn
    obtain ⟨n, rfl⟩ : ∃ j, n = j + 1 := ⟨n - 1, by omega⟩
    rw [fA_putPieces_b, hlen, Option.bind_some, if_neg (by rw [i3_le (by omega) (by omega)]; omega), spl]
    have hp : fR_hasParta n 0 (i3 k) 0 f (i3 v) o g (i3 u) o' = some (if pf t (s.drop k) then 1 else 0) := At.hp (p := 0) (q := 0) (k := k) (by omega) ha hb hs ht (by omega)
    by_cases h1 : b ≤ k
    · rw [if_neg (by rw [i3_lt (by omega) (by omega)]; omega), hp, Option.bind_some]
      by_cases h2 : pf t (s.drop k) = true
      · have hpl := pf_len h2
        rw [List.length_drop] at hpl
        obtain ⟨r3, e3, w3⟩ := putPart_w (n := n) (o' := o) hw.v ha (a := b) (b := k) h1 (by omega)
        have e5 : fR_putPart n 0 (i3 b) (i3 k) r2.1 (i3 r2.2.1) r2.2.2 f (i3 v) o = some (r3.1, i3 r3.2.1, r3.2.2) := e3
        obtain ⟨r4, e4, w4⟩ := ih n (k + 1) (k + t.length) (c + 1) _ r3 (by omega) (by omega) (hw.app w3) (by omega)
        rw [if_pos h2, if_neg (by decide), e5, Option.bind_some, hlen2, Option.bind_some, if_pos ⟨h1, h2⟩, i3_one, i3_one, i3_add]
        refine ⟨r4, ?_, ?_⟩
        · dsimp only
          rw [e4, List.length_cons, show c + 1 + (spl s t m (k + 1) (k + t.length)).length - 1 = c + ((spl s t m (k + 1) (k + t.length)).length + 1) - 1 by omega]
        · rw [List.flatMap_cons, ← List.append_assoc]
          exact w4
      · rw [if_neg h2, if_pos (by decide), if_neg (fun h => h2 h.2), i3_one]
        exact ih n (k + 1) b c w r2 (by omega) hb2 hw (by omega)
    · rw [if_pos (by rw [i3_lt (by omega) (by omega)]; omega), if_neg (fun h => h1 h.1), i3_one]
      exact ih n (k + 1) b c w r2 (by omega) hb2 hw (by omega)
theorem spl_pos {s t : Sx} : ∀ (m k b : Nat), 1 ≤ (spl s t m k b).length := by
  intro m
  induction m with
  | zero => intro k b; exact Nat.le_refl 1
  | succ m ih =>
    intro k b
    rw [spl]
    split
    · rw [List.length_cons]; omega
    · exact ih _ _
theorem spl_len {s t : Sx} : ∀ (m k b : Nat), (spl s t m k b).length ≤ m + 1 := by
  intro m
  induction m with
  | zero => intro k b; exact Nat.le_refl 1
  | succ m ih =>
    intro k b
    rw [spl]
    split
    · have := ih (k + 1) (k + t.length)
      rw [List.length_cons]; omega
    · have := ih (k + 1) b
      omega
theorem pieces_w (hn : 40000 < n) {a b : JT (e + 2)} (ha : At f v 0 (jc (e + 2) a)) (hoa : jok (e + 2) a) (hb : At g u 0 (jc (e + 2) b)) (hob : jok (e + 2) b) (hr : RV r) : OK r (fA_pieces n f (i3 v) o g (i3 u) o' r.1 (i3 r.2.1) r.2.2) (oPieces a b) := by
  have isa : fR_is n 0 (i3 4) f (i3 v) o = some (if kd (e + 2) a = 4 then 1 else 0) := ha.is hoa (by omega)
  have isb : fR_is n 0 (i3 4) g (i3 u) o' = some (if kd (e + 2) b = 4 then 1 else 0) := hb.is hob (by omega)
  unfold fA_pieces
  rw [show (4 : Int32) = i3 4 from rfl, isa, Option.bind_some]
  by_cases h1 : kd (e + 2) a = 4
  · rw [if_pos h1, if_neg (by decide), isb, Option.bind_some]
    by_cases h2 : kd (e + 2) b = 4
    · rw [if_pos h2, if_neg (by decide)]
      rcases rk_same (show rk (e + 2) a = rk (e + 2) b by rw [rk_ok hoa, rk_ok hob, h1, h2]) with ⟨x, y, rfl, rfl, _⟩ | ⟨x, y, rfl, rfl⟩ | ⟨x, y, rfl, rfl⟩ | ⟨x, y, rfl, rfl⟩ | ⟨x, y, rfl, rfl⟩
      · rw [jok_k] at hoa; rw [kd_k] at h1; omega
      · rw [kd_n] at h1; omega
      · have ha' : At f v 0 (strc x) := ha
        have hb' : At g u 0 (strc y) := hb
        have hl := ha'.le
        have hl2 := hb'.le
        have hlen : fR_length n 0 f (i3 v) o = some (i3 x.length) := ha'.slen
        have hlen2 : fR_length n 0 g (i3 u) o' = some (i3 y.length) := hb'.slen
        obtain ⟨r1, e1, w1⟩ := open_w (n := n) hr
        have fm : ∀ l : List Sx, (l.map (fun x => (js x : JT (e + 1)))).flatMap (jc (e + 1)) = l.flatMap strc := fun l => by
          rw [List.flatMap_map]
          rfl
        have fin : ∀ (l : List Sx) (r2 : RS), l.length < 65536 → Wr r1 (l.flatMap strc) r2 → OK r ((fR_close n (i3 r1.2.1 - 1) 5 (i3 l.length) r2.1 (i3 r2.2.1) r2.2.2).bind fun o16 => some ((0 : Int32), o16, i3 r2.2.1, r2.2.2)) (.inr (ja (l.map (fun x => (js x : JT (e + 1)))))) := fun l r2 hll w2 => by
          obtain ⟨f3, e3, w3⟩ := close_w (n := n) (k := 5) (len := l.length) w1 w2 (by omega) (fun _ => hll)
          rw [show (5 : Int32) = i3 5 from rfl, e3]
          refine OK.val (r' := (f3, r2.2.1, r2.2.2)) rfl ?_
          rw [jc_a, List.length_map, fm]
          exact w3
        rw [e1, Option.bind_some, hlen2, Option.bind_some]
        have hres : oPieces (js x : JT (e + 2)) (js y) = .inr (ja ((pcs x y).map (fun x => (js x : JT (e + 1))))) := rfl
        rw [hres]
        by_cases hy : y = []
        · subst hy
          obtain ⟨r2, e2, w2⟩ := chars_loop (o := o) (r1 := r1) ha' x n 0 [] r1 rfl (by omega) (Wr.nil w1.v) (by omega)
          have e3 : fA_putCharacters n f (i3 v) o r1.1 (i3 r1.2.1) r1.2.2 = some (i3 x.length, r2.1, i3 r2.2.1, r2.2.2) := e2
          rw [if_pos (by rfl)]
          dsimp only
          rw [e3, Option.bind_some]
          have hp : pcs x [] = x.map (fun c => [c]) := if_pos rfl
          rw [hp]
          have := fin (x.map (fun c => [c])) r2 (by rw [List.length_map]; omega) (by rw [List.flatMap_map]; exact w2)
          rw [List.length_map] at this
          exact this
        · have hyl : y.length ≠ 0 := fun h => hy (List.length_eq_zero_iff.mp h)
          rw [if_neg (by rw [show (0 : Int32) = i3 0 from rfl, i3_eq (by omega) (by omega)]; exact hyl)]
          unfold fA_putPieces
          dsimp only
          rw [hlen, Option.bind_some]
          by_cases hx : x = []
          · subst hx
            rw [if_pos (by rfl), Option.bind_some]
            have hp : pcs [] y = [] := by unfold pcs; rw [if_neg hy, if_pos rfl]
            rw [hp]
            exact fin [] r1 (by simp) (Wr.nil w1.v)
          · have hxl : x.length ≠ 0 := fun h => hx (List.length_eq_zero_iff.mp h)
            obtain ⟨r2, e2, w2⟩ := pieces_loop (o := o) (o' := o') (r1 := r1) ha' hoa hb' hob x.length n 0 0 1 [] r1 (by omega) (by omega) (Wr.nil w1.v) (by omega)
            have e3 : fA_putPieces_b f (i3 v) o g (i3 u) o' n 1 0 0 1 r1.1 (i3 r1.2.1) r1.2.2 = some (i3 (1 + (spl x y x.length 0 0).length - 1), r2.1, i3 r2.2.1, r2.2.2) := e2
            rw [if_neg (by rw [show (0 : Int32) = i3 0 from rfl, i3_eq (by omega) (by omega)]; exact hxl), e3, Option.bind_some]
            have hp : pcs x y = spl x y x.length 0 0 := by unfold pcs; rw [if_neg hy, if_neg hx]
            rw [hp, Nat.add_sub_cancel_left]
            have := spl_len (s := x) (t := y) x.length 0 0
            exact fin _ r2 (by omega) w2
      · rw [kd_a] at h1; omega
      · rw [kd_o] at h1; omega
    · rw [if_neg h2, if_pos (by decide)]
      have : oPieces a b = .inl 1 := by
        unfold oPieces
        rcases jcases a with ⟨k, rfl⟩ | ⟨z, rfl⟩ | ⟨s, rfl⟩ | ⟨l, rfl⟩ | ⟨l, rfl⟩ <;> rcases jcases b with ⟨k', rfl⟩ | ⟨z', rfl⟩ | ⟨s', rfl⟩ | ⟨l', rfl⟩ | ⟨l', rfl⟩ <;> first | rfl | exact absurd rfl h2
      rw [this]
      exact OK.refuse (k := 1) hr (by omega) (by omega)
  · rw [if_neg h1, if_pos (by decide)]
    have : oPieces a b = .inl 1 := by
      unfold oPieces
      rcases jcases a with ⟨k, rfl⟩ | ⟨z, rfl⟩ | ⟨s, rfl⟩ | ⟨l, rfl⟩ | ⟨l, rfl⟩ <;> first | rfl | exact absurd rfl h1
    rw [this]
    exact OK.refuse (k := 1) hr (by omega) (by omega)
end OPE
end ZOpe24
section ZAl25
theorem al_A_putOneBehindOther {f : Nat → Int64} {v o : Int32} {n : Nat} {w1 : Nat → Int64} {x1 : Int32} {y1 : Int32} : fA_putOneBehindOthera n  f v o w1 x1 y1 = fA_putOneBehindOther n  f v o f v o w1 x1 y1 := by
  simp only [fA_putOneBehindOthera, fA_putOneBehindOther, al_oos, al_vo, al_hp, al_of, al_same]
theorem al_A_putNewNames_b {f : Nat → Int64} {v o : Int32} : ∀ (n lb : Nat) (z0 : Int32) (z1 : Int32) (z2 : Int32) (z3 : Int32) (z4 : Int32) (z5 : (Nat → Int64)) (z6 : Int32) (z7 : Int32), fA_putNewNamesa_b f v o n lb z0 z1 z2 z3 z4 z5 z6 z7 = fA_putNewNames_b f v o f v o n lb z0 z1 z2 z3 z4 z5 z6 z7 := by
  intro n
  induction n with
  | zero => intros; rfl
  | succ n ih => intros; simp only [fA_putNewNamesa_b, fA_putNewNames_b, ih, al_oos, al_vo, al_hp, al_of, al_same, al_A_putOneBehindOther]
theorem al_A_putNewNames {f : Nat → Int64} {v o : Int32} {n : Nat} {x0 : Int32} {x1 : Int32} {w1 : Nat → Int64} {x2 : Int32} {y2 : Int32} : fA_putNewNamesa n x0 x1 f v o w1 x2 y2 = fA_putNewNames n x0 x1 f v o f v o w1 x2 y2 := by
  simp only [fA_putNewNamesa, fA_putNewNames, al_oos, al_vo, al_hp, al_of, al_same, al_A_putOneBehindOther, al_A_putNewNames_b]
theorem al_A_putBoth_b {f : Nat → Int64} {v o : Int32} {r1 : Int32 → Int32 → Int32 → Int32 → (Nat → Int64) → Int32 → Int32 → (Nat → Int64) → Int32 → Int32 → Option ((Nat → Int64) × Int32 × Int32)} {r2 : Int32 → Int32 → Int32 → Int32 → (Nat → Int64) → Int32 → Int32 → (Nat → Int64) → Int32 → Int32 → (Nat → Int64) → Int32 → Int32 → Option ((Nat → Int64) × Int32 × Int32)} (hr : ∀ a b c e w x y, r1 a b c e f v o w x y = r2 a b c e f v o f v o w x y) : ∀ (n lb : Nat) (z0 : Int32) (z1 : Int32) (z2 : Int32) (z3 : Int32) (z4 : Int32) (z5 : Int32) (z6 : Int32) (z7 : (Nat → Int64)) (z8 : Int32) (z9 : Int32), fA_putBotha_b r1 f v o n lb z0 z1 z2 z3 z4 z5 z6 z7 z8 z9 = fA_putBoth_b r2 f v o f v o n lb z0 z1 z2 z3 z4 z5 z6 z7 z8 z9 := by
  intro n
  induction n with
  | zero => intros; rfl
  | succ n ih => intros; simp only [fA_putBotha_b, fA_putBoth_b, ih, hr, al_oos, al_vo, al_hp, al_of, al_same, al_A_putOneBehindOther, al_A_putNewNames_b, al_A_putNewNames]
theorem al_A_putBoth {f : Nat → Int64} {v o : Int32} {n : Nat} : ∀ (d : Nat) (a b c e : Int32) (w : Nat → Int64) (x y : Int32), fA_putBotha d n a b c e f v o w x y = fA_putBoth d n a b c e f v o f v o w x y := by
  intro d
  induction d with
  | zero => intros; rfl
  | succ d ih => intros; simp only [fA_putBotha, fA_putBoth, al_A_putBoth_b (r2 := fA_putBoth d n) ih]
theorem al_A_plus {f : Nat → Int64} {v o : Int32} {d n : Nat} {w1 : Nat → Int64} {x1 : Int32} {y1 : Int32} : fA_plusa d n  f v o w1 x1 y1 = fA_plus d n  f v o f v o w1 x1 y1 := by
  simp only [fA_plusa, fA_plus, al_oos, al_vo, al_hp, al_of, al_same, al_A_putOneBehindOther, al_A_putNewNames_b, al_A_putNewNames, al_A_putBoth]
theorem al_A_hasElement_b {f : Nat → Int64} {v o : Int32} {d : Nat} : ∀ (n lb : Nat) (z0 : Int32) (z1 : Int32) (z2 : Int32), fA_hasElementa_b d f v o n lb z0 z1 z2 = fA_hasElement_b d f v o f v o n lb z0 z1 z2 := by
  intro n
  induction n with
  | zero => intros; rfl
  | succ n ih => intros; simp only [fA_hasElementa_b, fA_hasElement_b, ih, al_oos, al_vo, al_hp, al_of, al_same, al_A_putOneBehindOther, al_A_putNewNames_b, al_A_putNewNames, al_A_putBoth, al_A_plus]
theorem al_A_hasElement {f : Nat → Int64} {v o : Int32} {d n : Nat} {x0 : Int32} : fA_hasElementa d n x0 f v o  = fA_hasElement d n x0 f v o f v o  := by
  simp only [fA_hasElementa, fA_hasElement, al_oos, al_vo, al_hp, al_of, al_same, al_A_putOneBehindOther, al_A_putNewNames_b, al_A_putNewNames, al_A_putBoth, al_A_plus, al_A_hasElement_b]
theorem al_A_minus_b {f : Nat → Int64} {v o : Int32} {d : Nat} : ∀ (n lb : Nat) (z0 : Int32) (z1 : Int32) (z2 : Int32) (z3 : Int32) (z4 : (Nat → Int64)) (z5 : Int32) (z6 : Int32), fA_minusa_b d f v o n lb z0 z1 z2 z3 z4 z5 z6 = fA_minus_b d f v o f v o n lb z0 z1 z2 z3 z4 z5 z6 := by
  intro n
  induction n with
  | zero => intros; rfl
  | succ n ih => intros; simp only [fA_minusa_b, fA_minus_b, ih, al_oos, al_vo, al_hp, al_of, al_same, al_A_putOneBehindOther, al_A_putNewNames_b, al_A_putNewNames, al_A_putBoth, al_A_plus, al_A_hasElement_b, al_A_hasElement]
theorem al_A_minus {f : Nat → Int64} {v o : Int32} {d n : Nat} {w1 : Nat → Int64} {x1 : Int32} {y1 : Int32} : fA_minusa d n  f v o w1 x1 y1 = fA_minus d n  f v o f v o w1 x1 y1 := by
  simp only [fA_minusa, fA_minus, al_oos, al_vo, al_hp, al_of, al_same, al_A_putOneBehindOther, al_A_putNewNames_b, al_A_putNewNames, al_A_putBoth, al_A_plus, al_A_hasElement_b, al_A_hasElement, al_A_minus_b]
theorem al_A_times {f : Nat → Int64} {v o : Int32} {d n : Nat} {w1 : Nat → Int64} {x1 : Int32} {y1 : Int32} : fA_timesa d n  f v o w1 x1 y1 = fA_times d n  f v o f v o w1 x1 y1 := by
  simp only [fA_timesa, fA_times, al_oos, al_vo, al_hp, al_of, al_same, al_A_putOneBehindOther, al_A_putNewNames_b, al_A_putNewNames, al_A_putBoth, al_A_plus, al_A_hasElement_b, al_A_hasElement, al_A_minus_b, al_A_minus]
theorem al_A_putPieces_b {f : Nat → Int64} {v o : Int32} : ∀ (n lb : Nat) (z0 : Int32) (z1 : Int32) (z2 : Int32) (z3 : (Nat → Int64)) (z4 : Int32) (z5 : Int32), fA_putPiecesa_b f v o n lb z0 z1 z2 z3 z4 z5 = fA_putPieces_b f v o f v o n lb z0 z1 z2 z3 z4 z5 := by
  intro n
  induction n with
  | zero => intros; rfl
  | succ n ih => intros; simp only [fA_putPiecesa_b, fA_putPieces_b, ih, al_oos, al_vo, al_hp, al_of, al_same, al_A_putOneBehindOther, al_A_putNewNames_b, al_A_putNewNames, al_A_putBoth, al_A_plus, al_A_hasElement_b, al_A_hasElement, al_A_minus_b, al_A_minus, al_A_times]
theorem al_A_putPieces {f : Nat → Int64} {v o : Int32} {n : Nat} {w1 : Nat → Int64} {x1 : Int32} {y1 : Int32} : fA_putPiecesa n  f v o w1 x1 y1 = fA_putPieces n  f v o f v o w1 x1 y1 := by
  simp only [fA_putPiecesa, fA_putPieces, al_oos, al_vo, al_hp, al_of, al_same, al_A_putOneBehindOther, al_A_putNewNames_b, al_A_putNewNames, al_A_putBoth, al_A_plus, al_A_hasElement_b, al_A_hasElement, al_A_minus_b, al_A_minus, al_A_times, al_A_putPieces_b]
theorem al_A_pieces {f : Nat → Int64} {v o : Int32} {n : Nat} {w1 : Nat → Int64} {x1 : Int32} {y1 : Int32} : fA_piecesa n  f v o w1 x1 y1 = fA_pieces n  f v o f v o w1 x1 y1 := by
  simp only [fA_piecesa, fA_pieces, al_oos, al_vo, al_hp, al_of, al_same, al_A_putOneBehindOther, al_A_putNewNames_b, al_A_putNewNames, al_A_putBoth, al_A_plus, al_A_hasElement_b, al_A_hasElement, al_A_minus_b, al_A_minus, al_A_times, al_A_putPieces_b, al_A_putPieces]
theorem al_A_apply {f : Nat → Int64} {v o : Int32} {d n : Nat} {x0 : Int32} {w1 : Nat → Int64} {x1 : Int32} {y1 : Int32} : fA_applya d n x0 f v o w1 x1 y1 = fA_apply d n x0 f v o f v o w1 x1 y1 := by
  simp only [fA_applya, fA_apply, al_oos, al_vo, al_hp, al_of, al_same, al_A_putOneBehindOther, al_A_putNewNames_b, al_A_putNewNames, al_A_putBoth, al_A_plus, al_A_hasElement_b, al_A_hasElement, al_A_minus_b, al_A_minus, al_A_times, al_A_putPieces_b, al_A_putPieces, al_A_pieces]
theorem al_H_has {f : Nat → Int64} {v o : Int32} {n : Nat} {w1 : Nat → Int64} {x1 : Int32} {y1 : Int32} : fH_hasa n  f v o w1 x1 y1 = fH_has n  f v o f v o w1 x1 y1 := by
  simp only [fH_hasa, fH_has, al_oos, al_vo, al_hp, al_of, al_same, al_A_putOneBehindOther, al_A_putNewNames_b, al_A_putNewNames, al_A_putBoth, al_A_plus, al_A_hasElement_b, al_A_hasElement, al_A_minus_b, al_A_minus, al_A_times, al_A_putPieces_b, al_A_putPieces, al_A_pieces, al_A_apply]
theorem al_H_areOfOneKind {f : Nat → Int64} {v o : Int32} {n : Nat} {x0 : Int32} {x1 : Int32} : fH_areOfOneKinda n x0 x1 f v o  = fH_areOfOneKind n x0 x1 f v o f v o  := by
  simp only [fH_areOfOneKinda, fH_areOfOneKind, al_oos, al_vo, al_hp, al_of, al_same, al_A_putOneBehindOther, al_A_putNewNames_b, al_A_putNewNames, al_A_putBoth, al_A_plus, al_A_hasElement_b, al_A_hasElement, al_A_minus_b, al_A_minus, al_A_times, al_A_putPieces_b, al_A_putPieces, al_A_pieces, al_A_apply, al_H_has]
theorem al_H_isPart_b {f : Nat → Int64} {v o : Int32} : ∀ (n lb : Nat) (z0 : Int32) (z1 : Int32) (z2 : Int32), fH_isParta_b f v o n lb z0 z1 z2 = fH_isPart_b f v o f v o n lb z0 z1 z2 := by
  intro n
  induction n with
  | zero => intros; rfl
  | succ n ih => intros; simp only [fH_isParta_b, fH_isPart_b, ih, al_oos, al_vo, al_hp, al_of, al_same, al_A_putOneBehindOther, al_A_putNewNames_b, al_A_putNewNames, al_A_putBoth, al_A_plus, al_A_hasElement_b, al_A_hasElement, al_A_minus_b, al_A_minus, al_A_times, al_A_putPieces_b, al_A_putPieces, al_A_pieces, al_A_apply, al_H_has, al_H_areOfOneKind]
theorem al_H_isPart {f : Nat → Int64} {v o : Int32} {n : Nat} {x0 : Int32} {x1 : Int32} : fH_isParta n x0 x1 f v o  = fH_isPart n x0 x1 f v o f v o  := by
  simp only [fH_isParta, fH_isPart, al_oos, al_vo, al_hp, al_of, al_same, al_A_putOneBehindOther, al_A_putNewNames_b, al_A_putNewNames, al_A_putBoth, al_A_plus, al_A_hasElement_b, al_A_hasElement, al_A_minus_b, al_A_minus, al_A_times, al_A_putPieces_b, al_A_putPieces, al_A_pieces, al_A_apply, al_H_has, al_H_areOfOneKind, al_H_isPart_b]
theorem al_H_isInSome_b {f : Nat → Int64} {v o : Int32} {r1 : Int32 → Int32 → Int32 → (Nat → Int64) → Int32 → Int32 → Option Int32} {r2 : Int32 → Int32 → Int32 → (Nat → Int64) → Int32 → Int32 → (Nat → Int64) → Int32 → Int32 → Option Int32} (hr : ∀ a b c, r1 a b c f v o = r2 a b c f v o f v o) : ∀ (n lb : Nat) (z0 : Int32) (z1 : Int32) (z2 : Int32) (z3 : Int32) (z4 : Int32), fH_isInSomea_b r1 f v o n lb z0 z1 z2 z3 z4 = fH_isInSome_b r2 f v o f v o n lb z0 z1 z2 z3 z4 := by
  intro n
  induction n with
  | zero => intros; rfl
  | succ n ih => intros; simp only [fH_isInSomea_b, fH_isInSome_b, ih, hr, al_oos, al_vo, al_hp, al_of, al_same, al_A_putOneBehindOther, al_A_putNewNames_b, al_A_putNewNames, al_A_putBoth, al_A_plus, al_A_hasElement_b, al_A_hasElement, al_A_minus_b, al_A_minus, al_A_times, al_A_putPieces_b, al_A_putPieces, al_A_pieces, al_A_apply, al_H_has, al_H_areOfOneKind, al_H_isPart_b, al_H_isPart]
theorem al_H_isInSome {f : Nat → Int64} {v o : Int32} {r1 : Int32 → Int32 → Int32 → (Nat → Int64) → Int32 → Int32 → Option Int32} {r2 : Int32 → Int32 → Int32 → (Nat → Int64) → Int32 → Int32 → (Nat → Int64) → Int32 → Int32 → Option Int32} (hr : ∀ a b c, r1 a b c f v o = r2 a b c f v o f v o) {n : Nat} {x0 x1 x2 : Int32} : fH_isInSomea r1 n x0 x1 x2 f v o = fH_isInSome r2 n x0 x1 x2 f v o f v o := by
  simp only [fH_isInSomea, fH_isInSome, al_H_isInSome_b hr]
theorem al_H_areElementsIn_b {f : Nat → Int64} {v o : Int32} {r1 : Int32 → Int32 → Int32 → (Nat → Int64) → Int32 → Int32 → Option Int32} {r2 : Int32 → Int32 → Int32 → (Nat → Int64) → Int32 → Int32 → (Nat → Int64) → Int32 → Int32 → Option Int32} (hr : ∀ a b c, r1 a b c f v o = r2 a b c f v o f v o) : ∀ (n lb : Nat) (z0 : Int32) (z1 : Int32) (z2 : Int32) (z3 : Int32) (z4 : Int32), fH_areElementsIna_b r1 f v o n lb z0 z1 z2 z3 z4 = fH_areElementsIn_b r2 f v o f v o n lb z0 z1 z2 z3 z4 := by
  intro n
  induction n with
  | zero => intros; rfl
  | succ n ih => intros; simp only [fH_areElementsIna_b, fH_areElementsIn_b, ih, al_H_isInSome hr, al_oos, al_vo, al_hp, al_of, al_same, al_A_putOneBehindOther, al_A_putNewNames_b, al_A_putNewNames, al_A_putBoth, al_A_plus, al_A_hasElement_b, al_A_hasElement, al_A_minus_b, al_A_minus, al_A_times, al_A_putPieces_b, al_A_putPieces, al_A_pieces, al_A_apply, al_H_has, al_H_areOfOneKind, al_H_isPart_b, al_H_isPart]
theorem al_H_areElementsIn {f : Nat → Int64} {v o : Int32} {r1 : Int32 → Int32 → Int32 → (Nat → Int64) → Int32 → Int32 → Option Int32} {r2 : Int32 → Int32 → Int32 → (Nat → Int64) → Int32 → Int32 → (Nat → Int64) → Int32 → Int32 → Option Int32} (hr : ∀ a b c, r1 a b c f v o = r2 a b c f v o f v o) {n : Nat} {x0 x1 x2 : Int32} : fH_areElementsIna r1 n x0 x1 x2 f v o = fH_areElementsIn r2 n x0 x1 x2 f v o f v o := by
  simp only [fH_areElementsIna, fH_areElementsIn, al_H_areElementsIn_b hr]
theorem al_H_areNamesIn_b {f : Nat → Int64} {v o : Int32} {r1 : Int32 → Int32 → Int32 → (Nat → Int64) → Int32 → Int32 → Option Int32} {r2 : Int32 → Int32 → Int32 → (Nat → Int64) → Int32 → Int32 → (Nat → Int64) → Int32 → Int32 → Option Int32} (hr : ∀ a b c, r1 a b c f v o = r2 a b c f v o f v o) : ∀ (n lb : Nat) (z0 : Int32) (z1 : Int32) (z2 : Int32) (z3 : Int32) (z4 : Int32), fH_areNamesIna_b r1 f v o n lb z0 z1 z2 z3 z4 = fH_areNamesIn_b r2 f v o f v o n lb z0 z1 z2 z3 z4 := by
  intro n
  induction n with
  | zero => intros; rfl
  | succ n ih => intros; simp only [fH_areNamesIna_b, fH_areNamesIn_b, ih, hr, al_oos, al_vo, al_hp, al_of, al_same, al_A_putOneBehindOther, al_A_putNewNames_b, al_A_putNewNames, al_A_putBoth, al_A_plus, al_A_hasElement_b, al_A_hasElement, al_A_minus_b, al_A_minus, al_A_times, al_A_putPieces_b, al_A_putPieces, al_A_pieces, al_A_apply, al_H_has, al_H_areOfOneKind, al_H_isPart_b, al_H_isPart]
theorem al_H_areNamesIn {f : Nat → Int64} {v o : Int32} {r1 : Int32 → Int32 → Int32 → (Nat → Int64) → Int32 → Int32 → Option Int32} {r2 : Int32 → Int32 → Int32 → (Nat → Int64) → Int32 → Int32 → (Nat → Int64) → Int32 → Int32 → Option Int32} (hr : ∀ a b c, r1 a b c f v o = r2 a b c f v o f v o) {n : Nat} {x0 x1 x2 : Int32} : fH_areNamesIna r1 n x0 x1 x2 f v o = fH_areNamesIn r2 n x0 x1 x2 f v o f v o := by
  simp only [fH_areNamesIna, fH_areNamesIn, al_H_areNamesIn_b hr]
theorem al_H_isIn {f : Nat → Int64} {v o : Int32} {n : Nat} : ∀ (d : Nat) (a b c : Int32), fH_isIna d n a b c f v o = fH_isIn d n a b c f v o f v o := by
  intro d
  induction d with
  | zero => intros; rfl
  | succ d ih => intros; simp only [fH_isIna, fH_isIn, al_H_areElementsIn (r2 := fH_isIn d n) ih, al_H_areNamesIn (r2 := fH_isIn d n) ih, al_oos, al_vo, al_hp, al_of, al_same, al_A_putOneBehindOther, al_A_putNewNames_b, al_A_putNewNames, al_A_putBoth, al_A_plus, al_A_hasElement_b, al_A_hasElement, al_A_minus_b, al_A_minus, al_A_times, al_A_putPieces_b, al_A_putPieces, al_A_pieces, al_A_apply, al_H_has, al_H_areOfOneKind, al_H_isPart_b, al_H_isPart]
theorem al_H_contains {f : Nat → Int64} {v o : Int32} {d n : Nat} {w1 : Nat → Int64} {x1 : Int32} {y1 : Int32} : fH_containsa d n  f v o w1 x1 y1 = fH_contains d n  f v o f v o w1 x1 y1 := by
  simp only [fH_containsa, fH_contains, al_oos, al_vo, al_hp, al_of, al_same, al_A_putOneBehindOther, al_A_putNewNames_b, al_A_putNewNames, al_A_putBoth, al_A_plus, al_A_hasElement_b, al_A_hasElement, al_A_minus_b, al_A_minus, al_A_times, al_A_putPieces_b, al_A_putPieces, al_A_pieces, al_A_apply, al_H_has, al_H_areOfOneKind, al_H_isPart_b, al_H_isPart, al_H_isIn]
theorem al_H_joined_b {f : Nat → Int64} {v o : Int32} {d : Nat} : ∀ (n lb : Nat) (z0 : Int32) (z1 : Int32) (z2 : (Nat → Int32)) (z3 : Int32) (z4 : Int32) (z5 : (Nat → Int64)) (z6 : Int32) (z7 : Int32), fH_joineda_b d f v o n lb z0 z1 z2 z3 z4 z5 z6 z7 = fH_joined_b d f v o f v o n lb z0 z1 z2 z3 z4 z5 z6 z7 := by
  intro n
  induction n with
  | zero => intros; rfl
  | succ n ih => intros; simp only [fH_joineda_b, fH_joined_b, ih, al_oos, al_vo, al_hp, al_of, al_same, al_A_putOneBehindOther, al_A_putNewNames_b, al_A_putNewNames, al_A_putBoth, al_A_plus, al_A_hasElement_b, al_A_hasElement, al_A_minus_b, al_A_minus, al_A_times, al_A_putPieces_b, al_A_putPieces, al_A_pieces, al_A_apply, al_H_has, al_H_areOfOneKind, al_H_isPart_b, al_H_isPart, al_H_isIn, al_H_contains]
theorem al_H_joined {f : Nat → Int64} {v o : Int32} {d n : Nat} {t1 : Nat → Int32} {x1 : Int32} {y1 : Int32} {w1 : Nat → Int64} {x2 : Int32} {y2 : Int32} : fH_joineda d n  f v o t1 x1 y1 w1 x2 y2 = fH_joined d n  f v o f v o t1 x1 y1 w1 x2 y2 := by
  simp only [fH_joineda, fH_joined, al_oos, al_vo, al_hp, al_of, al_same, al_A_putOneBehindOther, al_A_putNewNames_b, al_A_putNewNames, al_A_putBoth, al_A_plus, al_A_hasElement_b, al_A_hasElement, al_A_minus_b, al_A_minus, al_A_times, al_A_putPieces_b, al_A_putPieces, al_A_pieces, al_A_apply, al_H_has, al_H_areOfOneKind, al_H_isPart_b, al_H_isPart, al_H_isIn, al_H_contains, al_H_joined_b]
theorem al_H_areStrings {f : Nat → Int64} {v o : Int32} {n : Nat}  : fH_areStringsa n  f v o  = fH_areStrings n  f v o f v o  := by
  simp only [fH_areStringsa, fH_areStrings, al_oos, al_vo, al_hp, al_of, al_same, al_A_putOneBehindOther, al_A_putNewNames_b, al_A_putNewNames, al_A_putBoth, al_A_plus, al_A_hasElement_b, al_A_hasElement, al_A_minus_b, al_A_minus, al_A_times, al_A_putPieces_b, al_A_putPieces, al_A_pieces, al_A_apply, al_H_has, al_H_areOfOneKind, al_H_isPart_b, al_H_isPart, al_H_isIn, al_H_contains, al_H_joined_b, al_H_joined]
theorem al_H_begins {f : Nat → Int64} {v o : Int32} {n : Nat}  : fH_beginsa n  f v o  = fH_begins n  f v o f v o  := by
  simp only [fH_beginsa, fH_begins, al_oos, al_vo, al_hp, al_of, al_same, al_A_putOneBehindOther, al_A_putNewNames_b, al_A_putNewNames, al_A_putBoth, al_A_plus, al_A_hasElement_b, al_A_hasElement, al_A_minus_b, al_A_minus, al_A_times, al_A_putPieces_b, al_A_putPieces, al_A_pieces, al_A_apply, al_H_has, al_H_areOfOneKind, al_H_isPart_b, al_H_isPart, al_H_isIn, al_H_contains, al_H_joined_b, al_H_joined, al_H_areStrings]
theorem al_H_withoutBeginning {f : Nat → Int64} {v o : Int32} {n : Nat} {w1 : Nat → Int64} {x1 : Int32} {y1 : Int32} : fH_withoutBeginninga n  f v o w1 x1 y1 = fH_withoutBeginning n  f v o f v o w1 x1 y1 := by
  simp only [fH_withoutBeginninga, fH_withoutBeginning, al_oos, al_vo, al_hp, al_of, al_same, al_A_putOneBehindOther, al_A_putNewNames_b, al_A_putNewNames, al_A_putBoth, al_A_plus, al_A_hasElement_b, al_A_hasElement, al_A_minus_b, al_A_minus, al_A_times, al_A_putPieces_b, al_A_putPieces, al_A_pieces, al_A_apply, al_H_has, al_H_areOfOneKind, al_H_isPart_b, al_H_isPart, al_H_isIn, al_H_contains, al_H_joined_b, al_H_joined, al_H_areStrings, al_H_begins]
theorem al_H_ends {f : Nat → Int64} {v o : Int32} {n : Nat}  : fH_endsa n  f v o  = fH_ends n  f v o f v o  := by
  simp only [fH_endsa, fH_ends, al_oos, al_vo, al_hp, al_of, al_same, al_A_putOneBehindOther, al_A_putNewNames_b, al_A_putNewNames, al_A_putBoth, al_A_plus, al_A_hasElement_b, al_A_hasElement, al_A_minus_b, al_A_minus, al_A_times, al_A_putPieces_b, al_A_putPieces, al_A_pieces, al_A_apply, al_H_has, al_H_areOfOneKind, al_H_isPart_b, al_H_isPart, al_H_isIn, al_H_contains, al_H_joined_b, al_H_joined, al_H_areStrings, al_H_begins, al_H_withoutBeginning]
theorem al_H_withoutEnd {f : Nat → Int64} {v o : Int32} {n : Nat} {w1 : Nat → Int64} {x1 : Int32} {y1 : Int32} : fH_withoutEnda n  f v o w1 x1 y1 = fH_withoutEnd n  f v o f v o w1 x1 y1 := by
  simp only [fH_withoutEnda, fH_withoutEnd, al_oos, al_vo, al_hp, al_of, al_same, al_A_putOneBehindOther, al_A_putNewNames_b, al_A_putNewNames, al_A_putBoth, al_A_plus, al_A_hasElement_b, al_A_hasElement, al_A_minus_b, al_A_minus, al_A_times, al_A_putPieces_b, al_A_putPieces, al_A_pieces, al_A_apply, al_H_has, al_H_areOfOneKind, al_H_isPart_b, al_H_isPart, al_H_isIn, al_H_contains, al_H_joined_b, al_H_joined, al_H_areStrings, al_H_begins, al_H_withoutBeginning, al_H_ends]
theorem al_H_areSame_b {f : Nat → Int64} {v o : Int32} {d : Nat} : ∀ (n lb : Nat) (z0 : Int32) (z1 : Int32) (z2 : Int32) (z3 : Int32) (z4 : Int32) (z5 : Int32), fH_areSamea_b d f v o n lb z0 z1 z2 z3 z4 z5 = fH_areSame_b d f v o f v o n lb z0 z1 z2 z3 z4 z5 := by
  intro n
  induction n with
  | zero => intros; rfl
  | succ n ih => intros; simp only [fH_areSamea_b, fH_areSame_b, ih, al_oos, al_vo, al_hp, al_of, al_same, al_A_putOneBehindOther, al_A_putNewNames_b, al_A_putNewNames, al_A_putBoth, al_A_plus, al_A_hasElement_b, al_A_hasElement, al_A_minus_b, al_A_minus, al_A_times, al_A_putPieces_b, al_A_putPieces, al_A_pieces, al_A_apply, al_H_has, al_H_areOfOneKind, al_H_isPart_b, al_H_isPart, al_H_isIn, al_H_contains, al_H_joined_b, al_H_joined, al_H_areStrings, al_H_begins, al_H_withoutBeginning, al_H_ends, al_H_withoutEnd]
theorem al_H_areSame {f : Nat → Int64} {v o : Int32} {d n : Nat} {x0 : Int32} {x1 : Int32} {x2 : Int32} : fH_areSamea d n x0 x1 x2 f v o  = fH_areSame d n x0 x1 x2 f v o f v o  := by
  simp only [fH_areSamea, fH_areSame, al_oos, al_vo, al_hp, al_of, al_same, al_A_putOneBehindOther, al_A_putNewNames_b, al_A_putNewNames, al_A_putBoth, al_A_plus, al_A_hasElement_b, al_A_hasElement, al_A_minus_b, al_A_minus, al_A_times, al_A_putPieces_b, al_A_putPieces, al_A_pieces, al_A_apply, al_H_has, al_H_areOfOneKind, al_H_isPart_b, al_H_isPart, al_H_isIn, al_H_contains, al_H_joined_b, al_H_joined, al_H_areStrings, al_H_begins, al_H_withoutBeginning, al_H_ends, al_H_withoutEnd, al_H_areSame_b]
theorem al_H_putArrayIndices_b {f : Nat → Int64} {v o : Int32} {d : Nat} : ∀ (n lb : Nat) (z0 : Int32) (z1 : Int32) (z2 : Int32) (z3 : Int32) (z4 : Int32) (z5 : Int32) (z6 : (Nat → Int64)) (z7 : Int32) (z8 : Int32), fH_putArrayIndicesa_b d f v o n lb z0 z1 z2 z3 z4 z5 z6 z7 z8 = fH_putArrayIndices_b d f v o f v o n lb z0 z1 z2 z3 z4 z5 z6 z7 z8 := by
  intro n
  induction n with
  | zero => intros; rfl
  | succ n ih => intros; simp only [fH_putArrayIndicesa_b, fH_putArrayIndices_b, ih, al_oos, al_vo, al_hp, al_of, al_same, al_A_putOneBehindOther, al_A_putNewNames_b, al_A_putNewNames, al_A_putBoth, al_A_plus, al_A_hasElement_b, al_A_hasElement, al_A_minus_b, al_A_minus, al_A_times, al_A_putPieces_b, al_A_putPieces, al_A_pieces, al_A_apply, al_H_has, al_H_areOfOneKind, al_H_isPart_b, al_H_isPart, al_H_isIn, al_H_contains, al_H_joined_b, al_H_joined, al_H_areStrings, al_H_begins, al_H_withoutBeginning, al_H_ends, al_H_withoutEnd, al_H_areSame_b, al_H_areSame]
theorem al_H_putArrayIndices {f : Nat → Int64} {v o : Int32} {d n : Nat} {x0 : Int32} {w1 : Nat → Int64} {x1 : Int32} {y1 : Int32} : fH_putArrayIndicesa d n x0 f v o w1 x1 y1 = fH_putArrayIndices d n x0 f v o f v o w1 x1 y1 := by
  simp only [fH_putArrayIndicesa, fH_putArrayIndices, al_oos, al_vo, al_hp, al_of, al_same, al_A_putOneBehindOther, al_A_putNewNames_b, al_A_putNewNames, al_A_putBoth, al_A_plus, al_A_hasElement_b, al_A_hasElement, al_A_minus_b, al_A_minus, al_A_times, al_A_putPieces_b, al_A_putPieces, al_A_pieces, al_A_apply, al_H_has, al_H_areOfOneKind, al_H_isPart_b, al_H_isPart, al_H_isIn, al_H_contains, al_H_joined_b, al_H_joined, al_H_areStrings, al_H_begins, al_H_withoutBeginning, al_H_ends, al_H_withoutEnd, al_H_areSame_b, al_H_areSame, al_H_putArrayIndices_b]
theorem al_H_putStringIndices_b {f : Nat → Int64} {v o : Int32} : ∀ (n lb : Nat) (z0 : Int32) (z1 : Int32) (z2 : (Nat → Int64)) (z3 : Int32) (z4 : Int32), fH_putStringIndicesa_b f v o n lb z0 z1 z2 z3 z4 = fH_putStringIndices_b f v o f v o n lb z0 z1 z2 z3 z4 := by
  intro n
  induction n with
  | zero => intros; rfl
  | succ n ih => intros; simp only [fH_putStringIndicesa_b, fH_putStringIndices_b, ih, al_oos, al_vo, al_hp, al_of, al_same, al_A_putOneBehindOther, al_A_putNewNames_b, al_A_putNewNames, al_A_putBoth, al_A_plus, al_A_hasElement_b, al_A_hasElement, al_A_minus_b, al_A_minus, al_A_times, al_A_putPieces_b, al_A_putPieces, al_A_pieces, al_A_apply, al_H_has, al_H_areOfOneKind, al_H_isPart_b, al_H_isPart, al_H_isIn, al_H_contains, al_H_joined_b, al_H_joined, al_H_areStrings, al_H_begins, al_H_withoutBeginning, al_H_ends, al_H_withoutEnd, al_H_areSame_b, al_H_areSame, al_H_putArrayIndices_b, al_H_putArrayIndices]
theorem al_H_putStringIndices {f : Nat → Int64} {v o : Int32} {n : Nat} {w1 : Nat → Int64} {x1 : Int32} {y1 : Int32} : fH_putStringIndicesa n  f v o w1 x1 y1 = fH_putStringIndices n  f v o f v o w1 x1 y1 := by
  simp only [fH_putStringIndicesa, fH_putStringIndices, al_oos, al_vo, al_hp, al_of, al_same, al_A_putOneBehindOther, al_A_putNewNames_b, al_A_putNewNames, al_A_putBoth, al_A_plus, al_A_hasElement_b, al_A_hasElement, al_A_minus_b, al_A_minus, al_A_times, al_A_putPieces_b, al_A_putPieces, al_A_pieces, al_A_apply, al_H_has, al_H_areOfOneKind, al_H_isPart_b, al_H_isPart, al_H_isIn, al_H_contains, al_H_joined_b, al_H_joined, al_H_areStrings, al_H_begins, al_H_withoutBeginning, al_H_ends, al_H_withoutEnd, al_H_areSame_b, al_H_areSame, al_H_putArrayIndices_b, al_H_putArrayIndices, al_H_putStringIndices_b]
theorem al_H_indices {f : Nat → Int64} {v o : Int32} {d n : Nat} {w1 : Nat → Int64} {x1 : Int32} {y1 : Int32} : fH_indicesa d n  f v o w1 x1 y1 = fH_indices d n  f v o f v o w1 x1 y1 := by
  simp only [fH_indicesa, fH_indices, al_oos, al_vo, al_hp, al_of, al_same, al_A_putOneBehindOther, al_A_putNewNames_b, al_A_putNewNames, al_A_putBoth, al_A_plus, al_A_hasElement_b, al_A_hasElement, al_A_minus_b, al_A_minus, al_A_times, al_A_putPieces_b, al_A_putPieces, al_A_pieces, al_A_apply, al_H_has, al_H_areOfOneKind, al_H_isPart_b, al_H_isPart, al_H_isIn, al_H_contains, al_H_joined_b, al_H_joined, al_H_areStrings, al_H_begins, al_H_withoutBeginning, al_H_ends, al_H_withoutEnd, al_H_areSame_b, al_H_areSame, al_H_putArrayIndices_b, al_H_putArrayIndices, al_H_putStringIndices_b, al_H_putStringIndices]
theorem al_H_flat {f : Nat → Int64} {v o : Int32} {d n : Nat} {w1 : Nat → Int64} {x1 : Int32} {y1 : Int32} : fH_flata d n  f v o w1 x1 y1 = fH_flat d n  f v o f v o w1 x1 y1 := by
  simp only [fH_flata, fH_flat, al_oos, al_vo, al_hp, al_of, al_same, al_A_putOneBehindOther, al_A_putNewNames_b, al_A_putNewNames, al_A_putBoth, al_A_plus, al_A_hasElement_b, al_A_hasElement, al_A_minus_b, al_A_minus, al_A_times, al_A_putPieces_b, al_A_putPieces, al_A_pieces, al_A_apply, al_H_has, al_H_areOfOneKind, al_H_isPart_b, al_H_isPart, al_H_isIn, al_H_contains, al_H_joined_b, al_H_joined, al_H_areStrings, al_H_begins, al_H_withoutBeginning, al_H_ends, al_H_withoutEnd, al_H_areSame_b, al_H_areSame, al_H_putArrayIndices_b, al_H_putArrayIndices, al_H_putStringIndices_b, al_H_putStringIndices, al_H_indices]
theorem al_H_at {f : Nat → Int64} {v o : Int32} {n : Nat} {w1 : Nat → Int64} {x1 : Int32} {y1 : Int32} : fH_ata n  f v o w1 x1 y1 = fH_at n  f v o f v o w1 x1 y1 := by
  simp only [fH_ata, fH_at, al_oos, al_vo, al_hp, al_of, al_same, al_A_putOneBehindOther, al_A_putNewNames_b, al_A_putNewNames, al_A_putBoth, al_A_plus, al_A_hasElement_b, al_A_hasElement, al_A_minus_b, al_A_minus, al_A_times, al_A_putPieces_b, al_A_putPieces, al_A_pieces, al_A_apply, al_H_has, al_H_areOfOneKind, al_H_isPart_b, al_H_isPart, al_H_isIn, al_H_contains, al_H_joined_b, al_H_joined, al_H_areStrings, al_H_begins, al_H_withoutBeginning, al_H_ends, al_H_withoutEnd, al_H_areSame_b, al_H_areSame, al_H_putArrayIndices_b, al_H_putArrayIndices, al_H_putStringIndices_b, al_H_putStringIndices, al_H_indices, al_H_flat]
theorem al_H_apply {f : Nat → Int64} {v o : Int32} {d n : Nat} {x0 : Int32} {t1 : Nat → Int32} {x1 : Int32} {y1 : Int32} {w1 : Nat → Int64} {x2 : Int32} {y2 : Int32} : fH_applya d n x0 f v o t1 x1 y1 w1 x2 y2 = fH_apply d n x0 f v o f v o t1 x1 y1 w1 x2 y2 := by
  simp only [fH_applya, fH_apply, al_oos, al_vo, al_hp, al_of, al_same, al_A_putOneBehindOther, al_A_putNewNames_b, al_A_putNewNames, al_A_putBoth, al_A_plus, al_A_hasElement_b, al_A_hasElement, al_A_minus_b, al_A_minus, al_A_times, al_A_putPieces_b, al_A_putPieces, al_A_pieces, al_A_apply, al_H_has, al_H_areOfOneKind, al_H_isPart_b, al_H_isPart, al_H_isIn, al_H_contains, al_H_joined_b, al_H_joined, al_H_areStrings, al_H_begins, al_H_withoutBeginning, al_H_ends, al_H_withoutEnd, al_H_areSame_b, al_H_areSame, al_H_putArrayIndices_b, al_H_putArrayIndices, al_H_putStringIndices_b, al_H_putStringIndices, al_H_indices, al_H_flat, al_H_at]
theorem al_K_putGroup_b {f : Nat → Int64} {v o : Int32} {d : Nat} {k1 k2 k3 k4 : Nat → Int32} {p1 p2 : Nat} {vt : Int32} : ∀ (n lb : Nat) (z0 : Int32) (z1 : Int32) (z2 : Int32) (z3 : (Nat → Int64)) (z4 : Int32) (z5 : Int32), fK_putGroupa_b d f v o k1 k2 p1 k3 p2 k4 vt n lb z0 z1 z2 z3 z4 z5 = fK_putGroup_b d f v o f v o k1 k2 p1 k3 p2 k4 vt n lb z0 z1 z2 z3 z4 z5 := by
  intro n
  induction n with
  | zero => intros; rfl
  | succ n ih => intros; simp only [fK_putGroupa_b, fK_putGroup_b, ih, al_oos, al_vo, al_hp, al_of, al_same, al_A_putOneBehindOther, al_A_putNewNames_b, al_A_putNewNames, al_A_putBoth, al_A_plus, al_A_hasElement_b, al_A_hasElement, al_A_minus_b, al_A_minus, al_A_times, al_A_putPieces_b, al_A_putPieces, al_A_pieces, al_A_apply, al_H_has, al_H_areOfOneKind, al_H_isPart_b, al_H_isPart, al_H_isIn, al_H_contains, al_H_joined_b, al_H_joined, al_H_areStrings, al_H_begins, al_H_withoutBeginning, al_H_ends, al_H_withoutEnd, al_H_areSame_b, al_H_areSame, al_H_putArrayIndices_b, al_H_putArrayIndices, al_H_putStringIndices_b, al_H_putStringIndices, al_H_indices, al_H_flat, al_H_at, al_H_apply]
theorem al_K_putGroup {f : Nat → Int64} {v o : Int32} {d n : Nat} {k1 k2 k3 k4 : Nat → Int32} {p1 p2 : Nat} {vt : Int32} {x0 : Int32} {w : Nat → Int64} {x y : Int32} : fK_putGroupa d n x0 f v o k1 k2 p1 k3 p2 k4 vt w x y = fK_putGroup d n x0 f v o f v o k1 k2 p1 k3 p2 k4 vt w x y := by
  simp only [fK_putGroupa, fK_putGroup, al_oos, al_vo, al_hp, al_of, al_same, al_A_putOneBehindOther, al_A_putNewNames_b, al_A_putNewNames, al_A_putBoth, al_A_plus, al_A_hasElement_b, al_A_hasElement, al_A_minus_b, al_A_minus, al_A_times, al_A_putPieces_b, al_A_putPieces, al_A_pieces, al_A_apply, al_H_has, al_H_areOfOneKind, al_H_isPart_b, al_H_isPart, al_H_isIn, al_H_contains, al_H_joined_b, al_H_joined, al_H_areStrings, al_H_begins, al_H_withoutBeginning, al_H_ends, al_H_withoutEnd, al_H_areSame_b, al_H_areSame, al_H_putArrayIndices_b, al_H_putArrayIndices, al_H_putStringIndices_b, al_H_putStringIndices, al_H_indices, al_H_flat, al_H_at, al_H_apply, al_K_putGroup_b]
theorem al_K_putGroups_b {f : Nat → Int64} {v o : Int32} {d : Nat} {k1 k2 k3 k4 : Nat → Int32} {p1 p2 : Nat} {vt : Int32} : ∀ (n lb : Nat) (z0 : Int32) (z1 : Int32) (z2 : Int32) (z3 : (Nat → Int64)) (z4 : Int32) (z5 : Int32), fK_putGroupsa_b d f v o k1 k2 p1 k3 p2 k4 vt n lb z0 z1 z2 z3 z4 z5 = fK_putGroups_b d f v o f v o k1 k2 p1 k3 p2 k4 vt n lb z0 z1 z2 z3 z4 z5 := by
  intro n
  induction n with
  | zero => intros; rfl
  | succ n ih => intros; simp only [fK_putGroupsa_b, fK_putGroups_b, ih, al_oos, al_vo, al_hp, al_of, al_same, al_A_putOneBehindOther, al_A_putNewNames_b, al_A_putNewNames, al_A_putBoth, al_A_plus, al_A_hasElement_b, al_A_hasElement, al_A_minus_b, al_A_minus, al_A_times, al_A_putPieces_b, al_A_putPieces, al_A_pieces, al_A_apply, al_H_has, al_H_areOfOneKind, al_H_isPart_b, al_H_isPart, al_H_isIn, al_H_contains, al_H_joined_b, al_H_joined, al_H_areStrings, al_H_begins, al_H_withoutBeginning, al_H_ends, al_H_withoutEnd, al_H_areSame_b, al_H_areSame, al_H_putArrayIndices_b, al_H_putArrayIndices, al_H_putStringIndices_b, al_H_putStringIndices, al_H_indices, al_H_flat, al_H_at, al_H_apply, al_K_putGroup_b, al_K_putGroup]
theorem al_K_putGroups {f : Nat → Int64} {v o : Int32} {d n : Nat} {k1 k2 k3 k4 : Nat → Int32} {p1 p2 : Nat} {vt : Int32} {w : Nat → Int64} {x y : Int32} : fK_putGroupsa d n  f v o k1 k2 p1 k3 p2 k4 vt w x y = fK_putGroups d n  f v o f v o k1 k2 p1 k3 p2 k4 vt w x y := by
  simp only [fK_putGroupsa, fK_putGroups, al_oos, al_vo, al_hp, al_of, al_same, al_A_putOneBehindOther, al_A_putNewNames_b, al_A_putNewNames, al_A_putBoth, al_A_plus, al_A_hasElement_b, al_A_hasElement, al_A_minus_b, al_A_minus, al_A_times, al_A_putPieces_b, al_A_putPieces, al_A_pieces, al_A_apply, al_H_has, al_H_areOfOneKind, al_H_isPart_b, al_H_isPart, al_H_isIn, al_H_contains, al_H_joined_b, al_H_joined, al_H_areStrings, al_H_begins, al_H_withoutBeginning, al_H_ends, al_H_withoutEnd, al_H_areSame_b, al_H_areSame, al_H_putArrayIndices_b, al_H_putArrayIndices, al_H_putStringIndices_b, al_H_putStringIndices, al_H_indices, al_H_flat, al_H_at, al_H_apply, al_K_putGroup_b, al_K_putGroup, al_K_putGroups_b]
theorem al_K_putFirsts_b {f : Nat → Int64} {v o : Int32} {d : Nat} {k1 k2 k3 k4 : Nat → Int32} {p1 p2 : Nat} {vt : Int32} : ∀ (n lb : Nat) (z0 : Int32) (z1 : Int32) (z2 : Int32) (z3 : (Nat → Int64)) (z4 : Int32) (z5 : Int32), fK_putFirstsa_b d f v o k1 k2 p1 k3 p2 k4 vt n lb z0 z1 z2 z3 z4 z5 = fK_putFirsts_b d f v o f v o k1 k2 p1 k3 p2 k4 vt n lb z0 z1 z2 z3 z4 z5 := by
  intro n
  induction n with
  | zero => intros; rfl
  | succ n ih => intros; simp only [fK_putFirstsa_b, fK_putFirsts_b, ih, al_oos, al_vo, al_hp, al_of, al_same, al_A_putOneBehindOther, al_A_putNewNames_b, al_A_putNewNames, al_A_putBoth, al_A_plus, al_A_hasElement_b, al_A_hasElement, al_A_minus_b, al_A_minus, al_A_times, al_A_putPieces_b, al_A_putPieces, al_A_pieces, al_A_apply, al_H_has, al_H_areOfOneKind, al_H_isPart_b, al_H_isPart, al_H_isIn, al_H_contains, al_H_joined_b, al_H_joined, al_H_areStrings, al_H_begins, al_H_withoutBeginning, al_H_ends, al_H_withoutEnd, al_H_areSame_b, al_H_areSame, al_H_putArrayIndices_b, al_H_putArrayIndices, al_H_putStringIndices_b, al_H_putStringIndices, al_H_indices, al_H_flat, al_H_at, al_H_apply, al_K_putGroup_b, al_K_putGroup, al_K_putGroups_b, al_K_putGroups]
theorem al_K_putFirsts {f : Nat → Int64} {v o : Int32} {d n : Nat} {k1 k2 k3 k4 : Nat → Int32} {p1 p2 : Nat} {vt : Int32} {w : Nat → Int64} {x y : Int32} : fK_putFirstsa d n  f v o k1 k2 p1 k3 p2 k4 vt w x y = fK_putFirsts d n  f v o f v o k1 k2 p1 k3 p2 k4 vt w x y := by
  simp only [fK_putFirstsa, fK_putFirsts, al_oos, al_vo, al_hp, al_of, al_same, al_A_putOneBehindOther, al_A_putNewNames_b, al_A_putNewNames, al_A_putBoth, al_A_plus, al_A_hasElement_b, al_A_hasElement, al_A_minus_b, al_A_minus, al_A_times, al_A_putPieces_b, al_A_putPieces, al_A_pieces, al_A_apply, al_H_has, al_H_areOfOneKind, al_H_isPart_b, al_H_isPart, al_H_isIn, al_H_contains, al_H_joined_b, al_H_joined, al_H_areStrings, al_H_begins, al_H_withoutBeginning, al_H_ends, al_H_withoutEnd, al_H_areSame_b, al_H_areSame, al_H_putArrayIndices_b, al_H_putArrayIndices, al_H_putStringIndices_b, al_H_putStringIndices, al_H_indices, al_H_flat, al_H_at, al_H_apply, al_K_putGroup_b, al_K_putGroup, al_K_putGroups_b, al_K_putGroups, al_K_putFirsts_b]
theorem al_K_apply {f : Nat → Int64} {v o : Int32} {d n : Nat} {k1 k2 k3 k4 : Nat → Int32} {p1 p2 : Nat} {vt : Int32} {x0 : Int32} {w : Nat → Int64} {x y : Int32} : fK_applya d n x0 f v o k1 k2 p1 k3 p2 k4 vt w x y = fK_apply d n x0 f v o f v o k1 k2 p1 k3 p2 k4 vt w x y := by
  simp only [fK_applya, fK_apply, al_oos, al_vo, al_hp, al_of, al_same, al_A_putOneBehindOther, al_A_putNewNames_b, al_A_putNewNames, al_A_putBoth, al_A_plus, al_A_hasElement_b, al_A_hasElement, al_A_minus_b, al_A_minus, al_A_times, al_A_putPieces_b, al_A_putPieces, al_A_pieces, al_A_apply, al_H_has, al_H_areOfOneKind, al_H_isPart_b, al_H_isPart, al_H_isIn, al_H_contains, al_H_joined_b, al_H_joined, al_H_areStrings, al_H_begins, al_H_withoutBeginning, al_H_ends, al_H_withoutEnd, al_H_areSame_b, al_H_areSame, al_H_putArrayIndices_b, al_H_putArrayIndices, al_H_putStringIndices_b, al_H_putStringIndices, al_H_indices, al_H_flat, al_H_at, al_H_apply, al_K_putGroup_b, al_K_putGroup, al_K_putGroups_b, al_K_putGroups, al_K_putFirsts_b, al_K_putFirsts]
end ZAl25
section ZOpf26
section OPF
variable {f g : Nat → Int64} {v u e : Nat} {o o' : Int32} {n fu : Nat} {r : RS}
theorem oBin_ne {op : Nat} {a b : JT (e + 2)} (h : ¬ (kd (e + 2) a = 3 ∧ kd (e + 2) b = 3)) : oBin op a b = if op = 0 then oPlus a b else if op = 1 then oMinus a b else if op = 2 then oTimes a b else if op = 3 then oPieces a b else .inl 1 := by
  unfold oBin
  rcases jcases a with ⟨k, rfl⟩ | ⟨z, rfl⟩ | ⟨s, rfl⟩ | ⟨l, rfl⟩ | ⟨l, rfl⟩ <;> rcases jcases b with ⟨k', rfl⟩ | ⟨z', rfl⟩ | ⟨s', rfl⟩ | ⟨l', rfl⟩ | ⟨l', rfl⟩ <;> first | rfl | exact absurd ⟨rfl, rfl⟩ h
theorem binary_w (hn : 40000 < n) (hfu : e + 2 ≤ fu) (he : e + 1 ≤ 1000) {op : Nat} (hop : op ≤ 4) {a b : JT (e + 2)} (ha : At f v 0 (jc (e + 2) a)) (hoa : jok (e + 2) a) (hb : At g u 0 (jc (e + 2) b)) (hob : jok (e + 2) b) (hja : jd (e + 2) a ≤ 60) (hjb : jd (e + 2) b ≤ 60) (hr : RV r) : OK r (fA_apply fu n (i3 op) f (i3 v) o g (i3 u) o' r.1 (i3 r.2.1) r.2.2) (oBin op a b) := by
  have isa : fR_is n 0 (i3 3) f (i3 v) o = some (if kd (e + 2) a = 3 then 1 else 0) := ha.is hoa (by omega)
  have isb : fR_is n 0 (i3 3) g (i3 u) o' = some (if kd (e + 2) b = 3 then 1 else 0) := hb.is hob (by omega)
  have e0 : (i3 op = 0) = (op = 0) := i3_eq (b := 0) (by omega) (by omega)
  have e1 : (i3 op = 1) = (op = 1) := i3_eq (b := 1) (by omega) (by omega)
  have e2 : (i3 op = 2) = (op = 2) := i3_eq (b := 2) (by omega) (by omega)
  have e3 : (i3 op = 3) = (op = 3) := i3_eq (b := 3) (by omega) (by omega)
  have mid : ¬ (kd (e + 2) a = 3 ∧ kd (e + 2) b = 3) → OK r (if i3 op = 0 then fA_plus fu n f (i3 v) o g (i3 u) o' r.1 (i3 r.2.1) r.2.2 else if i3 op = 1 then fA_minus fu n f (i3 v) o g (i3 u) o' r.1 (i3 r.2.1) r.2.2 else if i3 op = 2 then fA_times fu n f (i3 v) o g (i3 u) o' r.1 (i3 r.2.1) r.2.2 else if i3 op = 3 then fA_pieces n f (i3 v) o g (i3 u) o' r.1 (i3 r.2.1) r.2.2 else some ((1 : Int32), r.1, i3 r.2.1, r.2.2)) (oBin op a b) := fun hnn => by
    rw [oBin_ne hnn]
    obtain rfl | rfl | rfl | rfl | rfl : op = 0 ∨ op = 1 ∨ op = 2 ∨ op = 3 ∨ op = 4 := by omega
    · rw [if_pos (by decide), if_pos rfl]
      exact plus_w (by omega) (by omega) ha hoa hb hob hr hnn
    · rw [if_neg (by decide), if_pos (by decide), if_neg (by decide), if_pos rfl]
      exact minus_w hn (by omega) (by omega) ha hoa hb hob (Nat.le_succ_of_le hjb) hr
    · rw [if_neg (by decide), if_neg (by decide), if_pos (by decide), if_neg (by decide), if_neg (by decide), if_pos rfl]
      exact times_w hn (by omega) ha hoa hb hob hja hr hnn
    · rw [if_neg (by decide), if_neg (by decide), if_neg (by decide), if_pos (by decide), if_neg (by decide), if_neg (by decide), if_neg (by decide), if_pos rfl]
      exact pieces_w hn ha hoa hb hob hr
    · rw [if_neg (by decide), if_neg (by decide), if_neg (by decide), if_neg (by decide), if_neg (by decide), if_neg (by decide), if_neg (by decide), if_neg (by decide)]
      exact OK.refuse (k := 1) hr (by omega) (by omega)
  unfold fA_apply
  simp only [b4]
  rw [show (3 : Int32) = i3 3 from rfl, isa, Option.bind_some]
  by_cases h1 : kd (e + 2) a = 3
  · rw [if_pos h1, if_neg (by decide), isb, Option.bind_some]
    by_cases h2 : kd (e + 2) b = 3
    · rw [if_pos h2, if_neg (by decide)]
      obtain ⟨x, rfl⟩ := kdn hoa h1
      obtain ⟨y, rfl⟩ := kdn hob h2
      rw [jok_n] at hoa hob
      have n1 : fR_number n 0 f (i3 v) o = some (cW x) := At.num (p := 0) ha hoa.1 hoa.2
      have n2 : fR_number n 0 g (i3 u) o' = some (cW y) := At.num (p := 0) hb hob.1 hob.2
      rw [n1, Option.bind_some, n2, Option.bind_some]
      exact ofNumbers_w hr hop hoa.1 hoa.2 hob.1 hob.2
    · rw [if_neg h2, if_pos (by decide)]
      exact mid (fun h => h2 h.2)
  · rw [if_neg h1, if_pos (by decide)]
    exact mid (fun h => h1 h.1)
theorem binarya_w (hn : 40000 < n) (hfu : e + 2 ≤ fu) (he : e + 1 ≤ 1000) {op : Nat} (hop : op ≤ 4) {a : JT (e + 2)} (ha : At f v 0 (jc (e + 2) a)) (hoa : jok (e + 2) a) (hja : jd (e + 2) a ≤ 60) (hr : RV r) : OK r (fA_applya fu n (i3 op) f (i3 v) o r.1 (i3 r.2.1) r.2.2) (oBin op a a) := by
  rw [al_A_apply]
  exact binary_w hn hfu he hop ha hoa ha hoa hja hja hr
end OPF
end ZOpf26
