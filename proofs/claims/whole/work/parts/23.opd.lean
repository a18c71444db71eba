section OPD
variable {f g : Nat → Int64} {v u e : Nat} {o o' : Int32} {n fu : Nat} {r : RS}
theorem he_loop (hfu : e ≤ fu) (he : e ≤ 1000) {m : List (JT e)} (hb : At g u 0 (jc (e + 1) (ja m))) {x : JT e} (hx : jok e x) {q : Nat} (hq : At f v q (jc e x)) : ∀ (m' : List (JT e)) (n i s : Nat), (∀ y ∈ m', jok e y ∧ jd e y ≤ 60) → i + m'.length = m.length → At g u s (m'.flatMap (jc e)) → 20001 + m'.length < n → fA_hasElement_b fu g (i3 u) o' f (i3 v) o n 1 (i3 i) (i3 s) (i3 q) = some (if has m' x then 1 else 0) := by
  have hsz := hb.asz
  have hlen : ∀ n, fR_length n 0 g (i3 u) o' = some (i3 m.length) := fun n => hb.alen
  intro m'
  induction m' with
  | nil =>
    intro n i s _ hi _ hn
    obtain ⟨n, rfl⟩ : ∃ j, n = j + 1 := ⟨n - 1, by omega⟩
    rw [List.length_nil] at hi
    rw [fA_hasElement_b, hlen, Option.bind_some, if_pos (by rw [i3_le (by omega) (by omega)]; omega)]
    rfl
  | cons y m' ih =>
    intro n i s hok hi hat hn
    obtain ⟨n, rfl⟩ : ∃ j, n = j + 1 := ⟨n - 1, by omega⟩
    rw [List.length_cons] at hi hn
    obtain ⟨at1, at2⟩ := hat.acons
    have hy := hok y (List.mem_cons_self ..)
    rw [fA_hasElement_b, hlen, Option.bind_some, if_neg (by rw [i3_le (by omega) (by omega)]; omega), same_w (by omega) hy.1 hx at1 hq hfu he hy.2, Option.bind_some]
    by_cases h : jcmp e y x = 0
    · rw [if_pos h, if_neg (by decide), if_pos (by unfold has; simp [h])]
    · rw [if_neg h, if_pos (by decide), at1.after hy.1, Option.bind_some, i3_one, ih n (i + 1) _ (fun z hz => hok z (List.mem_cons_of_mem _ hz)) (by omega) at2 (by omega)]
      unfold has
      rw [List.any_cons, show decide (jcmp e y x = 0) = false by simpa using h, Bool.false_or]
theorem mi_loop (hfu : e ≤ fu) (he : e ≤ 1000) {l m : List (JT e)} (ha : At f v 0 (jc (e + 1) (ja l))) (hoa : jok (e + 1) (ja l)) (hb : At g u 0 (jc (e + 1) (ja m))) (hob : jok (e + 1) (ja m)) (hjm : ∀ y ∈ m, jd e y ≤ 60) {r0 r1 : RS} {x0 : Int64} (h01 : Wr r0 [x0] r1) : ∀ (l' : List (JT e)) (n i s c : Nat) (w : List Int64) (r2 : RS), (∀ x ∈ l', x ∈ l) → i + l'.length = l.length → At f v s (l'.flatMap (jc e)) → Wr r1 w r2 → c ≤ i → 25000 + l'.length < n →
    ∃ r' : RS, fA_minus_b fu f (i3 v) o g (i3 u) o' n 1 (i3 i) (i3 s) (i3 c) (i3 r1.2.1 - 1) r2.1 (i3 r2.2.1) r2.2.2 = some (0, r'.1, i3 r'.2.1, r'.2.2) ∧ Wr r0 (lst 5 (c + (l'.filter (fun x => !has m x)).length) (w ++ (l'.filter (fun x => !has m x)).flatMap (jc e))) r' := by
  have hsz := ha.asz
  have hlen : ∀ n, fR_length n 0 f (i3 v) o = some (i3 l.length) := fun n => ha.alen
  have hsm := hb.asz
  intro l'
  induction l' with
  | nil =>
    intro n i s c w r2 _ hi _ hw hc hn
    obtain ⟨n, rfl⟩ : ∃ j, n = j + 1 := ⟨n - 1, by omega⟩
    rw [List.length_nil] at hi
    obtain ⟨f3, e3, w3⟩ := close_w (n := n) (k := 5) (len := c) h01 hw (by omega) (fun _ => by omega)
    refine ⟨(f3, r2.2.1, r2.2.2), ?_, by rw [List.filter_nil, List.flatMap_nil, List.append_nil]; exact w3⟩
    rw [fA_minus_b, hlen, Option.bind_some, if_pos (by rw [i3_le (by omega) (by omega)]; omega), show (5 : Int32) = i3 5 from rfl, e3]
    rfl
  | cons x l' ih =>
    intro n i s c w r2 hsub hi hat hw hc hn
    obtain ⟨n, rfl⟩ : ∃ j, n = j + 1 := ⟨n - 1, by omega⟩
    rw [List.length_cons] at hi hn
    obtain ⟨at1, at2⟩ := hat.acons
    have hx := hoa x (hsub x (List.mem_cons_self ..))
    have hh : fA_hasElement fu n (i3 s) g (i3 u) o' f (i3 v) o = some (if has m x then 1 else 0) := he_loop (o := o) (o' := o') (x := x) hfu he hb hx at1 m n 0 1 (fun y hy => ⟨hob y hy, hjm y hy⟩) (by omega) hb.abody (by omega)
    rw [fA_minus_b, hlen, Option.bind_some, if_neg (by rw [i3_le (by omega) (by omega)]; omega)]
    rw [hh, Option.bind_some]
    cases hm : has m x with
    | true =>
      rw [if_neg (by decide), at1.after hx, Option.bind_some, i3_one, List.filter_cons_of_neg (by rw [hm]; decide)]
      exact ih n (i + 1) _ c w r2 (fun y hy => hsub y (List.mem_cons_of_mem _ hy)) (by omega) at2 hw (by omega) (by omega)
    | false =>
      obtain ⟨r3, e3, w3⟩ := putCopy_w (n := n) (o' := o) hw.v at1 hx
      rw [if_pos (by decide), e3, Option.bind_some, at1.after hx, Option.bind_some, i3_one, i3_one, List.filter_cons_of_pos (by rw [hm]; decide), List.length_cons, List.flatMap_cons]
      obtain ⟨r4, e4, w4⟩ := ih n (i + 1) _ (c + 1) (w ++ jc e x) r3 (fun y hy => hsub y (List.mem_cons_of_mem _ hy)) (by omega) at2 (hw.app w3) (by omega) (by omega)
      refine ⟨r4, e4, ?_⟩
      rw [List.append_assoc, Nat.add_assoc, Nat.add_comm 1] at w4
      exact w4
theorem minus_w (hn : 40000 < n) (hfu : e ≤ fu) (he : e ≤ 1000) {a b : JT (e + 1)} (ha : At f v 0 (jc (e + 1) a)) (hoa : jok (e + 1) a) (hb : At g u 0 (jc (e + 1) b)) (hob : jok (e + 1) b) (hjb : jd (e + 1) b ≤ 61) (hr : RV r) : OK r (fA_minus fu n f (i3 v) o g (i3 u) o' r.1 (i3 r.2.1) r.2.2) (oMinus a b) := by
  unfold fA_minus
  rw [show (0 : Int32) = i3 0 from rfl, show (5 : Int32) = i3 5 from rfl]
  by_cases h1 : kd (e + 1) a = 5
  · rw [ha.isT hoa h1, Option.bind_some, if_neg (by decide)]
    by_cases h2 : kd (e + 1) b = 5
    · rw [hb.isT hob h2, Option.bind_some, if_neg (by decide)]
      rcases rk_same (show rk (e + 1) a = rk (e + 1) b by rw [rk_ok hoa, rk_ok hob, h1, h2]) with ⟨x, y, rfl, rfl, _⟩ | ⟨x, y, rfl, rfl⟩ | ⟨x, y, rfl, rfl⟩ | ⟨x, y, rfl, rfl⟩ | ⟨x, y, rfl, rfl⟩
      · rw [jok_k] at hoa; rw [kd_k] at h1; omega
      · rw [kd_n] at h1; omega
      · rw [kd_s] at h1; omega
      · obtain ⟨r1, e1, w1⟩ := open_w (n := n) hr
        have hsz := ha.asz
        obtain ⟨r2, e2, w2⟩ := mi_loop (o := o) (o' := o') hfu he ha hoa hb hob (jd_a_le.mp hjb) w1 x n 0 1 0 [] r1 (fun x hx => hx) (by omega) ha.abody (Wr.nil w1.v) (by omega) (by omega)
        rw [e1, Option.bind_some]
        dsimp only
        refine OK.val (j := ja (x.filter (fun z => !has y z))) e2 ?_
        rw [jc_a]
        rw [Nat.zero_add] at w2
        exact w2
      · rw [kd_o] at h1; omega
    · rw [hb.isF hob (by omega) h2, Option.bind_some, if_pos (by decide)]
      have : oMinus a b = .inl 1 := by
        unfold oMinus
        rcases jcases a with ⟨k, rfl⟩ | ⟨z, rfl⟩ | ⟨s, rfl⟩ | ⟨l, rfl⟩ | ⟨l, rfl⟩ <;> rcases jcases b with ⟨k', rfl⟩ | ⟨z', rfl⟩ | ⟨s', rfl⟩ | ⟨l', rfl⟩ | ⟨l', rfl⟩ <;> first | rfl | exact absurd rfl h2
      rw [this]
      exact OK.refuse (k := 1) hr (by omega) (by omega)
  · rw [ha.isF hoa (by omega) h1, Option.bind_some, if_pos (by decide)]
    have : oMinus a b = .inl 1 := by
      unfold oMinus
      rcases jcases a with ⟨k, rfl⟩ | ⟨z, rfl⟩ | ⟨s, rfl⟩ | ⟨l, rfl⟩ | ⟨l, rfl⟩ <;> first | rfl | exact absurd rfl h1
    rw [this]
    exact OK.refuse (k := 1) hr (by omega) (by omega)
/-! a string some times -/
theorem rep_add {s : Sx} {k z : Nat} (h : k ≤ z) : rep s z = rep s k ++ rep s ((z - k : Nat) : Int) := by
  unfold rep
  rw [show (z : Int).toNat = k + (z - k) by omega, show (k : Int).toNat = k by omega, show ((z - k : Nat) : Int).toNat = z - k by omega, ← List.flatten_append, List.replicate_append_replicate]
theorem rep_nil {z : Int} : rep [] z = [] := by
  unfold rep
  simp
theorem rep_succ {s : Sx} {k : Nat} : rep s ((k + 1 : Nat) : Int) = rep s k ++ s := by
  rw [rep_add (k := k) (by omega), Nat.add_sub_cancel_left]
  unfold rep
  simp
theorem rep_len {s : Sx} {k : Nat} : (rep s k).length = k * s.length := by
  unfold rep
  rw [List.length_flatten, List.map_replicate, List.sum_replicate_nat]
  congr 1
theorem pr_loop {s : Sx} {z : Nat} (hz : z ≤ 9007199254740991) (ha : At f v 0 (strc s)) {r0 r1 : RS} {x0 : Int64} (h01 : Wr r0 [x0] r1) : ∀ (m n k : Nat) (r2 : RS), k + m = 4096 → k ≤ z → Wr r1 ((rep s k).map (fun c => cW (c : Nat))) r2 → m + 2 < n →
    ∃ r' : RS, fA_putRepeated_b f (i3 v) o n 1 (i3 k) (i3 r1.2.1 - 1) (cW (z : Int)) r2.1 (i3 r2.2.1) r2.2.2 = some (r'.1, i3 r'.2.1, r'.2.2) ∧ Wr r0 (strc (rep s z)) r' := by
  have hl := ha.le
  -- the end, when all is written or the row is over
  have fin : ∀ (n k : Nat) (r2 : RS), k ≤ z → Wr r1 ((rep s k).map (fun c => cW (c : Nat))) r2 → (r2.2.2 = 1 ∨ rep s k = rep s z) → ∃ r' : RS, ((fR_size n r2.1 (i3 r2.2.1) r2.2.2).bind fun o1 => (fR_close n (i3 r1.2.1 - 1) 4 ((o1 - (i3 r1.2.1 - 1)) - 1) r2.1 (i3 r2.2.1) r2.2.2).bind fun o4 => some (o4, i3 r2.2.1, r2.2.2)) = some (r'.1, i3 r'.2.1, r'.2.2) ∧ Wr r0 (strc (rep s z)) r' := by
    intro n k r2 hkz hw hor
    have hs : fR_size n r2.1 (i3 r2.2.1) r2.2.2 = some (i3 r2.2.1) := rfl
    rw [hs, Option.bind_some]
    by_cases hov : r2.2.2 = 1
    · refine ⟨r2, ?_, ?_⟩
      · rw [hov, close_over]
        rfl
      · have w1 : Wr r1 ((rep s z).map (fun c => cW (c : Nat))) r2 := by
          rw [rep_add hkz, List.map_append]
          exact hw.more hov
        obtain ⟨f3, e3, w3⟩ := close_w (n := n) (k := 4) (len := (rep s z).length) h01 w1 (by omega) (fun h => by rw [hov] at h; exact absurd h (by decide))
        rw [hov, close_over] at e3
        rw [strc_lst]
        have e4 : f3 = r2.1 := (Option.some.inj e3).symm
        rw [e4] at w3
        exact w3
    · have he := hor.resolve_left hov
      have h0 : r2.2.2 = 0 := hw.v.2.resolve_right hov
      obtain ⟨a1, a2, a3⟩ := hw.at0 h0
      obtain ⟨b1, b2, b3'⟩ := h01.at0 a3
      have hv2 := hw.v.1
      rw [List.length_singleton] at b2
      rw [List.length_map] at a2
      obtain ⟨f3, e3, w3⟩ := close_w (n := n) (k := 4) (len := (rep s k).length) h01 hw (by omega) (fun h => by omega)
      refine ⟨(f3, r2.2.1, r2.2.2), ?_, by rw [strc_lst, ← he]; exact w3⟩
      have e5 : (i3 r2.2.1 - (i3 r1.2.1 - 1)) - 1 = i3 (rep s k).length := by
        rw [i3_pred (by omega), i3_sub (by omega), i3_pred (by omega)]
        congr 1
        omega
      rw [e5, show (4 : Int32) = i3 4 from rfl, e3]
      rfl
  intro m
  induction m with
  | zero =>
    intro n k r2 hk hkz hw hn
    obtain ⟨n, rfl⟩ : ∃ j, n = j + 1 := ⟨n - 1, by omega⟩
    obtain rfl : k = 4096 := by omega
    rw [fA_putRepeated_b, if_pos (by decide)]
    refine fin n 4096 r2 hkz hw ?_
    by_cases hs : s.length = 0
    · right
      have : s = [] := List.length_eq_zero_iff.mp hs
      subst this
      rw [rep_nil, rep_nil]
    · left
      rcases hw.v.2 with h0 | h1
      · exfalso
        obtain ⟨a1, a2, a3⟩ := hw.at0 h0
        obtain ⟨_, b2, _⟩ := h01.at0 a3
        have hv2 := hw.v.1
        rw [List.length_map, rep_len] at a2
        rw [List.length_singleton] at b2
        have : 4096 * 1 ≤ 4096 * s.length := Nat.mul_le_mul_left _ (by omega)
        omega
      · exact h1
  | succ m ih =>
    intro n k r2 hk hkz hw hn
    obtain ⟨n, rfl⟩ : ∃ j, n = j + 1 := ⟨n - 1, by omega⟩
    rw [fA_putRepeated_b, if_neg (by rw [show (4096 : Int32) = i3 4096 from rfl, i3_le (by omega) (by omega)]; omega), i3_64 (by omega), lg_cW (by omega) (by omega) (by omega) (by omega)]
    by_cases hkz2 : k < z
    · rw [if_neg (by rw [izs_ge0]; omega)]
      rcases hw.v.2 with h0 | h1
      · obtain ⟨r3, e3, w3⟩ := putInsideS_w (n := n) (o' := o) hw.v ha
        have ho : fR_isOver n r2.1 (i3 r2.2.1) r2.2.2 = some 0 := by
          unfold fR_isOver
          rw [h0]
          rfl
        have e4 : fR_putInside n 0 r2.1 (i3 r2.2.1) r2.2.2 f (i3 v) o = some (r3.1, i3 r3.2.1, r3.2.2) := e3
        rw [ho, Option.bind_some, if_pos rfl, e4, Option.bind_some, i3_one]
        exact ih n (k + 1) r3 (by omega) (by omega) (by rw [rep_succ, List.map_append]; exact hw.app w3) (by omega)
      · have ho : fR_isOver n r2.1 (i3 r2.2.1) r2.2.2 = some 1 := by
          unfold fR_isOver
          rw [h1]
          rfl
        rw [ho, Option.bind_some, if_neg (by decide)]
        exact fin n k r2 hkz hw (Or.inl h1)
    · rw [if_pos (by rw [izs_ge0]; omega)]
      exact fin n k r2 hkz hw (Or.inr (by rw [show k = z by omega]))
theorem repeated_w (hn : 5000 < n) {s : Sx} {z : Int} (h1 : -9007199254740991 ≤ z) (h2 : z ≤ 9007199254740991) (ha : At f v 0 (strc s)) (hr : RV r) : OK (d := e + 1) r ((fA_putRepeated n (cW z) f (i3 v) o r.1 (i3 r.2.1) r.2.2).bind fun y => some ((0 : Int32), y.1, y.2.1, y.2.2)) (repR s z) := by
  unfold fA_putRepeated repR
  rw [show (1 : Int64) = cW 1 from rfl, lg_cW (by omega) (by omega) (by omega) (by omega)]
  by_cases h : z < 1
  · obtain ⟨r1, e1, w1⟩ := putNull_w (n := n) hr
    rw [if_neg (by rw [izs_ge0]; omega), if_pos h, e1]
    exact OK.val (j := jk 0) rfl w1
  · obtain ⟨r1, e1, w1⟩ := open_w (n := n) hr
    obtain ⟨y, rfl⟩ : ∃ y : Nat, z = y := ⟨z.toNat, by omega⟩
    obtain ⟨r2, e2, w2⟩ := pr_loop (o := o) (s := s) (z := y) (by omega) ha w1 4096 n 0 r1 (by omega) (by omega) (Wr.nil w1.v) (by omega)
    rw [if_pos (by rw [izs_ge0]; omega), if_neg h, e1, Option.bind_some]
    dsimp only
    have e3 : fA_putRepeated_b f (i3 v) o n 1 0 (i3 r1.2.1 - 1) (cW (y : Int)) r1.1 (i3 r1.2.1) r1.2.2 = some (r2.1, i3 r2.2.1, r2.2.2) := e2
    rw [e3]
    exact OK.val (j := js (rep s y)) rfl w2
end OPD
