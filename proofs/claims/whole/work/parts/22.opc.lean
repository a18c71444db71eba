theorem strc_lst (s : Sx) : strc s = lst 4 s.length (s.map (fun c => cW (c : Nat))) := by
  unfold strc lst
  rw [List.length_map]
section PI
variable {n : Nat} {r : RS} {g : Nat → Int64} {u q : Nat} {o' : Int32}
theorem putInside_w (hr : RV r) {k len : Nat} {w : List Int64} (h : At g u q (lst k len w)) (ha : fR_after n (i3 q) g (i3 u) o' = some (i3 (q + (w.length + 1)))) : ∃ r' : RS, fR_putInside n (i3 q) r.1 (i3 r.2.1) r.2.2 g (i3 u) o' = some (r'.1, i3 r'.2.1, r'.2.2) ∧ Wr r w r' := by
  obtain ⟨r', e, hw⟩ := putCells_w (n := n) (o' := o') hr h.lbody
  refine ⟨r', ?_, hw⟩
  unfold fR_putInside
  rw [ha, Option.bind_some, i3_one, i3_sub (by omega), show q + (w.length + 1) - q = w.length + 1 by omega, i3_pred (by omega), Nat.add_sub_cancel, e]
  rfl
theorem putInsideS_w (hr : RV r) {s : Sx} (h : At g u q (strc s)) : ∃ r' : RS, fR_putInside n (i3 q) r.1 (i3 r.2.1) r.2.2 g (i3 u) o' = some (r'.1, i3 r'.2.1, r'.2.2) ∧ Wr r (s.map (fun c => cW (c : Nat))) r' := by
  refine putInside_w hr (k := 4) (len := s.length) (by rw [← strc_lst]; exact h) ?_
  rw [h.safter, List.length_map]
theorem putInsideA_w (hr : RV r) {d : Nat} {l : List (JT d)} (h : At g u q (jc (d + 1) (ja l))) (hok : jok (d + 1) (ja l)) : ∃ r' : RS, fR_putInside n (i3 q) r.1 (i3 r.2.1) r.2.2 g (i3 u) o' = some (r'.1, i3 r'.2.1, r'.2.2) ∧ Wr r (l.flatMap (jc d)) r' := putInside_w hr (k := 5) (len := l.length) h (h.after hok)
theorem putPart_w (hr : RV r) {s : Sx} {a b : Nat} (h : At g u q (strc s)) (hab : a ≤ b) (hb : b ≤ s.length) : ∃ r' : RS, fR_putPart n (i3 q) (i3 a) (i3 b) r.1 (i3 r.2.1) r.2.2 g (i3 u) o' = some (r'.1, i3 r'.2.1, r'.2.2) ∧ Wr r (strc ((s.drop a).take (b - a))) r' := by
  have hle := h.le
  have hsl : ((s.drop a).take (b - a)).length = b - a := by rw [List.length_take, List.length_drop]; omega
  have hat : At g u (q + 1 + a) (((s.drop a).take (b - a)).map (fun c => cW (c : Nat))) := by
    refine ⟨fun i x hx => ?_, by rw [List.length_map, hsl]; omega, hle.2⟩
    have hb2 := h.body
    rw [List.getElem?_map, List.getElem?_take] at hx
    by_cases hi : i < b - a
    · rw [if_pos hi, List.getElem?_drop] at hx
      have := hb2 (a + i) x (by rw [List.getElem?_map]; exact hx)
      rw [← this]
      congr 1
      omega
    · rw [if_neg hi] at hx
      simp at hx
  obtain ⟨r1, e1, w1⟩ := open_w (n := n) hr
  obtain ⟨r2, e2, w2⟩ := putCells_w (n := n) (o' := o') w1.v hat
  rw [List.length_map, hsl] at e2
  obtain ⟨f3, e3, w3⟩ := close_w (n := n) (k := 4) (len := b - a) w1 w2 (by omega) (fun _ => by omega)
  refine ⟨(f3, r2.2.1, r2.2.2), ?_, by rw [strc_lst, hsl]; exact w3⟩
  unfold fR_putPart
  rw [e1, Option.bind_some]
  dsimp only
  rw [i3_one, i3_add, i3_sub hab, e2, Option.bind_some]
  dsimp only
  rw [show (4 : Int32) = i3 4 from rfl, e3]
  rfl
theorem close_over {h k len : Int32} {f : Nat → Int64} {v : Int32} : fR_close n h k len f v 1 = some f := by
  unfold fR_close
  rw [if_neg (by decide)]
theorem Wr.more {α : Type} {r r' : BS α} {w w' : List α} (h : Wr r w r') (h1 : r'.2.2 = 1) : Wr r (w ++ w') r' := by
  obtain ⟨h2, h3⟩ := h
  refine ⟨h2, Or.inr ⟨?_, h1⟩⟩
  rcases h3 with ⟨_, _, a, _⟩ | ⟨a, _⟩
  · rw [h1] at a
    exact absurd a (by decide)
  · rcases a with a | a
    · exact Or.inl a
    · right
      rw [List.length_append]
      omega
end PI
section OPB
variable {f g : Nat → Int64} {v u e : Nat} {o o' : Int32} {n fu : Nat} {r : RS}
theorem both_plain (hn : 20000 < n) {p q : Nat} {l m : List (Sx × JT e)} (ha : At f v p (jc (e + 1) (jo l))) (hoa : jok (e + 1) (jo l)) (hb : At g u q (jc (e + 1) (jo m))) (hob : jok (e + 1) (jo m)) (hr : RV r) (hfu : 1 ≤ fu) : ∃ r' : RS, fA_putBoth fu n (i3 p) (i3 q) 0 0 f (i3 v) o g (i3 u) o' r.1 (i3 r.2.1) r.2.2 = some (r'.1, i3 r'.2.1, r'.2.2) ∧ Wr r (jc (e + 1) (jo (bw (fun _ y => y) l m))) r' := by
  obtain ⟨fu, rfl⟩ : ∃ j, fu = j + 1 := ⟨fu - 1, by omega⟩
  have sza := ha.osz
  obtain ⟨r1, e1, w1⟩ := open_w (n := n) hr
  obtain ⟨r2, e2, w2⟩ := both_loop (rec := fA_putBoth fu n) (o := o) (o' := o') (k := 0) (by omega) (deep := false) (sel := fun _ y => y) ha hoa hb hob w1 (fun _ _ _ => rfl) (fun h => absurd h (by decide)) (fun _ _ _ _ _ => rfl) l n 0 (p + 1) [] r1 (fun x hx => hx) (by omega) ha.obody (Wr.nil w1.v) (by omega)
  refine ⟨r2, ?_, ?_⟩
  · rw [fA_putBoth, e1, Option.bind_some]
    dsimp only
    rw [i3_one]
    exact e2
  · rw [jc_o]
    have hl : (bw (fun _ y => y) l m).length = l.length + (bn l m).length := by unfold bw; rw [List.length_append, List.length_map]
    rw [hl]
    exact w2
theorem both_deep (hn : 20000 < n) : ∀ (e fu k p q : Nat) (l m : List (Sx × JT e)) (r : RS), At f v p (jc (e + 1) (jo l)) → jok (e + 1) (jo l) → At g u q (jc (e + 1) (jo m)) → jok (e + 1) (jo m) → RV r → e + 1 ≤ fu → k + jd (e + 1) (jo l) ≤ 60 → ∃ r' : RS, fA_putBoth fu n (i3 p) (i3 q) 1 (i3 k) f (i3 v) o g (i3 u) o' r.1 (i3 r.2.1) r.2.2 = some (r'.1, i3 r'.2.1, r'.2.2) ∧ Wr r (jc (e + 1) (jo (bw (selD e) l m))) r' := by
  intro e
  induction e with
  | zero =>
    intro fu k p q l m r ha hoa hb hob hr hfu hk
    obtain ⟨fu, rfl⟩ : ∃ j, fu = j + 1 := ⟨fu - 1, by omega⟩
    have sza := ha.osz
    have hp := jd_o_pos (l := l)
    obtain ⟨r1, e1, w1⟩ := open_w (n := n) hr
    obtain ⟨r2, e2, w2⟩ := both_loop (rec := fA_putBoth fu n) (o := o) (o' := o') (k := k) (by omega) (deep := true) (sel := selD 0) ha hoa hb hob w1 (fun h => absurd h (by decide)) (fun _ x _ => (j0 x.2).elim) (fun x => (j0 x).elim) l n 0 (p + 1) [] r1 (fun x hx => hx) (by omega) ha.obody (Wr.nil w1.v) (by omega)
    refine ⟨r2, ?_, ?_⟩
    · rw [fA_putBoth, e1, Option.bind_some]
      dsimp only
      rw [i3_one]
      exact e2
    · rw [jc_o]
      have hl : (bw (selD 0) l m).length = l.length + (bn l m).length := by unfold bw; rw [List.length_append, List.length_map]
      rw [hl]
      exact w2
  | succ e ih =>
    intro fu k p q l m r ha hoa hb hob hr hfu hk
    obtain ⟨fu, rfl⟩ : ∃ j, fu = j + 1 := ⟨fu - 1, by omega⟩
    have sza := ha.osz
    have hp := jd_o_pos (l := l)
    have hjd : ∀ z ∈ l, jd (e + 1) z.2 ≤ 59 - k := jd_o_le.mp (by omega)
    obtain ⟨r1, e1, w1⟩ := open_w (n := n) hr
    obtain ⟨r2, e2, w2⟩ := both_loop (rec := fA_putBoth fu n) (o := o) (o' := o') (k := k) (by omega) (deep := true) (sel := selD (e + 1)) ha hoa hb hob w1 (fun h => absurd h (by decide)) (fun _ x hx kx y hy ky => by
      have hj := hjd x hx
      obtain ⟨x1, x⟩ := x
      obtain ⟨z, hz, hzy⟩ := List.mem_map.mp hy
      have hxo := (hoa.1 _ hx).2
      have hyo : jok (e + 1) y := by
        rw [← hzy]
        exact (hob.1 z hz).2
      simp only at kx hj hxo ⊢
      rcases jcases x with ⟨c, rfl⟩ | ⟨c, rfl⟩ | ⟨c, rfl⟩ | ⟨c, rfl⟩ | ⟨l2, rfl⟩
      · rw [jok_k] at hxo
        rw [kd_k] at kx
        omega
      · rw [kd_n] at kx; omega
      · rw [kd_s] at kx; omega
      · rw [kd_a] at kx; omega
      · rcases jcases y with ⟨c, rfl⟩ | ⟨c, rfl⟩ | ⟨c, rfl⟩ | ⟨c, rfl⟩ | ⟨m2, rfl⟩
        · rw [jok_k] at hyo
          rw [kd_k] at ky
          omega
        · rw [kd_n] at ky; omega
        · rw [kd_s] at ky; omega
        · rw [kd_a] at ky; omega
        · have hp2 := jd_o_pos (l := l2)
          refine ⟨by omega, fun r' s' r2 h1 h2 h3 => ?_⟩
          rw [selD_o]
          exact ih fu (k + 1) r' s' l2 m2 r2 h1 hxo h2 hyo h3 (by omega) (by omega)) (fun x y hx hy h => selD_n h hx hy) l n 0 (p + 1) [] r1 (fun x hx => hx) (by omega) ha.obody (Wr.nil w1.v) (by omega)
    refine ⟨r2, ?_, ?_⟩
    · rw [fA_putBoth, e1, Option.bind_some]
      dsimp only
      rw [i3_one]
      exact e2
    · rw [jc_o]
      have hl : (bw (selD (e + 1)) l m).length = l.length + (bn l m).length := by unfold bw; rw [List.length_append, List.length_map]
      rw [hl]
      exact w2
theorem oneBehind_s {s t : Sx} (ha : At f v 0 (strc s)) (hb : At g u 0 (strc t)) (hr : RV r) : ∃ r' : RS, fA_putOneBehindOther n f (i3 v) o g (i3 u) o' r.1 (i3 r.2.1) r.2.2 = some (r'.1, i3 r'.2.1, r'.2.2) ∧ Wr r (strc (s ++ t)) r' := by
  have l1 := ha.le
  have l2 := hb.le
  obtain ⟨r1, e1, w1⟩ := open_w (n := n) hr
  obtain ⟨r2, e2, w2⟩ := putInsideS_w (n := n) (o' := o) w1.v ha
  obtain ⟨r3, e3, w3⟩ := putInsideS_w (n := n) (o' := o') w2.v hb
  obtain ⟨f4, e4, w4⟩ := close_w (n := n) (k := 4) (len := s.length + t.length) w1 (w2.app w3) (by omega) (fun _ => by omega)
  refine ⟨(f4, r3.2.1, r3.2.2), ?_, by rw [strc_lst, List.length_append, List.map_append]; exact w4⟩
  unfold fA_putOneBehindOther
  rw [show (0 : Int32) = i3 0 from rfl, e1, Option.bind_some]
  dsimp only
  rw [e2, Option.bind_some]
  dsimp only
  rw [e3, Option.bind_some, ha.skind, Option.bind_some, ha.slen, Option.bind_some, hb.slen, Option.bind_some, i3_add]
  dsimp only
  rw [e4]
  rfl
theorem oneBehind_a {l m : List (JT e)} (ha : At f v 0 (jc (e + 1) (ja l))) (hoa : jok (e + 1) (ja l)) (hb : At g u 0 (jc (e + 1) (ja m))) (hob : jok (e + 1) (ja m)) (hr : RV r) : ∃ r' : RS, fA_putOneBehindOther n f (i3 v) o g (i3 u) o' r.1 (i3 r.2.1) r.2.2 = some (r'.1, i3 r'.2.1, r'.2.2) ∧ Wr r (jc (e + 1) (ja (l ++ m))) r' := by
  have l1 := ha.asz
  have l2 := hb.asz
  obtain ⟨r1, e1, w1⟩ := open_w (n := n) hr
  obtain ⟨r2, e2, w2⟩ := putInsideA_w (n := n) (o' := o) w1.v ha hoa
  obtain ⟨r3, e3, w3⟩ := putInsideA_w (n := n) (o' := o') w2.v hb hob
  obtain ⟨f4, e4, w4⟩ := close_w (n := n) (k := 5) (len := l.length + m.length) w1 (w2.app w3) (by omega) (fun _ => by omega)
  refine ⟨(f4, r3.2.1, r3.2.2), ?_, by rw [jc_a, List.length_append, List.flatMap_append]; exact w4⟩
  unfold fA_putOneBehindOther
  rw [show (0 : Int32) = i3 0 from rfl, e1, Option.bind_some]
  dsimp only
  rw [e2, Option.bind_some]
  dsimp only
  rw [e3, Option.bind_some, ha.kind hoa, Option.bind_some, ha.alen, Option.bind_some, hb.alen, Option.bind_some, i3_add, kd_a]
  dsimp only
  rw [e4]
  rfl
/-- what was found refused at the start writes nothing -/
theorem OK.refuse {d : Nat} {k : Nat} (hr : RV r) (h1 : 1 ≤ k) (h2 : k ≤ 5) : OK (d := d) r (some (i3 k, r.1, i3 r.2.1, r.2.2)) (.inl k) := OK.ref rfl hr h1 h2
theorem plus_w (hn : 20000 < n) (hfu : 1 ≤ fu) {a b : JT (e + 1)} (ha : At f v 0 (jc (e + 1) a)) (hoa : jok (e + 1) a) (hb : At g u 0 (jc (e + 1) b)) (hob : jok (e + 1) b) (hr : RV r) (hnn : ¬ (kd (e + 1) a = 3 ∧ kd (e + 1) b = 3)) : OK r (fA_plus fu n f (i3 v) o g (i3 u) o' r.1 (i3 r.2.1) r.2.2) (oPlus a b) := by
  have ka := kd_lt8 hoa
  have kb := kd_lt8 hob
  unfold fA_plus
  rw [show (0 : Int32) = i3 0 from rfl]
  by_cases h1 : kd (e + 1) a = 0
  · obtain ⟨r1, e1, w1⟩ := putCopy_w (n := n) (o' := o') hr hb hob
    rw [ha.isT hoa h1, Option.bind_some, if_neg (by decide), Option.bind_some, if_neg (by decide), e1]
    have : oPlus a b = .inr b := if_pos h1
    rw [this]
    exact OK.val rfl w1
  · rw [ha.isF hoa (by omega) h1, Option.bind_some, if_pos (by decide)]
    by_cases h2 : kd (e + 1) b = 0
    · obtain ⟨r1, e1, w1⟩ := putCopy_w (n := n) (o' := o) hr ha hoa
      rw [hb.isT hob h2, Option.bind_some, if_neg (by decide), Option.bind_some, if_pos (by decide), e1]
      have : oPlus a b = .inr a := by unfold oPlus; rw [if_neg h1, if_pos h2]
      rw [this]
      exact OK.val rfl w1
    · rw [hb.isF hob (by omega) h2, Option.bind_some, if_pos (by decide), ha.kind hoa, Option.bind_some, hb.kind hob, Option.bind_some]
      by_cases h3 : kd (e + 1) a = kd (e + 1) b
      · rw [if_pos (by rw [h3]), Option.bind_some]
        rcases rk_same (show rk (e + 1) a = rk (e + 1) b by rw [rk_ok hoa, rk_ok hob, h3]) with ⟨x, y, rfl, rfl, _⟩ | ⟨x, y, rfl, rfl⟩ | ⟨x, y, rfl, rfl⟩ | ⟨x, y, rfl, rfl⟩ | ⟨x, y, rfl, rfl⟩
        · rw [jok_k] at hoa hob
          have : oPlus (jk x : JT (e + 1)) (jk y) = .inl 1 := by unfold oPlus; rw [if_neg h1, if_neg h2]; rfl
          rw [this, kd_k, if_neg (by rw [show (4 : Int32) = i3 4 from rfl, i3_eq (by omega) (by omega)]; omega), if_neg (by rw [show (5 : Int32) = i3 5 from rfl, i3_eq (by omega) (by omega)]; omega), if_neg (by rw [show (6 : Int32) = i3 6 from rfl, i3_eq (by omega) (by omega)]; omega)]
          exact OK.refuse (k := 1) hr (by omega) (by omega)
        · exact absurd ⟨rfl, rfl⟩ hnn
        · obtain ⟨r1, e1, w1⟩ := oneBehind_s (n := n) (o := o) (o' := o') ha hb hr
          rw [kd_s, if_pos (by decide), e1]
          exact OK.val (j := js (x ++ y)) rfl w1
        · obtain ⟨r1, e1, w1⟩ := oneBehind_a (n := n) (o := o) (o' := o') ha hoa hb hob hr
          rw [kd_a, if_neg (by decide), if_pos (by decide), e1]
          exact OK.val (j := ja (x ++ y)) rfl w1
        · obtain ⟨r1, e1, w1⟩ := both_plain (o := o) (o' := o') hn ha hoa hb hob hr hfu
          rw [show i3 0 = (0 : Int32) from rfl] at e1 ⊢
          rw [kd_o, if_neg (by decide), if_neg (by decide), if_pos (by decide), e1]
          exact OK.val (j := jo (bw (fun _ y => y) x y)) rfl w1
      · rw [if_neg (by rw [i3_eq (by omega) (by omega)]; exact h3)]
        have : oPlus a b = .inl 1 := by
          unfold oPlus
          rw [if_neg h1, if_neg h2]
          rcases jcases a with ⟨k, rfl⟩ | ⟨z, rfl⟩ | ⟨s, rfl⟩ | ⟨l, rfl⟩ | ⟨l, rfl⟩ <;> rcases jcases b with ⟨k', rfl⟩ | ⟨z', rfl⟩ | ⟨s', rfl⟩ | ⟨l', rfl⟩ | ⟨l', rfl⟩ <;> first | rfl | exact absurd rfl h3
        rw [this]
        exact OK.refuse (k := 1) hr (by omega) (by omega)
end OPB
