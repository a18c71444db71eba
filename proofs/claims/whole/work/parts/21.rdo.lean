section ZRefv69
section PX3
variable {mx : Nat} {vs : List VR} {cs : List Nat} {ks ws : List NP}
theorem pStr_w {st : xS} {ps : List Nat} {n c : Nat} {s : Sx} (hs : isStr vs cs c s) (hM : MS st vs cs ks ws) (h : PV st mx ps) (hl : ps.length ≤ mx) (hb : mx + 100 ≤ bP) (hn : bP + 1 + s.length < n) : PutO st mx ps 0 0 (fM_putString n st c) (qt s) := by
  unfold fM_putString
  have hle := hs.le
  have hG : ¬ xct st < c := by have := hM.2.2.1.1; omega
  refine PutO.bindG hG (w1 := [34]) (w2 := s.flatMap esc ++ [34]) (K := fun o1 => fM_putString_b n 1 0 c o1.2.2.2 (0 + o1.2.1) (0 + o1.2.2.1)) (put_o (n := n) h hl (c := 34) (by omega) (by omega) (by omega)) (fun cc k st1 p1 l1 f1 => ?_)
  exact putSL hs s.length n 0 st1 (ps ++ [34]) _ _ (by omega) (hM.fr2 f1) p1 l1 hb (by omega)
theorem pn2 {m : Nat} (hm : m < 10000000000000000) {z : Int64} : ∀ (k n : Nat) (st : xS) (ps : List Nat) (wc wn : Nat), k ≤ 15 → bP + k + 2 < n → PV st mx ps → ps.length ≤ mx → ps.length + k + 1 ≤ bP → PutO st mx ps wc wn (fM_putNumber_b n 2 (cW ((10 ^ k : Nat) : Int)) (cW (m : Int)) z st wc wn) (dgs (k + 1) m) := by
  intro k
  induction k with
  | zero =>
    intro n st ps wc wn _ hn h hl hb
    obtain ⟨n, rfl⟩ : ∃ j, n = j + 2 := ⟨n - 2, by omega⟩
    have hq := Nat.div_le_self m (10 ^ 0)
    have hc : ¬ lg_cmp (cW ((10 ^ 0 : Nat) : Int)) 0 ≤ 0 := by
      rw [show (0 : Int64) = cW 0 from rfl, lg_cW (by omega) (by omega) (by omega) (by omega), izs_le0]
      omega
    rw [fM_putNumber_b, if_neg (by decide), if_neg hc, if_neg (by decide), q_div (by omega) (by omega), dig_code (by omega)]
    have hX := PutO.bind (K := fun o2 => fM_putNumber_b (n + 1) 2 (cW ((10 ^ 0 : Nat) : Int) / 10) (cW (m : Int)) z o2.2.2.2 (wc + o2.2.1) (wn + o2.2.2.1)) (wc := wc) (wn := wn) (w1 := [48 + m / 10 ^ 0 % 10]) (w2 := []) (put_o (n := n + 1) h hl (c := 48 + m / 10 ^ 0 % 10) (by omega) (by omega) (by omega)) (fun cc s st1 p1 l1 f1 => by
      dsimp only
      rw [show cW ((10 ^ 0 : Nat) : Int) / 10 = 0 by decide, fM_putNumber_b, if_neg (by decide), if_pos (by decide), xmo_id (PutO.done (wc := wc + cc) (wn := wn + s) p1 l1).ge]
      exact PutO.done p1 l1)
    rw [xmo_id hX.ge]
    exact hX
  | succ k ih =>
    intro n st ps wc wn hk hn h hl hb
    obtain ⟨n, rfl⟩ : ∃ j, n = j + 1 := ⟨n - 1, by omega⟩
    have hq := Nat.div_le_self m (10 ^ (k + 1))
    have h15 := ten_le hk
    have hp := ten_pos (k + 1)
    have hp' := ten_pos k
    have hs : 10 ^ (k + 1) = 10 ^ k * 10 := Nat.pow_succ 10 k
    have hc : ¬ lg_cmp (cW ((10 ^ (k + 1) : Nat) : Int)) 0 ≤ 0 := by
      rw [show (0 : Int64) = cW 0 from rfl, lg_cW (by omega) (by omega) (by omega) (by omega), izs_le0]
      omega
    have hc2 : ¬ cW ((10 ^ (k + 1) : Nat) : Int) = 0 := by
      rw [show (0 : Int64) = cW 0 from rfl, cW_eq (by omega) (by omega) (by omega) (by omega)]
      omega
    have hd : cW ((10 ^ (k + 1) : Nat) : Int) / 10 = cW ((10 ^ k : Nat) : Int) := by
      rw [show (10 : Int64) = cW ((10 : Nat) : Int) from rfl, q_div (by omega) (by omega), hs, Nat.mul_div_cancel _ (by omega)]
    rw [fM_putNumber_b, if_neg (by decide), if_neg hc, if_neg hc2, q_div (by omega) (by omega), dig_code (by omega)]
    have hX := PutO.bind (K := fun o2 => fM_putNumber_b n 2 (cW ((10 ^ (k + 1) : Nat) : Int) / 10) (cW (m : Int)) z o2.2.2.2 (wc + o2.2.1) (wn + o2.2.2.1)) (wc := wc) (wn := wn) (w1 := [48 + m / 10 ^ (k + 1) % 10]) (w2 := dgs (k + 1) m) (put_o (n := n) h hl (c := 48 + m / 10 ^ (k + 1) % 10) (by omega) (by omega) (by omega)) (fun cc s st1 p1 l1 f1 => by
      dsimp only
      rw [hd]
      exact ih n st1 _ _ _ (by omega) (by omega) p1 l1 (by rw [List.length_append]; simp; omega))
    rw [xmo_id hX.ge]
    exact hX
theorem pn1 {m : Nat} (hm : m < 10000000000000000) {z : Int64} : ∀ (f k n : Nat) (st : xS) (ps : List Nat) (wc wn : Nat), k + f = 15 → bP + 40 < n + k → PV st mx ps → ps.length ≤ mx → ps.length + 20 ≤ bP → PutO st mx ps wc wn (fM_putNumber_b n 1 (cW ((10 ^ k : Nat) : Int)) (cW (m : Int)) z st wc wn) (dgs (nlA f (k + 1) m) m) := by
  intro f
  induction f with
  | zero =>
    intro k n st ps wc wn hk hn h hl hb
    obtain rfl : k = 15 := by omega
    obtain ⟨n, rfl⟩ : ∃ j, n = j + 1 := ⟨n - 1, by omega⟩
    have hq := Nat.div_le_self m (10 ^ 15)
    have hc3 : lg_cmp (cW ((m / 10 ^ 15 : Nat) : Int)) 9 ≤ 0 := by
      rw [show (9 : Int64) = cW 9 from rfl, lg_cW (by omega) (by omega) (by omega) (by omega), izs_le0]
      omega
    have hX := pn2 hm (z := z) 15 n st ps wc wn (by omega) (by omega) h hl (by omega)
    rw [fM_putNumber_b, if_pos rfl, if_neg (by decide), q_div (by omega) (by omega), if_pos hc3, xmo_id hX.ge]
    exact hX
  | succ f ih =>
    intro k n st ps wc wn hk hn h hl hb
    obtain ⟨n, rfl⟩ : ∃ j, n = j + 1 := ⟨n - 1, by omega⟩
    have h14 : 10 ^ k ≤ 100000000000000 := Nat.pow_le_pow_right (n := 10) (by omega) (show k ≤ 14 by omega)
    have hp := ten_pos k
    have hs : 10 ^ (k + 1) = 10 ^ k * 10 := Nat.pow_succ 10 k
    have hq := Nat.div_le_self m (10 ^ k)
    have hc2 : ¬ cW ((10 ^ k : Nat) : Int) = 0 := by
      rw [show (0 : Int64) = cW 0 from rfl, cW_eq (by omega) (by omega) (by omega) (by omega)]
      omega
    have hlt : m / 10 ^ k < 10 ↔ m < 10 ^ (k + 1) := by
      rw [Nat.div_lt_iff_lt_mul (by omega), hs, Nat.mul_comm]
    have hc3 : (lg_cmp (cW ((m / 10 ^ k : Nat) : Int)) 9 ≤ 0) = (m < 10 ^ (k + 1)) := by
      rw [← propext hlt]
      generalize m / 10 ^ k = q at hq
      rw [show (9 : Int64) = cW 9 from rfl, lg_cW (by omega) (by omega) (by omega) (by omega), izs_le0]
      exact propext (by omega)
    unfold nlA
    rw [fM_putNumber_b, if_pos rfl, if_neg hc2, q_div (by omega) (by omega)]
    by_cases hh : m < 10 ^ (k + 1)
    · have hX := pn2 hm (z := z) k n st ps wc wn (by omega) (by omega) h hl (by omega)
      rw [if_pos hh, if_pos (by rw [hc3]; exact hh), xmo_id hX.ge]
      exact hX
    · rw [if_neg hh, if_neg (by rw [hc3]; exact hh)]
      have e : cW ((10 ^ k : Nat) : Int) * 10 = cW ((10 ^ (k + 1) : Nat) : Int) := by
        rw [show (10 : Int64) = cW 10 from rfl, cW_mul, hs]
        rfl
      rw [e]
      have hX := ih (k + 1) n st ps wc wn (by omega) (by omega) h hl hb
      rw [xmo_id hX.ge]
      exact hX
theorem pNum_w {st : xS} {ps : List Nat} {n : Nat} {z : Int} (h1 : -9007199254740991 ≤ z) (h2 : z ≤ 9007199254740991) (h : PV st mx ps) (hl : ps.length ≤ mx) (hb : ps.length + 30 ≤ bP) (hn : bP + 40 < n) : PutO st mx ps 0 0 (fM_putNumber n st (cW z)) (nt z) := by
  unfold fM_putNumber nt nl
  have hc : (0 ≤ lg_cmp (cW z) 0) = (0 ≤ z) := by
    rw [show (0 : Int64) = cW 0 from rfl, lg_cW (by omega) (by omega) (by omega) (by omega), izs_ge0, Int.sub_zero]
  by_cases hz : z < 0
  · rw [if_neg (by rw [hc]; omega), if_pos hz]
    refine PutO.bind (K := fun o1 => if 0 ≤ lg_cmp (cW z) 0 then fM_putNumber_b n 1 1 (cW z) (cW z) o1.2.2.2 (0 + o1.2.1) (0 + o1.2.2.1) else fM_putNumber_b n 1 1 (-cW z) (cW z) o1.2.2.2 (0 + o1.2.1) (0 + o1.2.2.1)) (put_o h hl (c := 45) (by omega) (by omega) (by omega)) (fun cc s st1 p1 l1 f1 => ?_)
    dsimp only
    rw [if_neg (by rw [hc]; omega), cW_neg, show -z = (z.natAbs : Int) by omega]
    exact pn1 (m := z.natAbs) (by omega) (z := cW z) 15 0 n st1 _ _ _ (by omega) (by omega) p1 l1 (by rw [List.length_append]; simp; omega)
  · rw [if_pos (by rw [hc]; omega), if_neg hz, if_pos (by rw [hc]; omega), List.nil_append]
    have := pn1 (m := z.natAbs) (by omega) (z := cW z) 15 0 n st ps 0 0 (by omega) (by omega) h hl (by omega)
    rw [show (z.natAbs : Int) = z by omega] at this
    exact this
end PX3
end ZRefv69
section ZRefw70
section PX4
variable {mx : Nat} {vs : List VR} {cs : List Nat} {ks ws : List NP}
theorem PutO.wrap {st : xS} {ps : List Nat} {wc wn : Nat} {X : Option Out4P} {w : List Nat} (h : PutO st mx ps wc wn X w) : PutO st mx ps wc wn (xmo (fun a => a.2.1) (fun a => a.2.2.1) wc wn X) w := by
  rw [xmo_id h.ge]; exact h
theorem PutO.tail {st : xS} {ps : List Nat} {wc wn : Nat} {out1 : Option Out4P} {w : List Nat} (h1 : PutO st mx ps 0 0 out1 w) : PutO st mx ps wc wn (out1.bind fun o => (if o.1 = 0 then xmo (fun a => a.2.1) (fun a => a.2.2.1) (wc + o.2.1) (wn + o.2.2.1) (some (0, (wc + o.2.1), (wn + o.2.2.1), o.2.2.2)) else (if o.1 = 1 then xmo (fun a => a.2.1) (fun a => a.2.2.1) (wc + o.2.1) (wn + o.2.2.1) (some (1, (wc + o.2.1), (wn + o.2.2.1), o.2.2.2)) else none))) w := by
  have := PutO.bind (K := fun o => some (0, (wc + o.2.1), (wn + o.2.2.1), o.2.2.2)) (wc := wc) (wn := wn) (w2 := []) h1 (fun cc s st1 p1 l1 f1 => PutO.done p1 l1)
  rw [List.append_nil] at this
  exact this
theorem len_fm {α β : Type} (l : List α) {f : α → List β} (h : ∀ x ∈ l, 1 ≤ (f x).length) : l.length ≤ (l.flatMap f).length := by
  induction l with
  | nil => exact Nat.le_refl _
  | cons x l ih =>
    rw [List.flatMap_cons, List.length_append, List.length_cons]
    have h1 := h x (List.mem_cons_self)
    have h2 := ih (fun y hy => h y (List.mem_cons_of_mem _ hy))
    omega
theorem len_a {d : Nat} (l : List (JT d)) : l.length + 1 ≤ (jc (d + 1) (ja l)).length := by
  rw [jc_a]; unfold lst; rw [List.length_cons]; exact Nat.succ_le_succ (len_fm l (fun x _ => jc_pos d x))
theorem len_o {d : Nat} (l : List (Sx × JT d)) : l.length + 1 ≤ (jc (d + 1) (jo l)).length := by
  rw [jc_o]; unfold lst; rw [List.length_cons]; exact Nat.succ_le_succ (len_fm l (fun x _ => by rw [List.length_append]; have := jc_pos d x.2; omega))
def RecP (mx : Nat) (vs : List VR) (cs : List Nat) (ks ws : List NP) {d : Nat} (rec : xS → Nat → Option Out4P) : Prop := ∀ (st : xS) (ps : List Nat) (j : JT d) (c : Nat), Rep vs cs ks d j c → jok d j → MS st vs cs ks ws → PV st mx ps → ps.length ≤ mx → PutO st mx ps 0 0 (rec st c) (jt d j)
theorem pbA {d c : Nat} {rec : xS → Nat → Option Out4P} (hrec : RecP mx vs cs ks ws (d := d) rec) {l : List (JT d)} (hc : Rep vs cs ks (d + 1) (ja l) c) (hok : ∀ x ∈ l, jok d x) (hb : mx + 100 ≤ bP) : ∀ (q i n : Nat) (st : xS) (ps : List Nat) (wc wn : Nat), i + q = l.length → bP + q + 2 < n → MS st vs cs ks ws → PV st mx ps → ps.length ≤ mx → PutO st mx ps wc wn (fM_print1_b rec n 1 (i3 i) c st wc wn) ((if i = 0 then cj ((l.drop i).map (jt d)) else ((l.drop i).map (jt d)).flatMap (fun y => 44 :: y)) ++ [93]) := by
  obtain ⟨h1, v, hv, _, _, _, hw6, hk5, hsz, hkid⟩ := hc
  have hll : l.length ≤ 60000 := by have := len_a l; omega
  have hbk : bK = 32000 := rfl
  have hbp : bP = 200000 := rfl
  intro q
  induction q with
  | zero =>
    intro i n st ps wc wn hi hn hM h hl
    obtain ⟨n, rfl⟩ : ∃ j, n = j + 1 := ⟨n - 1, by omega⟩
    obtain ⟨g1, g2, _⟩ := hM.vc h1 hv
    rw [fM_print1_b, if_neg g1, g2.2.2.1, hsz, if_pos (by rw [i3_le (by omega) (by omega)]; omega), g2.1, hk5, if_pos (by decide), List.drop_eq_nil_of_le (by omega)]
    have : ((if i = 0 then cj (([] : List (JT d)).map (jt d)) else (([] : List (JT d)).map (jt d)).flatMap (fun y => 44 :: y)) ++ [93]) = [93] := by
      split <;> rfl
    rw [this]
    exact PutO.wrap (PutO.tail (put_o (n := n) h hl (c := 93) (by omega) (by omega) (by omega)))
  | succ q ih =>
    intro i n st ps wc wn hi hn hM h hl
    obtain ⟨n, rfl⟩ : ∃ j, n = j + 1 := ⟨n - 1, by omega⟩
    obtain ⟨g1, g2, _⟩ := hM.vc h1 hv
    obtain ⟨p, hp, hrp⟩ := hkid i l[i] (List.getElem?_eq_getElem (by omega))
    rw [fM_print1_b, if_neg g1, g2.2.2.1, hsz, if_neg (by rw [i3_le (by omega) (by omega)]; omega), List.drop_eq_getElem_cons (show i < l.length by omega), List.map_cons]
    refine PutO.wrap ?_
    have ih' := fun st1 ps1 wc1 wn1 => ih (i + 1) n st1 ps1 wc1 wn1 (by omega) (by omega)
    rw [if_neg (by omega)] at ih'
    by_cases h0 : i = 0
    · subst h0
      rw [if_pos (by decide), if_pos rfl, g2.1, hk5, if_neg (by decide), (kid_w hM h1 hv hp).1, Option.bind_some]
      unfold cj
      rw [List.append_assoc]
      refine PutO.bind (K := fun o5 => fM_print1_b rec n 1 (i3 0 + 1) c o5.2.2.2 (wc + o5.2.1) (wn + o5.2.2.1)) (hrec st ps _ _ hrp (hok _ (List.getElem_mem _)) hM h hl) (fun cc s st1 p1 l1 f1 => ?_)
      rw [i3_one]
      exact ih' st1 _ _ _ (hM.fr2 f1) p1 l1
    · rw [if_neg (by rw [show (0 : Int32) = i3 0 from rfl, i3_le (by omega) (by omega)]; omega), if_neg h0, List.flatMap_cons, List.append_assoc]
      refine PutO.bind (w1 := [44]) (w2 := jt d l[i] ++ (((l.drop (i + 1)).map (jt d)).flatMap (fun y => 44 :: y) ++ [93])) (put_o (n := n) h hl (c := 44) (by omega) (by omega) (by omega)) (fun cc s st1 p1 l1 f1 => ?_)
      have hM1 := hM.fr2 f1
      obtain ⟨k1, k2, _⟩ := hM1.vc h1 hv
      dsimp only
      rw [if_neg k1, k2.1, hk5, if_neg (by decide), (kid_w hM1 h1 hv hp).1, Option.bind_some]
      refine PutO.bind (K := fun o17 => fM_print1_b rec n 1 (i3 i + 1) c o17.2.2.2 ((wc + cc) + o17.2.1) ((wn + s) + o17.2.2.1)) (hrec st1 _ _ _ hrp (hok _ (List.getElem_mem _)) hM1 p1 l1) (fun cc s st2 p2 l2 f2 => ?_)
      rw [i3_one]
      exact ih' st2 _ _ _ (hM1.fr2 f2) p2 l2
theorem pbO {d c : Nat} {rec : xS → Nat → Option Out4P} (hrec : RecP mx vs cs ks ws (d := d) rec) {l : List (Sx × JT d)} (hc : Rep vs cs ks (d + 1) (jo l) c) (hok : ∀ x ∈ l, jok d x.2) (hb : mx + 100 ≤ bP) : ∀ (q i n : Nat) (st : xS) (ps : List Nat) (wc wn : Nat), i + q = l.length → 300000 + q < n → MS st vs cs ks ws → PV st mx ps → ps.length ≤ mx → PutO st mx ps wc wn (fM_print1_b rec n 1 (i3 i) c st wc wn) ((if i = 0 then cj ((l.drop i).map (fun p => qt p.1 ++ 58 :: jt d p.2)) else ((l.drop i).map (fun p => qt p.1 ++ 58 :: jt d p.2)).flatMap (fun y => 44 :: y)) ++ [125]) := by
  obtain ⟨h1, v, hv, _, _, _, hw6, hk6, hsz, hkid⟩ := hc
  have hll : l.length ≤ 60000 := by have := len_o l; omega
  have hnm : ∀ x ∈ l, x.1.length ≤ 60000 := fun x hx => by
    have h2 : (strc x.1 ++ jc d x.2).length ≤ (l.flatMap (fun p => strc p.1 ++ jc d p.2)).length := by
      obtain ⟨a, b, rfl⟩ := List.append_of_mem hx
      simp
      omega
    rw [jc_o] at hw6
    unfold lst at hw6
    rw [List.length_cons] at hw6
    rw [List.length_append] at h2
    have h3 : (strc x.1).length = x.1.length + 1 := by unfold strc; simp
    omega
  have hbk : bK = 32000 := rfl
  have hbp : bP = 200000 := rfl
  intro q
  induction q with
  | zero =>
    intro i n st ps wc wn hi hn hM h hl
    obtain ⟨n, rfl⟩ : ∃ j, n = j + 1 := ⟨n - 1, by omega⟩
    obtain ⟨g1, g2, _⟩ := hM.vc h1 hv
    rw [fM_print1_b, if_neg g1, g2.2.2.1, hsz, if_pos (by rw [i3_le (by omega) (by omega)]; omega), g2.1, hk6, if_neg (by decide), List.drop_eq_nil_of_le (by omega)]
    have : ((if i = 0 then cj (([] : List (Sx × JT d)).map (fun p => qt p.1 ++ 58 :: jt d p.2)) else (([] : List (Sx × JT d)).map (fun p => qt p.1 ++ 58 :: jt d p.2)).flatMap (fun y => 44 :: y)) ++ [125]) = [125] := by
      split <;> rfl
    rw [this]
    exact PutO.wrap (PutO.tail (put_o (n := n) h hl (c := 125) (by omega) (by omega) (by omega)))
  | succ q ih =>
    intro i n st ps wc wn hi hn hM h hl
    obtain ⟨n, rfl⟩ : ∃ j, n = j + 1 := ⟨n - 1, by omega⟩
    obtain ⟨g1, g2, _⟩ := hM.vc h1 hv
    have hmem : l[i] ∈ l := List.getElem_mem _
    have hnl := hnm _ hmem
    obtain ⟨p, hp, hrp, hsp⟩ := hkid i l[i] (List.getElem?_eq_getElem (by omega))
    rw [fM_print1_b, if_neg g1, g2.2.2.1, hsz, if_neg (by rw [i3_le (by omega) (by omega)]; omega), List.drop_eq_getElem_cons (show i < l.length by omega), List.map_cons]
    refine PutO.wrap ?_
    have ih' := fun st1 ps1 wc1 wn1 => ih (i + 1) n st1 ps1 wc1 wn1 (by omega) (by omega)
    rw [if_neg (by omega)] at ih'
    have hG : ∀ st1, MS st1 vs cs ks ws → ¬ xct st1 < c := fun st1 m => by
      have := m.2.2.1.1
      have := (m.vc h1 hv).2.2
      omega
    by_cases h0 : i = 0
    · subst h0
      rw [if_pos (by decide), if_pos rfl, g2.1, hk6, if_pos (by decide), (kid_w hM h1 hv hp).2, Option.bind_some]
      unfold cj
      rw [List.append_assoc, List.append_assoc]
      refine PutO.bind (pStr_w hsp hM h hl hb (by omega)) (fun cc s st1 p1 l1 f1 => ?_)
      have hM1 := hM.fr2 f1
      refine PutO.bindG (hG st1 hM1) (w1 := [58]) (w2 := jt d l[0].2 ++ (((l.drop (0 + 1)).map (fun p => qt p.1 ++ 58 :: jt d p.2)).flatMap (fun y => 44 :: y) ++ [125])) (put_o (n := n) p1 l1 (c := 58) (by omega) (by omega) (by omega)) (fun cc s st2 p2 l2 f2 => ?_)
      have hM2 := hM1.fr2 f2
      dsimp only
      rw [(kid_w hM2 h1 hv hp).1, Option.bind_some]
      refine PutO.bindG (hG st2 hM2) (hrec st2 _ _ _ hrp (hok _ hmem) hM2 p2 l2) (fun cc s st3 p3 l3 f3 => ?_)
      rw [i3_one]
      exact ih' st3 _ _ _ (hM2.fr2 f3) p3 l3
    · rw [if_neg (by rw [show (0 : Int32) = i3 0 from rfl, i3_le (by omega) (by omega)]; omega), if_neg h0, List.flatMap_cons, List.append_assoc]
      refine PutO.bind (w1 := [44]) (w2 := (qt l[i].1 ++ 58 :: jt d l[i].2) ++ (((l.drop (i + 1)).map (fun p => qt p.1 ++ 58 :: jt d p.2)).flatMap (fun y => 44 :: y) ++ [125])) (put_o (n := n) h hl (c := 44) (by omega) (by omega) (by omega)) (fun cc s st1 p1 l1 f1 => ?_)
      have hM1 := hM.fr2 f1
      obtain ⟨k1, k2, _⟩ := hM1.vc h1 hv
      dsimp only
      rw [if_neg k1, k2.1, hk6, if_pos (by decide), (kid_w hM1 h1 hv hp).2, Option.bind_some, List.append_assoc]
      refine PutO.bind (pStr_w hsp hM1 p1 l1 hb (by omega)) (fun cc s st2 p2 l2 f2 => ?_)
      have hM2 := hM1.fr2 f2
      refine PutO.bindG (hG st2 hM2) (w1 := [58]) (w2 := jt d l[i].2 ++ (((l.drop (i + 1)).map (fun p => qt p.1 ++ 58 :: jt d p.2)).flatMap (fun y => 44 :: y) ++ [125])) (put_o (n := n) p2 l2 (c := 58) (by omega) (by omega) (by omega)) (fun cc s st3 p3 l3 f3 => ?_)
      have hM3 := hM2.fr2 f3
      dsimp only
      rw [(kid_w hM3 h1 hv hp).1, Option.bind_some]
      refine PutO.bindG (hG st3 hM3) (hrec st3 _ _ _ hrp (hok _ hmem) hM3 p3 l3) (fun cc s st4 p4 l4 f4 => ?_)
      rw [i3_one]
      exact ih' st4 _ _ _ (hM3.fr2 f4) p4 l4
theorem jd_s1 {d : Nat} {j : JT (d + 1)} (h : jd (d + 1) j ≤ 0) : (∃ k, j = jk k) ∨ (∃ z, j = jn z) ∨ (∃ s, j = js s) := by
  rcases jcases j with ⟨k, rfl⟩ | ⟨z, rfl⟩ | ⟨s, rfl⟩ | ⟨l, rfl⟩ | ⟨l, rfl⟩
  · exact Or.inl ⟨k, rfl⟩
  · exact Or.inr (Or.inl ⟨z, rfl⟩)
  · exact Or.inr (Or.inr ⟨s, rfl⟩)
  · have := jd_a_pos (l := l); omega
  · have := jd_o_pos (l := l); omega
theorem isStr_rep {d c : Nat} {s : Sx} (h : Rep vs cs ks (d + 1) (js s) c) : isStr vs cs c s := by
  obtain ⟨h1, v, hv, a1, a2, a3, a4, a5, a6, a7⟩ := h
  exact ⟨h1, v, hv, a5, a6, a1, by rw [a2, jc_s]; unfold strc; simp, a7⟩
theorem pScal {d fu n c : Nat} {j : JT (d + 1)} {st : xS} {ps : List Nat} (hj : (∃ k, j = jk k) ∨ (∃ z, j = jn z)) (hR : Rep vs cs ks (d + 1) j c) (hok : jok (d + 1) j) (hM : MS st vs cs ks ws) (h : PV st mx ps) (hl : ps.length ≤ mx) (hb : ps.length + 30 ≤ bP) (hn : bP + 40 < n) : PutO st mx ps 0 0 (fM_print1 (fu + 1) n st c) (jt (d + 1) j) := by
  rcases hj with ⟨k, rfl⟩ | ⟨z, rfl⟩
  · obtain ⟨h1, v, hv, _, _, _, _, hk⟩ := hR
    obtain ⟨g1, g2, _⟩ := hM.vc h1 hv
    have hk' : v.1 = k := hk
    have hk3 : k < 3 := hok
    rw [fM_print1, if_neg g1, g2.1, hk', jt_k]
    obtain rfl | rfl | rfl : k = 0 ∨ k = 1 ∨ k = 2 := by omega
    · rw [if_pos (by decide)]
      exact PutO.tail (put1_w h hl (by omega) (by omega))
    · rw [if_neg (by decide), if_pos (by decide)]
      exact PutO.tail (put1a_w h hl (by omega) (by omega))
    · rw [if_neg (by decide), if_neg (by decide), if_pos (by decide)]
      exact PutO.tail (put1b_w h hl (by omega) (by omega))
  · obtain ⟨h1, v, hv, _, _, _, _, hk, hz⟩ := hR
    obtain ⟨g1, g2, _⟩ := hM.vc h1 hv
    rw [fM_print1, if_neg g1, g2.1, hk, jt_n, if_neg (by decide), if_neg (by decide), if_neg (by decide), if_pos (by decide), g2.2.2.2.2.2, hz]
    exact PutO.tail (pNum_w hok.1 hok.2 h hl (by omega) (by omega))
theorem print_w (hb : mx + 100 ≤ bP) {n : Nat} (hn : 1000000 < n) : ∀ (d fu : Nat), d ≤ fu → RecP mx vs cs ks ws (d := d) (fM_print1 fu n) := by
  have hbp : bP = 200000 := rfl
  intro d
  induction d with
  | zero => intro fu _ st ps j; exact (j0 j).elim
  | succ d ih =>
    intro fu hfu st ps j c hR hok hM h hl
    obtain ⟨fu, rfl⟩ : ∃ f, fu = f + 1 := ⟨fu - 1, by omega⟩
    rcases jcases j with ⟨k, rfl⟩ | ⟨z, rfl⟩ | ⟨s, rfl⟩ | ⟨l, rfl⟩ | ⟨l, rfl⟩
    · exact pScal (Or.inl ⟨k, rfl⟩) hR hok hM h hl (by omega) (by omega)
    · exact pScal (Or.inr ⟨z, rfl⟩) hR hok hM h hl (by omega) (by omega)
    · have hs := isStr_rep hR
      obtain ⟨h1, v, hv, _, _, _, hw6, hk, _⟩ := hR
      obtain ⟨g1, g2, _⟩ := hM.vc h1 hv
      have hsl : s.length ≤ 60000 := by rw [jc_s] at hw6; unfold strc at hw6; simp at hw6; omega
      rw [fM_print1, if_neg g1, g2.1, hk, jt_s, if_neg (by decide), if_neg (by decide), if_neg (by decide), if_neg (by decide), if_pos (by decide)]
      exact PutO.tail (pStr_w hs hM h hl hb (by omega))
    · have hR' := hR
      obtain ⟨h1, v, hv, _, _, _, hw6, hk, _⟩ := hR
      obtain ⟨g1, g2, _⟩ := hM.vc h1 hv
      have hll := len_a l
      rw [fM_print1, if_neg g1, g2.1, hk, jt_a, if_neg (by decide), if_neg (by decide), if_neg (by decide), if_neg (by decide), if_neg (by decide), if_pos (by decide)]
      refine PutO.bind (w1 := [91]) (w2 := cj (l.map (jt d)) ++ [93]) (put_o (n := n) h hl (c := 91) (by omega) (by omega) (by omega)) (fun cc s st1 p1 l1 f1 => ?_)
      exact pbA (ih fu (by omega)) hR' hok hb l.length 0 n st1 _ _ _ (by omega) (by omega) (hM.fr2 f1) p1 l1
    · have hR' := hR
      obtain ⟨h1, v, hv, _, _, _, hw6, hk, _⟩ := hR
      obtain ⟨g1, g2, _⟩ := hM.vc h1 hv
      have hll := len_o l
      rw [fM_print1, if_neg g1, g2.1, hk, jt_o, if_neg (by decide), if_neg (by decide), if_neg (by decide), if_neg (by decide), if_neg (by decide), if_neg (by decide)]
      refine PutO.bind (w1 := [123]) (w2 := cj (l.map (fun p => qt p.1 ++ 58 :: jt d p.2)) ++ [125]) (put_o (n := n) h hl (c := 123) (by omega) (by omega) (by omega)) (fun cc s st1 p1 l1 f1 => ?_)
      exact pbO (ih fu (by omega)) hR' (fun x hx => (hok.1 x hx).2) hb l.length 0 n st1 _ _ _ (by omega) (by omega) (hM.fr2 f1) p1 l1
end PX4
end ZRefw70
section ZRda71
section RDA
variable {st : xS} {vs : List VR} {cs : List Nat} {ks ws : List NP} {d n : Nat}
theorem Rep.g (hM : MS st vs cs ks ws) {j : JT (d + 1)} {c : Nat} (h : Rep vs cs ks (d + 1) j c) : ¬ (c = 0 ∨ xct st < c) ∧ ¬ xct st < c ∧ xpi st 0 (c - 1) = i3 (kd (d + 1) j) ∧ c ≤ vs.length := by
  obtain ⟨h1, v, hv, _, _, _, _, hb⟩ := h
  obtain ⟨g1, g2, g3⟩ := hM.vc h1 hv
  refine ⟨g1, fun hh => g1 (Or.inr hh), ?_, g3⟩
  rw [g2.1]
  congr 1
  rcases jcases j with ⟨k, rfl⟩ | ⟨z, rfl⟩ | ⟨s, rfl⟩ | ⟨l, rfl⟩ | ⟨l, rfl⟩
  · exact hb
  · exact hb.1
  · exact hb.1
  · exact hb.1
  · exact hb.1
theorem Rep.num (hM : MS st vs cs ks ws) {z : Int} {c : Nat} (h : Rep vs cs ks (d + 1) (jn z) c) : xpl st (c - 1) = cW z := by
  obtain ⟨h1, v, hv, _, _, _, _, _, hz⟩ := h
  obtain ⟨_, g2, _⟩ := hM.vc h1 hv
  rw [g2.2.2.2.2.2, hz]
theorem Rep.szs (hM : MS st vs cs ks ws) {s : Sx} {c : Nat} (h : Rep vs cs ks (d + 1) (js s) c) : xpi st 3 (c - 1) = i3 s.length ∧ s.length ≤ 59999 := by
  obtain ⟨h1, v, hv, _, _, _, hw, _, hz, _⟩ := h
  obtain ⟨_, g2, _⟩ := hM.vc h1 hv
  rw [jc_s] at hw
  unfold strc at hw
  rw [List.length_cons, List.length_map] at hw
  exact ⟨by rw [g2.2.2.1, hz], by omega⟩
theorem Rep.sza (hM : MS st vs cs ks ws) {l : List (JT d)} {c : Nat} (h : Rep vs cs ks (d + 1) (ja l) c) : xpi st 3 (c - 1) = i3 l.length ∧ l.length ≤ 59999 := by
  obtain ⟨h1, v, hv, _, _, _, hw, _, hz, _⟩ := h
  obtain ⟨_, g2, _⟩ := hM.vc h1 hv
  have := len_a l
  exact ⟨by rw [g2.2.2.1, hz], by omega⟩
theorem Rep.szo (hM : MS st vs cs ks ws) {l : List (Sx × JT d)} {c : Nat} (h : Rep vs cs ks (d + 1) (jo l) c) : xpi st 3 (c - 1) = i3 l.length ∧ l.length ≤ 59999 := by
  obtain ⟨h1, v, hv, _, _, _, hw, _, hz, _⟩ := h
  obtain ⟨_, g2, _⟩ := hM.vc h1 hv
  have := len_o l
  exact ⟨by rw [g2.2.2.1, hz], by omega⟩
theorem Rep.kid (hM : MS st vs cs ks ws) {l : List (JT d)} {c i : Nat} {x : JT d} (h : Rep vs cs ks (d + 1) (ja l) c) (hi : l[i]? = some x) : ∃ k, fM_kid n st c (i3 i) = some k ∧ Rep vs cs ks d x k := by
  obtain ⟨h1, v, hv, _, _, _, _, _, _, hk⟩ := h
  obtain ⟨p, hp, hr⟩ := hk i x hi
  exact ⟨p.1, (kid_w hM h1 hv hp).1, hr⟩
theorem Rep.okid (hM : MS st vs cs ks ws) {l : List (Sx × JT d)} {c i : Nat} {x : Sx × JT d} (h : Rep vs cs ks (d + 1) (jo l) c) (hi : l[i]? = some x) : ∃ k m, fM_kid n st c (i3 i) = some k ∧ fM_name n st c (i3 i) = some m ∧ Rep vs cs ks d x.2 k ∧ isStr vs cs m x.1 ∧ x.1.length ≤ 59999 := by
  obtain ⟨h1, v, hv, _, _, _, hw6, _, _, hk⟩ := h
  obtain ⟨p, hp, hr, hs⟩ := hk i x hi
  refine ⟨p.1, p.2, (kid_w hM h1 hv hp).1, (kid_w hM h1 hv hp).2, hr, hs, ?_⟩
  have hx := List.mem_of_getElem? hi
  have h2 : (strc x.1 ++ jc d x.2).length ≤ (l.flatMap (fun p => strc p.1 ++ jc d p.2)).length := by
    obtain ⟨a, b, rfl⟩ := List.append_of_mem hx
    simp
    omega
  rw [jc_o] at hw6
  unfold lst at hw6
  rw [List.length_cons] at hw6
  rw [List.length_append] at h2
  have h3 : (strc x.1).length = x.1.length + 1 := by unfold strc; simp
  omega
theorem lu_split {α : Type} {s : Sx} : ∀ (l : List (Sx × α)), (lu s l = none → s ∉ l.map (fun p => p.1)) ∧ (∀ y, lu s l = some y → ∃ i : Nat, l[i]? = some (s, y))
  | [] => ⟨fun _ => by simp, fun y h => by cases h⟩
  | p :: l => by
    unfold lu
    by_cases h : p.1 = s
    · rw [if_pos h]
      refine ⟨fun hh => (by cases hh), fun y hy => ⟨0, ?_⟩⟩
      injection hy with hy
      rw [← hy, ← h]
      rfl
    · rw [if_neg h]
      obtain ⟨a, b⟩ := lu_split l
      refine ⟨fun hh => ?_, fun y hy => ?_⟩
      · rw [List.map_cons, List.mem_cons]
        exact fun h2 => h2.elim (fun e => h e.symm) (a hh)
      · obtain ⟨i, hi⟩ := b y hy
        exact ⟨i + 1, hi⟩
theorem placeL (hM : MS st vs cs ks ws) {l : List (Sx × JT d)} {c m : Nat} {s : Sx} (h : Rep vs cs ks (d + 1) (jo l) c) (hs : isStr vs cs m s) (hsl : s.length ≤ 59999) : ∀ (q n i : Nat), i + q = l.length → 1000002 + q < n → (lu s (l.drop i) = none → fM_place_b st n 1 (i3 i) c m = some (-1)) ∧ (∀ y, lu s (l.drop i) = some y → ∃ j, i ≤ j ∧ l[j]? = some (s, y) ∧ fM_place_b st n 1 (i3 i) c m = some (i3 j)) := by
  obtain ⟨hsz, hll⟩ := h.szo hM
  obtain ⟨g1, _, _, _⟩ := h.g hM
  intro q
  induction q with
  | zero =>
    intro n i hi hn
    obtain ⟨n, rfl⟩ : ∃ j, n = j + 1 := ⟨n - 1, by omega⟩
    rw [List.drop_eq_nil_of_le (by omega), fM_place_b, if_neg g1, hsz, if_pos (by rw [i3_le (by omega) (by omega)]; omega)]
    exact ⟨fun _ => rfl, fun y hy => by cases hy⟩
  | succ q ih =>
    intro n i hi hn
    obtain ⟨n, rfl⟩ : ∃ j, n = j + 1 := ⟨n - 1, by omega⟩
    obtain ⟨k, m', _, e2, _, hs', hl'⟩ := h.okid (n := n) hM (List.getElem?_eq_getElem (show i < l.length by omega))
    rw [List.drop_eq_getElem_cons (show i < l.length by omega), fM_place_b, if_neg g1, hsz, if_neg (by rw [i3_le (by omega) (by omega)]; omega), e2, Option.bind_some, sameTextM hM hs' hs (by omega) (by omega) (by omega), Option.bind_some]
    unfold lu
    by_cases e : l[i].1 = s
    · rw [if_pos e, if_pos e, if_neg (by decide)]
      refine ⟨fun hh => (by cases hh), fun y hy => ⟨i, Nat.le_refl _, ?_, rfl⟩⟩
      injection hy with hy
      rw [List.getElem?_eq_getElem (by omega), ← hy, ← e]
    · rw [if_neg e, if_neg e, if_pos rfl, i3_one]
      obtain ⟨a, b⟩ := ih n (i + 1) (by omega) (by omega)
      exact ⟨a, fun y hy => by obtain ⟨j, h1, h2, h3⟩ := b y hy; exact ⟨j, by omega, h2, h3⟩⟩
theorem placeM (hM : MS st vs cs ks ws) {l : List (Sx × JT d)} {c m : Nat} {s : Sx} (h : Rep vs cs ks (d + 1) (jo l) c) (hs : isStr vs cs m s) (hsl : s.length ≤ 59999) (hn : 2000000 < n) : (lu s l = none → fM_place n st c m = some (-1)) ∧ (∀ y, lu s l = some y → ∃ (j k : Nat), j < l.length ∧ l[j]? = some (s, y) ∧ fM_place n st c m = some (i3 j) ∧ fM_kid n st c (i3 j) = some k ∧ Rep vs cs ks d y k) := by
  have hll := (h.szo hM).2
  obtain ⟨a, b⟩ := placeL hM h hs hsl l.length n 0 (by omega) (by omega)
  refine ⟨a, fun y hy => ?_⟩
  obtain ⟨j, _, h2, h3⟩ := b y hy
  obtain ⟨k, m', e1, _, e3, _⟩ := h.okid (n := n) hM h2
  exact ⟨j, k, (List.getElem?_eq_some_iff.mp h2).1, h2, h3, e1, e3⟩
end RDA
end ZRda71
section ZRdb72
section RDB
theorem srtU {α β : Type} : ∀ (a : List (Sx × α)) (b : List (Sx × β)), a.Pairwise (fun x y => cS x.1 y.1 < 0) → b.Pairwise (fun x y => cS x.1 y.1 < 0) → (∀ s, s ∈ a.map (fun p => p.1) ↔ s ∈ b.map (fun p => p.1)) → a.map (fun p => p.1) = b.map (fun p => p.1)
  | [], [], _, _, _ => rfl
  | [], y :: b, _, _, h => by have := (h y.1).mpr (by simp); simp at this
  | x :: a, [], _, _, h => by have := (h x.1).mp (by simp); simp at this
  | x :: a, y :: b, ha, hb, h => by
    rw [List.pairwise_cons] at ha hb
    have hirr : ∀ s : Sx, ¬ cS s s < 0 := fun s hh => by rw [cS_good.refl] at hh; omega
    have hne : x.1 = y.1 := by
      have h1 := (h x.1).mp (by simp)
      have h2 := (h y.1).mpr (by simp)
      rw [List.map_cons, List.mem_cons] at h1 h2
      rcases h1 with h1 | h1
      · exact h1
      · rcases h2 with h2 | h2
        · exact h2.symm
        · obtain ⟨p, hp, e1⟩ := List.mem_map.mp h1
          obtain ⟨q, hq, e2⟩ := List.mem_map.mp h2
          have k1 := hb.1 p hp
          have k2 := ha.1 q hq
          rw [e1] at k1
          rw [e2] at k2
          have k3 := cS_good.1 y.1 x.1
          exact absurd k1 (by omega)
    rw [List.map_cons, List.map_cons, hne]
    congr 1
    refine srtU a b ha.2 hb.2 (fun s => ⟨fun hs => ?_, fun hs => ?_⟩)
    · have h1 := (h s).mp (by rw [List.map_cons]; exact List.mem_cons_of_mem _ hs)
      rw [List.map_cons, List.mem_cons] at h1
      rcases h1 with h1 | h1
      · obtain ⟨p, hp, e1⟩ := List.mem_map.mp hs
        have k1 := ha.1 p hp
        rw [e1, h1, hne] at k1
        exact absurd k1 (hirr _)
      · exact h1
    · have h1 := (h s).mpr (by rw [List.map_cons]; exact List.mem_cons_of_mem _ hs)
      rw [List.map_cons, List.mem_cons] at h1
      rcases h1 with h1 | h1
      · obtain ⟨p, hp, e1⟩ := List.mem_map.mp hs
        have k1 := hb.1 p hp
        rw [e1, h1, hne] at k1
        exact absurd k1 (hirr _)
      · exact h1
theorem lu_in {α : Type} {l : List (Sx × α)} (h : (l.map (fun p => p.1)).Nodup) {s : Sx} {y : α} (hm : (s, y) ∈ l) : lu s l = some y := by
  cases e : lu s l with
  | none => exact absurd (List.mem_map.mpr ⟨(s, y), hm, rfl⟩) ((lu_split l).1 e)
  | some z =>
    obtain ⟨i, hi⟩ := (lu_split l).2 z e
    have := mem_name h (List.mem_of_getElem? hi) hm rfl
    injection this with _ h2
    rw [h2]
theorem nd_len : ∀ (a b : List Sx), a.Nodup → (∀ x ∈ a, x ∈ b) → a.length ≤ b.length
  | [], b, _, _ => Nat.zero_le _
  | x :: a, b, h, hs => by
    rw [List.nodup_cons] at h
    have hx := hs x List.mem_cons_self
    have h1 := nd_len a (b.erase x) h.2 (fun y hy => (List.mem_erase_of_ne (fun (e : y = x) => h.1 (by rw [← e]; exact hy))).mpr (hs y (List.mem_cons_of_mem _ hy)))
    rw [List.length_erase_of_mem hx] at h1
    have := List.length_pos_of_mem hx
    rw [List.length_cons]
    omega
theorem sub_eq {α β : Type} {l : List (Sx × α)} {m : List (Sx × β)} (hl : (l.map (fun p => p.1)).Nodup) (hlen : m.length ≤ l.length) (hsub : ∀ s ∈ l.map (fun p => p.1), s ∈ m.map (fun p => p.1)) : ∀ s ∈ m.map (fun p => p.1), s ∈ l.map (fun p => p.1) := by
  intro s hs
  apply Classical.byContradiction
  intro hn
  have h1 : (s :: l.map (fun p => p.1)).Nodup := List.nodup_cons.mpr ⟨hn, hl⟩
  have h2 : ∀ t ∈ s :: l.map (fun p => p.1), t ∈ m.map (fun p => p.1) := fun t ht => by
    rcases List.mem_cons.mp ht with rfl | ht
    · exact hs
    · exact hsub t ht
  have h3 := nd_len _ _ h1 h2
  rw [List.length_cons, List.length_map, List.length_map] at h3
  omega
theorem obj0 {α : Type} {c : α → α → Int} {l m : List (Sx × α)} (hl : (l.map (fun p => p.1)).Nodup) (hm : (m.map (fun p => p.1)).Nodup) : objC c l m = 0 ↔ l.length = m.length ∧ l.all (fun p => luB m p.1 (fun y => decide (c p.2 y = 0))) = true := by
  obtain ⟨l1, l2, l3⟩ := srt_spec hl
  obtain ⟨m1, m2, m3⟩ := srt_spec hm
  unfold objC
  constructor
  · intro h
    by_cases e : lexC cS ((srt l).map (fun p => p.1)) ((srt m).map (fun p => p.1)) = 0
    · rw [if_pos e] at h
      obtain ⟨e1, e2⟩ := (lex0 _ _).mp e
      obtain ⟨h1, h2⟩ := (lex0 _ _).mp h
      rw [List.length_map, List.length_map, l1, m1] at h1
      refine ⟨h1, List.all_eq_true.mpr (fun p hp => ?_)⟩
      obtain ⟨i, hi, hip⟩ := List.getElem_of_mem ((l3 p).mpr hp)
      have him : i < (srt m).length := by omega
      have a1 := e2 i p.1 (srt m)[i].1 (by rw [List.getElem?_map, List.getElem?_eq_getElem hi, hip]; rfl) (by rw [List.getElem?_map, List.getElem?_eq_getElem him]; rfl)
      have a2 := h2 i p.2 (srt m)[i].2 (by rw [List.getElem?_map, List.getElem?_eq_getElem hi, hip]; rfl) (by rw [List.getElem?_map, List.getElem?_eq_getElem him]; rfl)
      have a3 : (srt m)[i] ∈ m := (m3 _).mp (List.getElem_mem him)
      have a4 : lu p.1 m = some (srt m)[i].2 := lu_in hm (by rw [cS_eq a1]; exact a3)
      unfold luB
      rw [a4]
      exact decide_eq_true a2
    · rw [if_neg e] at h
      exact absurd h e
  · rintro ⟨h1, h2⟩
    have h3 : ∀ p ∈ l, ∃ y, lu p.1 m = some y ∧ c p.2 y = 0 := fun p hp => by
      have h4 := List.all_eq_true.mp h2 p hp
      unfold luB at h4
      cases e : lu p.1 m with
      | none => rw [e] at h4; cases h4
      | some y => rw [e] at h4; exact ⟨y, rfl, of_decide_eq_true h4⟩
    have hsub : ∀ s ∈ l.map (fun p => p.1), s ∈ m.map (fun p => p.1) := fun s hs => by
      obtain ⟨p, hp, rfl⟩ := List.mem_map.mp hs
      obtain ⟨y, hy, _⟩ := h3 p hp
      exact List.mem_map.mpr ⟨(p.1, y), lu_mem hy, rfl⟩
    have hrev := sub_eq hl (by omega) hsub
    have hnames : (srt l).map (fun p => p.1) = (srt m).map (fun p => p.1) := srtU _ _ l2 m2 (fun s => by
      have k1 : s ∈ (srt l).map (fun p => p.1) ↔ s ∈ l.map (fun p => p.1) := by
        simp only [List.mem_map]
        exact ⟨fun ⟨p, hp, e⟩ => ⟨p, (l3 p).mp hp, e⟩, fun ⟨p, hp, e⟩ => ⟨p, (l3 p).mpr hp, e⟩⟩
      have k2 : s ∈ (srt m).map (fun p => p.1) ↔ s ∈ m.map (fun p => p.1) := by
        simp only [List.mem_map]
        exact ⟨fun ⟨p, hp, e⟩ => ⟨p, (m3 p).mp hp, e⟩, fun ⟨p, hp, e⟩ => ⟨p, (m3 p).mpr hp, e⟩⟩
      rw [k1, k2]
      exact ⟨hsub s, hrev s⟩)
    rw [hnames, if_pos ((lexC_good cS_good).refl _)]
    refine (lex0 _ _).mpr ⟨by rw [List.length_map, List.length_map, l1, m1, h1], fun i x y hx hy => ?_⟩
    rw [List.getElem?_map] at hx hy
    obtain ⟨p, hp, rfl⟩ := Option.map_eq_some_iff.mp hx
    obtain ⟨q, hq, rfl⟩ := Option.map_eq_some_iff.mp hy
    have hpq : p.1 = q.1 := by
      have a1 : ((srt l).map (fun p => p.1))[i]? = some p.1 := by rw [List.getElem?_map, hp]; rfl
      have a2 : ((srt m).map (fun p => p.1))[i]? = some q.1 := by rw [List.getElem?_map, hq]; rfl
      rw [hnames, a2] at a1
      injection a1 with a1
      exact a1.symm
    obtain ⟨y, hy1, hy2⟩ := h3 p ((l3 p).mp (List.mem_of_getElem? hp))
    have : lu p.1 m = some q.2 := lu_in hm (by rw [hpq]; exact (m3 q).mp (List.mem_of_getElem? hq))
    rw [this] at hy1
    injection hy1 with hy1
    rw [hy1]
    exact hy2
end RDB
end ZRdb72
section ZRdc73
section RDC
variable {st : xS} {vs : List VR} {cs : List Nat} {ks ws : List NP} {d n : Nat}
def Sm (vs : List VR) (cs : List Nat) (ks : List NP) (st : xS) (d : Nat) (rec : xS → Nat → Nat → Option Int32) : Prop := ∀ (x y : JT d) (a b : Nat), Rep vs cs ks d x a → Rep vs cs ks d y b → jok d x → jok d y → rec st a b = some (if jcmp d x y = 0 then 1 else 0)
theorem sameA (hM : MS st vs cs ks ws) {rec : xS → Nat → Nat → Option Int32} (hrec : Sm vs cs ks st d rec) {l m : List (JT d)} {a b : Nat} (ha : Rep vs cs ks (d + 1) (ja l) a) (hb : Rep vs cs ks (d + 1) (ja m) b) (hol : ∀ x ∈ l, jok d x) (hom : ∀ x ∈ m, jok d x) (hlen : l.length = m.length) : ∀ (q n i : Nat), i + q = l.length → q < n → fM_same1_b rec st n 1 (i3 i) a b = some (if lexC (jcmp d) (l.drop i) (m.drop i) = 0 then 1 else 0) := by
  obtain ⟨hsz, hll⟩ := ha.sza hM
  obtain ⟨g1, _, g3, _⟩ := ha.g hM
  intro q
  induction q with
  | zero =>
    intro n i hi hn
    obtain ⟨n, rfl⟩ : ∃ j, n = j + 1 := ⟨n - 1, by omega⟩
    rw [fM_same1_b, if_neg g1, hsz, if_pos (by rw [i3_le (by omega) (by omega)]; omega), List.drop_eq_nil_of_le (by omega), List.drop_eq_nil_of_le (by omega)]
    rfl
  | succ q ih =>
    intro n i hi hn
    obtain ⟨n, rfl⟩ : ∃ j, n = j + 1 := ⟨n - 1, by omega⟩
    obtain ⟨k1, e1, r1⟩ := ha.kid (n := n) hM (List.getElem?_eq_getElem (show i < l.length by omega))
    obtain ⟨k2, e2, r2⟩ := hb.kid (n := n) hM (List.getElem?_eq_getElem (show i < m.length by omega))
    rw [fM_same1_b, if_neg g1, hsz, if_neg (by rw [i3_le (by omega) (by omega)]; omega), g3, kd_a, if_pos (by decide), if_neg (i3_nn (by omega)), e1, Option.bind_some, e2, Option.bind_some, hrec _ _ _ _ r1 r2 (hol _ (List.getElem_mem _)) (hom _ (List.getElem_mem _)), Option.bind_some, List.drop_eq_getElem_cons (show i < l.length by omega), List.drop_eq_getElem_cons (show i < m.length by omega)]
    unfold lexC
    by_cases e : jcmp d l[i] m[i] = 0
    · rw [if_pos e, if_pos e, if_neg (by decide), i3_one]
      exact ih n (i + 1) (by omega) (by omega)
    · rw [if_neg e, if_neg e, if_pos (by decide), if_neg e]
theorem sameO (hM : MS st vs cs ks ws) {rec : xS → Nat → Nat → Option Int32} (hrec : Sm vs cs ks st d rec) {l m : List (Sx × JT d)} {a b : Nat} (ha : Rep vs cs ks (d + 1) (jo l) a) (hb : Rep vs cs ks (d + 1) (jo m) b) (hol : ∀ x ∈ l, jok d x.2) (hom : ∀ x ∈ m, jok d x.2) : ∀ (q n i : Nat), i + q = l.length → 2000000 + q < n → fM_same1_b rec st n 1 (i3 i) a b = some (if (l.drop i).all (fun p => luB m p.1 (fun y => decide (jcmp d p.2 y = 0))) = true then 1 else 0) := by
  obtain ⟨hsz, hll⟩ := ha.szo hM
  obtain ⟨g1, _, g3, _⟩ := ha.g hM
  intro q
  induction q with
  | zero =>
    intro n i hi hn
    obtain ⟨n, rfl⟩ : ∃ j, n = j + 1 := ⟨n - 1, by omega⟩
    rw [fM_same1_b, if_neg g1, hsz, if_pos (by rw [i3_le (by omega) (by omega)]; omega), List.drop_eq_nil_of_le (by omega)]
    rfl
  | succ q ih =>
    intro n i hi hn
    obtain ⟨n, rfl⟩ : ∃ j, n = j + 1 := ⟨n - 1, by omega⟩
    obtain ⟨k1, m1, e1, e2, r1, s1, sl⟩ := ha.okid (n := n) hM (List.getElem?_eq_getElem (show i < l.length by omega))
    obtain ⟨p1, p2⟩ := placeM (n := n) hM hb s1 sl (by omega)
    have hmb := (hb.szo hM).2
    rw [fM_same1_b, if_neg g1, hsz, if_neg (by rw [i3_le (by omega) (by omega)]; omega), g3, kd_o, if_neg (by decide), e2, Option.bind_some, List.drop_eq_getElem_cons (show i < l.length by omega), List.all_cons]
    cases e : lu l[i].1 m with
    | none =>
      rw [p1 e, Option.bind_some, if_pos (by decide)]
      have : luB m l[i].1 (fun y => decide (jcmp d l[i].2 y = 0)) = false := by unfold luB; rw [e]
      rw [this, Bool.false_and, if_neg (by decide)]
    | some y =>
      obtain ⟨j, k, hj, hjm, f1, f2, f3⟩ := p2 y e
      have hoy : jok d y := hom _ (List.mem_of_getElem? hjm)
      have : luB m l[i].1 (fun y => decide (jcmp d l[i].2 y = 0)) = decide (jcmp d l[i].2 y = 0) := by unfold luB; rw [e]
      rw [f1, Option.bind_some, if_neg (i3_nn (by omega)), e1, Option.bind_some, f2, Option.bind_some, hrec _ _ _ _ r1 f3 (hol _ (List.getElem_mem _)) hoy, Option.bind_some, this]
      by_cases ez : jcmp d l[i].2 y = 0
      · rw [if_pos ez, if_neg (by decide), i3_one, decide_eq_true ez, Bool.true_and]
        exact ih n (i + 1) (by omega) (by omega)
      · rw [if_neg ez, if_pos (by decide), decide_eq_false ez, Bool.false_and, if_neg (by decide)]
theorem same1M (hM : MS st vs cs ks ws) (hn : 3000000 < n) : ∀ (d fu : Nat), d ≤ fu → Sm vs cs ks st d (fM_same1 fu n) := by
  intro d
  induction d with
  | zero => intro fu _ x; exact (j0 x).elim
  | succ d ih =>
    intro fu hfu x y a b ha hb hx hy
    obtain ⟨fu, rfl⟩ : ∃ f, fu = f + 1 := ⟨fu - 1, by omega⟩
    obtain ⟨a1, _, a3, _⟩ := ha.g hM
    obtain ⟨b1, _, b3, _⟩ := hb.g hM
    have hka : kd (d + 1) x < 7 := by
      rcases jcases x with ⟨k, rfl⟩ | ⟨z, rfl⟩ | ⟨s, rfl⟩ | ⟨l, rfl⟩ | ⟨l, rfl⟩
      · have h3 : k < 3 := hx
        rw [kd_k]; omega
      · rw [kd_n]; omega
      · rw [kd_s]; omega
      · rw [kd_a]; omega
      · rw [kd_o]; omega
    have hkb : kd (d + 1) y < 7 := by
      rcases jcases y with ⟨k, rfl⟩ | ⟨z, rfl⟩ | ⟨s, rfl⟩ | ⟨l, rfl⟩ | ⟨l, rfl⟩
      · have h3 : k < 3 := hy
        rw [kd_k]; omega
      · rw [kd_n]; omega
      · rw [kd_s]; omega
      · rw [kd_a]; omega
      · rw [kd_o]; omega
    have hkk : (i3 (kd (d + 1) x) = i3 (kd (d + 1) y)) = (kd (d + 1) x = kd (d + 1) y) := i3_eq (by omega) (by omega)
    rw [fM_same1, if_neg a1, if_neg b1, a3, b3]
    by_cases hk : kd (d + 1) x = kd (d + 1) y
    · rw [if_pos (by rw [hk])]
      have hr : rk (d + 1) x = rk (d + 1) y := by rw [rk_ok hx, rk_ok hy, hk]
      rcases rk_same hr with ⟨p, q, rfl, rfl, _⟩ | ⟨p, q, rfl, rfl⟩ | ⟨p, q, rfl, rfl⟩ | ⟨p, q, rfl, rfl⟩ | ⟨p, q, rfl, rfl⟩
      · rw [kd_k, kd_k] at hk
        have h3 : p < 3 := hx
        have e3 : ∀ c : Nat, c < 256 → (i3 p = i3 c) = (p = c) := fun c hc => i3_eq (by omega) (by omega)
        rw [kd_k, if_neg (show ¬ i3 p = 3 from fun h => by have := (e3 3 (by omega)).mp h; omega), if_neg (show ¬ i3 p = 4 from fun h => by have := (e3 4 (by omega)).mp h; omega), if_neg (show ¬ (5 : Int32) ≤ i3 p by rw [show (5 : Int32) = i3 5 from rfl, i3_le (by omega) (by omega)]; omega), jcmp_k, hk, if_pos (by rw [Int.sub_self]; rfl)]
      · rw [kd_n, if_pos (by decide), ha.num hM, hb.num hM, jcmp_n]
        have hp : -9007199254740991 ≤ p ∧ p ≤ 9007199254740991 := hx
        have hq : -9007199254740991 ≤ q ∧ q ≤ 9007199254740991 := hy
        have : (lg_cmp (cW p) (cW q) = 0) = (sg (p - q) = 0) := by
          rw [lg_cW (by omega) (by omega) (by omega) (by omega)]
          unfold sg
          by_cases c1 : p - q < 0
          · rw [if_pos c1]; decide
          · rw [if_neg c1]
            by_cases c2 : p - q = 0
            · rw [if_pos c2]; decide
            · rw [if_neg c2]; decide
        by_cases e : sg (p - q) = 0
        · rw [if_pos (by rw [this]; exact e), if_pos e]
        · rw [if_neg (by rw [this]; exact e), if_neg e]
      · rw [kd_s, if_neg (by decide), if_pos (by decide), sameTextM hM (isStr_rep ha) (isStr_rep hb) (by have := (ha.szs hM).2; omega) (by have := (hb.szs hM).2; omega) (by omega), Option.bind_some, jcmp_s]
        by_cases e : p = q
        · rw [if_pos e, if_neg (by decide), if_pos (by rw [e]; exact cS_refl q)]
        · rw [if_neg e, if_neg (by decide), if_neg (fun h => e (cS_eq h))]
      · rw [kd_a, if_neg (by decide), if_neg (by decide), if_pos (by decide), (ha.sza hM).1, (hb.sza hM).1, jcmp_a]
        have h1 := (ha.sza hM).2
        have h2 := (hb.sza hM).2
        by_cases e : p.length = q.length
        · rw [if_pos (by rw [e])]
          exact sameA hM (ih fu (by omega)) ha hb hx hy e p.length n 0 (by omega) (by omega)
        · rw [if_neg (by rw [i3_eq (by omega) (by omega)]; exact e), if_neg (fun h => e ((lex0 _ _).mp h).1)]
      · rw [kd_o, if_neg (by decide), if_neg (by decide), if_pos (by decide), (ha.szo hM).1, (hb.szo hM).1, jcmp_o]
        have h1 := (ha.szo hM).2
        have h2 := (hb.szo hM).2
        by_cases e : p.length = q.length
        · rw [if_pos (by rw [e]), show (0 : Int32) = i3 0 from rfl, sameO hM (ih fu (by omega)) ha hb (fun x h => (hx.1 x h).2) (fun x h => (hy.1 x h).2) p.length n 0 (by omega) (by omega), List.drop_zero]
          congr 1
          by_cases e2 : p.all (fun p => luB q p.1 (fun y => decide (jcmp d p.2 y = 0))) = true
          · rw [if_pos e2, if_pos ((obj0 hx.2 hy.2).mpr ⟨e, e2⟩)]
          · rw [if_neg e2, if_neg (fun h => e2 ((obj0 hx.2 hy.2).mp h).2)]
            rfl
        · rw [if_neg (by rw [i3_eq (by omega) (by omega)]; exact e), if_neg (fun h => e ((obj0 hx.2 hy.2).mp h).1)]
    · rw [if_neg (by rw [hkk]; exact hk), if_neg ?_]
      intro h
      have hne : rk (d + 1) x ≠ rk (d + 1) y := by rw [rk_ok hx, rk_ok hy]; exact hk
      rw [jcmp_ne hne] at h
      unfold sg at h
      split at h
      · cases h
      · split at h
        · omega
        · cases h
end RDC
end ZRdc73
section ZRdd74
section RDD
variable {st : xS} {vs : List VR} {cs : List Nat} {ks ws : List NP} {d n : Nat}
theorem nx_step {α : Type} {l : List (Sx × α)} (hnd : (l.map (fun p => p.1)).Nodup) {n : Nat} {last : Option Sx} (h : l.countP (fun p => bh last p.1) = n + 1) : ∃ p, nx l last = some p ∧ p ∈ l ∧ l.countP (fun y => bh (some p.1) y.1) = n ∧ sq l (n + 1) last = p :: sq l n (some p.1) := by
  obtain ⟨s1, s2⟩ := nxA_spec last l none
  cases hx : nx l last with
  | none =>
    have := (s2 hx).2
    have h0 : l.countP (fun p => bh last p.1) = 0 := List.countP_eq_zero.mpr (fun q hq => by rw [this q hq]; decide)
    omega
  | some p =>
    obtain ⟨j1, j2, _⟩ := s1 p hx
    have hp : p ∈ l ∧ bh last p.1 = true := by
      rcases j1 with h | h
      · exact h
      · exact absurd h (by simp)
    have hb : ∀ y ∈ l, y.1 ≠ p.1 → bh (some p.1) y.1 = bh last y.1 := fun y hy hne => by
      have h3 : bh (some p.1) y.1 = true ↔ bh last y.1 = true := by
        have h7 : bh (some p.1) y.1 = decide (0 < cS y.1 p.1) := by simp [bh]
        rw [h7, decide_eq_true_iff]
        have h6 := cS_good.1 y.1 p.1
        constructor
        · intro h4
          cases last with
          | none => rfl
          | some t =>
            have h5 : 0 < cS p.1 t := by simpa [bh] using hp.2
            have h8 := cS_good.1 p.1 t
            have h9 := cS_good.1 y.1 t
            have := cS_good.lt_trans' (a := t) (b := p.1) (e := y.1) (by omega) (by omega)
            simp only [bh, Option.all_some, decide_eq_true_eq]
            omega
        · intro h4
          have h5 := j2 y hy h4
          have h8 : cS y.1 p.1 ≠ 0 := fun h => hne (cS_eq h)
          omega
      exact Bool.eq_iff_iff.mpr h3
    have hself : bh (some p.1) p.1 = false := by
      simp [bh, cS_refl]
    have hc := cnt1 (P := fun y => bh (some p.1) y.1) (Q := fun y => bh last y.1) l p hp.1 hnd hp.2 hself hb
    refine ⟨p, rfl, hp.1, by omega, ?_⟩
    rw [sq, hx]
def OrZ (out : Option Int32) (r : Int) : Prop := ∃ z : Int, out = some (iz z) ∧ sg z = r ∧ -100000 ≤ z ∧ z ≤ 100000
def Or (vs : List VR) (cs : List Nat) (ks : List NP) (st : xS) (d : Nat) (rec : xS → Nat → Nat → Option Int32) : Prop := ∀ (x y : JT d) (a b : Nat), Rep vs cs ks d x a → Rep vs cs ks d y b → jok d x → jok d y → OrZ (rec st a b) (jcmp d x y)
def OrS (vs : List VR) (cs : List Nat) (st : xS) (rec : xS → Nat → Nat → Option Int32) : Prop := ∀ (s t : Sx) (a b : Nat), isStr vs cs a s → isStr vs cs b t → s.length ≤ 59999 → t.length ≤ 59999 → OrZ (rec st a b) (cS s t)
theorem sg_sg (z : Int) : sg (sg z) = sg z := by
  unfold sg
  split
  · rfl
  · split
    · rfl
    · rfl
theorem sg_0 {z : Int} : sg z = 0 ↔ z = 0 := by
  unfold sg
  split
  · omega
  · split <;> omega
theorem sg_lt {z : Int} : sg z < 0 ↔ z < 0 := by
  unfold sg
  split
  · omega
  · split <;> omega
theorem sg_gt {z : Int} : 0 < sg z ↔ 0 < z := by
  unfold sg
  split
  · omega
  · split <;> omega
theorem i3_dif {a b : Nat} (ha : a ≤ 100000) (hb : b ≤ 100000) : OrZ (some (i3 a - i3 b)) (sg ((a : Int) - b)) := by
  refine ⟨(a : Int) - b, ?_, rfl, by omega, by omega⟩
  rw [i3_iz, i3_iz]
  congr 1
  exact (Int32.ofInt_sub _ _).symm
theorem orderS (hM : MS st vs cs ks ws) {rec : xS → Nat → Nat → Option Int32} {s t : Sx} {a b : Nat} (ha : isStr vs cs a s) (hb : isStr vs cs b t) (hsl : s.length ≤ 59999) (htl : t.length ≤ 59999) : ∀ (q n i : Nat), i + q = s.length → i ≤ t.length → q < n → OrZ (fM_order_b rec st n 1 (i3 i) a b) (cS (s.drop i) (t.drop i)) := by
  obtain ⟨a1, v, av, a4, asz, _, _, ag⟩ := ha
  obtain ⟨b1, u, bu, b4, bsz, _, _, bg⟩ := hb
  obtain ⟨g1, g2, _⟩ := hM.vc a1 av
  obtain ⟨f1, f2, _⟩ := hM.vc b1 bu
  have hcc := hM.cl.2.1
  have hbc : bC = 100000 := rfl
  intro q
  induction q with
  | zero =>
    intro n i hi hit hn
    obtain ⟨n, rfl⟩ : ∃ j, n = j + 1 := ⟨n - 1, by omega⟩
    rw [fM_order_b, if_pos rfl, if_neg g1, g2.2.2.1, asz, if_pos (by rw [i3_le (by omega) (by omega)]; omega), if_neg f1, f2.2.2.1, bsz, List.drop_eq_nil_of_le (show s.length ≤ i by omega)]
    have := sg_len (c := fun x y : Nat => sg ((x : Int) - y)) (a := []) (b := t.drop i) (Or.inl rfl)
    have h2 : cS [] (t.drop i) = sg ((s.length : Int) - t.length) := by
      unfold cS
      rw [this, List.length_drop]
      congr 1
      simp
      omega
    rw [h2]
    exact i3_dif (by omega) (by omega)
  | succ q ih =>
    intro n i hi hit hn
    obtain ⟨n, rfl⟩ : ∃ j, n = j + 1 := ⟨n - 1, by omega⟩
    rw [fM_order_b, if_pos rfl, if_neg g1, g2.2.2.1, asz, if_neg (by rw [i3_le (by omega) (by omega)]; omega), if_neg f1, f2.2.2.1, bsz]
    by_cases e : t.length ≤ i
    · rw [if_pos (by rw [i3_le (by omega) (by omega)]; exact e), List.drop_eq_nil_of_le e]
      have := sg_len (c := fun x y : Nat => sg ((x : Int) - y)) (a := s.drop i) (b := []) (Or.inr rfl)
      have h2 : cS (s.drop i) [] = sg ((s.length : Int) - t.length) := by
        unfold cS
        rw [this, List.length_drop]
        congr 1
        simp
        omega
      rw [h2]
      exact i3_dif (by omega) (by omega)
    · have hxa := ag i s[i] (List.getElem?_eq_getElem (by omega))
      have hxb := bg i t[i] (List.getElem?_eq_getElem (by omega))
      have la := (List.getElem?_eq_some_iff.mp hxa).1
      have lb := (List.getElem?_eq_some_iff.mp hxb).1
      obtain ⟨y1, y2⟩ := hM.1.2.2.1 _ _ hxa
      obtain ⟨z1, z2⟩ := hM.1.2.2.1 _ _ hxb
      have hln := hM.2.2.2.1.1
      rw [if_neg (by rw [i3_le (by omega) (by omega)]; exact e), g2.2.1, f2.2.1, i3_add, i3_add, if_neg (i3_idx (by omega) (by omega)), if_neg (i3_idx (by omega) (by omega)), i3_N (by omega), i3_N (by omega), y1, z1, List.drop_eq_getElem_cons (show i < s.length by omega), List.drop_eq_getElem_cons (show i < t.length by omega)]
      by_cases e2 : s[i] = t[i]
      · rw [if_pos (by rw [e2]), i3_one]
        have h3 : cS (s[i] :: s.drop (i + 1)) (t[i] :: t.drop (i + 1)) = cS (s.drop (i + 1)) (t.drop (i + 1)) := by
          show lexC _ _ _ = _
          unfold lexC
          rw [if_pos (by rw [e2, Int.sub_self]; rfl)]
          rfl
        rw [h3]
        exact ih n (i + 1) (by omega) (by omega) (by omega)
      · have h3 : cS (s[i] :: s.drop (i + 1)) (t[i] :: t.drop (i + 1)) = sg ((s[i] : Int) - t[i]) := by
          show lexC _ _ _ = _
          unfold lexC
          rw [if_neg (fun h => e2 (by have := sg_0.mp h; omega))]
        rw [if_neg (by rw [i3_eq (by omega) (by omega)]; exact e2), if_neg (i3_id2 (by omega) (by omega)), if_neg (i3_id2 (by omega) (by omega)), h3]
        exact i3_dif (by omega) (by omega)
theorem orderS' (hM : MS st vs cs ks ws) {fu : Nat} (hn : 100000 < n) : OrS vs cs st (fM_order (fu + 1) n) := by
  intro s t a b ha hb hsl htl
  have ha' := ha
  have hb' := hb
  obtain ⟨a1, v, av, a4, asz, _, _, ag⟩ := ha'
  obtain ⟨b1, u, bu, b4, bsz, _, _, bg⟩ := hb'
  obtain ⟨g1, g2, _⟩ := hM.vc a1 av
  obtain ⟨f1, f2, _⟩ := hM.vc b1 bu
  rw [fM_order, if_neg g1, if_neg f1, g2.1, f2.1, a4, b4, if_pos rfl, if_neg (by decide), if_pos (by decide)]
  exact orderS hM ha hb hsl htl s.length n 0 (by omega) (by omega) (by omega)
theorem orderA (hM : MS st vs cs ks ws) {rec : xS → Nat → Nat → Option Int32} (hrec : Or vs cs ks st d rec) {l m : List (JT d)} {a b : Nat} (ha : Rep vs cs ks (d + 1) (ja l) a) (hb : Rep vs cs ks (d + 1) (ja m) b) (hol : ∀ x ∈ l, jok d x) (hom : ∀ x ∈ m, jok d x) : ∀ (q n i : Nat), i + q = l.length → i ≤ m.length → q < n → OrZ (fM_order_b rec st n 2 (i3 i) a b) (lexC (jcmp d) (l.drop i) (m.drop i)) := by
  obtain ⟨hsz, hll⟩ := ha.sza hM
  obtain ⟨hsz', hmm⟩ := hb.sza hM
  obtain ⟨g1, _, _, _⟩ := ha.g hM
  obtain ⟨f1, _, _, _⟩ := hb.g hM
  intro q
  induction q with
  | zero =>
    intro n i hi hit hn
    obtain ⟨n, rfl⟩ : ∃ j, n = j + 1 := ⟨n - 1, by omega⟩
    rw [fM_order_b, if_neg (by decide), if_neg g1, hsz, if_pos (by rw [i3_le (by omega) (by omega)]; omega), if_neg f1, hsz', List.drop_eq_nil_of_le (show l.length ≤ i by omega)]
    have h2 : lexC (jcmp d) [] (m.drop i) = sg ((l.length : Int) - m.length) := by
      rw [sg_len (Or.inl rfl), List.length_drop]
      congr 1
      simp
      omega
    rw [h2]
    exact i3_dif (by omega) (by omega)
  | succ q ih =>
    intro n i hi hit hn
    obtain ⟨n, rfl⟩ : ∃ j, n = j + 1 := ⟨n - 1, by omega⟩
    rw [fM_order_b, if_neg (by decide), if_neg g1, hsz, if_neg (by rw [i3_le (by omega) (by omega)]; omega), if_neg f1, hsz']
    by_cases e : m.length ≤ i
    · rw [if_pos (by rw [i3_le (by omega) (by omega)]; exact e), List.drop_eq_nil_of_le e]
      have h2 : lexC (jcmp d) (l.drop i) [] = sg ((l.length : Int) - m.length) := by
        rw [sg_len (Or.inr rfl), List.length_drop]
        congr 1
        simp
        omega
      rw [h2]
      exact i3_dif (by omega) (by omega)
    · obtain ⟨k1, e1, r1⟩ := ha.kid (n := n) hM (List.getElem?_eq_getElem (show i < l.length by omega))
      obtain ⟨k2, e2, r2⟩ := hb.kid (n := n) hM (List.getElem?_eq_getElem (show i < m.length by omega))
      obtain ⟨z, hz, hsz, z1, z2⟩ := hrec _ _ _ _ r1 r2 (hol _ (List.getElem_mem _)) (hom _ (List.getElem_mem _))
      rw [if_neg (by rw [i3_le (by omega) (by omega)]; exact e), e1, Option.bind_some, e2, Option.bind_some, hz, Option.bind_some, List.drop_eq_getElem_cons (show i < l.length by omega), List.drop_eq_getElem_cons (show i < m.length by omega)]
      unfold lexC
      have hz0 : (iz z = 0) = (z = 0) := iz_eq (b := 0) (by omega) (by omega) (by omega) (by omega)
      by_cases ez : z = 0
      · rw [if_pos (by rw [hz0]; exact ez), if_pos (by rw [← hsz, ez]; rfl), i3_one]
        exact ih n (i + 1) (by omega) (by omega) (by omega)
      · rw [if_neg (by rw [hz0]; exact ez), if_neg (by rw [← hsz]; exact fun h => ez (sg_0.mp h))]
        exact ⟨z, rfl, hsz, z1, z2⟩
end RDD
end ZRdd74
section ZRde75
section RDE
variable {st : xS} {vs : List VR} {cs : List Nat} {ks ws : List NP} {d n : Nat}
theorem OrZ.tests {out : Option Int32} {r : Int} (h : OrZ out r) : ∃ x : Int32, out = some x ∧ (x = 0 ↔ r = 0) ∧ (x ≤ 0 ↔ r ≤ 0) ∧ (0 ≤ x ↔ 0 ≤ r) ∧ (x < 0 ↔ r < 0) ∧ OrZ (some x) r := by
  obtain ⟨z, h1, rfl, h3, h4⟩ := h
  refine ⟨iz z, h1, ?_, ?_, ?_, ?_, ⟨z, rfl, rfl, h3, h4⟩⟩
  · rw [show (0 : Int32) = iz 0 from rfl, iz_eq (by omega) (by omega) (by omega) (by omega), sg_0]
  · rw [show (0 : Int32) = iz 0 from rfl, iz_le (by omega) (by omega) (by omega) (by omega)]
    have := @sg_gt z
    omega
  · rw [show (0 : Int32) = iz 0 from rfl, iz_le (by omega) (by omega) (by omega) (by omega)]
    have := @sg_lt z
    omega
  · rw [show (0 : Int32) = iz 0 from rfl, iz_lt (by omega) (by omega) (by omega) (by omega), sg_lt]
def NmL (vs : List VR) (cs : List Nat) (o : Option Sx) (y : Nat) : Prop := match o with
  | none => y = 0
  | some s => isStr vs cs y s ∧ s.length ≤ 59999
theorem follL (hM : MS st vs cs ks ws) {rec : xS → Nat → Nat → Option Int32} {l : List (Sx × JT d)} (hrec : l ≠ [] → OrS vs cs st rec) {c : Nat} (hc : Rep vs cs ks (d + 1) (jo l) c) {last : Option Sx} {y2 : Nat} (hl2 : NmL vs cs last y2) : ∀ (q n i : Nat) (b : Option (Sx × JT d)) (y3 : Nat), i + q = l.length → q < n → NmL vs cs (b.map (fun p => p.1)) y3 → ∃ y, fM_following_b rec st n 1 (i3 i) y3 c y2 = some y ∧ NmL vs cs ((nxA last (l.drop i) b).map (fun p => p.1)) y := by
  obtain ⟨hsz, hll⟩ := hc.szo hM
  obtain ⟨g1, _, _, _⟩ := hc.g hM
  intro q
  induction q with
  | zero =>
    intro n i b y3 hi hn hb
    obtain ⟨n, rfl⟩ : ∃ j, n = j + 1 := ⟨n - 1, by omega⟩
    refine ⟨y3, ?_, ?_⟩
    · rw [fM_following_b, if_neg g1, hsz, if_pos (by rw [i3_le (by omega) (by omega)]; omega)]
    · rw [List.drop_eq_nil_of_le (by omega)]
      exact hb
  | succ q ih =>
    intro n i b y3 hi hn hb
    obtain ⟨n, rfl⟩ : ∃ j, n = j + 1 := ⟨n - 1, by omega⟩
    have hne : l ≠ [] := fun h => by rw [h] at hi; simp at hi
    obtain ⟨k1, m1, e1, e2, r1, s1, sl⟩ := hc.okid (n := n) hM (List.getElem?_eq_getElem (show i < l.length by omega))
    rw [fM_following_b, if_neg g1, hsz, if_neg (by rw [i3_le (by omega) (by omega)]; omega), e2, Option.bind_some, List.drop_eq_getElem_cons (show i < l.length by omega), i3_one]
    unfold nxA
    have tk := ih n (i + 1) (some l[i]) m1 (by omega) (by omega) ⟨s1, sl⟩
    have kp := ih n (i + 1) b y3 (by omega) (by omega) hb
    have body : (bh last l[i].1 = true → ∃ y, (if y3 = 0 then fM_following_b rec st n 1 (i3 (i + 1)) m1 c y2 else (rec st m1 y3).bind fun o5 => (if 0 ≤ o5 then fM_following_b rec st n 1 (i3 (i + 1)) y3 c y2 else fM_following_b rec st n 1 (i3 (i + 1)) m1 c y2)) = some y ∧ NmL vs cs ((nxA last (l.drop (i + 1)) (if (last.all (fun t => decide (0 < cS l[i].1 t))) && (b.all (fun t => decide (cS l[i].1 t.1 < 0))) then some l[i] else b)).map (fun p => p.1)) y) := by
      intro hbh
      unfold bh at hbh
      rw [hbh, Bool.true_and]
      cases b with
      | none =>
        have h0 : y3 = 0 := hb
        rw [if_pos h0]
        exact tk
      | some p =>
        have hs : isStr vs cs y3 p.1 ∧ p.1.length ≤ 59999 := hb
        have h0 : ¬ y3 = 0 := by have := hs.1.1; omega
        obtain ⟨x, hx, _, _, t3, t4, _⟩ := (hrec hne _ _ _ _ s1 hs.1 sl hs.2).tests
        rw [if_neg h0, hx, Option.bind_some]
        simp only [Option.all_some]
        by_cases e : 0 ≤ cS l[i].1 p.1
        · rw [if_pos (t3.mpr e), if_neg (fun h => by have := of_decide_eq_true h; omega)]
          exact kp
        · rw [if_neg (fun h => e (t3.mp h)), if_pos (decide_eq_true (by omega))]
          exact tk
    cases last with
    | none =>
      have h0 : y2 = 0 := hl2
      rw [if_pos h0]
      exact body rfl
    | some t =>
      have hs : isStr vs cs y2 t ∧ t.length ≤ 59999 := hl2
      have h0 : ¬ y2 = 0 := by have := hs.1.1; omega
      obtain ⟨x, hx, _, t2, _, _, _⟩ := (hrec hne _ _ _ _ s1 hs.1 sl hs.2).tests
      rw [if_neg h0, hx, Option.bind_some]
      by_cases e : cS l[i].1 t ≤ 0
      · rw [if_pos (t2.mpr e)]
        have : (Option.all (fun t => decide (0 < cS l[i].1 t)) (some t)) = false := by
          rw [Option.all_some]
          exact decide_eq_false (by omega)
        rw [this, Bool.false_and, if_neg (by decide)]
        exact kp
      · rw [if_neg (fun h => e (t2.mp h))]
        exact body (by unfold bh; rw [Option.all_some]; exact decide_eq_true (by omega))
theorem follM (hM : MS st vs cs ks ws) {rec : xS → Nat → Nat → Option Int32} {l : List (Sx × JT d)} (hrec : l ≠ [] → OrS vs cs st rec) {c : Nat} (hc : Rep vs cs ks (d + 1) (jo l) c) {last : Option Sx} {y2 : Nat} (hl2 : NmL vs cs last y2) (hn : 100000 < n) {p : Sx × JT d} (hp : nx l last = some p) : ∃ y, fM_following rec n st c y2 = some y ∧ isStr vs cs y p.1 ∧ p.1.length ≤ 59999 := by
  have hll := (hc.szo hM).2
  obtain ⟨y, h1, h2⟩ := follL hM hrec hc hl2 l.length n 0 none 0 (by omega) (by omega) rfl
  unfold nx at hp
  rw [List.drop_zero, hp] at h2
  exact ⟨y, h1, h2⟩
theorem obj2 (hM : MS st vs cs ks ws) {rec : xS → Nat → Nat → Option Int32} {l m : List (Sx × JT d)} (hrec : Or vs cs ks st d rec) (hrs : l ≠ [] → OrS vs cs st rec) {a b : Nat} (ha : Rep vs cs ks (d + 1) (jo l) a) (hb : Rep vs cs ks (d + 1) (jo m) b) (hol : jok (d + 1) (jo l)) (hom : jok (d + 1) (jo m)) : ∀ (na n i : Nat) (la : Option Sx) (y3 : Nat) (B : List (Sx × JT d)), i + na = l.length → 3000000 + na < n → NmL vs cs la y3 → l.countP (fun p => bh la p.1) = na → B.map (fun p => p.1) = (sq l na la).map (fun p => p.1) → (∀ q ∈ B, q ∈ m) → OrZ (fM_objects_b rec st n 2 (i3 i) 0 y3 a b) (lexC (jcmp d) ((sq l na la).map (fun p => p.2)) (B.map (fun p => p.2))) := by
  obtain ⟨hsz, hll⟩ := ha.szo hM
  obtain ⟨g1, _, _, _⟩ := ha.g hM
  intro na
  induction na with
  | zero =>
    intro n i la y3 B hi hn _ _ hB _
    obtain ⟨n, rfl⟩ : ∃ j, n = j + 1 := ⟨n - 1, by omega⟩
    have hB0 : B = [] := by
      have := congrArg List.length hB
      rw [List.length_map] at this
      exact List.length_eq_zero_iff.mp this
    rw [fM_objects_b, if_neg (by decide), if_neg g1, hsz, if_pos (by rw [i3_le (by omega) (by omega)]; omega), hB0]
    exact ⟨0, rfl, rfl, by omega, by omega⟩
  | succ na ih =>
    intro n i la y3 B hi hn hla hcnt hB hBm
    obtain ⟨n, rfl⟩ : ∃ j, n = j + 1 := ⟨n - 1, by omega⟩
    obtain ⟨p, hp, hpl, hpc, hsq⟩ := nx_step hol.2 hcnt
    rw [hsq] at hB ⊢
    obtain ⟨q, B', rfl, hq1, hB'⟩ : ∃ q B', B = q :: B' ∧ q.1 = p.1 ∧ B'.map (fun p => p.1) = (sq l na (some p.1)).map (fun p => p.1) := by
      cases B with
      | nil => simp at hB
      | cons q B' =>
        rw [List.map_cons, List.map_cons] at hB
        injection hB with h1 h2
        exact ⟨q, B', rfl, h1, h2⟩
    obtain ⟨y, f1, f2, f3⟩ := follM (n := n) hM hrs ha hla (by omega) hp
    have lua : lu p.1 l = some p.2 := lu_in hol.2 hpl
    have lub : lu p.1 m = some q.2 := lu_in hom.2 (by rw [← hq1]; exact hBm q List.mem_cons_self)
    obtain ⟨j1, k1, _, _, a1, a2, a3⟩ := (placeM (n := n) hM ha f2 f3 (by omega)).2 _ lua
    obtain ⟨j2, k2, _, _, b1, b2, b3⟩ := (placeM (n := n) hM hb f2 f3 (by omega)).2 _ lub
    obtain ⟨x, hx, t1, _, _, _, t6⟩ := (hrec _ _ _ _ a3 b3 (hol.1 p hpl).2 (hom.1 q (hBm q List.mem_cons_self)).2).tests
    rw [fM_objects_b, if_neg (by decide), if_neg g1, hsz, if_neg (by rw [i3_le (by omega) (by omega)]; omega), f1, Option.bind_some, a1, Option.bind_some, a2, Option.bind_some, b1, Option.bind_some, b2, Option.bind_some, hx, Option.bind_some, List.map_cons, List.map_cons]
    unfold lexC
    by_cases e : jcmp d p.2 q.2 = 0
    · rw [if_pos (t1.mpr e), if_pos e, i3_one]
      exact ih n (i + 1) (some p.1) y B' (by omega) (by omega) ⟨f2, f3⟩ hpc hB' (fun r hr => hBm r (List.mem_cons_of_mem _ hr))
    · rw [if_neg (fun h => e (t1.mp h)), if_neg e]
      exact t6
theorem obj1 (hM : MS st vs cs ks ws) {rec : xS → Nat → Nat → Option Int32} {l m : List (Sx × JT d)} (hrec : Or vs cs ks st d rec) (hrs : l ≠ [] ∨ m ≠ [] → OrS vs cs st rec) {a b : Nat} (ha : Rep vs cs ks (d + 1) (jo l) a) (hb : Rep vs cs ks (d + 1) (jo m) b) (hol : jok (d + 1) (jo l)) (hom : jok (d + 1) (jo m)) : ∀ (na nb n i : Nat) (la lb : Option Sx) (y3 y4 : Nat), i + na = l.length → i + nb = m.length → 4000000 + na < n → NmL vs cs la y3 → NmL vs cs lb y4 → l.countP (fun p => bh la p.1) = na → m.countP (fun p => bh lb p.1) = nb → (∃ P Q, srt l = P ++ sq l na la ∧ srt m = Q ++ sq m nb lb ∧ P.map (fun p => p.1) = Q.map (fun p => p.1)) → OrZ (fM_objects_b rec st n 1 (i3 i) y4 y3 a b) (if lexC cS ((sq l na la).map (fun p => p.1)) ((sq m nb lb).map (fun p => p.1)) = 0 then lexC (jcmp d) ((srt l).map (fun p => p.2)) ((srt m).map (fun p => p.2)) else lexC cS ((sq l na la).map (fun p => p.1)) ((sq m nb lb).map (fun p => p.1))) := by
  obtain ⟨hsz, hll⟩ := ha.szo hM
  obtain ⟨g1, _, _, _⟩ := ha.g hM
  obtain ⟨hsz', hmm⟩ := hb.szo hM
  obtain ⟨f1, _, _, _⟩ := hb.g hM
  have fin : ∀ (na nb n i : Nat) (la lb : Option Sx) (y3 y4 : Nat), i + na = l.length → i + nb = m.length → 3500000 < n → l.countP (fun p => bh la p.1) = na → m.countP (fun p => bh lb p.1) = nb → (∃ P Q, srt l = P ++ sq l na la ∧ srt m = Q ++ sq m nb lb ∧ P.map (fun p => p.1) = Q.map (fun p => p.1)) → na = 0 ∨ nb = 0 → OrZ (if i3 l.length = i3 m.length then fM_objects_b rec st n 2 0 0 0 a b else some (i3 l.length - i3 m.length)) (if lexC cS ((sq l na la).map (fun p => p.1)) ((sq m nb lb).map (fun p => p.1)) = 0 then lexC (jcmp d) ((srt l).map (fun p => p.2)) ((srt m).map (fun p => p.2)) else lexC cS ((sq l na la).map (fun p => p.1)) ((sq m nb lb).map (fun p => p.1))) := by
    intro na nb n i la lb y3 y4 h1 h2 hn c1 c2 hPQ h0
    have l1 := (sq_spec hol.2 na la c1).1
    have l2 := (sq_spec hom.2 nb lb c2).1
    have hlx : lexC cS ((sq l na la).map (fun p => p.1)) ((sq m nb lb).map (fun p => p.1)) = sg ((l.length : Int) - m.length) := by
      rw [sg_len, List.length_map, List.length_map, l1, l2]
      · congr 1
        omega
      · rcases h0 with h0 | h0
        · left
          rw [List.map_eq_nil_iff]
          exact List.length_eq_zero_iff.mp (by omega)
        · right
          rw [List.map_eq_nil_iff]
          exact List.length_eq_zero_iff.mp (by omega)
    rw [hlx]
    by_cases e : l.length = m.length
    · rw [if_pos (by rw [e]), if_pos (by rw [e, Int.sub_self]; rfl)]
      obtain ⟨P, Q, p1, p2, p3⟩ := hPQ
      have z1 : sq l na la = [] := List.length_eq_zero_iff.mp (by omega)
      have z2 : sq m nb lb = [] := List.length_eq_zero_iff.mp (by omega)
      have hnm : (srt m).map (fun p => p.1) = (srt l).map (fun p => p.1) := by
        rw [p1, p2, z1, z2, List.append_nil, List.append_nil, p3]
      exact obj2 hM hrec (fun h => hrs (Or.inl h)) ha hb hol hom l.length n 0 none 0 (srt m) (by omega) (by omega) rfl (bh_cnt l) hnm (fun q hq => ((srt_spec hom.2).2.2 q).mp hq)
    · rw [if_neg (by rw [i3_eq (by omega) (by omega)]; exact e), if_neg (fun h => e (by have := sg_0.mp h; omega))]
      exact i3_dif (by omega) (by omega)
  intro na
  induction na with
  | zero =>
    intro nb n i la lb y3 y4 h1 h2 hn hla hlb c1 c2 hPQ
    obtain ⟨n, rfl⟩ : ∃ j, n = j + 1 := ⟨n - 1, by omega⟩
    rw [fM_objects_b, if_pos rfl, if_neg g1, hsz, if_pos (by rw [i3_le (by omega) (by omega)]; omega), if_neg f1, hsz']
    exact fin 0 nb n i la lb y3 y4 h1 h2 (by omega) c1 c2 hPQ (Or.inl rfl)
  | succ na ih =>
    intro nb n i la lb y3 y4 h1 h2 hn hla hlb c1 c2 hPQ
    obtain ⟨n, rfl⟩ : ∃ j, n = j + 1 := ⟨n - 1, by omega⟩
    rw [fM_objects_b, if_pos rfl, if_neg g1, hsz, if_neg (by rw [i3_le (by omega) (by omega)]; omega), if_neg f1, hsz']
    cases nb with
    | zero =>
      rw [if_pos (by rw [i3_le (by omega) (by omega)]; omega)]
      exact fin (na + 1) 0 n i la lb y3 y4 h1 h2 (by omega) c1 c2 hPQ (Or.inr rfl)
    | succ nb =>
      have hne : l ≠ [] := fun h => by rw [h] at h1; simp at h1
      obtain ⟨p, hp, hpl, hpc, hsq⟩ := nx_step hol.2 c1
      obtain ⟨q, hq, hql, hqc, hsq'⟩ := nx_step hom.2 c2
      obtain ⟨y, e1, e2, e3⟩ := follM (n := n) hM (fun _ => hrs (Or.inl hne)) ha hla (by omega) hp
      obtain ⟨y', e1', e2', e3'⟩ := follM (n := n) hM (fun _ => hrs (Or.inl hne)) hb hlb (by omega) hq
      obtain ⟨x, hx, t1, _, _, _, t6⟩ := (hrs (Or.inl hne) _ _ _ _ e2 e2' e3 e3').tests
      rw [if_neg (by rw [i3_le (by omega) (by omega)]; omega), e1, Option.bind_some, e1', Option.bind_some, hx, Option.bind_some, hsq, hsq', List.map_cons, List.map_cons]
      have hlex : lexC cS (p.1 :: (sq l na (some p.1)).map (fun p => p.1)) (q.1 :: (sq m nb (some q.1)).map (fun p => p.1)) = if cS p.1 q.1 = 0 then lexC cS ((sq l na (some p.1)).map (fun p => p.1)) ((sq m nb (some q.1)).map (fun p => p.1)) else cS p.1 q.1 := rfl
      rw [hlex]
      by_cases e : cS p.1 q.1 = 0
      · rw [if_pos (t1.mpr e), if_pos e, i3_one]
        refine ih nb n (i + 1) (some p.1) (some q.1) y y' (by omega) (by omega) (by omega) ⟨e2, e3⟩ ⟨e2', e3'⟩ hpc hqc ?_
        obtain ⟨P, Q, p1, p2, p3⟩ := hPQ
        refine ⟨P ++ [p], Q ++ [q], by rw [p1, hsq, List.append_assoc]; rfl, by rw [p2, hsq', List.append_assoc]; rfl, ?_⟩
        rw [List.map_append, List.map_append, p3, List.map_cons, List.map_cons, cS_eq e]
      · rw [if_neg (fun h => e (t1.mp h)), if_neg e, if_neg e]
        exact t6
theorem kd7 {x : JT (d + 1)} (hx : jok (d + 1) x) : kd (d + 1) x < 7 := by
  rcases jcases x with ⟨k, rfl⟩ | ⟨z, rfl⟩ | ⟨s, rfl⟩ | ⟨l, rfl⟩ | ⟨l, rfl⟩
  · have h3 : k < 3 := hx
    rw [kd_k]; omega
  · rw [kd_n]; omega
  · rw [kd_s]; omega
  · rw [kd_a]; omega
  · rw [kd_o]; omega
theorem orderM (hM : MS st vs cs ks ws) (hn : 5000000 < n) : ∀ (d fu : Nat), d ≤ fu → Or vs cs ks st d (fM_order fu n) := by
  intro d
  induction d with
  | zero => intro fu _ x; exact (j0 x).elim
  | succ d ih =>
    intro fu hfu x y a b ha hb hx hy
    obtain ⟨fu, rfl⟩ : ∃ f, fu = f + 1 := ⟨fu - 1, by omega⟩
    obtain ⟨a1, _, a3, _⟩ := ha.g hM
    obtain ⟨b1, _, b3, _⟩ := hb.g hM
    have hka := kd7 hx
    have hkb := kd7 hy
    rw [fM_order, if_neg a1, if_neg b1, a3, b3]
    by_cases hk : kd (d + 1) x = kd (d + 1) y
    · rw [if_pos (by rw [hk])]
      have hr : rk (d + 1) x = rk (d + 1) y := by rw [rk_ok hx, rk_ok hy, hk]
      rcases rk_same hr with ⟨p, q, rfl, rfl, hpq⟩ | ⟨p, q, rfl, rfl⟩ | ⟨p, q, rfl, rfl⟩ | ⟨p, q, rfl, rfl⟩ | ⟨p, q, rfl, rfl⟩
      · have h3 : p < 3 := hx
        have e3 : ∀ c : Nat, c < 256 → (i3 p = i3 c) = (p = c) := fun c hc => i3_eq (by omega) (by omega)
        rw [kd_k, if_neg (show ¬ i3 p = 3 from fun h => by have := (e3 3 (by omega)).mp h; omega), if_neg (show ¬ i3 p = 4 from fun h => by have := (e3 4 (by omega)).mp h; omega), if_neg (show ¬ i3 p = 5 from fun h => by have := (e3 5 (by omega)).mp h; omega), if_neg (show ¬ i3 p = 6 from fun h => by have := (e3 6 (by omega)).mp h; omega), jcmp_k, hpq, Int.sub_self]
        exact ⟨0, rfl, rfl, by omega, by omega⟩
      · rw [kd_n, if_pos (by decide), ha.num hM, hb.num hM, jcmp_n]
        have hp : -9007199254740991 ≤ p ∧ p ≤ 9007199254740991 := hx
        have hq : -9007199254740991 ≤ q ∧ q ≤ 9007199254740991 := hy
        rw [lg_cW (by omega) (by omega) (by omega) (by omega)]
        by_cases c1 : 0 ≤ p - q
        · rw [if_pos (by rw [izs_ge0]; exact c1)]
          by_cases c2 : p - q ≤ 0
          · rw [if_pos (by rw [izs_le0]; exact c2)]
            exact ⟨0, rfl, by rw [show p - q = 0 by omega], by omega, by omega⟩
          · rw [if_neg (by rw [izs_le0]; exact c2)]
            exact ⟨1, rfl, by unfold sg; rw [if_neg (by decide), if_neg (by decide), if_neg (by omega), if_neg (by omega)], by omega, by omega⟩
        · rw [if_neg (by rw [izs_ge0]; exact c1)]
          exact ⟨-1, rfl, by unfold sg; rw [if_pos (by decide), if_pos (by omega)], by omega, by omega⟩
      · rw [kd_s, if_neg (by decide), if_pos (by decide), jcmp_s]
        exact orderS hM (isStr_rep ha) (isStr_rep hb) (ha.szs hM).2 (hb.szs hM).2 p.length n 0 (by omega) (by omega) (by have := (ha.szs hM).2; omega)
      · rw [kd_a, if_neg (by decide), if_neg (by decide), if_pos (by decide), jcmp_a]
        exact orderA hM (ih fu (by omega)) ha hb hx hy p.length n 0 (by omega) (by omega) (by have := (ha.sza hM).2; omega)
      · rw [kd_o, if_neg (by decide), if_neg (by decide), if_neg (by decide), if_pos (by decide), jcmp_o]
        have h1 := (ha.szo hM).2
        have h2 := (hb.szo hM).2
        have hrs : p ≠ [] ∨ q ≠ [] → OrS vs cs st (fM_order fu n) := fun h => by
          have hd0 : d ≠ 0 := fun e => by
            subst e
            rcases h with h | h
            · cases p with
              | nil => exact h rfl
              | cons z _ => exact (j0 z.2).elim
            · cases q with
              | nil => exact h rfl
              | cons z _ => exact (j0 z.2).elim
          obtain ⟨f, rfl⟩ : ∃ f, fu = f + 1 := ⟨fu - 1, by omega⟩
          exact orderS' hM (by omega)
        have := obj1 hM (ih fu (by omega)) hrs ha hb hx hy p.length q.length n 0 none none 0 0 (by omega) (by omega) (by omega) rfl rfl (bh_cnt p) (bh_cnt q) ⟨[], [], rfl, rfl, rfl⟩
        obtain ⟨z, hz, z1, z2, z3⟩ := this
        refine ⟨z, ?_, ?_, z2, z3⟩
        · unfold fM_objects
          rw [show fM_objects_b (fM_order fu n) st n 1 0 0 0 a b = some (iz z) from hz, Option.bind_some]
        · exact z1
    · rw [if_neg (by rw [i3_eq (by omega) (by omega)]; exact hk)]
      have hne : rk (d + 1) x ≠ rk (d + 1) y := by rw [rk_ok hx, rk_ok hy]; exact hk
      rw [jcmp_ne hne, rk_ok hx, rk_ok hy]
      exact i3_dif (by omega) (by omega)
end RDE
end ZRde75
