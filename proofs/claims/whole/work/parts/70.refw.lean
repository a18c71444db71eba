section PX4
variable {mx : Nat} {vs : List VR} {cs : List Nat} {ks ws : List NP}
theorem PutO.wrap {st : xS} {ps : List Nat} {wc wn : Nat} {X : Option Out4P} {w : List Nat} (h : PutO st mx ps wc wn X w) : PutO st mx ps wc wn (xmo (fun a => a.2.1) (fun a => a.2.2.1) wc wn X) w := by
  rw [xmo_id h.ge]; exact h
theorem PutO.tail {st : xS} {ps : List Nat} {wc wn : Nat} {out1 : Option Out4P} {w : List Nat} (h1 : PutO st mx ps 0 0 out1 w) : PutO st mx ps wc wn (out1.bind fun o => (if o.1 = 0 then xmo (fun a => a.2.1) (fun a => a.2.2.1) (wc + o.2.1) (wn + o.2.2.1) (some (0, (wc + o.2.1), (wn + o.2.2.1), o.2.2.2)) else (if o.1 = 1 then xmo (fun a => a.2.1) (fun a => a.2.2.1) (wc + o.2.1) (wn + o.2.2.1) (some (1, (wc + o.2.1), (wn + o.2.2.1), o.2.2.2)) else none))) w := by
  have := PutO.bind (K := fun o => some (0, (wc + o.2.1), (wn + o.2.2.1), o.2.2.2)) (wc := wc) (wn := wn) (w2 := []) h1 (fun cc s st1 p1 l1 f1 => PutO.done p1 l1)
  rw [List.append_nil] at this
  exact this
theorem len_fm {α β : Type} (l : List α) {f : α → List β} (h : ∀ x ∈ l, 1 ≤ (f x).length) : l.length ≤ (l.flatMap f).length := by
  induction l with
  | nil => exact Nat.le_refl _
  | cons x l ih =>
    rw [List.flatMap_cons, List.length_append, List.length_cons]
    have h1 := h x (List.mem_cons_self)
    have h2 := ih (fun y hy => h y (List.mem_cons_of_mem _ hy))
    omega
theorem len_a {d : Nat} (l : List (JT d)) : l.length + 1 ≤ (jc (d + 1) (ja l)).length := by
  rw [jc_a]; unfold lst; rw [List.length_cons]; exact Nat.succ_le_succ (len_fm l (fun x _ => jc_pos d x))
theorem len_o {d : Nat} (l : List (Sx × JT d)) : l.length + 1 ≤ (jc (d + 1) (jo l)).length := by
  rw [jc_o]; unfold lst; rw [List.length_cons]; exact Nat.succ_le_succ (len_fm l (fun x _ => by rw [List.length_append]; have := jc_pos d x.2; omega))
def RecP (mx : Nat) (vs : List VR) (cs : List Nat) (ks ws : List NP) {d : Nat} (rec : xS → Nat → Option Out4P) : Prop := ∀ (st : xS) (ps : List Nat) (j : JT d) (c : Nat), Rep vs cs ks d j c → jok d j → MS st vs cs ks ws → PV st mx ps → ps.length ≤ mx → PutO st mx ps 0 0 (rec st c) (jt d j)
theorem pbA {d c : Nat} {rec : xS → Nat → Option Out4P} (hrec : RecP mx vs cs ks ws (d := d) rec) {l : List (JT d)} (hc : Rep vs cs ks (d + 1) (ja l) c) (hok : ∀ x ∈ l, jok d x) (hb : mx + 100 ≤ bP) : ∀ (q i n : Nat) (st : xS) (ps : List Nat) (wc wn : Nat), i + q = l.length → bP + q + 2 < n → MS st vs cs ks ws → PV st mx ps → ps.length ≤ mx → PutO st mx ps wc wn (fM_print1_b rec n 1 (i3 i) c st wc wn) ((if i = 0 then cj ((l.drop i).map (jt d)) else ((l.drop i).map (jt d)).flatMap (fun y => 44 :: y)) ++ [93]) := by
  obtain ⟨h1, v, hv, _, _, _, hw6, hk5, hsz, hkid⟩ := hc
  have hll : l.length ≤ 60000 := by have := len_a l; omega
  have hbk : bK = 32000 := rfl
  have hbp : bP = 200000 := rfl
  intro q
  induction q with
  | zero =>
    intro i n st ps wc wn hi hn hM h hl
    obtain ⟨n, rfl⟩ : ∃ j, n = j + 1 := ⟨n - 1, by omega⟩
    obtain ⟨g1, g2, _⟩ := hM.vc h1 hv
    rw [fM_print1_b, if_neg g1, g2.2.2.1, hsz, if_pos (by rw [i3_le (by omega) (by omega)]; omega), g2.1, hk5, if_pos (by decide), List.drop_eq_nil_of_le (by omega)]
    have : ((if i = 0 then cj (([] : List (JT d)).map (jt d)) else (([] : List (JT d)).map (jt d)).flatMap (fun y => 44 :: y)) ++ [93]) = [93] := by
      split <;> rfl
    rw [this]
    exact PutO.wrap (PutO.tail (put_o (n := n) h hl (c := 93) (by omega) (by omega) (by omega)))
  | succ q ih =>
    intro i n st ps wc wn hi hn hM h hl
    obtain ⟨n, rfl⟩ : ∃ j, n = j + 1 := ⟨n - 1, by omega⟩
    obtain ⟨g1, g2, _⟩ := hM.vc h1 hv
    obtain ⟨p, hp, hrp⟩ := hkid i l[i] (List.getElem?_eq_getElem (by omega))
    rw [fM_print1_b, if_neg g1, g2.2.2.1, hsz, if_neg (by rw [i3_le (by omega) (by omega)]; omega), List.drop_eq_getElem_cons (show i < l.length by omega), List.map_cons]
    refine PutO.wrap ?_
    have ih' := fun st1 ps1 wc1 wn1 => ih (i + 1) n st1 ps1 wc1 wn1 (by omega) (by omega)
    rw [if_neg (by omega)] at ih'
    by_cases h0 : i = 0
    · subst h0
      rw [if_pos (by decide), if_pos rfl, g2.1, hk5, if_neg (by decide), (kid_w hM h1 hv hp).1, Option.bind_some]
      unfold cj
      rw [List.append_assoc]
      refine PutO.bind (K := fun o5 => fM_print1_b rec n 1 (i3 0 + 1) c o5.2.2.2 (wc + o5.2.1) (wn + o5.2.2.1)) (hrec st ps _ _ hrp (hok _ (List.getElem_mem _)) hM h hl) (fun cc s st1 p1 l1 f1 => ?_)
      rw [i3_one]
      exact ih' st1 _ _ _ (hM.fr2 f1) p1 l1
    · rw [if_neg (by rw [show (0 : Int32) = i3 0 from rfl, i3_le (by omega) (by omega)]; omega), if_neg h0, List.flatMap_cons, List.append_assoc]
      refine PutO.bind (w1 := [44]) (w2 := jt d l[i] ++ (((l.drop (i + 1)).map (jt d)).flatMap (fun y => 44 :: y) ++ [93])) (put_o (n := n) h hl (c := 44) (by omega) (by omega) (by omega)) (fun cc s st1 p1 l1 f1 => ?_)
      have hM1 := hM.fr2 f1
      obtain ⟨k1, k2, _⟩ := hM1.vc h1 hv
      dsimp only
      rw [if_neg k1, k2.1, hk5, if_neg (by decide), (kid_w hM1 h1 hv hp).1, Option.bind_some]
      refine PutO.bind (K := fun o17 => fM_print1_b rec n 1 (i3 i + 1) c o17.2.2.2 ((wc + cc) + o17.2.1) ((wn + s) + o17.2.2.1)) (hrec st1 _ _ _ hrp (hok _ (List.getElem_mem _)) hM1 p1 l1) (fun cc s st2 p2 l2 f2 => ?_)
      rw [i3_one]
      exact ih' st2 _ _ _ (hM1.fr2 f2) p2 l2
theorem pbO {d c : Nat} {rec : xS → Nat → Option Out4P} (hrec : RecP mx vs cs ks ws (d := d) rec) {l : List (Sx × JT d)} (hc : Rep vs cs ks (d + 1) (jo l) c) (hok : ∀ x ∈ l, jok d x.2) (hb : mx + 100 ≤ bP) : ∀ (q i n : Nat) (st : xS) (ps : List Nat) (wc wn : Nat), i + q = l.length → 300000 + q < n → MS st vs cs ks ws → PV st mx ps → ps.length ≤ mx → PutO st mx ps wc wn (fM_print1_b rec n 1 (i3 i) c st wc wn) ((if i = 0 then cj ((l.drop i).map (fun p => qt p.1 ++ 58 :: jt d p.2)) else ((l.drop i).map (fun p => qt p.1 ++ 58 :: jt d p.2)).flatMap (fun y => 44 :: y)) ++ [125]) := by
  obtain ⟨h1, v, hv, _, _, _, hw6, hk6, hsz, hkid⟩ := hc
  have hll : l.length ≤ 60000 := by have := len_o l; omega
  have hnm : ∀ x ∈ l, x.1.length ≤ 60000 := fun x hx => by
    have h2 : (strc x.1 ++ jc d x.2).length ≤ (l.flatMap (fun p => strc p.1 ++ jc d p.2)).length := by
      obtain ⟨a, b, rfl⟩ := List.append_of_mem hx
      simp
      omega
    rw [jc_o] at hw6
    unfold lst at hw6
    rw [List.length_cons] at hw6
    rw [List.length_append] at h2
    have h3 : (strc x.1).length = x.1.length + 1 := by unfold strc; simp
    omega
  have hbk : bK = 32000 := rfl
  have hbp : bP = 200000 := rfl
  intro q
  induction q with
  | zero =>
    intro i n st ps wc wn hi hn hM h hl
    obtain ⟨n, rfl⟩ : ∃ j, n = j + 1 := ⟨n - 1, by omega⟩
    obtain ⟨g1, g2, _⟩ := hM.vc h1 hv
    rw [fM_print1_b, if_neg g1, g2.2.2.1, hsz, if_pos (by rw [i3_le (by omega) (by omega)]; omega), g2.1, hk6, if_neg (by decide), List.drop_eq_nil_of_le (by omega)]
    have : ((if i = 0 then cj (([] : List (Sx × JT d)).map (fun p => qt p.1 ++ 58 :: jt d p.2)) else (([] : List (Sx × JT d)).map (fun p => qt p.1 ++ 58 :: jt d p.2)).flatMap (fun y => 44 :: y)) ++ [125]) = [125] := by
      split <;> rfl
    rw [this]
    exact PutO.wrap (PutO.tail (put_o (n := n) h hl (c := 125) (by omega) (by omega) (by omega)))
  | succ q ih =>
    intro i n st ps wc wn hi hn hM h hl
    obtain ⟨n, rfl⟩ : ∃ j, n = j + 1 := ⟨n - 1, by omega⟩
    obtain ⟨g1, g2, _⟩ := hM.vc h1 hv
    have hmem : l[i] ∈ l := List.getElem_mem _
    have hnl := hnm _ hmem
    obtain ⟨p, hp, hrp, hsp⟩ := hkid i l[i] (List.getElem?_eq_getElem (by omega))
    rw [fM_print1_b, if_neg g1, g2.2.2.1, hsz, if_neg (by rw [i3_le (by omega) (by omega)]; omega), List.drop_eq_getElem_cons (show i < l.length by omega), List.map_cons]
    refine PutO.wrap ?_
    have ih' := fun st1 ps1 wc1 wn1 => ih (i + 1) n st1 ps1 wc1 wn1 (by omega) (by omega)
    rw [if_neg (by omega)] at ih'
    have hG : ∀ st1, MS st1 vs cs ks ws → ¬ xct st1 < c := fun st1 m => by
      have := m.2.2.1.1
      have := (m.vc h1 hv).2.2
      omega
    by_cases h0 : i = 0
    · subst h0
      rw [if_pos (by decide), if_pos rfl, g2.1, hk6, if_pos (by decide), (kid_w hM h1 hv hp).2, Option.bind_some]
      unfold cj
      rw [List.append_assoc, List.append_assoc]
      refine PutO.bind (pStr_w hsp hM h hl hb (by omega)) (fun cc s st1 p1 l1 f1 => ?_)
      have hM1 := hM.fr2 f1
      refine PutO.bindG (hG st1 hM1) (w1 := [58]) (w2 := jt d l[0].2 ++ (((l.drop (0 + 1)).map (fun p => qt p.1 ++ 58 :: jt d p.2)).flatMap (fun y => 44 :: y) ++ [125])) (put_o (n := n) p1 l1 (c := 58) (by omega) (by omega) (by omega)) (fun cc s st2 p2 l2 f2 => ?_)
      have hM2 := hM1.fr2 f2
      dsimp only
      rw [(kid_w hM2 h1 hv hp).1, Option.bind_some]
      refine PutO.bindG (hG st2 hM2) (hrec st2 _ _ _ hrp (hok _ hmem) hM2 p2 l2) (fun cc s st3 p3 l3 f3 => ?_)
      rw [i3_one]
      exact ih' st3 _ _ _ (hM2.fr2 f3) p3 l3
    · rw [if_neg (by rw [show (0 : Int32) = i3 0 from rfl, i3_le (by omega) (by omega)]; omega), if_neg h0, List.flatMap_cons, List.append_assoc]
      refine PutO.bind (w1 := [44]) (w2 := (qt l[i].1 ++ 58 :: jt d l[i].2) ++ (((l.drop (i + 1)).map (fun p => qt p.1 ++ 58 :: jt d p.2)).flatMap (fun y => 44 :: y) ++ [125])) (put_o (n := n) h hl (c := 44) (by omega) (by omega) (by omega)) (fun cc s st1 p1 l1 f1 => ?_)
      have hM1 := hM.fr2 f1
      obtain ⟨k1, k2, _⟩ := hM1.vc h1 hv
      dsimp only
      rw [if_neg k1, k2.1, hk6, if_pos (by decide), (kid_w hM1 h1 hv hp).2, Option.bind_some, List.append_assoc]
      refine PutO.bind (pStr_w hsp hM1 p1 l1 hb (by omega)) (fun cc s st2 p2 l2 f2 => ?_)
      have hM2 := hM1.fr2 f2
      refine PutO.bindG (hG st2 hM2) (w1 := [58]) (w2 := jt d l[i].2 ++ (((l.drop (i + 1)).map (fun p => qt p.1 ++ 58 :: jt d p.2)).flatMap (fun y => 44 :: y) ++ [125])) (put_o (n := n) p2 l2 (c := 58) (by omega) (by omega) (by omega)) (fun cc s st3 p3 l3 f3 => ?_)
      have hM3 := hM2.fr2 f3
      dsimp only
      rw [(kid_w hM3 h1 hv hp).1, Option.bind_some]
      refine PutO.bindG (hG st3 hM3) (hrec st3 _ _ _ hrp (hok _ hmem) hM3 p3 l3) (fun cc s st4 p4 l4 f4 => ?_)
      rw [i3_one]
      exact ih' st4 _ _ _ (hM3.fr2 f4) p4 l4
theorem jd_s1 {d : Nat} {j : JT (d + 1)} (h : jd (d + 1) j ≤ 0) : (∃ k, j = jk k) ∨ (∃ z, j = jn z) ∨ (∃ s, j = js s) := by
  rcases jcases j with ⟨k, rfl⟩ | ⟨z, rfl⟩ | ⟨s, rfl⟩ | ⟨l, rfl⟩ | ⟨l, rfl⟩
  · exact Or.inl ⟨k, rfl⟩
  · exact Or.inr (Or.inl ⟨z, rfl⟩)
  · exact Or.inr (Or.inr ⟨s, rfl⟩)
  · have := jd_a_pos (l := l); omega
  · have := jd_o_pos (l := l); omega
theorem isStr_rep {d c : Nat} {s : Sx} (h : Rep vs cs ks (d + 1) (js s) c) : isStr vs cs c s := by
  obtain ⟨h1, v, hv, a1, a2, a3, a4, a5, a6, a7⟩ := h
  exact ⟨h1, v, hv, a5, a6, a1, by rw [a2, jc_s]; unfold strc; simp, a7⟩
theorem pScal {d fu n c : Nat} {j : JT (d + 1)} {st : xS} {ps : List Nat} (hj : (∃ k, j = jk k) ∨ (∃ z, j = jn z)) (hR : Rep vs cs ks (d + 1) j c) (hok : jok (d + 1) j) (hM : MS st vs cs ks ws) (h : PV st mx ps) (hl : ps.length ≤ mx) (hb : ps.length + 30 ≤ bP) (hn : bP + 40 < n) : PutO st mx ps 0 0 (fM_print1 (fu + 1) n st c) (jt (d + 1) j) := by
  rcases hj with ⟨k, rfl⟩ | ⟨z, rfl⟩
  · obtain ⟨h1, v, hv, _, _, _, _, hk⟩ := hR
    obtain ⟨g1, g2, _⟩ := hM.vc h1 hv
    have hk' : v.1 = k := hk
    have hk3 : k < 3 := hok
    rw [fM_print1, if_neg g1, g2.1, hk', jt_k]
    obtain rfl | rfl | rfl : k = 0 ∨ k = 1 ∨ k = 2 := by omega
    · rw [if_pos (by decide)]
      exact PutO.tail (put1_w h hl (by omega) (by omega))
    · rw [if_neg (by decide), if_pos (by decide)]
      exact PutO.tail (put1a_w h hl (by omega) (by omega))
    · rw [if_neg (by decide), if_neg (by decide), if_pos (by decide)]
      exact PutO.tail (put1b_w h hl (by omega) (by omega))
  · obtain ⟨h1, v, hv, _, _, _, _, hk, hz⟩ := hR
    obtain ⟨g1, g2, _⟩ := hM.vc h1 hv
    rw [fM_print1, if_neg g1, g2.1, hk, jt_n, if_neg (by decide), if_neg (by decide), if_neg (by decide), if_pos (by decide), g2.2.2.2.2.2, hz]
    exact PutO.tail (pNum_w hok.1 hok.2 h hl (by omega) (by omega))
theorem print_w (hb : mx + 100 ≤ bP) {n : Nat} (hn : 1000000 < n) : ∀ (d fu : Nat), d ≤ fu → RecP mx vs cs ks ws (d := d) (fM_print1 fu n) := by
  have hbp : bP = 200000 := rfl
  intro d
  induction d with
  | zero => intro fu _ st ps j; exact (j0 j).elim
  | succ d ih =>
    intro fu hfu st ps j c hR hok hM h hl
    obtain ⟨fu, rfl⟩ : ∃ f, fu = f + 1 := ⟨fu - 1, by omega⟩
    rcases jcases j with ⟨k, rfl⟩ | ⟨z, rfl⟩ | ⟨s, rfl⟩ | ⟨l, rfl⟩ | ⟨l, rfl⟩
    · exact pScal (Or.inl ⟨k, rfl⟩) hR hok hM h hl (by omega) (by omega)
    · exact pScal (Or.inr ⟨z, rfl⟩) hR hok hM h hl (by omega) (by omega)
    · have hs := isStr_rep hR
      obtain ⟨h1, v, hv, _, _, _, hw6, hk, _⟩ := hR
      obtain ⟨g1, g2, _⟩ := hM.vc h1 hv
      have hsl : s.length ≤ 60000 := by rw [jc_s] at hw6; unfold strc at hw6; simp at hw6; omega
      rw [fM_print1, if_neg g1, g2.1, hk, jt_s, if_neg (by decide), if_neg (by decide), if_neg (by decide), if_neg (by decide), if_pos (by decide)]
      exact PutO.tail (pStr_w hs hM h hl hb (by omega))
    · have hR' := hR
      obtain ⟨h1, v, hv, _, _, _, hw6, hk, _⟩ := hR
      obtain ⟨g1, g2, _⟩ := hM.vc h1 hv
      have hll := len_a l
      rw [fM_print1, if_neg g1, g2.1, hk, jt_a, if_neg (by decide), if_neg (by decide), if_neg (by decide), if_neg (by decide), if_neg (by decide), if_pos (by decide)]
      refine PutO.bind (w1 := [91]) (w2 := cj (l.map (jt d)) ++ [93]) (put_o (n := n) h hl (c := 91) (by omega) (by omega) (by omega)) (fun cc s st1 p1 l1 f1 => ?_)
      exact pbA (ih fu (by omega)) hR' hok hb l.length 0 n st1 _ _ _ (by omega) (by omega) (hM.fr2 f1) p1 l1
    · have hR' := hR
      obtain ⟨h1, v, hv, _, _, _, hw6, hk, _⟩ := hR
      obtain ⟨g1, g2, _⟩ := hM.vc h1 hv
      have hll := len_o l
      rw [fM_print1, if_neg g1, g2.1, hk, jt_o, if_neg (by decide), if_neg (by decide), if_neg (by decide), if_neg (by decide), if_neg (by decide), if_neg (by decide)]
      refine PutO.bind (w1 := [123]) (w2 := cj (l.map (fun p => qt p.1 ++ 58 :: jt d p.2)) ++ [125]) (put_o (n := n) h hl (c := 123) (by omega) (by omega) (by omega)) (fun cc s st1 p1 l1 f1 => ?_)
      exact pbO (ih fu (by omega)) hR' (fun x hx => (hok.1 x hx).2) hb l.length 0 n st1 _ _ _ (by omega) (by omega) (hM.fr2 f1) p1 l1
end PX4
