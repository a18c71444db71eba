section INV
theorem map_sur {α β : Type} {f : α → β} : ∀ l : List β, (∀ x ∈ l, ∃ i, f i = x) → ∃ l' : List α, l'.map f = l := by
  intro l
  induction l with
  | nil => exact fun _ => ⟨[], rfl⟩
  | cons x l ih =>
    intro h
    obtain ⟨i, hi⟩ := h x (List.mem_cons_self ..)
    obtain ⟨l', hl⟩ := ih (fun y hy => h y (List.mem_cons_of_mem _ hy))
    exact ⟨i :: l', by rw [List.map_cons, hi, hl]⟩
theorem low : ∀ (d : Nat) (j : JT (d + 2)), jd (d + 2) j ≤ d → ∃ i : JT (d + 1), lf (d + 1) i = j := by
  intro d
  induction d with
  | zero =>
    intro j hj
    rcases jcases j with ⟨k, rfl⟩ | ⟨z, rfl⟩ | ⟨s, rfl⟩ | ⟨l, rfl⟩ | ⟨l, rfl⟩
    · exact ⟨jk k, rfl⟩
    · exact ⟨jn z, rfl⟩
    · exact ⟨js s, rfl⟩
    · rw [jd_a] at hj; omega
    · rw [jd_o] at hj; omega
  | succ d ih =>
    intro j hj
    rcases jcases j with ⟨k, rfl⟩ | ⟨z, rfl⟩ | ⟨s, rfl⟩ | ⟨l, rfl⟩ | ⟨l, rfl⟩
    · exact ⟨jk k, rfl⟩
    · exact ⟨jn z, rfl⟩
    · exact ⟨js s, rfl⟩
    · rw [jd_a] at hj
      have hm := (foldl_max_le.mp (show (l.map (jd (d + 2))).foldl max 0 ≤ d from Nat.le_of_succ_le_succ hj)).2
      obtain ⟨l', hl⟩ := map_sur (f := lf (d + 1)) l (fun x hx => ih x (hm _ (List.mem_map_of_mem hx)))
      exact ⟨ja l', by rw [lf_a, hl]⟩
    · rw [jd_o] at hj
      have hm := (foldl_max_le.mp (show (l.map (fun p => jd (d + 2) p.2)).foldl max 0 ≤ d from Nat.le_of_succ_le_succ hj)).2
      obtain ⟨l', hl⟩ := map_sur (f := fun p : Sx × JT (d + 1) => (p.1, lf (d + 1) p.2)) l (fun x hx => by
        obtain ⟨i, hi⟩ := ih x.2 (hm _ (List.mem_map.mpr ⟨x, hx, rfl⟩))
        exact ⟨(x.1, i), by rw [hi]⟩)
      exact ⟨jo l', by rw [lf_o, hl]⟩
theorem flat_2 : ∀ (l : List (List Nat)), (∀ y ∈ l, 1 ≤ y.length) → 2 * l.length ≤ (l.flatMap (fun y => 44 :: y)).length := by
  intro l
  induction l with
  | nil => exact fun _ => Nat.le_refl _
  | cons x l ih =>
    intro h
    have h1 := h x (List.mem_cons_self ..)
    have h2 := ih (fun y hy => h y (List.mem_cons_of_mem _ hy))
    rw [List.flatMap_cons, List.length_append, List.length_cons, List.length_cons]
    omega
theorem cj_2 (l : List (List Nat)) (h : ∀ y ∈ l, 1 ≤ y.length) : 2 * l.length ≤ (cj l).length + 1 := by
  cases l with
  | nil => exact Nat.zero_le _
  | cons x l =>
    have h1 := h x (List.mem_cons_self ..)
    have h2 := flat_2 l (fun y hy => h y (List.mem_cons_of_mem _ hy))
    show 2 * (l.length + 1) ≤ (x ++ l.flatMap (fun y => 44 :: y)).length + 1
    rw [List.length_append]
    omega
theorem ja_l48 {d : Nat} {l : List (JT (d + 1))} (hj : jok (d + 2) (ja l)) (h : (jt (d + 2) (ja l)).length ≤ 4096) : l.length ≤ 2048 := by
  have hl : (jt (d + 2) (ja l)).length = (cj (l.map (jt (d + 1)))).length + 2 := by
    show (91 :: (cj (l.map (jt (d + 1))) ++ [93])).length = _
    rw [List.length_cons, List.length_append]
    rfl
  have := cj_2 (l.map (jt (d + 1))) (fun y hy => by
    obtain ⟨x, hx, rfl⟩ := List.mem_map.mp hy
    obtain ⟨c, w, hw, _⟩ := jt_bv x (hj x hx)
    rw [hw, List.length_cons]
    omega)
  rw [List.length_map] at this
  omega
theorem jo_l48 {d : Nat} {l : List (Sx × JT (d + 1))} (h : (jt (d + 2) (jo l)).length ≤ 4096) : l.length ≤ 2048 := by
  have hl : (jt (d + 2) (jo l)).length = (cj (l.map (fun p => qt p.1 ++ 58 :: jt (d + 1) p.2))).length + 2 := by
    show (123 :: (cj (l.map (fun p => qt p.1 ++ 58 :: jt (d + 1) p.2)) ++ [125])).length = _
    rw [List.length_cons, List.length_append]
    rfl
  have := cj_2 (l.map (fun p => qt p.1 ++ 58 :: jt (d + 1) p.2)) (fun y hy => by
    obtain ⟨x, hx, rfl⟩ := List.mem_map.mp hy
    rw [List.length_append, List.length_cons]
    omega)
  rw [List.length_map] at this
  omega
def TI (k : xC) (j : Nat) (t : TS) : Prop := ktb k j = t.1 ∧ ktl k j = i3 t.2.1 ∧ kto k j = t.2.2
def RowI (k : xC) (x : Nat) (j : JT 101) : Prop := ∃ v : Nat, krz k x = i3 v ∧ At (krc k x) v 0 (jc 101 j)
def CI (k : xC) (R : Nat → JT 101) (tape prn : List Nat) : Prop := (∃ t, TI k 0 t ∧ TP t tape) ∧ (∃ t, TI k 1 t ∧ TP t prn) ∧ (∃ t, TI k 2 t ∧ RV t) ∧ (∀ x, x < 8 → RowI k x (R x))
theorem TI.up {k : xC} {j : Nat} {t : TS} : TI (kT k j t.1 (i3 t.2.1) t.2.2) j t := ⟨(up_eq : va_up (ktb k) j t.1 j = t.1), (up_eq : va_up (ktl k) j (i3 t.2.1) j = _), (up_eq : va_up (kto k) j t.2.2 j = _)⟩
theorem TI.ne {k : xC} {i j : Nat} {t : TS} {f : Nat → Int32} {a b : Int32} (h : TI k i t) (hi : i ≠ j) : TI (kT k j f a b) i t := ⟨(up_ne hi : va_up (ktb k) j f i = ktb k i).trans h.1, (up_ne hi : va_up (ktl k) j a i = ktl k i).trans h.2.1, (up_ne hi : va_up (kto k) j b i = kto k i).trans h.2.2⟩
variable {k : xC} {R : Nat → JT 101} {tape prn : List Nat}
theorem CI.t0 {t : TS} {tp' : List Nat} (h : CI k R tape prn) (ht : TP t tp') : CI (kT k 0 t.1 (i3 t.2.1) t.2.2) R tp' prn := by
  obtain ⟨_, ⟨t1, a1, b1⟩, ⟨t2, a2, b2⟩, hr⟩ := h
  exact ⟨⟨t, TI.up, ht⟩, ⟨t1, a1.ne (by decide), b1⟩, ⟨t2, a2.ne (by decide), b2⟩, hr⟩
theorem CI.t1 {t : TS} {pr' : List Nat} (h : CI k R tape prn) (ht : TP t pr') : CI (kT k 1 t.1 (i3 t.2.1) t.2.2) R tape pr' := by
  obtain ⟨⟨t0, a0, b0⟩, _, ⟨t2, a2, b2⟩, hr⟩ := h
  exact ⟨⟨t0, a0.ne (by decide), b0⟩, ⟨t, TI.up, ht⟩, ⟨t2, a2.ne (by decide), b2⟩, hr⟩
theorem CI.t2 {t : TS} (h : CI k R tape prn) (ht : RV t) : CI (kT k 2 t.1 (i3 t.2.1) t.2.2) R tape prn := by
  obtain ⟨⟨t0, a0, b0⟩, ⟨t1, a1, b1⟩, _, hr⟩ := h
  exact ⟨⟨t0, a0.ne (by decide), b0⟩, ⟨t1, a1.ne (by decide), b1⟩, ⟨t, TI.up, ht⟩, hr⟩
theorem CI.r8 {f : Nat → Int64} {a b : Int32} (h : CI k R tape prn) : CI (kR k f a b) R tape prn := by
  obtain ⟨h0, h1, h2, hr⟩ := h
  refine ⟨h0, h1, h2, fun x hx => ?_⟩
  obtain ⟨v, e1, e2⟩ := hr x hx
  refine ⟨v, (up_ne (by omega) : va_up (krz k) 8 a x = krz k x).trans e1, ?_⟩
  rw [show krc (kR k f a b) x = krc k x from (up_ne (by omega) : va_up (krc k) 8 f x = krc k x)]
  exact e2
theorem CI.p {a b : Int32} (h : CI k R tape prn) : CI (kP k a b) R tape prn := h
theorem CI.s {f0 f1 f2 f3 : Nat → Int32} {t : Int32} (h : CI k R tape prn) : CI (kS k f0 f1 f2 f3 t) R tape prn := h
theorem CI.w {to v : Nat} {j : JT 101} (h : CI k R tape prn) (hto : to < 8) (h1 : krz k 8 = i3 v) (h2 : At (krc k 8) v 0 (jc 101 j)) : CI (kW k to) (fun y => if y = to then j else R y) tape prn := by
  obtain ⟨c0, c1, c2, hr⟩ := h
  refine ⟨c0, c1, c2, fun x hx => ?_⟩
  by_cases e : x = to
  · refine ⟨v, ?_, ?_⟩
    · show xsw2 (krz k) to x = i3 v
      unfold xsw2
      rw [e, up_eq]
      exact h1
    · show At (xsw2 (krc k) to x) v 0 (jc 101 (if x = to then j else R x))
      unfold xsw2
      rw [if_pos e, e, up_eq]
      exact h2
  · obtain ⟨u, e1, e2⟩ := hr x hx
    refine ⟨u, ?_, ?_⟩
    · show xsw2 (krz k) to x = i3 u
      unfold xsw2
      rw [up_ne e, up_ne (by omega)]
      exact e1
    · show At (xsw2 (krc k) to x) u 0 (jc 101 (if x = to then j else R x))
      unfold xsw2
      rw [if_neg e, up_ne e, up_ne (by omega)]
      exact e2
/-- the law's invariant after q calls -/
def LI (k : xC) (st : xS) (q wc wn : Nat) : Prop := ∃ (R : Nat → JT 101) (tape prn : List Nat), (∀ x, x < 8 → Gd (R x)) ∧ CI k R tape prn ∧ RefT st (fun x => jt 101 (R x)) tape prn (kpl k) (krs k) ∧ 6 * wc ≤ wn + 2 * q ∧ wn ≤ 107242 + 40 * q + pt st
theorem pt_le {st : xS} {T : Nat → List Nat} {pl rs : Int32} (h : RefT st T tape prn pl rs) : pt st ≤ 2744000 := by
  obtain ⟨⟨v1, c1, k1, w1, _, _, r2, r3, r4, r5, _, _⟩, ⟨s1, s2, s3, s4, s5⟩, _⟩ := h
  have hbv : bV = 32000 := rfl
  have hbk : bK = 32000 := rfl
  have hbc : bC = 100000 := rfl
  have hbp : bP = 200000 := rfl
  unfold pt
  omega
theorem LI.room {st : xS} {q wc wn : Nat} (h : LI k st q wc wn) (hq : q ≤ 512) : wc ≤ 601024 ∧ wn ≤ 7293034 := by
  obtain ⟨R, tape, prn, _, _, h1, h2, h3⟩ := h
  have := pt_le h1
  omega
theorem LI.mk {k' : xC} {st st' : xS} {q wc wn a b cc s wc' wn' : Nat} {R' : Nat → JT 101} {tape' prn' : List Nat} (h2 : 6 * wc ≤ wn + 2 * q) (h3 : wn ≤ 107242 + 40 * q + pt st) (hG : ∀ x, x < 8 → Gd (R' x)) (hC : CI k' R' tape' prn') (hT : RefT st' (fun x => jt 101 (R' x)) tape' prn' (kpl k') (krs k')) (hc : CostE st st' cc s 3) (ha : 6 * a ≤ b + 2) (hb : b ≤ 22) (e1 : wc' = wc + a + cc) (e2 : wn' = wn + b + s) : LI k' st' (q + 1) wc' wn' := by
  have c1 := hc.1
  have c2 := hc.2
  exact ⟨R', tape', prn', hG, hC, hT, by omega, by omega⟩
theorem CostE.of_pt {st st' : xS} (h : pt st' = pt st) : CostE st st' 0 0 3 := ⟨Nat.le_refl _, by omega⟩
theorem xpk_i {x : Nat} (hx : x < 8) : xpk (i3 x) = x := by
  unfold xpk
  rw [if_neg (i3_idx hx (by omega)), i3_N (by omega)]
theorem xpk_lt (x : Int32) : xpk x < 8 := by
  unfold xpk
  by_cases h : x < 0 ∨ 8 ≤ x.toNatClampNeg
  · rw [if_pos h]; decide
  · rw [if_neg h]
    exact Nat.lt_of_not_le (fun h' => h (Or.inr h'))
/-- what a call that makes a value leaves -/
def OutP (st st' : xS) (T : Nat → List Nat) (tape prn : List Nat) (pl : Int32) (x1 code : Int32) (r8 : Nat → Int64) (rz z : Int32) (cc s : Nat) : Prop := CostE st st' cc s 3 ∧ xsi st' 0 = code ∧ ((code = 0 ∧ ∃ (to v : Nat) (j : JT 101), x1 = i3 to ∧ to < 8 ∧ Gd j ∧ rz = i3 v ∧ At r8 v 0 (jc 101 j) ∧ RefT st' (fun y => if y = to then jt 101 j else T y) tape prn pl z) ∨ (code ≠ 0 ∧ RefT st' T tape prn pl z))
theorem OutP.of {d c to cc s : Nat} {st st' : xS} {T : Nat → List Nat} {pl z v20 : Int32} {r' : RS} {res : Nat ⊕ JT d} (hto : to < 8) (hk : KO c r' z res v20) (hj : RJ res) (hlow : ∀ j : JT d, fit j → jok d j → ∃ i : JT 101, Gd i ∧ jc 101 i = jc d j ∧ jt 101 i = jt d j) (hc : CostE st st' cc s 3) (hf : match (generalizing := false) res with
  | .inl k => RefT st' T tape prn pl (i3 k) ∧ xsi st' 0 = 2
  | .inr j => (fit j ∧ RefT st' (fun y => if y = to then jt d j else T y) tape prn pl v20 ∧ xsi st' 0 = 0) ∨ (¬ fit j ∧ RefT st' T tape prn pl v20 ∧ xsi st' 0 = 3)) : OutP st st' T tape prn pl (i3 to) (lc c) r'.1 (i3 r'.2.1) z cc s := by
  cases res with
  | inl k =>
    obtain ⟨_, rfl, rfl, _⟩ := hk
    exact ⟨hc, hf.2, Or.inr ⟨by decide, hf.1⟩⟩
  | inr j =>
    obtain ⟨_, rfl, hk⟩ := hk
    rcases hk with ⟨k1, rfl, k3, k4, k5⟩ | ⟨k1, rfl⟩
    · rcases hf with ⟨_, f2, f3⟩ | ⟨f1, _⟩
      · obtain ⟨i, i1, i2, i3'⟩ := hlow j k1 (hj j rfl)
        refine ⟨hc, f3, Or.inl ⟨rfl, to, r'.2.1, i, rfl, hto, i1, rfl, by rw [i2]; exact k5, by rw [i3']; exact f2⟩⟩
      · exact absurd k1 f1
    · rcases hf with ⟨f1, _⟩ | ⟨_, f2, f3⟩
      · exact absurd f1 k1
      · exact ⟨hc, f3, Or.inr ⟨by decide, f2⟩⟩
theorem low1 (j : JT 101) (hf : fit j) (hj : jok 101 j) : ∃ i : JT 101, Gd i ∧ jc 101 i = jc 101 j ∧ jt 101 i = jt 101 j := ⟨j, ⟨hj, hf⟩, rfl, rfl⟩
theorem low2 (j : JT 102) (hf : fit j) (hj : jok 102 j) : ∃ i : JT 101, Gd i ∧ jc 101 i = jc 102 j ∧ jt 101 i = jt 102 j := by
  obtain ⟨i, rfl⟩ := low 100 j (Nat.le_trans hf.1 (by decide))
  refine ⟨i, ⟨(jok_lf 101 i).mp hj, ?_, ?_⟩, (jc_lf 101 i).symm, (jt_lf 101 i).symm⟩
  · have := hf.1
    rw [show jd 102 (lf (100 + 1) i) = jd 101 i from jd_lf 101 i] at this
    exact this
  · have := hf.2
    rw [show jt 102 (lf (100 + 1) i) = jt 101 i from jt_lf 101 i] at this
    exact this
end INV
