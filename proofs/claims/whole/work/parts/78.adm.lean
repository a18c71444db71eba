section ADM
variable {st : xS} {vs : List VR} {cs : List Nat} {ks ws : List NP} {e n : Nat}
def Bd (vs : List VR) (cs : List Nat) (ks ws : List NP) : Prop := vs.length ≤ 8200 ∧ cs.length ≤ 8200 ∧ ks.length ≤ 8200 ∧ ws.length ≤ 60
def Arg (vs : List VR) (cs : List Nat) (ks : List NP) (d : Nat) (x : JT d) (a : Nat) : Prop := Rep vs cs ks d x a ∧ jok d x ∧ jd d x ≤ 60 ∧ (jt d x).length ≤ 4096 ∧ (jc d x).length ≤ 4096
theorem Arg.g (hM : MS st vs cs ks ws) {x : JT (e + 1)} {a : Nat} (h : Arg vs cs ks (e + 1) x a) : ¬ (a = 0 ∨ xct st < a) ∧ ¬ xct st < a ∧ xpi st 0 (a - 1) = i3 (kd (e + 1) x) ∧ a ≤ vs.length := h.1.g hM
theorem Arg.k7 {x : JT (e + 1)} {a : Nat} (h : Arg vs cs ks (e + 1) x a) : kd (e + 1) x < 7 := kd7 h.2.1
theorem Arg.la {l : List (JT e)} {a : Nat} (h : Arg vs cs ks (e + 1) (ja l) a) : l.length ≤ 4096 := by have := len_a l; have := h.2.2.2.2; omega
theorem Arg.lo {l : List (Sx × JT e)} {a : Nat} (h : Arg vs cs ks (e + 1) (jo l) a) : l.length ≤ 4096 := by have := len_o l; have := h.2.2.2.2; omega
theorem Arg.ls {s : Sx} {a : Nat} (h : Arg vs cs ks (e + 1) (js s) a) : s.length ≤ 4095 := by have := h.2.2.2.2; rw [jc_s, strc_ln] at this; omega
theorem ke {k c : Nat} (hk : k < 7) (hc : c < 8) : (i3 k = i3 c) = (k = c) := i3_eq (by omega) (by omega)
theorem kl {k c : Nat} (hk : k < 7) (hc : c < 8) : (i3 c ≤ i3 k) = (c ≤ k) := i3_le (by omega) (by omega)
def oP2 {e : Nat} (a b : JT (e + 1)) : Nat ⊕ JT (e + 1) :=
  match a, b with
  | .inl (.inr (.inr s)), .inl (.inr (.inr t)) => .inr (js (s ++ t))
  | .inr (.inl l), .inr (.inl m) => .inr (ja (l ++ m))
  | .inr (.inr l), .inr (.inr m) => .inr (jo (bw (fun _ y => y) l m))
  | _, _ => .inl 1
theorem oPlus_eq {a b : JT (e + 1)} : oPlus a b = if kd (e + 1) a = 0 then .inr b else if kd (e + 1) b = 0 then .inr a else oP2 a b := rfl
def oB2 {e : Nat} (op : Nat) (a b : JT (e + 2)) : Nat ⊕ JT (e + 2) := if op = 0 then oPlus a b else if op = 1 then oMinus a b else if op = 2 then oTimes a b else if op = 3 then oPieces a b else .inl 1
theorem oBin_np {op : Nat} {x y : JT (e + 2)} (h : kd (e + 2) x ≠ 3 ∨ kd (e + 2) y ≠ 3) : oBin op x y = oB2 op x y := by
  rcases jcases x with ⟨k, rfl⟩ | ⟨z, rfl⟩ | ⟨s, rfl⟩ | ⟨l, rfl⟩ | ⟨l, rfl⟩ <;> rcases jcases y with ⟨k', rfl⟩ | ⟨z', rfl⟩ | ⟨s', rfl⟩ | ⟨l', rfl⟩ | ⟨l', rfl⟩ <;> first
    | rfl
    | (exact (h.elim (fun h => h rfl) (fun h => h rfl)).elim)
theorem oP2_ne {x y : JT (e + 1)} (h : kd (e + 1) x ≠ kd (e + 1) y ∨ kd (e + 1) x < 4) : oP2 x y = .inl 1 := by
  rcases jcases x with ⟨k, rfl⟩ | ⟨z, rfl⟩ | ⟨s, rfl⟩ | ⟨l, rfl⟩ | ⟨l, rfl⟩ <;> rcases jcases y with ⟨k', rfl⟩ | ⟨z', rfl⟩ | ⟨s', rfl⟩ | ⟨l', rfl⟩ | ⟨l', rfl⟩ <;> first
    | rfl
    | (exact (h.elim (fun h => h rfl) (fun h => absurd h (show ¬ (4 : Nat) < 4 by decide))).elim)
    | (exact (h.elim (fun h => h rfl) (fun h => absurd h (show ¬ (5 : Nat) < 4 by decide))).elim)
    | (exact (h.elim (fun h => h rfl) (fun h => absurd h (show ¬ (6 : Nat) < 4 by decide))).elim)
theorem plus_ne {x y : JT (e + 2)} (h1 : ¬ kd (e + 2) x = 0) (h2 : ¬ kd (e + 2) y = 0) (h : kd (e + 2) x ≠ kd (e + 2) y ∨ kd (e + 2) x < 3) : oBin 0 x y = .inl 1 := by
  rw [oBin_np (by omega)]
  unfold oB2
  rw [if_pos rfl, oPlus_eq, if_neg h1, if_neg h2]
  exact oP2_ne (h.elim Or.inl (fun h => Or.inr (Nat.lt_succ_of_lt h)))
theorem kd_0 {x : JT (e + 1)} (h : kd (e + 1) x = 0) : x = jk 0 := by
  rcases jcases x with ⟨k, rfl⟩ | ⟨z, rfl⟩ | ⟨s, rfl⟩ | ⟨l, rfl⟩ | ⟨l, rfl⟩
  · rw [kd_k] at h; rw [h]
  · cases h
  · cases h
  · cases h
  · cases h
theorem kd_3 {x : JT (e + 1)} (hx : jok (e + 1) x) (h : 3 ≤ kd (e + 1) x) : (∃ z, x = jn z) ∨ (∃ s, x = js s) ∨ (∃ l, x = ja l) ∨ (∃ l, x = jo l) := by
  rcases jcases x with ⟨k, rfl⟩ | ⟨z, rfl⟩ | ⟨s, rfl⟩ | ⟨l, rfl⟩ | ⟨l, rfl⟩
  · have h3 : k < 3 := hx
    rw [kd_k] at h
    omega
  · exact Or.inl ⟨z, rfl⟩
  · exact Or.inr (Or.inl ⟨s, rfl⟩)
  · exact Or.inr (Or.inr (Or.inl ⟨l, rfl⟩))
  · exact Or.inr (Or.inr (Or.inr ⟨l, rfl⟩))
theorem addedM {x y : JT (e + 2)} {a b : Nat} (hM : MS st vs cs ks ws) (ha : Arg vs cs ks (e + 2) x a) (hb : Arg vs cs ks (e + 2) y b) (hB : Bd vs cs ks ws) (hn : 5000000 < n) : OpO st 0 0 1 2 (fM_added n st a b) vs cs ks ws (oBin 0 x y) := by
  obtain ⟨a1, a2, a3, _⟩ := ha.g hM
  obtain ⟨b1, b2, b3, _⟩ := hb.g hM
  have ka := ha.k7
  have kb := hb.k7
  obtain ⟨B1, B2, B3, B4⟩ := hB
  have hbv : bV = 32000 := rfl
  have hbk : bK = 32000 := rfl
  have hbc : bC = 100000 := rfl
  unfold fM_added
  rw [if_neg a1, a3]
  by_cases h0 : kd (e + 2) x = 0
  · rw [if_pos (by rw [h0]; rfl), kd_0 h0]
    exact OpO.old hM hb.1
  rw [if_neg (show ¬ i3 (kd (e + 2) x) = 0 from fun h => h0 ((ke (c := 0) ka (by omega)).mp h)), if_neg b1, b3]
  by_cases h0' : kd (e + 2) y = 0
  · rw [if_pos (by rw [h0']; rfl)]
    have : oBin 0 x y = .inr x := by
      rw [oBin_np (by omega)]
      unfold oB2
      rw [if_pos rfl, oPlus_eq, if_neg h0, if_pos h0']
    rw [this]
    exact OpO.old hM ha.1
  rw [if_neg (show ¬ i3 (kd (e + 2) y) = 0 from fun h => h0' ((ke (c := 0) kb (by omega)).mp h))]
  by_cases hk : kd (e + 2) x = kd (e + 2) y
  · rw [if_pos (by rw [hk])]
    by_cases h3 : 3 ≤ kd (e + 2) x
    · rw [if_pos (show (3 : Int32) ≤ i3 (kd (e + 2) x) by rw [show (3 : Int32) = i3 3 from rfl, kl ka (by omega)]; exact h3)]
      have hr : rk (e + 2) x = rk (e + 2) y := by rw [rk_ok ha.2.1, rk_ok hb.2.1, hk]
      rcases rk_same hr with ⟨p, q, rfl, rfl, hpq⟩ | ⟨p, q, rfl, rfl⟩ | ⟨p, q, rfl, rfl⟩ | ⟨p, q, rfl, rfl⟩ | ⟨p, q, rfl, rfl⟩
      · have : p < 3 := ha.2.1
        rw [kd_k] at h3
        omega
      · have hp : -9007199254740991 ≤ p ∧ p ≤ 9007199254740991 := ha.2.1
        have hq : -9007199254740991 ≤ q ∧ q ≤ 9007199254740991 := hb.2.1
        rw [kd_n, if_pos (by decide), ha.1.num hM, hb.1.num hM, cW_add]
        exact OpO.r1 (number_o (n := n) hM (by omega) (by omega) (by omega) (by omega))
      · obtain ⟨c1, s1, st1, e1, m1, m2, m3, _⟩ := letters_w (n := n) hM (isStr_rep ha.1) (by have := ha.ls; omega) (by omega)
        have hb' : isStr vs (cs ++ p) b q := by have := (isStr_rep hb.1).mono (vs' := []) (cs' := p); rw [List.append_nil] at this; exact this
        obtain ⟨c2, s2, st2, e2, n1, n2, n3, _⟩ := letters_w (n := n) m1 hb' (by rw [List.length_append]; have := ha.ls; have := hb.ls; omega) (by omega)
        rw [kd_s, if_neg (by decide), if_pos (by decide), e1, Option.bind_some]
        dsimp only
        rw [e2, Option.bind_some, hM.1.1.2.1]
        dsimp only
        rw [List.append_assoc] at n1
        refine OpO.step0 (cc := c1) (s := s1) (OpO.wrap ?_) m2 m3.o
        refine OpO.step0 (cc := c2) (s := s2) (OpO.wrap ?_) n2 n3.o
        have := OpO.l1 (wc := 0 + c1 + c2) (wn := 0 + s1 + s2) (q := 2) (cR' := 1) (by omega) (string_o (n := n) (cR := 1) (d := e + 1) n1 (by omega) (by omega))
        refine OpO.step (a := []) (b := p ++ q) (c := []) (wc := 0 + c1 + c2) (wn := 0 + s1 + s2) (cc := 0) (s := 0) ?_ Cost.refl FrO.refl
        rw [List.append_nil, List.append_nil]
        exact this
      · rw [kd_a, if_neg (by decide), if_neg (by decide), hM.1.1.2.2.2]
        have := addA1 (W0 := ws) ha.1 hb.1 (by omega) (by have := ha.la; have := hb.la; omega) p.length n 0 st [] [] 0 0 (by omega) (by simp) (by rw [List.append_nil]; exact hM) trivial (by have := ha.la; omega)
        exact this
      · rw [kd_o, if_neg (by decide), if_neg (by decide), hM.1.1.2.2.2]
        have := addO1 (W0 := ws) ha.1 hb.1 (by omega) (by have := ha.lo; have := hb.lo; omega) p.length n 0 st [] [] 0 0 (by omega) (by simp) (by rw [List.append_nil]; exact hM) trivial (by have := ha.lo; omega)
        exact this
    · rw [if_neg (show ¬ (3 : Int32) ≤ i3 (kd (e + 2) x) by rw [show (3 : Int32) = i3 3 from rfl, kl ka (by omega)]; exact h3), plus_ne h0 h0' (Or.inr (by omega))]
      exact refuse_o (k := 1) hM
  · rw [if_neg (by rw [i3_eq (by omega) (by omega)]; exact hk), plus_ne h0 h0' (Or.inl hk)]
    exact refuse_o (k := 1) hM
end ADM
