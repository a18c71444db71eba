section OPO
def Hs (st : xS) : Prop := 64 ≤ xln st 21 ∧ xln st 21 ≤ 2 * bP ∧ 64 ≤ xln st 13 ∧ xln st 14 = xln st 13 ∧ xln st 13 ≤ 130000
def FrO (st st' : xS) : Prop := (∀ k, (24 ≤ k ∨ k = 0) → xsi st' k = xsi st k) ∧ (∀ k, 24 ≤ k → xln st' k = xln st k ∧ xba st' k = xba st k) ∧ (Hs st → Hs st')
theorem FrO.refl {st : xS} : FrO st st := ⟨fun _ _ => rfl, fun _ _ => ⟨rfl, rfl⟩, id⟩
theorem FrO.trans {a b c : xS} (h : FrO a b) (h' : FrO b c) : FrO a c := ⟨fun k hk => (h'.1 k hk).trans (h.1 k hk), fun k hk => ⟨((h'.2.1 k hk).1).trans (h.2.1 k hk).1, ((h'.2.1 k hk).2).trans (h.2.1 k hk).2⟩, fun x => h'.2.2 (h.2.2 x)⟩
theorem FrP.o {st st' : xS} (h : FrP st st') : FrO st st' := ⟨fun k hk => h.1 k (by omega), fun k hk => h.2 k (by omega), fun x => by
  unfold Hs
  rw [(h.2 21 (by omega)).1, (h.2 13 (by omega)).1, (h.2 14 (by omega)).1]
  exact x⟩
theorem Fr0.o {st st' : xS} (h : Fr0 st st') : FrO st st' := (Fr1.of h).p.o
theorem FrO.at {st : xS} {k : Nat} (v : Int32) (hk : 0 < k ∧ k < 24) : FrO st (xsI st k v) := ⟨fun _ h => up_ne (by omega), fun _ _ => ⟨rfl, rfl⟩, id⟩
def OpB (st st' : xS) : Prop := (∃ vs cs ks ws, MS st' vs cs ks ws) ∧ FrO st st'
def OpO (st : xS) (wc wn cR cL : Nat) (out : Option (Nat × Nat × Nat × Nat × xS)) (vs : List VR) (cs : List Nat) (ks ws : List NP) {d : Nat} (res : Nat ⊕ JT d) : Prop := match res with
  | .inl k => ∃ (cc s : Nat) (st' : xS), out = some (cR, wc + cc, wn + s, 0, st') ∧ CostE st st' cc s 2 ∧ OpB st st' ∧ xsi st' 8 = i3 k
  | .inr j => (∃ (cc s c : Nat) (st' : xS) (vs' : List VR) (cs' : List Nat) (ks' : List NP), out = some (0, wc + cc, wn + s, c, st') ∧ MS st' (vs ++ vs') (cs ++ cs') (ks ++ ks') ws ∧ Cost st st' cc s ∧ FrO st st' ∧ Rep (vs ++ vs') (cs ++ cs') (ks ++ ks') d j c) ∨ (1 ≤ cL ∧ (60 < jd d j ∨ 60000 < (jc d j).length) ∧ ∃ (cc s : Nat) (st' : xS), out = some (cL, wc + cc, wn + s, 0, st') ∧ CostE st st' cc s 1 ∧ OpB st st')
variable {st : xS} {vs : List VR} {cs : List Nat} {ks ws : List NP} {d n : Nat}
theorem OpO.ge {wc wn cR cL : Nat} {out : Option (Nat × Nat × Nat × Nat × xS)} {res : Nat ⊕ JT d} (h : OpO st wc wn cR cL out vs cs ks ws res) : ∀ a, out = some a → wc ≤ a.2.1 ∧ wn ≤ a.2.2.1 := by
  intro a ha
  cases res with
  | inl k =>
    obtain ⟨cc, s, st', e, _⟩ := h
    rw [e] at ha
    injection ha with ha
    rw [← ha]
    exact ⟨Nat.le_add_right _ _, Nat.le_add_right _ _⟩
  | inr j =>
    rcases h with ⟨cc, s, c, st', _, _, _, e, _⟩ | ⟨_, _, cc, s, st', e, _⟩
    · rw [e] at ha
      injection ha with ha
      rw [← ha]
      exact ⟨Nat.le_add_right _ _, Nat.le_add_right _ _⟩
    · rw [e] at ha
      injection ha with ha
      rw [← ha]
      exact ⟨Nat.le_add_right _ _, Nat.le_add_right _ _⟩
theorem OpO.wrap {wc wn cR cL : Nat} {out : Option (Nat × Nat × Nat × Nat × xS)} {res : Nat ⊕ JT d} (h : OpO st wc wn cR cL out vs cs ks ws res) : OpO st wc wn cR cL (xmo (fun a => a.2.1) (fun a => a.2.2.1) wc wn out) vs cs ks ws res := by
  rw [xmo_id h.ge]; exact h
theorem Cost.ce {a b c : xS} {k s k' s' e : Nat} (h : Cost a b k s) (h' : CostE b c k' s' e) : CostE a c (k + k') (s + s') e := ⟨by have := h.1; have := h'.1; omega, by have := h.2; have := h'.2; omega⟩
theorem OpO.step {st1 : xS} {wc wn cc s cR cL : Nat} {out : Option (Nat × Nat × Nat × Nat × xS)} {res : Nat ⊕ JT d} {a : List VR} {b : List Nat} {c : List NP} (h : OpO st1 (wc + cc) (wn + s) cR cL out (vs ++ a) (cs ++ b) (ks ++ c) ws res) (hc : Cost st st1 cc s) (hf : FrO st st1) : OpO st wc wn cR cL out vs cs ks ws res := by
  cases res with
  | inl k =>
    obtain ⟨c1, s1, st', e, h1, h2, h3⟩ := h
    exact ⟨cc + c1, s + s1, st', by rw [e, Nat.add_assoc, Nat.add_assoc], hc.ce h1, ⟨h2.1, hf.trans h2.2⟩, h3⟩
  | inr j =>
    rcases h with ⟨c1, s1, x, st', v', k', n', e, h1, h2, h3, h4⟩ | ⟨q, hx, c1, s1, st', e, h1, h2⟩
    · refine Or.inl ⟨cc + c1, s + s1, x, st', a ++ v', b ++ k', c ++ n', by rw [e, Nat.add_assoc, Nat.add_assoc], ?_, hc.trans h2, hf.trans h3, ?_⟩
      · rw [← List.append_assoc, ← List.append_assoc, ← List.append_assoc]; exact h1
      · rw [← List.append_assoc, ← List.append_assoc, ← List.append_assoc]; exact h4
    · exact Or.inr ⟨q, hx, cc + c1, s + s1, st', by rw [e, Nat.add_assoc, Nat.add_assoc], hc.ce h1, ⟨h2.1, hf.trans h2.2⟩⟩
theorem OpO.step0 {st1 : xS} {wc wn cc s cR cL : Nat} {out : Option (Nat × Nat × Nat × Nat × xS)} {res : Nat ⊕ JT d} (h : OpO st1 (wc + cc) (wn + s) cR cL out vs cs ks ws res) (hc : Cost st st1 cc s) (hf : FrO st st1) : OpO st wc wn cR cL out vs cs ks ws res := by
  refine OpO.step (a := []) (b := []) (c := []) ?_ hc hf
  rw [List.append_nil, List.append_nil, List.append_nil]
  exact h
theorem OpO.map {wc wn cR cL cR' cL' : Nat} {X : Option (Nat × Nat × Nat × Nat × xS)} {K : Nat × Nat × Nat × Nat × xS → Option (Nat × Nat × Nat × Nat × xS)} {res : Nat ⊕ JT d} (h : OpO st 0 0 cR cL X vs cs ks ws res) (h0 : ∀ cc s c st', K (0, cc, s, c, st') = some (0, wc + cc, wn + s, c, st')) (hR : (∀ k, res ≠ .inl k) ∨ ∀ cc s st', K (cR, cc, s, 0, st') = some (cR', wc + cc, wn + s, 0, st')) (hL : cL = 0 ∨ (1 ≤ cL' ∧ ∀ cc s st', K (cL, cc, s, 0, st') = some (cL', wc + cc, wn + s, 0, st'))) : OpO st wc wn cR' cL' (X.bind K) vs cs ks ws res := by
  cases res with
  | inl k =>
    obtain ⟨c1, s1, st', e, h1, h2, h3⟩ := h
    refine ⟨c1, s1, st', ?_, h1, h2, h3⟩
    rw [e, Option.bind_some]
    rcases hR with hR | hR
    · exact absurd rfl (hR k)
    · rw [hR, Nat.zero_add, Nat.zero_add]
  | inr j =>
    rcases h with ⟨c1, s1, x, st', v', k', n', e, h1, h2, h3, h4⟩ | ⟨q, hx, c1, s1, st', e, h1, h2⟩
    · refine Or.inl ⟨c1, s1, x, st', v', k', n', ?_, h1, h2, h3, h4⟩
      rw [e, Option.bind_some, h0, Nat.zero_add, Nat.zero_add]
    · rcases hL with hL | ⟨hL1, hL⟩
      · omega
      · refine Or.inr ⟨hL1, hx, c1, s1, st', ?_, h1, h2⟩
        rw [e, Option.bind_some, hL, Nat.zero_add, Nat.zero_add]
theorem OpO.r1 {wc wn q cL : Nat} {X : Option (Nat × Nat × Nat × Nat × xS)} {res : Nat ⊕ JT d} (h : OpO st 0 0 1 0 X vs cs ks ws res) : OpO st wc wn q cL (X.bind fun o => (if o.1 = 0 then xmo (fun a => a.2.1) (fun a => a.2.2.1) (wc + o.2.1) (wn + o.2.2.1) (some (0, (wc + o.2.1), (wn + o.2.2.1), o.2.2.2.1, o.2.2.2.2)) else (if o.1 = 1 then xmo (fun a => a.2.1) (fun a => a.2.2.1) (wc + o.2.1) (wn + o.2.2.1) (some (q, (wc + o.2.1), (wn + o.2.2.1), 0, o.2.2.2.2)) else none))) vs cs ks ws res := by
  refine h.map (fun cc s c st' => ?_) (Or.inr (fun cc s st' => ?_)) (Or.inl rfl)
  · rw [if_pos rfl]
    exact xmo_some (Nat.le_refl _) (Nat.le_refl _)
  · rw [if_neg (show ¬ (1 : Nat) = 0 by decide), if_pos rfl]
    exact xmo_some (Nat.le_refl _) (Nat.le_refl _)
theorem OpO.l1 {wc wn q cR cR' : Nat} {X : Option (Nat × Nat × Nat × Nat × xS)} {j : JT d} (hq : 1 ≤ q) (h : OpO st 0 0 cR 1 X vs cs ks ws (.inr j)) : OpO st wc wn cR' q (X.bind fun o => (if o.1 = 0 then xmo (fun a => a.2.1) (fun a => a.2.2.1) (wc + o.2.1) (wn + o.2.2.1) (some (0, (wc + o.2.1), (wn + o.2.2.1), o.2.2.2.1, o.2.2.2.2)) else (if o.1 = 1 then xmo (fun a => a.2.1) (fun a => a.2.2.1) (wc + o.2.1) (wn + o.2.2.1) (some (q, (wc + o.2.1), (wn + o.2.2.1), 0, o.2.2.2.2)) else none))) vs cs ks ws (.inr j) := by
  refine h.map (fun cc s c st' => ?_) (Or.inl (fun k hh => by cases hh)) (Or.inr ⟨hq, fun cc s st' => ?_⟩)
  · rw [if_pos rfl]
    exact xmo_some (Nat.le_refl _) (Nat.le_refl _)
  · rw [if_neg (show ¬ (1 : Nat) = 0 by decide), if_pos rfl]
    exact xmo_some (Nat.le_refl _) (Nat.le_refl _)
theorem OpO.t2 {wc wn q1 q2 : Nat} {X : Option (Nat × Nat × Nat × Nat × xS)} {res : Nat ⊕ JT d} (hq : 1 ≤ q2) (h : OpO st 0 0 1 2 X vs cs ks ws res) : OpO st wc wn q1 q2 (X.bind fun o => (if o.1 = 0 then xmo (fun a => a.2.1) (fun a => a.2.2.1) (wc + o.2.1) (wn + o.2.2.1) (some (0, (wc + o.2.1), (wn + o.2.2.1), o.2.2.2.1, o.2.2.2.2)) else (if o.1 = 1 then xmo (fun a => a.2.1) (fun a => a.2.2.1) (wc + o.2.1) (wn + o.2.2.1) (some (q1, (wc + o.2.1), (wn + o.2.2.1), 0, o.2.2.2.2)) else (if o.1 = 2 then xmo (fun a => a.2.1) (fun a => a.2.2.1) (wc + o.2.1) (wn + o.2.2.1) (some (q2, (wc + o.2.1), (wn + o.2.2.1), 0, o.2.2.2.2)) else none)))) vs cs ks ws res := by
  refine h.map (fun cc s c st' => ?_) (Or.inr (fun cc s st' => ?_)) (Or.inr ⟨hq, fun cc s st' => ?_⟩)
  · rw [if_pos rfl]
    exact xmo_some (Nat.le_refl _) (Nat.le_refl _)
  · rw [if_neg (show ¬ (1 : Nat) = 0 by decide), if_pos rfl]
    exact xmo_some (Nat.le_refl _) (Nat.le_refl _)
  · rw [if_neg (show ¬ (2 : Nat) = 0 by decide), if_neg (show ¬ (2 : Nat) = 1 by decide), if_pos rfl]
    exact xmo_some (Nat.le_refl _) (Nat.le_refl _)
theorem OpO.lim {wc wn cR cL : Nat} {out : Option (Nat × Nat × Nat × Nat × xS)} {res : Nat ⊕ JT d} (h : OpO st wc wn cR 0 out vs cs ks ws res) : OpO st wc wn cR cL out vs cs ks ws res := by
  cases res with
  | inl k => exact h
  | inr j =>
    rcases h with h | ⟨h, _⟩
    · exact Or.inl h
    · omega
theorem refuse_o {k : Nat} {wc wn q cL : Nat} (hM : MS st vs cs ks ws) : OpO st wc wn q cL ((fM_refuse n st (i3 k)).bind fun o => (if o.1 = 1 then xmo (fun a => a.2.1) (fun a => a.2.2.1) (wc + o.2.1) (wn + o.2.2.1) (some (q, (wc + o.2.1), (wn + o.2.2.1), 0, o.2.2.2.2)) else none)) vs cs ks ws (.inl k : Nat ⊕ JT d) := by
  refine ⟨1, 6, xsI st 8 (i3 k), ?_, ⟨by omega, ?_⟩, ⟨⟨vs, cs, ks, ws, hM.si (by decide) (by decide) (by decide) (by decide)⟩, FrO.at _ (by decide)⟩, (up_eq : va_up st.1 8 (i3 k) 8 = i3 k)⟩
  · unfold fM_refuse
    rw [Option.bind_some, if_pos rfl]
    exact xmo_some (Nat.le_refl _) (Nat.le_refl _)
  · show 6 + pt st ≤ pt st + 6 * 2
    omega
theorem rep_1 {v : VR} {j : JT (d + 1)} (h1 : v.2.2.2.1 = jd (d + 1) j) (h2 : v.2.2.2.2.1 = (jc (d + 1) j).length) (h3 : jd (d + 1) j ≤ 60) (h4 : (jc (d + 1) j).length ≤ 60000) (h5 : RepB (vs ++ [v]) cs ks (Rep (vs ++ [v]) cs ks d) v j) : Rep (vs ++ [v]) cs ks (d + 1) j (vs.length + 1) :=
  ⟨by omega, v, by rw [Nat.add_sub_cancel, List.getElem?_append_right (Nat.le_refl _), Nat.sub_self]; rfl, h1, h2, h3, h4, h5⟩
theorem OpO.new {v : VR} {j : JT (d + 1)} {st' : xS} {cc s cR cL wc wn : Nat} {out : Option (Nat × Nat × Nat × Nat × xS)} (ho : out = some (0, wc + cc, wn + s, vs.length + 1, st')) (hM : MS st' (vs ++ [v]) cs ks ws) (hc : Cost st st' cc s) (hf : FrO st st') (hr : Rep (vs ++ [v]) cs ks (d + 1) j (vs.length + 1)) : OpO st wc wn cR cL out vs cs ks ws (.inr j) :=
  Or.inl ⟨cc, s, vs.length + 1, st', [v], [], [], ho, by rw [List.append_nil, List.append_nil]; exact hM, hc, hf, by rw [List.append_nil, List.append_nil]; exact hr⟩
theorem OpO.old {j : JT d} {c cR cL wc wn : Nat} (hM : MS st vs cs ks ws) (hr : Rep vs cs ks d j c) : OpO st wc wn cR cL (some (0, wc, wn, c, st)) vs cs ks ws (.inr j) :=
  Or.inl ⟨0, 0, c, st, [], [], [], rfl, by rw [List.append_nil, List.append_nil, List.append_nil]; exact hM, Cost.refl, FrO.refl, by rw [List.append_nil, List.append_nil, List.append_nil]; exact hr⟩
theorem rep_k {k : Nat} : Rep (vs ++ [(k, 0, 0, 0, 1, 0)]) cs ks (d + 1) (jk k) (vs.length + 1) := rep_1 rfl rfl (by rw [jd_k]; omega) (by rw [jc_k]; simp) rfl
theorem rep_n {z : Int} : Rep (vs ++ [(3, 0, 0, 0, 1, z)]) cs ks (d + 1) (jn z) (vs.length + 1) := rep_1 rfl rfl (by rw [jd_n]; omega) (by rw [jc_n]; simp) ⟨rfl, rfl⟩
theorem strc_ln (s : Sx) : (strc s).length = s.length + 1 := by unfold strc; simp
theorem rep_s {s : Sx} {p : Nat} (h : ∀ (i : Nat) x, s[i]? = some x → cs[p + i]? = some x) (hl : s.length ≤ 59999) : Rep (vs ++ [(4, p, s.length, 0, 1 + s.length, 0)]) cs ks (d + 1) (js s) (vs.length + 1) := rep_1 rfl (by rw [jc_s, strc_ln]; exact Nat.add_comm _ _) (by rw [jd_s]; omega) (by rw [jc_s, strc_ln]; omega) ⟨rfl, rfl, h⟩
theorem number_o (hM : MS st vs cs ks ws) {z : Int} (h1 : -9223372036854775808 ≤ z) (h2 : z < 9223372036854775808) (hb : vs.length + 1 ≤ bV) (hn : bV < n) : OpO st 0 0 1 0 (fM_number n st (cW z)) vs cs ks ws (numR z : Nat ⊕ JT (d + 1)) := by
  obtain ⟨w1, w2⟩ := numM_w hM h1 h2 hb hn
  unfold numR
  by_cases h : -9007199254740991 ≤ z ∧ z ≤ 9007199254740991
  · rw [if_pos h]
    obtain ⟨cc, s, st', e, m1, m2, m3, _⟩ := w1 h
    exact OpO.new (by rw [e, Nat.zero_add, Nat.zero_add]) m1 m2 m3.o rep_n
  · rw [if_neg h]
    refine ⟨1, 6, xsI st 8 2, w2 h, ⟨by omega, ?_⟩, ⟨⟨vs, cs, ks, ws, hM.si (by decide) (by decide) (by decide) (by decide)⟩, FrO.at _ (by decide)⟩, (up_eq : va_up st.1 8 2 8 = 2)⟩
    show 6 + pt st ≤ pt st + 6 * 2
    omega
theorem string_o {s : Sx} {cR : Nat} (hM : MS st vs (cs ++ s) ks ws) (hb : vs.length + 1 ≤ bV) (hn : bV < n) : OpO st 0 0 cR 1 (fM_string n st (i3 cs.length)) vs (cs ++ s) ks ws (.inr (js s) : Nat ⊕ JT (d + 1)) := by
  obtain ⟨cc, k, st', e, m1, m2, m3, _⟩ := string_w hM (x0 := cs.length) (by rw [List.length_append]; omega) hb hn
  have hl : (cs ++ s).length - cs.length = s.length := by rw [List.length_append]; omega
  rw [hl] at e m1
  by_cases h : 1 + s.length ≤ 60000
  · rw [if_pos h] at e
    exact OpO.new (by rw [e, Nat.zero_add, Nat.zero_add]) m1 m2 m3.o (rep_s (fun i x hx => by rw [List.getElem?_append_right (by omega), Nat.add_sub_cancel_left]; exact hx) (by omega))
  · rw [if_neg h] at e
    refine Or.inr ⟨by omega, Or.inr (by rw [jc_s, strc_ln]; omega), cc + 1, k + 6, st', by rw [e, Nat.zero_add, Nat.zero_add], ⟨by have := m2.1; omega, by have := m2.2; omega⟩, ⟨⟨_, _, _, _, m1⟩, m3.o⟩⟩
theorem whole_ao {W0 W : List NP} {l : List (JT d)} {cR : Nat} (hM : MS st vs cs ks (W0 ++ W)) (hR : RL vs cs ks d W l) (hbv : vs.length + 1 ≤ bV) (hbk : ks.length + W.length ≤ bK) (hn : 20 * bC < n) : OpO st 0 0 cR 1 (fM_whole n st 5 (i3 W0.length)) vs cs ks W0 (.inr (ja l)) := by
  obtain ⟨a1, a2, a3, a4, a5⟩ := hR.sums
  obtain ⟨cc, s, st1, st2, e, m1, m2, m3, m4, _, m6, m7, _⟩ := whole_w (k := 5) hM (by omega) a4 hbv hbk hn
  have hD : jd (d + 1) (ja l) = (W.map (fun p => vDp vs p.1)).foldl max 0 + 1 := by rw [a2, jd_a]
  have hW : (jc (d + 1) (ja l)).length = 1 + (W.map (kWt vs 5)).sum := by
    rw [a3, jc_a, lst_len, sm_flat]
    exact Nat.add_comm _ _
  by_cases h : (W.map (fun p => vDp vs p.1)).foldl max 0 < 60 ∧ 1 + (W.map (kWt vs 5)).sum ≤ 60000
  · rw [if_pos h] at e
    refine Or.inl ⟨cc, s, vs.length + 1, st1, [_], [], W, by rw [Nat.zero_add, Nat.zero_add]; exact e, by rw [List.append_nil]; exact m1, m3, m4.o, ?_⟩
    rw [List.append_nil]
    exact rep_a hR (by omega) (by omega)
  · rw [if_neg h] at e
    obtain ⟨v, m2⟩ := m2
    refine Or.inr ⟨by omega, by omega, cc + 1, s + 6, st2, by rw [Nat.zero_add, Nat.zero_add]; exact e, ⟨by have := m6.1; omega, by have := m6.2; omega⟩, ⟨⟨_, _, _, _, m2⟩, m7.o⟩⟩
theorem whole_oo {W0 W : List NP} {l : List (Sx × JT d)} {cR : Nat} (hM : MS st vs cs ks (W0 ++ W)) (hR : RM vs cs ks d W l) (hbv : vs.length + 1 ≤ bV) (hbk : ks.length + W.length ≤ bK) (hn : 20 * bC < n) : OpO st 0 0 cR 1 (fM_whole n st 6 (i3 W0.length)) vs cs ks W0 (.inr (jo l)) := by
  obtain ⟨a1, a2, a3, a4, a5⟩ := hR.sums
  obtain ⟨cc, s, st1, st2, e, m1, m2, m3, m4, _, m6, m7, _⟩ := whole_w (k := 6) hM (by omega) a4 hbv hbk hn
  have hD : jd (d + 1) (jo l) = (W.map (fun p => vDp vs p.1)).foldl max 0 + 1 := by rw [a2, jd_o]
  have hW : (jc (d + 1) (jo l)).length = 1 + (W.map (kWt vs 6)).sum := by
    rw [a3, jc_o, lst_len, sm_flat]
    exact Nat.add_comm _ _
  by_cases h : (W.map (fun p => vDp vs p.1)).foldl max 0 < 60 ∧ 1 + (W.map (kWt vs 6)).sum ≤ 60000
  · rw [if_pos h] at e
    refine Or.inl ⟨cc, s, vs.length + 1, st1, [_], [], W, by rw [Nat.zero_add, Nat.zero_add]; exact e, by rw [List.append_nil]; exact m1, m3, m4.o, ?_⟩
    rw [List.append_nil]
    exact rep_o hR (by omega) (by omega)
  · rw [if_neg h] at e
    obtain ⟨v, m2⟩ := m2
    refine Or.inr ⟨by omega, by omega, cc + 1, s + 6, st2, by rw [Nat.zero_add, Nat.zero_add]; exact e, ⟨by have := m6.1; omega, by have := m6.2; omega⟩, ⟨⟨_, _, _, _, m2⟩, m7.o⟩⟩
end OPO
