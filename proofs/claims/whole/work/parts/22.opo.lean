section ZOpo76
section OPO
def Hs (st : xS) : Prop := 64 ≤ xln st 21 ∧ xln st 21 ≤ 2 * bP ∧ 64 ≤ xln st 13 ∧ xln st 14 = xln st 13 ∧ xln st 13 ≤ 130000
def FrO (st st' : xS) : Prop := (∀ k, (24 ≤ k ∨ k = 0) → xsi st' k = xsi st k) ∧ (∀ k, 24 ≤ k → xln st' k = xln st k ∧ xba st' k = xba st k) ∧ (Hs st → Hs st')
theorem FrO.refl {st : xS} : FrO st st := ⟨fun _ _ => rfl, fun _ _ => ⟨rfl, rfl⟩, id⟩
theorem FrO.trans {a b c : xS} (h : FrO a b) (h' : FrO b c) : FrO a c := ⟨fun k hk => (h'.1 k hk).trans (h.1 k hk), fun k hk => ⟨((h'.2.1 k hk).1).trans (h.2.1 k hk).1, ((h'.2.1 k hk).2).trans (h.2.1 k hk).2⟩, fun x => h'.2.2 (h.2.2 x)⟩
theorem FrP.o {st st' : xS} (h : FrP st st') : FrO st st' := ⟨fun k hk => h.1 k (by omega), fun k hk => h.2 k (by omega), fun x => by
  unfold Hs
  rw [(h.2 21 (by omega)).1, (h.2 13 (by omega)).1, (h.2 14 (by omega)).1]
  exact x⟩
theorem Fr0.o {st st' : xS} (h : Fr0 st st') : FrO st st' := (Fr1.of h).p.o
theorem FrO.at {st : xS} {k : Nat} (v : Int32) (hk : 0 < k ∧ k < 24) : FrO st (xsI st k v) := ⟨fun _ h => up_ne (by omega), fun _ _ => ⟨rfl, rfl⟩, id⟩
def OpB (st st' : xS) : Prop := (∃ vs cs ks ws, MS st' vs cs ks ws) ∧ FrO st st'
def OpO (st : xS) (wc wn cR cL : Nat) (out : Option (Nat × Nat × Nat × Nat × xS)) (vs : List VR) (cs : List Nat) (ks ws : List NP) {d : Nat} (res : Nat ⊕ JT d) : Prop := match res with
  | .inl k => ∃ (cc s : Nat) (st' : xS), out = some (cR, wc + cc, wn + s, 0, st') ∧ CostE st st' cc s 2 ∧ OpB st st' ∧ xsi st' 8 = i3 k
  | .inr j => (∃ (cc s c : Nat) (st' : xS) (vs' : List VR) (cs' : List Nat) (ks' : List NP), out = some (0, wc + cc, wn + s, c, st') ∧ MS st' (vs ++ vs') (cs ++ cs') (ks ++ ks') ws ∧ Cost st st' cc s ∧ FrO st st' ∧ Rep (vs ++ vs') (cs ++ cs') (ks ++ ks') d j c) ∨ (1 ≤ cL ∧ (60 < jd d j ∨ 60000 < (jc d j).length) ∧ ∃ (cc s : Nat) (st' : xS), out = some (cL, wc + cc, wn + s, 0, st') ∧ CostE st st' cc s 1 ∧ OpB st st')
variable {st : xS} {vs : List VR} {cs : List Nat} {ks ws : List NP} {d n : Nat}
theorem OpO.ge {wc wn cR cL : Nat} {out : Option (Nat × Nat × Nat × Nat × xS)} {res : Nat ⊕ JT d} (h : OpO st wc wn cR cL out vs cs ks ws res) : ∀ a, out = some a → wc ≤ a.2.1 ∧ wn ≤ a.2.2.1 := by
  intro a ha
  cases res with
  | inl k =>
    obtain ⟨cc, s, st', e, _⟩ := h
    rw [e] at ha
    injection ha with ha
    rw [← ha]
    exact ⟨Nat.le_add_right _ _, Nat.le_add_right _ _⟩
  | inr j =>
    rcases h with ⟨cc, s, c, st', _, _, _, e, _⟩ | ⟨_, _, cc, s, st', e, _⟩
    · rw [e] at ha
      injection ha with ha
      rw [← ha]
      exact ⟨Nat.le_add_right _ _, Nat.le_add_right _ _⟩
    · rw [e] at ha
      injection ha with ha
      rw [← ha]
      exact ⟨Nat.le_add_right _ _, Nat.le_add_right _ _⟩
theorem OpO.wrap {wc wn cR cL : Nat} {out : Option (Nat × Nat × Nat × Nat × xS)} {res : Nat ⊕ JT d} (h : OpO st wc wn cR cL out vs cs ks ws res) : OpO st wc wn cR cL (xmo (fun a => a.2.1) (fun a => a.2.2.1) wc wn out) vs cs ks ws res := by
  rw [xmo_id h.ge]; exact h
theorem Cost.ce {a b c : xS} {k s k' s' e : Nat} (h : Cost a b k s) (h' : CostE b c k' s' e) : CostE a c (k + k') (s + s') e := ⟨by have := h.1; have := h'.1; omega, by have := h.2; have := h'.2; omega⟩
theorem OpO.step {st1 : xS} {wc wn cc s cR cL : Nat} {out : Option (Nat × Nat × Nat × Nat × xS)} {res : Nat ⊕ JT d} {a : List VR} {b : List Nat} {c : List NP} (h : OpO st1 (wc + cc) (wn + s) cR cL out (vs ++ a) (cs ++ b) (ks ++ c) ws res) (hc : Cost st st1 cc s) (hf : FrO st st1) : OpO st wc wn cR cL out vs cs ks ws res := by
  cases res with
  | inl k =>
    obtain ⟨c1, s1, st', e, h1, h2, h3⟩ := h
    exact ⟨cc + c1, s + s1, st', by rw [e, Nat.add_assoc, Nat.add_assoc], hc.ce h1, ⟨h2.1, hf.trans h2.2⟩, h3⟩
  | inr j =>
    rcases h with ⟨c1, s1, x, st', v', k', n', e, h1, h2, h3, h4⟩ | ⟨q, hx, c1, s1, st', e, h1, h2⟩
    · refine Or.inl ⟨cc + c1, s + s1, x, st', a ++ v', b ++ k', c ++ n', by rw [e, Nat.add_assoc, Nat.add_assoc], ?_, hc.trans h2, hf.trans h3, ?_⟩
      · rw [← List.append_assoc, ← List.append_assoc, ← List.append_assoc]; exact h1
      · rw [← List.append_assoc, ← List.append_assoc, ← List.append_assoc]; exact h4
    · exact Or.inr ⟨q, hx, cc + c1, s + s1, st', by rw [e, Nat.add_assoc, Nat.add_assoc], hc.ce h1, ⟨h2.1, hf.trans h2.2⟩⟩
theorem OpO.step0 {st1 : xS} {wc wn cc s cR cL : Nat} {out : Option (Nat × Nat × Nat × Nat × xS)} {res : Nat ⊕ JT d} (h : OpO st1 (wc + cc) (wn + s) cR cL out vs cs ks ws res) (hc : Cost st st1 cc s) (hf : FrO st st1) : OpO st wc wn cR cL out vs cs ks ws res := by
  refine OpO.step (a := []) (b := []) (c := []) ?_ hc hf
  rw [List.append_nil, List.append_nil, List.append_nil]
  exact h
theorem OpO.map {wc wn cR cL cR' cL' : Nat} {X : Option (Nat × Nat × Nat × Nat × xS)} {K : Nat × Nat × Nat × Nat × xS → Option (Nat × Nat × Nat × Nat × xS)} {res : Nat ⊕ JT d} (h : OpO st 0 0 cR cL X vs cs ks ws res) (h0 : ∀ cc s c st', K (0, cc, s, c, st') = some (0, wc + cc, wn + s, c, st')) (hR : (∀ k, res ≠ .inl k) ∨ ∀ cc s st', K (cR, cc, s, 0, st') = some (cR', wc + cc, wn + s, 0, st')) (hL : cL = 0 ∨ (1 ≤ cL' ∧ ∀ cc s st', K (cL, cc, s, 0, st') = some (cL', wc + cc, wn + s, 0, st'))) : OpO st wc wn cR' cL' (X.bind K) vs cs ks ws res := by
  cases res with
  | inl k =>
    obtain ⟨c1, s1, st', e, h1, h2, h3⟩ := h
    refine ⟨c1, s1, st', ?_, h1, h2, h3⟩
    rw [e, Option.bind_some]
    rcases hR with hR | hR
    · exact absurd rfl (hR k)
    · rw [hR, Nat.zero_add, Nat.zero_add]
  | inr j =>
    rcases h with ⟨c1, s1, x, st', v', k', n', e, h1, h2, h3, h4⟩ | ⟨q, hx, c1, s1, st', e, h1, h2⟩
    · refine Or.inl ⟨c1, s1, x, st', v', k', n', ?_, h1, h2, h3, h4⟩
      rw [e, Option.bind_some, h0, Nat.zero_add, Nat.zero_add]
    · rcases hL with hL | ⟨hL1, hL⟩
      · omega
      · refine Or.inr ⟨hL1, hx, c1, s1, st', ?_, h1, h2⟩
        rw [e, Option.bind_some, hL, Nat.zero_add, Nat.zero_add]
theorem OpO.r1 {wc wn q cL : Nat} {X : Option (Nat × Nat × Nat × Nat × xS)} {res : Nat ⊕ JT d} (h : OpO st 0 0 1 0 X vs cs ks ws res) : OpO st wc wn q cL (X.bind fun o => (if o.1 = 0 then xmo (fun a => a.2.1) (fun a => a.2.2.1) (wc + o.2.1) (wn + o.2.2.1) (some (0, (wc + o.2.1), (wn + o.2.2.1), o.2.2.2.1, o.2.2.2.2)) else (if o.1 = 1 then xmo (fun a => a.2.1) (fun a => a.2.2.1) (wc + o.2.1) (wn + o.2.2.1) (some (q, (wc + o.2.1), (wn + o.2.2.1), 0, o.2.2.2.2)) else none))) vs cs ks ws res := by
  refine h.map (fun cc s c st' => ?_) (Or.inr (fun cc s st' => ?_)) (Or.inl rfl)
  · rw [if_pos rfl]
    exact xmo_some (Nat.le_refl _) (Nat.le_refl _)
  · rw [if_neg (show ¬ (1 : Nat) = 0 by decide), if_pos rfl]
    exact xmo_some (Nat.le_refl _) (Nat.le_refl _)
theorem OpO.l1 {wc wn q cR cR' : Nat} {X : Option (Nat × Nat × Nat × Nat × xS)} {j : JT d} (hq : 1 ≤ q) (h : OpO st 0 0 cR 1 X vs cs ks ws (.inr j)) : OpO st wc wn cR' q (X.bind fun o => (if o.1 = 0 then xmo (fun a => a.2.1) (fun a => a.2.2.1) (wc + o.2.1) (wn + o.2.2.1) (some (0, (wc + o.2.1), (wn + o.2.2.1), o.2.2.2.1, o.2.2.2.2)) else (if o.1 = 1 then xmo (fun a => a.2.1) (fun a => a.2.2.1) (wc + o.2.1) (wn + o.2.2.1) (some (q, (wc + o.2.1), (wn + o.2.2.1), 0, o.2.2.2.2)) else none))) vs cs ks ws (.inr j) := by
  refine h.map (fun cc s c st' => ?_) (Or.inl (fun k hh => by cases hh)) (Or.inr ⟨hq, fun cc s st' => ?_⟩)
  · rw [if_pos rfl]
    exact xmo_some (Nat.le_refl _) (Nat.le_refl _)
  · rw [if_neg (show ¬ (1 : Nat) = 0 by decide), if_pos rfl]
    exact xmo_some (Nat.le_refl _) (Nat.le_refl _)
theorem OpO.t2 {wc wn q1 q2 : Nat} {X : Option (Nat × Nat × Nat × Nat × xS)} {res : Nat ⊕ JT d} (hq : 1 ≤ q2) (h : OpO st 0 0 1 2 X vs cs ks ws res) : OpO st wc wn q1 q2 (X.bind fun o => (if o.1 = 0 then xmo (fun a => a.2.1) (fun a => a.2.2.1) (wc + o.2.1) (wn + o.2.2.1) (some (0, (wc + o.2.1), (wn + o.2.2.1), o.2.2.2.1, o.2.2.2.2)) else (if o.1 = 1 then xmo (fun a => a.2.1) (fun a => a.2.2.1) (wc + o.2.1) (wn + o.2.2.1) (some (q1, (wc + o.2.1), (wn + o.2.2.1), 0, o.2.2.2.2)) else (if o.1 = 2 then xmo (fun a => a.2.1) (fun a => a.2.2.1) (wc + o.2.1) (wn + o.2.2.1) (some (q2, (wc + o.2.1), (wn + o.2.2.1), 0, o.2.2.2.2)) else none)))) vs cs ks ws res := by
  refine h.map (fun cc s c st' => ?_) (Or.inr (fun cc s st' => ?_)) (Or.inr ⟨hq, fun cc s st' => ?_⟩)
  · rw [if_pos rfl]
    exact xmo_some (Nat.le_refl _) (Nat.le_refl _)
  · rw [if_neg (show ¬ (1 : Nat) = 0 by decide), if_pos rfl]
    exact xmo_some (Nat.le_refl _) (Nat.le_refl _)
  · rw [if_neg (show ¬ (2 : Nat) = 0 by decide), if_neg (show ¬ (2 : Nat) = 1 by decide), if_pos rfl]
    exact xmo_some (Nat.le_refl _) (Nat.le_refl _)
theorem OpO.lim {wc wn cR cL : Nat} {out : Option (Nat × Nat × Nat × Nat × xS)} {res : Nat ⊕ JT d} (h : OpO st wc wn cR 0 out vs cs ks ws res) : OpO st wc wn cR cL out vs cs ks ws res := by
  cases res with
  | inl k => exact h
  | inr j =>
    rcases h with h | ⟨h, _⟩
    · exact Or.inl h
    · omega
theorem refuse_o {k : Nat} {wc wn q cL : Nat} (hM : MS st vs cs ks ws) : OpO st wc wn q cL ((fM_refuse n st (i3 k)).bind fun o => (if o.1 = 1 then xmo (fun a => a.2.1) (fun a => a.2.2.1) (wc + o.2.1) (wn + o.2.2.1) (some (q, (wc + o.2.1), (wn + o.2.2.1), 0, o.2.2.2.2)) else none)) vs cs ks ws (.inl k : Nat ⊕ JT d) := by
  refine ⟨1, 6, xsI st 8 (i3 k), ?_, ⟨by omega, ?_⟩, ⟨⟨vs, cs, ks, ws, hM.si (by decide) (by decide) (by decide) (by decide)⟩, FrO.at _ (by decide)⟩, (up_eq : va_up st.1 8 (i3 k) 8 = i3 k)⟩
  · unfold fM_refuse
    rw [Option.bind_some, if_pos rfl]
    exact xmo_some (Nat.le_refl _) (Nat.le_refl _)
  · show 6 + pt st ≤ pt st + 6 * 2
    omega
theorem rep_1 {v : VR} {j : JT (d + 1)} (h1 : v.2.2.2.1 = jd (d + 1) j) (h2 : v.2.2.2.2.1 = (jc (d + 1) j).length) (h3 : jd (d + 1) j ≤ 60) (h4 : (jc (d + 1) j).length ≤ 60000) (h5 : RepB (vs ++ [v]) cs ks (Rep (vs ++ [v]) cs ks d) v j) : Rep (vs ++ [v]) cs ks (d + 1) j (vs.length + 1) :=
  ⟨by omega, v, by rw [Nat.add_sub_cancel, List.getElem?_append_right (Nat.le_refl _), Nat.sub_self]; rfl, h1, h2, h3, h4, h5⟩
theorem OpO.new {v : VR} {j : JT (d + 1)} {st' : xS} {cc s cR cL wc wn : Nat} {out : Option (Nat × Nat × Nat × Nat × xS)} (ho : out = some (0, wc + cc, wn + s, vs.length + 1, st')) (hM : MS st' (vs ++ [v]) cs ks ws) (hc : Cost st st' cc s) (hf : FrO st st') (hr : Rep (vs ++ [v]) cs ks (d + 1) j (vs.length + 1)) : OpO st wc wn cR cL out vs cs ks ws (.inr j) :=
  Or.inl ⟨cc, s, vs.length + 1, st', [v], [], [], ho, by rw [List.append_nil, List.append_nil]; exact hM, hc, hf, by rw [List.append_nil, List.append_nil]; exact hr⟩
theorem OpO.old {j : JT d} {c cR cL wc wn : Nat} (hM : MS st vs cs ks ws) (hr : Rep vs cs ks d j c) : OpO st wc wn cR cL (some (0, wc, wn, c, st)) vs cs ks ws (.inr j) :=
  Or.inl ⟨0, 0, c, st, [], [], [], rfl, by rw [List.append_nil, List.append_nil, List.append_nil]; exact hM, Cost.refl, FrO.refl, by rw [List.append_nil, List.append_nil, List.append_nil]; exact hr⟩
theorem rep_k {k : Nat} : Rep (vs ++ [(k, 0, 0, 0, 1, 0)]) cs ks (d + 1) (jk k) (vs.length + 1) := rep_1 rfl rfl (by rw [jd_k]; omega) (by rw [jc_k]; simp) rfl
theorem rep_n {z : Int} : Rep (vs ++ [(3, 0, 0, 0, 1, z)]) cs ks (d + 1) (jn z) (vs.length + 1) := rep_1 rfl rfl (by rw [jd_n]; omega) (by rw [jc_n]; simp) ⟨rfl, rfl⟩
theorem strc_ln (s : Sx) : (strc s).length = s.length + 1 := by unfold strc; simp
theorem rep_s {s : Sx} {p : Nat} (h : ∀ (i : Nat) x, s[i]? = some x → cs[p + i]? = some x) (hl : s.length ≤ 59999) : Rep (vs ++ [(4, p, s.length, 0, 1 + s.length, 0)]) cs ks (d + 1) (js s) (vs.length + 1) := rep_1 rfl (by rw [jc_s, strc_ln]; exact Nat.add_comm _ _) (by rw [jd_s]; omega) (by rw [jc_s, strc_ln]; omega) ⟨rfl, rfl, h⟩
theorem number_o (hM : MS st vs cs ks ws) {z : Int} (h1 : -9223372036854775808 ≤ z) (h2 : z < 9223372036854775808) (hb : vs.length + 1 ≤ bV) (hn : bV < n) : OpO st 0 0 1 0 (fM_number n st (cW z)) vs cs ks ws (numR z : Nat ⊕ JT (d + 1)) := by
  obtain ⟨w1, w2⟩ := numM_w hM h1 h2 hb hn
  unfold numR
  by_cases h : -9007199254740991 ≤ z ∧ z ≤ 9007199254740991
  · rw [if_pos h]
    obtain ⟨cc, s, st', e, m1, m2, m3, _⟩ := w1 h
    exact OpO.new (by rw [e, Nat.zero_add, Nat.zero_add]) m1 m2 m3.o rep_n
  · rw [if_neg h]
    refine ⟨1, 6, xsI st 8 2, w2 h, ⟨by omega, ?_⟩, ⟨⟨vs, cs, ks, ws, hM.si (by decide) (by decide) (by decide) (by decide)⟩, FrO.at _ (by decide)⟩, (up_eq : va_up st.1 8 2 8 = 2)⟩
    show 6 + pt st ≤ pt st + 6 * 2
    omega
theorem string_o {s : Sx} {cR : Nat} (hM : MS st vs (cs ++ s) ks ws) (hb : vs.length + 1 ≤ bV) (hn : bV < n) : OpO st 0 0 cR 1 (fM_string n st (i3 cs.length)) vs (cs ++ s) ks ws (.inr (js s) : Nat ⊕ JT (d + 1)) := by
  obtain ⟨cc, k, st', e, m1, m2, m3, _⟩ := string_w hM (x0 := cs.length) (by rw [List.length_append]; omega) hb hn
  have hl : (cs ++ s).length - cs.length = s.length := by rw [List.length_append]; omega
  rw [hl] at e m1
  by_cases h : 1 + s.length ≤ 60000
  · rw [if_pos h] at e
    exact OpO.new (by rw [e, Nat.zero_add, Nat.zero_add]) m1 m2 m3.o (rep_s (fun i x hx => by rw [List.getElem?_append_right (by omega), Nat.add_sub_cancel_left]; exact hx) (by omega))
  · rw [if_neg h] at e
    refine Or.inr ⟨by omega, Or.inr (by rw [jc_s, strc_ln]; omega), cc + 1, k + 6, st', by rw [e, Nat.zero_add, Nat.zero_add], ⟨by have := m2.1; omega, by have := m2.2; omega⟩, ⟨⟨_, _, _, _, m1⟩, m3.o⟩⟩
theorem whole_ao {W0 W : List NP} {l : List (JT d)} {cR : Nat} (hM : MS st vs cs ks (W0 ++ W)) (hR : RL vs cs ks d W l) (hbv : vs.length + 1 ≤ bV) (hbk : ks.length + W.length ≤ bK) (hn : 20 * bC < n) : OpO st 0 0 cR 1 (fM_whole n st 5 (i3 W0.length)) vs cs ks W0 (.inr (ja l)) := by
  obtain ⟨a1, a2, a3, a4, a5⟩ := hR.sums
  obtain ⟨cc, s, st1, st2, e, m1, m2, m3, m4, _, m6, m7, _⟩ := whole_w (k := 5) hM (by omega) a4 hbv hbk hn
  have hD : jd (d + 1) (ja l) = (W.map (fun p => vDp vs p.1)).foldl max 0 + 1 := by rw [a2, jd_a]
  have hW : (jc (d + 1) (ja l)).length = 1 + (W.map (kWt vs 5)).sum := by
    rw [a3, jc_a, lst_len, sm_flat]
    exact Nat.add_comm _ _
  by_cases h : (W.map (fun p => vDp vs p.1)).foldl max 0 < 60 ∧ 1 + (W.map (kWt vs 5)).sum ≤ 60000
  · rw [if_pos h] at e
    refine Or.inl ⟨cc, s, vs.length + 1, st1, [_], [], W, by rw [Nat.zero_add, Nat.zero_add]; exact e, by rw [List.append_nil]; exact m1, m3, m4.o, ?_⟩
    rw [List.append_nil]
    exact rep_a hR (by omega) (by omega)
  · rw [if_neg h] at e
    obtain ⟨v, m2⟩ := m2
    refine Or.inr ⟨by omega, by omega, cc + 1, s + 6, st2, by rw [Nat.zero_add, Nat.zero_add]; exact e, ⟨by have := m6.1; omega, by have := m6.2; omega⟩, ⟨⟨_, _, _, _, m2⟩, m7.o⟩⟩
theorem whole_oo {W0 W : List NP} {l : List (Sx × JT d)} {cR : Nat} (hM : MS st vs cs ks (W0 ++ W)) (hR : RM vs cs ks d W l) (hbv : vs.length + 1 ≤ bV) (hbk : ks.length + W.length ≤ bK) (hn : 20 * bC < n) : OpO st 0 0 cR 1 (fM_whole n st 6 (i3 W0.length)) vs cs ks W0 (.inr (jo l)) := by
  obtain ⟨a1, a2, a3, a4, a5⟩ := hR.sums
  obtain ⟨cc, s, st1, st2, e, m1, m2, m3, m4, _, m6, m7, _⟩ := whole_w (k := 6) hM (by omega) a4 hbv hbk hn
  have hD : jd (d + 1) (jo l) = (W.map (fun p => vDp vs p.1)).foldl max 0 + 1 := by rw [a2, jd_o]
  have hW : (jc (d + 1) (jo l)).length = 1 + (W.map (kWt vs 6)).sum := by
    rw [a3, jc_o, lst_len, sm_flat]
    exact Nat.add_comm _ _
  by_cases h : (W.map (fun p => vDp vs p.1)).foldl max 0 < 60 ∧ 1 + (W.map (kWt vs 6)).sum ≤ 60000
  · rw [if_pos h] at e
    refine Or.inl ⟨cc, s, vs.length + 1, st1, [_], [], W, by rw [Nat.zero_add, Nat.zero_add]; exact e, by rw [List.append_nil]; exact m1, m3, m4.o, ?_⟩
    rw [List.append_nil]
    exact rep_o hR (by omega) (by omega)
  · rw [if_neg h] at e
    obtain ⟨v, m2⟩ := m2
    refine Or.inr ⟨by omega, by omega, cc + 1, s + 6, st2, by rw [Nat.zero_add, Nat.zero_add]; exact e, ⟨by have := m6.1; omega, by have := m6.2; omega⟩, ⟨⟨_, _, _, _, m2⟩, m7.o⟩⟩
end OPO
end ZOpo76
section ZAdd77
section ADD
variable {vs : List VR} {cs : List Nat} {ks W0 : List NP} {d : Nat}
theorem Rep.lev {vs : List VR} {cs : List Nat} {ks : List NP} {d : Nat} {j : JT d} {c : Nat} (h : Rep vs cs ks d j c) : c ≤ vs.length := h.le.2
theorem addA2 {l m : List (JT d)} {a b : Nat} (ha : Rep vs cs ks (d + 1) (ja l) a) (hb : Rep vs cs ks (d + 1) (ja m) b) (hbv : vs.length + 1 ≤ bV) (hbk : ks.length + (W0.length + l.length + m.length) ≤ bK) : ∀ (q n i : Nat) (st : xS) (W : List NP) (X : List (JT d)) (wc wn : Nat), i + q = m.length → W.length + q ≤ l.length + m.length → MS st vs cs ks (W0 ++ W) → RL vs cs ks d W X → 3000000 + q < n → OpO st wc wn 1 2 (fM_added_b n 2 (i3 i) (i3 W0.length) a b st wc wn) vs cs ks W0 (.inr (ja (X ++ m.drop i))) := by
  have hbc : bC = 100000 := rfl
  have hbk' : bK = 32000 := rfl
  intro q
  induction q with
  | zero =>
    intro n i st W X wc wn hi hW hM hR hn
    obtain ⟨n, rfl⟩ : ∃ j, n = j + 1 := ⟨n - 1, by omega⟩
    obtain ⟨b1, _, _, _⟩ := hb.g hM
    obtain ⟨a1, _, a3, _⟩ := ha.g hM
    obtain ⟨bs, bl⟩ := hb.sza hM
    rw [fM_added_b, if_neg (by decide), if_neg b1, bs, if_pos (by rw [i3_le (by omega) (by omega)]; omega), if_neg a1, a3, kd_a, List.drop_eq_nil_of_le (by omega), List.append_nil]
    exact OpO.wrap (OpO.l1 (cR := 1) (by omega) (whole_ao hM hR hbv (by omega) (by omega)))
  | succ q ih =>
    intro n i st W X wc wn hi hW hM hR hn
    obtain ⟨n, rfl⟩ : ∃ j, n = j + 1 := ⟨n - 1, by omega⟩
    obtain ⟨b1, _, _, _⟩ := hb.g hM
    obtain ⟨a1, _, a3, _⟩ := ha.g hM
    obtain ⟨bs, bl⟩ := hb.sza hM
    obtain ⟨k, e1, r1⟩ := hb.kid (n := n) hM (List.getElem?_eq_getElem (show i < m.length by omega))
    obtain ⟨cc, s, st', e2, m1, m2, m3, _⟩ := wait_w (n := n) hM (a := k) (b := 0) r1.lev (by omega) (by rw [List.length_append]; omega) (by omega)
    rw [fM_added_b, if_neg (by decide), if_neg b1, bs, if_neg (by rw [i3_le (by omega) (by omega)]; omega), if_neg a1, a3, kd_a, if_pos (by decide), if_neg (by decide), e1, Option.bind_some, e2, Option.bind_some, List.drop_eq_getElem_cons (show i < m.length by omega), i3_one]
    refine OpO.wrap (OpO.step0 (OpO.wrap ?_) m2 m3.o)
    rw [List.append_assoc] at m1
    have := ih n (i + 1) st' (W ++ [(k, 0)]) (X ++ [m[i]]) (wc + cc) (wn + s) (by omega) (by rw [List.length_append]; simp; omega) m1 (hR.snoc r1 (by omega)) (by omega)
    rw [List.append_assoc] at this
    exact this
theorem addA1 {l m : List (JT d)} {a b : Nat} (ha : Rep vs cs ks (d + 1) (ja l) a) (hb : Rep vs cs ks (d + 1) (ja m) b) (hbv : vs.length + 1 ≤ bV) (hbk : ks.length + (W0.length + l.length + m.length) ≤ bK) : ∀ (q n i : Nat) (st : xS) (W : List NP) (X : List (JT d)) (wc wn : Nat), i + q = l.length → W.length + q = l.length → MS st vs cs ks (W0 ++ W) → RL vs cs ks d W X → 3100000 + q < n → OpO st wc wn 1 2 (fM_added_b n 1 (i3 i) (i3 W0.length) a b st wc wn) vs cs ks W0 (.inr (ja (X ++ (l.drop i ++ m)))) := by
  have hbc : bC = 100000 := rfl
  have hbk' : bK = 32000 := rfl
  intro q
  induction q with
  | zero =>
    intro n i st W X wc wn hi hW hM hR hn
    obtain ⟨n, rfl⟩ : ∃ j, n = j + 1 := ⟨n - 1, by omega⟩
    obtain ⟨a1, _, a3, _⟩ := ha.g hM
    obtain ⟨as, al⟩ := ha.sza hM
    rw [fM_added_b, if_pos rfl, if_neg a1, as, if_pos (by rw [i3_le (by omega) (by omega)]; omega), List.drop_eq_nil_of_le (by omega), List.nil_append]
    exact OpO.wrap (addA2 ha hb hbv hbk m.length n 0 st W X wc wn (by omega) (by omega) hM hR (by omega))
  | succ q ih =>
    intro n i st W X wc wn hi hW hM hR hn
    obtain ⟨n, rfl⟩ : ∃ j, n = j + 1 := ⟨n - 1, by omega⟩
    obtain ⟨a1, _, a3, _⟩ := ha.g hM
    obtain ⟨b1, b2, _, _⟩ := hb.g hM
    obtain ⟨as, al⟩ := ha.sza hM
    obtain ⟨k, e1, r1⟩ := ha.kid (n := n) hM (List.getElem?_eq_getElem (show i < l.length by omega))
    obtain ⟨cc, s, st', e2, m1, m2, m3, _⟩ := wait_w (n := n) hM (a := k) (b := 0) r1.lev (by omega) (by rw [List.length_append]; omega) (by omega)
    rw [fM_added_b, if_pos rfl, if_neg a1, as, if_neg (by rw [i3_le (by omega) (by omega)]; omega), a3, kd_a, if_neg (by decide), if_neg (by decide), e1, Option.bind_some, e2, Option.bind_some, if_neg b2, List.drop_eq_getElem_cons (show i < l.length by omega), i3_one]
    refine OpO.wrap (OpO.step0 (OpO.wrap ?_) m2 m3.o)
    rw [List.append_assoc] at m1
    have := ih n (i + 1) st' (W ++ [(k, 0)]) (X ++ [l[i]]) (wc + cc) (wn + s) (by omega) (by rw [List.length_append]; simp; omega) m1 (hR.snoc r1 (by omega)) (by omega)
    rw [List.append_assoc] at this
    exact this
theorem addO2 {l m : List (Sx × JT d)} {a b : Nat} (ha : Rep vs cs ks (d + 1) (jo l) a) (hb : Rep vs cs ks (d + 1) (jo m) b) (hbv : vs.length + 1 ≤ bV) (hbk : ks.length + (W0.length + l.length + m.length) ≤ bK) : ∀ (q n i : Nat) (st : xS) (W : List NP) (X : List (Sx × JT d)) (wc wn : Nat), i + q = m.length → W.length + q ≤ l.length + m.length → MS st vs cs ks (W0 ++ W) → RM vs cs ks d W X → 3000000 + q < n → OpO st wc wn 1 2 (fM_added_b n 2 (i3 i) (i3 W0.length) a b st wc wn) vs cs ks W0 (.inr (jo (X ++ bn l (m.drop i)))) := by
  have hbc : bC = 100000 := rfl
  have hbk' : bK = 32000 := rfl
  intro q
  induction q with
  | zero =>
    intro n i st W X wc wn hi hW hM hR hn
    obtain ⟨n, rfl⟩ : ∃ j, n = j + 1 := ⟨n - 1, by omega⟩
    obtain ⟨b1, _, _, _⟩ := hb.g hM
    obtain ⟨a1, _, a3, _⟩ := ha.g hM
    obtain ⟨bs, bl⟩ := hb.szo hM
    rw [fM_added_b, if_neg (by decide), if_neg b1, bs, if_pos (by rw [i3_le (by omega) (by omega)]; omega), if_neg a1, a3, kd_o, List.drop_eq_nil_of_le (by omega)]
    have hnil : X ++ bn l ([] : List (Sx × JT d)) = X := List.append_nil X
    rw [hnil]
    exact OpO.wrap (OpO.l1 (cR := 1) (by omega) (whole_oo hM hR hbv (by omega) (by omega)))
  | succ q ih =>
    intro n i st W X wc wn hi hW hM hR hn
    obtain ⟨n, rfl⟩ : ∃ j, n = j + 1 := ⟨n - 1, by omega⟩
    obtain ⟨b1, _, _, _⟩ := hb.g hM
    obtain ⟨a1, _, a3, _⟩ := ha.g hM
    obtain ⟨bs, bl⟩ := hb.szo hM
    obtain ⟨as, al⟩ := ha.szo hM
    obtain ⟨k, nm, e1, e2, r1, s1, sl⟩ := hb.okid (n := n) hM (List.getElem?_eq_getElem (show i < m.length by omega))
    obtain ⟨p1, p2⟩ := placeM (n := n) hM ha s1 sl (by omega)
    rw [fM_added_b, if_neg (by decide), if_neg b1, bs, if_neg (by rw [i3_le (by omega) (by omega)]; omega), if_neg a1, a3, kd_o, if_neg (by decide), e2, Option.bind_some, List.drop_eq_getElem_cons (show i < m.length by omega), i3_one]
    have hbn : bn l (m[i] :: m.drop (i + 1)) = if (lu m[i].1 l).isNone = true then m[i] :: bn l (m.drop (i + 1)) else bn l (m.drop (i + 1)) := by
      unfold bn
      rw [List.filter_cons]
    rw [hbn]
    cases e : lu m[i].1 l with
    | none =>
      obtain ⟨cc, s, st', e3, m1, m2, m3, _⟩ := wait_w (n := n) hM (a := k) (b := nm) r1.lev s1.le.2.1 (by rw [List.length_append]; omega) (by omega)
      rw [p1 e, Option.bind_some, if_neg (by decide), if_pos (by decide), Option.bind_some, e1, Option.bind_some, e3, Option.bind_some, if_pos (show (none : Option (JT d)).isNone = true from rfl)]
      refine OpO.wrap (OpO.step0 (OpO.wrap ?_) m2 m3.o)
      rw [List.append_assoc] at m1
      have := ih n (i + 1) st' (W ++ [(k, nm)]) (X ++ [m[i]]) (wc + cc) (wn + s) (by omega) (by rw [List.length_append]; simp; omega) m1 (hR.snoc r1 s1 sl) (by omega)
      rw [List.append_assoc] at this
      exact this
    | some y =>
      obtain ⟨j, k', hj, _, f1, _, _⟩ := p2 y e
      rw [f1, Option.bind_some, if_pos (show (0 : Int32) ≤ i3 j by rw [show (0 : Int32) = i3 0 from rfl, i3_le (by omega) (by omega)]; omega), if_neg (show ¬ (some y).isNone = true from fun h => by cases h)]
      exact OpO.wrap (ih n (i + 1) st W X wc wn (by omega) (by omega) hM hR (by omega))
theorem addO1 {l m : List (Sx × JT d)} {a b : Nat} (ha : Rep vs cs ks (d + 1) (jo l) a) (hb : Rep vs cs ks (d + 1) (jo m) b) (hbv : vs.length + 1 ≤ bV) (hbk : ks.length + (W0.length + l.length + m.length) ≤ bK) : ∀ (q n i : Nat) (st : xS) (W : List NP) (X : List (Sx × JT d)) (wc wn : Nat), i + q = l.length → W.length + q = l.length → MS st vs cs ks (W0 ++ W) → RM vs cs ks d W X → 3100000 + q < n → OpO st wc wn 1 2 (fM_added_b n 1 (i3 i) (i3 W0.length) a b st wc wn) vs cs ks W0 (.inr (jo (X ++ ((l.drop i).map (bv (fun _ y => y) m) ++ bn l m)))) := by
  have hbc : bC = 100000 := rfl
  have hbk' : bK = 32000 := rfl
  intro q
  induction q with
  | zero =>
    intro n i st W X wc wn hi hW hM hR hn
    obtain ⟨n, rfl⟩ : ∃ j, n = j + 1 := ⟨n - 1, by omega⟩
    obtain ⟨a1, _, a3, _⟩ := ha.g hM
    obtain ⟨as, al⟩ := ha.szo hM
    rw [fM_added_b, if_pos rfl, if_neg a1, as, if_pos (by rw [i3_le (by omega) (by omega)]; omega), List.drop_eq_nil_of_le (by omega), List.map_nil, List.nil_append]
    exact OpO.wrap (addO2 ha hb hbv hbk m.length n 0 st W X wc wn (by omega) (by omega) hM hR (by omega))
  | succ q ih =>
    intro n i st W X wc wn hi hW hM hR hn
    obtain ⟨n, rfl⟩ : ∃ j, n = j + 1 := ⟨n - 1, by omega⟩
    obtain ⟨a1, _, a3, _⟩ := ha.g hM
    obtain ⟨b1, b2, _, _⟩ := hb.g hM
    obtain ⟨as, al⟩ := ha.szo hM
    obtain ⟨bs, bl⟩ := hb.szo hM
    obtain ⟨k, nm, e1, e2, r1, s1, sl⟩ := ha.okid (n := n) hM (List.getElem?_eq_getElem (show i < l.length by omega))
    obtain ⟨p1, p2⟩ := placeM (n := n) hM hb s1 sl (by omega)
    rw [fM_added_b, if_pos rfl, if_neg a1, as, if_neg (by rw [i3_le (by omega) (by omega)]; omega), a3, kd_o, if_pos (by decide), e2, Option.bind_some, List.drop_eq_getElem_cons (show i < l.length by omega), i3_one, List.map_cons]
    have body : ∀ (x : JT d) (kx : Nat), Rep vs cs ks d x kx → bv (fun _ y => y) m l[i] = (l[i].1, x) → OpO st wc wn 1 2 ((fM_wait n st nm kx).bind fun o14 => (if (xct st) < b then none else xmo (fun a => a.2.1) (fun a => a.2.2.1) (wc + o14.1) (wn + o14.2.1) (fM_added_b n 1 (i3 (i + 1)) (i3 W0.length) a b o14.2.2 (wc + o14.1) (wn + o14.2.1)))) vs cs ks W0 (.inr (jo (X ++ (bv (fun _ y => y) m l[i] :: (l.drop (i + 1)).map (bv (fun _ y => y) m) ++ bn l m)))) := by
      intro x kx hx hbv'
      obtain ⟨cc, s, st', e3, m1, m2, m3, _⟩ := wait_w (n := n) hM (a := kx) (b := nm) hx.lev s1.le.2.1 (by rw [List.length_append]; omega) (by omega)
      rw [e3, Option.bind_some, if_neg b2, hbv']
      refine OpO.step0 (OpO.wrap ?_) m2 m3.o
      rw [List.append_assoc] at m1
      have := ih n (i + 1) st' (W ++ [(kx, nm)]) (X ++ [(l[i].1, x)]) (wc + cc) (wn + s) (by omega) (by rw [List.length_append]; simp; omega) m1 (hR.snoc hx s1 sl) (by omega)
      rw [List.append_assoc] at this
      exact this
    cases e : lu l[i].1 m with
    | none =>
      rw [p1 e, Option.bind_some, if_pos (by decide), Option.bind_some, if_neg (by decide), e1, Option.bind_some]
      exact OpO.wrap (body l[i].2 k r1 (by unfold bv; rw [e]))
    | some y =>
      obtain ⟨j, k', hj, _, f1, f2, f3⟩ := p2 y e
      rw [f1, Option.bind_some, if_pos (by decide), Option.bind_some, if_pos (show (0 : Int32) ≤ i3 j by rw [show (0 : Int32) = i3 0 from rfl, i3_le (by omega) (by omega)]; omega), f2, Option.bind_some]
      exact OpO.wrap (body y k' f3 (by unfold bv; rw [e]))
end ADD
end ZAdd77
section ZAdm78
section ADM
variable {st : xS} {vs : List VR} {cs : List Nat} {ks ws : List NP} {e n : Nat}
def Bd (vs : List VR) (cs : List Nat) (ks ws : List NP) : Prop := vs.length ≤ 8200 ∧ cs.length ≤ 8200 ∧ ks.length ≤ 8200 ∧ ws.length ≤ 60
def Arg (vs : List VR) (cs : List Nat) (ks : List NP) (d : Nat) (x : JT d) (a : Nat) : Prop := Rep vs cs ks d x a ∧ jok d x ∧ jd d x ≤ 60 ∧ (jt d x).length ≤ 4096 ∧ (jc d x).length ≤ 4096
theorem Arg.g (hM : MS st vs cs ks ws) {x : JT (e + 1)} {a : Nat} (h : Arg vs cs ks (e + 1) x a) : ¬ (a = 0 ∨ xct st < a) ∧ ¬ xct st < a ∧ xpi st 0 (a - 1) = i3 (kd (e + 1) x) ∧ a ≤ vs.length := h.1.g hM
theorem Arg.k7 {x : JT (e + 1)} {a : Nat} (h : Arg vs cs ks (e + 1) x a) : kd (e + 1) x < 7 := kd7 h.2.1
theorem Arg.la {l : List (JT e)} {a : Nat} (h : Arg vs cs ks (e + 1) (ja l) a) : l.length ≤ 4096 := by have := len_a l; have := h.2.2.2.2; omega
theorem Arg.lo {l : List (Sx × JT e)} {a : Nat} (h : Arg vs cs ks (e + 1) (jo l) a) : l.length ≤ 4096 := by have := len_o l; have := h.2.2.2.2; omega
theorem Arg.ls {s : Sx} {a : Nat} (h : Arg vs cs ks (e + 1) (js s) a) : s.length ≤ 4095 := by have := h.2.2.2.2; rw [jc_s, strc_ln] at this; omega
theorem ke {k c : Nat} (hk : k < 7) (hc : c < 8) : (i3 k = i3 c) = (k = c) := i3_eq (by omega) (by omega)
theorem kl {k c : Nat} (hk : k < 7) (hc : c < 8) : (i3 c ≤ i3 k) = (c ≤ k) := i3_le (by omega) (by omega)
def oP2 {e : Nat} (a b : JT (e + 1)) : Nat ⊕ JT (e + 1) :=
  match a, b with
  | .inl (.inr (.inr s)), .inl (.inr (.inr t)) => .inr (js (s ++ t))
  | .inr (.inl l), .inr (.inl m) => .inr (ja (l ++ m))
  | .inr (.inr l), .inr (.inr m) => .inr (jo (bw (fun _ y => y) l m))
  | _, _ => .inl 1
theorem oPlus_eq {a b : JT (e + 1)} : oPlus a b = if kd (e + 1) a = 0 then .inr b else if kd (e + 1) b = 0 then .inr a else oP2 a b := rfl
def oB2 {e : Nat} (op : Nat) (a b : JT (e + 2)) : Nat ⊕ JT (e + 2) := if op = 0 then oPlus a b else if op = 1 then oMinus a b else if op = 2 then oTimes a b else if op = 3 then oPieces a b else .inl 1
theorem oBin_np {op : Nat} {x y : JT (e + 2)} (h : kd (e + 2) x ≠ 3 ∨ kd (e + 2) y ≠ 3) : oBin op x y = oB2 op x y := by
  rcases jcases x with ⟨k, rfl⟩ | ⟨z, rfl⟩ | ⟨s, rfl⟩ | ⟨l, rfl⟩ | ⟨l, rfl⟩ <;> rcases jcases y with ⟨k', rfl⟩ | ⟨z', rfl⟩ | ⟨s', rfl⟩ | ⟨l', rfl⟩ | ⟨l', rfl⟩ <;> first
    | rfl
    | (exact (h.elim (fun h => h rfl) (fun h => h rfl)).elim)
theorem oP2_ne {x y : JT (e + 1)} (h : kd (e + 1) x ≠ kd (e + 1) y ∨ kd (e + 1) x < 4) : oP2 x y = .inl 1 := by
  rcases jcases x with ⟨k, rfl⟩ | ⟨z, rfl⟩ | ⟨s, rfl⟩ | ⟨l, rfl⟩ | ⟨l, rfl⟩ <;> rcases jcases y with ⟨k', rfl⟩ | ⟨z', rfl⟩ | ⟨s', rfl⟩ | ⟨l', rfl⟩ | ⟨l', rfl⟩ <;> first
    | rfl
    | (exact (h.elim (fun h => h rfl) (fun h => absurd h (show ¬ (4 : Nat) < 4 by decide))).elim)
    | (exact (h.elim (fun h => h rfl) (fun h => absurd h (show ¬ (5 : Nat) < 4 by decide))).elim)
    | (exact (h.elim (fun h => h rfl) (fun h => absurd h (show ¬ (6 : Nat) < 4 by decide))).elim)
theorem plus_ne {x y : JT (e + 2)} (h1 : ¬ kd (e + 2) x = 0) (h2 : ¬ kd (e + 2) y = 0) (h : kd (e + 2) x ≠ kd (e + 2) y ∨ kd (e + 2) x < 3) : oBin 0 x y = .inl 1 := by
  rw [oBin_np (by omega)]
  unfold oB2
  rw [if_pos rfl, oPlus_eq, if_neg h1, if_neg h2]
  exact oP2_ne (h.elim Or.inl (fun h => Or.inr (Nat.lt_succ_of_lt h)))
theorem kd_0 {x : JT (e + 1)} (h : kd (e + 1) x = 0) : x = jk 0 := by
  rcases jcases x with ⟨k, rfl⟩ | ⟨z, rfl⟩ | ⟨s, rfl⟩ | ⟨l, rfl⟩ | ⟨l, rfl⟩
  · rw [kd_k] at h; rw [h]
  · cases h
  · cases h
  · cases h
  · cases h
theorem kd_3 {x : JT (e + 1)} (hx : jok (e + 1) x) (h : 3 ≤ kd (e + 1) x) : (∃ z, x = jn z) ∨ (∃ s, x = js s) ∨ (∃ l, x = ja l) ∨ (∃ l, x = jo l) := by
  rcases jcases x with ⟨k, rfl⟩ | ⟨z, rfl⟩ | ⟨s, rfl⟩ | ⟨l, rfl⟩ | ⟨l, rfl⟩
  · have h3 : k < 3 := hx
    rw [kd_k] at h
    omega
  · exact Or.inl ⟨z, rfl⟩
  · exact Or.inr (Or.inl ⟨s, rfl⟩)
  · exact Or.inr (Or.inr (Or.inl ⟨l, rfl⟩))
  · exact Or.inr (Or.inr (Or.inr ⟨l, rfl⟩))
theorem addedM {x y : JT (e + 2)} {a b : Nat} (hM : MS st vs cs ks ws) (ha : Arg vs cs ks (e + 2) x a) (hb : Arg vs cs ks (e + 2) y b) (hB : Bd vs cs ks ws) (hn : 5000000 < n) : OpO st 0 0 1 2 (fM_added n st a b) vs cs ks ws (oBin 0 x y) := by
  obtain ⟨a1, a2, a3, _⟩ := ha.g hM
  obtain ⟨b1, b2, b3, _⟩ := hb.g hM
  have ka := ha.k7
  have kb := hb.k7
  obtain ⟨B1, B2, B3, B4⟩ := hB
  have hbv : bV = 32000 := rfl
  have hbk : bK = 32000 := rfl
  have hbc : bC = 100000 := rfl
  unfold fM_added
  rw [if_neg a1, a3]
  by_cases h0 : kd (e + 2) x = 0
  · rw [if_pos (by rw [h0]; rfl), kd_0 h0]
    exact OpO.old hM hb.1
  rw [if_neg (show ¬ i3 (kd (e + 2) x) = 0 from fun h => h0 ((ke (c := 0) ka (by omega)).mp h)), if_neg b1, b3]
  by_cases h0' : kd (e + 2) y = 0
  · rw [if_pos (by rw [h0']; rfl)]
    have : oBin 0 x y = .inr x := by
      rw [oBin_np (by omega)]
      unfold oB2
      rw [if_pos rfl, oPlus_eq, if_neg h0, if_pos h0']
    rw [this]
    exact OpO.old hM ha.1
  rw [if_neg (show ¬ i3 (kd (e + 2) y) = 0 from fun h => h0' ((ke (c := 0) kb (by omega)).mp h))]
  by_cases hk : kd (e + 2) x = kd (e + 2) y
  · rw [if_pos (by rw [hk])]
    by_cases h3 : 3 ≤ kd (e + 2) x
    · rw [if_pos (show (3 : Int32) ≤ i3 (kd (e + 2) x) by rw [show (3 : Int32) = i3 3 from rfl, kl ka (by omega)]; exact h3)]
      have hr : rk (e + 2) x = rk (e + 2) y := by rw [rk_ok ha.2.1, rk_ok hb.2.1, hk]
      rcases rk_same hr with ⟨p, q, rfl, rfl, hpq⟩ | ⟨p, q, rfl, rfl⟩ | ⟨p, q, rfl, rfl⟩ | ⟨p, q, rfl, rfl⟩ | ⟨p, q, rfl, rfl⟩
      · have : p < 3 := ha.2.1
        rw [kd_k] at h3
        omega
      · have hp : -9007199254740991 ≤ p ∧ p ≤ 9007199254740991 := ha.2.1
        have hq : -9007199254740991 ≤ q ∧ q ≤ 9007199254740991 := hb.2.1
        rw [kd_n, if_pos (by decide), ha.1.num hM, hb.1.num hM, cW_add]
        exact OpO.r1 (number_o (n := n) hM (by omega) (by omega) (by omega) (by omega))
      · obtain ⟨c1, s1, st1, e1, m1, m2, m3, _⟩ := letters_w (n := n) hM (isStr_rep ha.1) (by have := ha.ls; omega) (by omega)
        have hb' : isStr vs (cs ++ p) b q := by have := (isStr_rep hb.1).mono (vs' := []) (cs' := p); rw [List.append_nil] at this; exact this
        obtain ⟨c2, s2, st2, e2, n1, n2, n3, _⟩ := letters_w (n := n) m1 hb' (by rw [List.length_append]; have := ha.ls; have := hb.ls; omega) (by omega)
        rw [kd_s, if_neg (by decide), if_pos (by decide), e1, Option.bind_some]
        dsimp only
        rw [e2, Option.bind_some, hM.1.1.2.1]
        dsimp only
        rw [List.append_assoc] at n1
        refine OpO.step0 (cc := c1) (s := s1) (OpO.wrap ?_) m2 m3.o
        refine OpO.step0 (cc := c2) (s := s2) (OpO.wrap ?_) n2 n3.o
        have := OpO.l1 (wc := 0 + c1 + c2) (wn := 0 + s1 + s2) (q := 2) (cR' := 1) (by omega) (string_o (n := n) (cR := 1) (d := e + 1) n1 (by omega) (by omega))
        refine OpO.step (a := []) (b := p ++ q) (c := []) (wc := 0 + c1 + c2) (wn := 0 + s1 + s2) (cc := 0) (s := 0) ?_ Cost.refl FrO.refl
        rw [List.append_nil, List.append_nil]
        exact this
      · rw [kd_a, if_neg (by decide), if_neg (by decide), hM.1.1.2.2.2]
        have := addA1 (W0 := ws) ha.1 hb.1 (by omega) (by have := ha.la; have := hb.la; omega) p.length n 0 st [] [] 0 0 (by omega) (by simp) (by rw [List.append_nil]; exact hM) trivial (by have := ha.la; omega)
        exact this
      · rw [kd_o, if_neg (by decide), if_neg (by decide), hM.1.1.2.2.2]
        have := addO1 (W0 := ws) ha.1 hb.1 (by omega) (by have := ha.lo; have := hb.lo; omega) p.length n 0 st [] [] 0 0 (by omega) (by simp) (by rw [List.append_nil]; exact hM) trivial (by have := ha.lo; omega)
        exact this
    · rw [if_neg (show ¬ (3 : Int32) ≤ i3 (kd (e + 2) x) by rw [show (3 : Int32) = i3 3 from rfl, kl ka (by omega)]; exact h3), plus_ne h0 h0' (Or.inr (by omega))]
      exact refuse_o (k := 1) hM
  · rw [if_neg (by rw [i3_eq (by omega) (by omega)]; exact hk), plus_ne h0 h0' (Or.inl hk)]
    exact refuse_o (k := 1) hM
end ADM
end ZAdm78
section ZWit79
section WIT
variable {vs : List VR} {cs : List Nat} {ks W0 : List NP} {e : Nat}
theorem witI {d : Nat} {l m : List (JT e)} {a b i N : Nat} {st : xS} {ws : List NP} {wc wn cR cL : Nat} {y3 : Int32} {R : Nat ⊕ JT (e + 1)} (hM : MS st vs cs ks ws) (ha : Rep vs cs ks (e + 1) (ja l) a) (hb : Rep vs cs ks (e + 1) (ja m) b) (hol : ∀ x ∈ l, jok e x) (hom : ∀ x ∈ m, jok e x) (hd : e ≤ d) (hN : 4000000 ≤ N) (hi : i < l.length)
    (hS : has m l[i] = true → ∀ (n' : Nat) (y6 y5 : Int32), N ≤ n' → OpO st wc wn cR cL (fM_without_b d n' 1 (i3 (i + 1)) y3 a b y6 y5 st wc wn) vs cs ks W0 R)
    (hW : has m l[i] = false → ∀ (n' : Nat) (y6 y5 : Int32), N ≤ n' → OpO st wc wn cR cL ((fM_kid n' st a (i3 i)).bind fun o2 => ((fM_wait n' st 0 o2).bind fun o5 => (if (xct st) < a then none else xmo (fun a => a.2.1) (fun a => a.2.2.1) (wc + o5.1) (wn + o5.2.1) (fM_without_b d n' 1 (i3 i + 1) y3 a b y6 y5 o5.2.2 (wc + o5.1) (wn + o5.2.1))))) vs cs ks W0 R) :
    ∀ (r n j : Nat), j + r = m.length → has (m.take j) l[i] = false → N + r + 2 ≤ n → OpO st wc wn cR cL (fM_without_b d n 2 (i3 i) y3 a b (i3 j) 0 st wc wn) vs cs ks W0 R := by
  obtain ⟨bs, bl⟩ := hb.sza hM
  obtain ⟨b1, _, _, _⟩ := hb.g hM
  intro r
  induction r with
  | zero =>
    intro n j hj hh hn
    obtain ⟨n, rfl⟩ : ∃ k, n = k + 1 := ⟨n - 1, by omega⟩
    rw [fM_without_b, if_neg (by decide), if_neg b1, bs, if_pos (by rw [i3_le (by omega) (by omega)]; omega), if_pos rfl]
    rw [List.take_of_length_le (by omega)] at hh
    exact OpO.wrap (hW hh n _ _ (by omega))
  | succ r ih =>
    intro n j hj hh hn
    obtain ⟨n, rfl⟩ : ∃ k, n = k + 1 := ⟨n - 1, by omega⟩
    obtain ⟨k1, e1, r1⟩ := ha.kid (n := n) hM (List.getElem?_eq_getElem hi)
    obtain ⟨k2, e2, r2⟩ := hb.kid (n := n) hM (List.getElem?_eq_getElem (show j < m.length by omega))
    have hsm := same1M (n := n) hM (by omega) e d hd _ _ _ _ r1 r2 (hol _ (List.getElem_mem _)) (hom _ (List.getElem_mem _))
    rw [fM_without_b, if_neg (by decide), if_neg b1, bs, if_neg (by rw [i3_le (by omega) (by omega)]; omega), if_pos rfl, e1, Option.bind_some, e2, Option.bind_some, hsm, Option.bind_some, i3_one]
    have hsy := (jcmp_good e).1 l[i] m[j]
    by_cases ez : jcmp e l[i] m[j] = 0
    · have hT : has m l[i] = true := List.any_eq_true.mpr ⟨m[j], List.getElem_mem _, decide_eq_true (by omega)⟩
      obtain ⟨n, rfl⟩ : ∃ k, n = k + 1 := ⟨n - 1, by omega⟩
      rw [if_pos ez, fM_without_b, if_neg (by decide), if_neg b1, bs, if_neg (show ¬ (1 : Int32) = 0 by decide), if_neg (show ¬ (1 : Int32) = 0 by decide), ite_self, i3_one]
      exact OpO.wrap (OpO.wrap (hS hT n _ _ (by omega)))
    · rw [if_neg ez]
      refine OpO.wrap (ih n (j + 1) (by omega) ?_ (by omega))
      rw [List.take_succ_eq_append_getElem (show j < m.length by omega)]
      unfold has at hh ⊢
      rw [List.any_append, hh, Bool.false_or, List.any_cons, List.any_nil, Bool.or_false]
      exact decide_eq_false (by omega)
theorem witO {d : Nat} {l m : List (JT e)} {a b : Nat} (ha : Rep vs cs ks (e + 1) (ja l) a) (hb : Rep vs cs ks (e + 1) (ja m) b) (hol : ∀ x ∈ l, jok e x) (hom : ∀ x ∈ m, jok e x) (hd : e ≤ d) (hbv : vs.length + 1 ≤ bV) (hbk : ks.length + (W0.length + l.length) ≤ bK) : ∀ (q n i : Nat) (st : xS) (W : List NP) (X : List (JT e)) (wc wn : Nat) (y6 y5 : Int32), i + q = l.length → W.length + q ≤ l.length → MS st vs cs ks (W0 ++ W) → RL vs cs ks e W X → 4100000 + q * 100000 < n → OpO st wc wn 1 1 (fM_without_b d n 1 (i3 i) (i3 W0.length) a b y6 y5 st wc wn) vs cs ks W0 (.inr (ja (X ++ (l.drop i).filter (fun x => !has m x)))) := by
  have hbc : bC = 100000 := rfl
  have hbk' : bK = 32000 := rfl
  intro q
  induction q with
  | zero =>
    intro n i st W X wc wn y6 y5 hi hW hM hR hn
    obtain ⟨n, rfl⟩ : ∃ j, n = j + 1 := ⟨n - 1, by omega⟩
    obtain ⟨a1, _, a3, _⟩ := ha.g hM
    obtain ⟨as, al⟩ := ha.sza hM
    rw [fM_without_b, if_pos rfl, if_neg a1, as, if_pos (by rw [i3_le (by omega) (by omega)]; omega), List.drop_eq_nil_of_le (by omega), List.filter_nil, List.append_nil]
    exact OpO.wrap (OpO.l1 (cR := 1) (by omega) (whole_ao hM hR hbv (by omega) (by omega)))
  | succ q ih =>
    intro n i st W X wc wn y6 y5 hi hW hM hR hn
    obtain ⟨n, rfl⟩ : ∃ j, n = j + 1 := ⟨n - 1, by omega⟩
    obtain ⟨a1, a2, a3, _⟩ := ha.g hM
    obtain ⟨as, al⟩ := ha.sza hM
    obtain ⟨bs, bl⟩ := hb.sza hM
    rw [fM_without_b, if_pos rfl, if_neg a1, as, if_neg (by rw [i3_le (by omega) (by omega)]; omega), List.drop_eq_getElem_cons (show i < l.length by omega), List.filter_cons]
    refine OpO.wrap (witI (N := 4100000 + q * 100000 + 1) hM ha hb hol hom hd (by omega) (by omega) (fun hT n' y6 y5 hn' => ?_) (fun hF n' y6 y5 hn' => ?_) m.length n 0 (by omega) rfl (by omega))
    · rw [hT, if_neg (by decide)]
      exact ih n' (i + 1) st W X wc wn y6 y5 (by omega) (by omega) hM hR hn'
    · obtain ⟨k, e1, r1⟩ := ha.kid (n := n') hM (List.getElem?_eq_getElem (show i < l.length by omega))
      obtain ⟨cc, s, st', e2, m1, m2, m3, _⟩ := wait_w (n := n') hM (a := k) (b := 0) r1.lev (by omega) (by rw [List.length_append]; omega) (by omega)
      rw [hF, if_pos (by decide), e1, Option.bind_some, e2, Option.bind_some, if_neg a2, i3_one]
      refine OpO.step0 (OpO.wrap ?_) m2 m3.o
      rw [List.append_assoc] at m1
      have := ih n' (i + 1) st' (W ++ [(k, 0)]) (X ++ [l[i]]) (wc + cc) (wn + s) y6 y5 (by omega) (by rw [List.length_append]; simp; omega) m1 (hR.snoc r1 (by omega)) hn'
      rw [List.append_assoc] at this
      exact this
theorem withoutM {st : xS} {ws : List NP} {d n : Nat} {l m : List (JT e)} {a b : Nat} (hM : MS st vs cs ks ws) (ha : Arg vs cs ks (e + 1) (ja l) a) (hb : Arg vs cs ks (e + 1) (ja m) b) (hd : e ≤ d) (hB : Bd vs cs ks ws) (hn : 3000000000 < n) : OpO st 0 0 1 1 (fM_without d n st a b) vs cs ks ws (.inr (ja (l.filter (fun x => !has m x)))) := by
  obtain ⟨B1, B2, B3, B4⟩ := hB
  have hbv : bV = 32000 := rfl
  have hbk : bK = 32000 := rfl
  have := ha.la
  unfold fM_without
  rw [hM.1.1.2.2.2]
  exact witO ha.1 hb.1 ha.2.1 hb.2.1 hd (by omega) (by omega) l.length n 0 st [] [] 0 0 0 0 (by omega) (by simp) (by rw [List.append_nil]; exact hM) trivial (by omega)
end WIT
end ZWit79
section ZMrg80
section MRG
abbrev cl {d : Nat} (x : JT d) : Nat := (jc d x).length
def yl {d : Nat} (m : List (Sx × JT d)) (p : Sx × JT d) : Nat := match lu p.1 m with
  | none => 0
  | some y => cl y
theorem yl1 {d : Nat} {g : Sx × JT d → Nat} {s : Sx} {w : Nat} : ∀ (l : List (Sx × JT d)), (l.map (fun p => p.1)).Nodup → (l.map (fun p => if s = p.1 then w else g p)).sum ≤ w + (l.map g).sum
  | [], _ => Nat.zero_le _
  | p :: l, h => by
    rw [List.map_cons, List.nodup_cons] at h
    rw [List.map_cons, List.map_cons, List.sum_cons, List.sum_cons]
    by_cases e : s = p.1
    · rw [if_pos e]
      have : l.map (fun p => if s = p.1 then w else g p) = l.map g := List.map_congr_left (fun q hq => if_neg (fun e2 => h.1 (List.mem_map.mpr ⟨q, hq, by rw [← e2, e]⟩)))
      rw [this]
      omega
    · rw [if_neg e]
      have := yl1 (g := g) (s := s) (w := w) l h.2
      omega
theorem yl_sum {d : Nat} {l : List (Sx × JT d)} (hl : (l.map (fun p => p.1)).Nodup) : ∀ (m : List (Sx × JT d)), (l.map (yl m)).sum ≤ (m.map (fun q => cl q.2)).sum
  | [] => by
    have : l.map (yl ([] : List (Sx × JT d))) = l.map (fun _ => 0) := rfl
    rw [this]
    clear this hl
    induction l with
    | nil => exact Nat.le_refl _
    | cons p l ih => rw [List.map_cons, List.sum_cons, Nat.zero_add]; exact ih
  | q :: m => by
    have : l.map (yl (q :: m)) = l.map (fun p => if q.1 = p.1 then cl q.2 else yl m p) := List.map_congr_left (fun p _ => by
      show (match lu p.1 (q :: m) with | none => 0 | some y => cl y) = _
      rw [show lu p.1 (q :: m) = if q.1 = p.1 then some q.2 else lu p.1 m from rfl]
      by_cases e : q.1 = p.1
      · rw [if_pos e, if_pos e]
      · rw [if_neg e, if_neg e]
        rfl)
    rw [this, List.map_cons, List.sum_cons]
    have h1 := yl1 (g := yl m) (s := q.1) (w := cl q.2) l hl
    have h2 := yl_sum hl m
    omega
theorem cl_o {d : Nat} (l : List (Sx × JT d)) : cl (jo l) = 1 + l.length + (l.map (fun p => p.1.length)).sum + (l.map (fun p => cl p.2)).sum := by
  unfold cl
  rw [jc_o, lst_len]
  induction l with
  | nil => rfl
  | cons p l ih =>
    rw [List.flatMap_cons, List.length_append, List.length_append, strc_ln, List.length_cons, List.map_cons, List.map_cons, List.sum_cons, List.sum_cons]
    omega
theorem sum_add {α : Type} {f g : α → Nat} : ∀ (l : List α), (l.map (fun p => f p + g p)).sum = (l.map f).sum + (l.map g).sum
  | [] => rfl
  | p :: l => by rw [List.map_cons, List.map_cons, List.map_cons, List.sum_cons, List.sum_cons, List.sum_cons, sum_add l]; omega
theorem big_o {d : Nat} {L : List (Sx × JT d)} {p : Sx × JT d} (hp : p ∈ L) (h : 60 < jd d p.2 ∨ 60000 < (jc d p.2).length) : 60 < jd (d + 1) (jo L) ∨ 60000 < (jc (d + 1) (jo L)).length := by
  rcases h with h | h
  · left
    apply Classical.byContradiction
    intro hn
    have := (jd_o_le (n := 59)).mp (show jd (d + 1) (jo L) ≤ 59 + 1 by omega) p hp
    omega
  · right
    rw [jc_o, lst_len]
    obtain ⟨a, b, rfl⟩ := List.append_of_mem hp
    simp
    omega
def MgO (st : xS) (wc wn : Nat) (out : Option (Nat × Nat × Nat × Nat × xS)) (vs : List VR) (cs : List Nat) (ks ws : List NP) (S : Nat) {d : Nat} (j : JT d) : Prop :=
  (∃ (cc s c : Nat) (st' : xS) (vs' : List VR) (ks' : List NP), out = some (0, wc + cc, wn + s, c, st') ∧ MS st' (vs ++ vs') cs (ks ++ ks') ws ∧ Cost st st' cc s ∧ FrO st st' ∧ Rep (vs ++ vs') cs (ks ++ ks') d j c ∧ vs'.length ≤ S ∧ ks'.length ≤ S) ∨ ((60 < jd d j ∨ 60000 < (jc d j).length) ∧ ∃ (cc s : Nat) (st' : xS), out = some (1, wc + cc, wn + s, 0, st') ∧ CostE st st' cc s 1 ∧ OpB st st')
variable {cs : List Nat} {W0 : List NP} {d : Nat}
theorem MgO.ge {st : xS} {wc wn S : Nat} {out : Option (Nat × Nat × Nat × Nat × xS)} {vs : List VR} {ks ws : List NP} {j : JT d} (h : MgO st wc wn out vs cs ks ws S j) : ∀ a, out = some a → wc ≤ a.2.1 ∧ wn ≤ a.2.2.1 := by
  intro a ha
  rcases h with ⟨cc, s, c, st', _, _, e, _⟩ | ⟨_, cc, s, st', e, _⟩
  · rw [e] at ha
    injection ha with ha
    rw [← ha]
    exact ⟨Nat.le_add_right _ _, Nat.le_add_right _ _⟩
  · rw [e] at ha
    injection ha with ha
    rw [← ha]
    exact ⟨Nat.le_add_right _ _, Nat.le_add_right _ _⟩
theorem MgO.wrap {st : xS} {wc wn S : Nat} {out : Option (Nat × Nat × Nat × Nat × xS)} {vs : List VR} {ks ws : List NP} {j : JT d} (h : MgO st wc wn out vs cs ks ws S j) : MgO st wc wn (xmo (fun a => a.2.1) (fun a => a.2.2.1) wc wn out) vs cs ks ws S j := by
  rw [xmo_id h.ge]; exact h
theorem MgO.step {st st1 : xS} {wc wn cc s S S' : Nat} {out : Option (Nat × Nat × Nat × Nat × xS)} {vs a : List VR} {ks c ws : List NP} {j : JT d} (h : MgO st1 (wc + cc) (wn + s) out (vs ++ a) cs (ks ++ c) ws S' j) (hc : Cost st st1 cc s) (hf : FrO st st1) (h1 : a.length + S' ≤ S) (h2 : c.length + S' ≤ S) : MgO st wc wn out vs cs ks ws S j := by
  rcases h with ⟨c1, s1, x, st', v', n', e, g1, g2, g3, g4, g5, g6⟩ | ⟨hx, c1, s1, st', e, g1, g2⟩
  · refine Or.inl ⟨cc + c1, s + s1, x, st', a ++ v', c ++ n', by rw [e, Nat.add_assoc, Nat.add_assoc], ?_, hc.trans g2, hf.trans g3, ?_, by rw [List.length_append]; omega, by rw [List.length_append]; omega⟩
    · rw [← List.append_assoc, ← List.append_assoc]; exact g1
    · rw [← List.append_assoc, ← List.append_assoc]; exact g4
  · exact Or.inr ⟨hx, cc + c1, s + s1, st', by rw [e, Nat.add_assoc, Nat.add_assoc], hc.ce g1, ⟨g2.1, hf.trans g2.2⟩⟩
theorem MgO.step0 {st st1 : xS} {wc wn cc s S S' : Nat} {out : Option (Nat × Nat × Nat × Nat × xS)} {vs : List VR} {ks ws : List NP} {j : JT d} (h : MgO st1 (wc + cc) (wn + s) out vs cs ks ws S' j) (hc : Cost st st1 cc s) (hf : FrO st st1) (h1 : S' ≤ S) : MgO st wc wn out vs cs ks ws S j := by
  refine MgO.step (a := []) (c := []) (S' := S') ?_ hc hf (by simpa using h1) (by simpa using h1)
  rw [List.append_nil, List.append_nil]
  exact h
theorem whole_mg {st : xS} {vs : List VR} {ks W : List NP} {n wc wn S : Nat} {l : List (Sx × JT d)} (hM : MS st vs cs ks (W0 ++ W)) (hR : RM vs cs ks d W l) (hbv : vs.length + 1 ≤ bV) (hbk : ks.length + W.length ≤ bK) (hn : 20 * bC < n) (h1 : 1 ≤ S) (h2 : W.length ≤ S) : MgO st wc wn ((fM_whole n st 6 (i3 W0.length)).bind fun o2 => ((if o2.1 = 0 then xmo (fun a => a.2.1) (fun a => a.2.2.1) (wc + o2.2.1) (wn + o2.2.2.1) (some (0, (wc + o2.2.1), (wn + o2.2.2.1), o2.2.2.2.1, o2.2.2.2.2)) else (if o2.1 = 1 then xmo (fun a => a.2.1) (fun a => a.2.2.1) (wc + o2.2.1) (wn + o2.2.2.1) (some (1, (wc + o2.2.1), (wn + o2.2.2.1), 0, o2.2.2.2.2)) else none)))) vs cs ks W0 S (jo l) := by
  obtain ⟨a1, a2, a3, a4, a5⟩ := hR.sums
  obtain ⟨cc, s, st1, st2, e, m1, m2, m3, m4, _, m6, m7, _⟩ := whole_w (k := 6) hM (by omega) a4 hbv hbk hn
  have hD : jd (d + 1) (jo l) = (W.map (fun p => vDp vs p.1)).foldl max 0 + 1 := by rw [a2, jd_o]
  have hW : (jc (d + 1) (jo l)).length = 1 + (W.map (kWt vs 6)).sum := by
    rw [a3, jc_o, lst_len, sm_flat]
    exact Nat.add_comm _ _
  by_cases h : (W.map (fun p => vDp vs p.1)).foldl max 0 < 60 ∧ 1 + (W.map (kWt vs 6)).sum ≤ 60000
  · rw [if_pos h] at e
    refine Or.inl ⟨cc, s, vs.length + 1, st1, [_], W, ?_, m1, m3, m4.o, rep_o hR (by omega) (by omega), h1, h2⟩
    rw [show fM_whole n st 6 (i3 W0.length) = _ from e, Option.bind_some, if_pos rfl]
    exact xmo_some (Nat.le_refl _) (Nat.le_refl _)
  · rw [if_neg h] at e
    obtain ⟨v, m2⟩ := m2
    refine Or.inr ⟨by omega, cc + 1, s + 6, st2, ?_, ⟨by have := m6.1; omega, by have := m6.2; omega⟩, ⟨⟨_, _, _, _, m2⟩, m7.o⟩⟩
    rw [show fM_whole n st 6 (i3 W0.length) = _ from e, Option.bind_some, if_neg (show ¬ (1 : Nat) = 0 by decide), if_pos rfl]
    exact xmo_some (Nat.le_refl _) (Nat.le_refl _)
def RecG (cs : List Nat) (d : Nat) (rec : xS → Nat → Nat → Option (Nat × Nat × Nat × Nat × xS)) : Prop := ∀ (st : xS) (vs : List VR) (ks ws : List NP) (x y : JT d) (a b : Nat), Rep vs cs ks d x a → Rep vs cs ks d y b → jok d x → jok d y → kd d x = 6 → kd d y = 6 → MS st vs cs ks ws → vs.length + cl x + cl y ≤ bV → ks.length + cl x + cl y ≤ bK → ws.length + cl x + cl y ≤ bK → MgO st 0 0 (rec st a b) vs cs ks ws (cl x + cl y) (selD d x y)
theorem Rep.mo {vs vs' : List VR} {ks ks' : List NP} {j : JT d} {c : Nat} (h : Rep vs cs ks d j c) : Rep (vs ++ vs') cs (ks ++ ks') d j c := by
  have := h.mono (vs' := vs') (cs' := []) (ks' := ks')
  rw [List.append_nil] at this
  exact this
theorem RM.mo {vs vs' : List VR} {ks ks' : List NP} {W : List NP} {l : List (Sx × JT d)} (h : RM vs cs ks d W l) : RM (vs ++ vs') cs (ks ++ ks') d W l := by
  have := h.mono (vs' := vs') (cs' := []) (ks' := ks')
  rw [List.append_nil] at this
  exact this
theorem isStr.mo {vs vs' : List VR} {c : Nat} {s : Sx} (h : isStr vs cs c s) : isStr (vs ++ vs') cs c s := by
  have := h.mono (vs' := vs') (cs' := [])
  rw [List.append_nil] at this
  exact this
theorem mrg2 {rec : xS → Nat → Nat → Option (Nat × Nat × Nat × Nat × xS)} {l m : List (Sx × JT d)} {a b : Nat} : ∀ (q n i : Nat) (st : xS) (vs : List VR) (ks W : List NP) (X : List (Sx × JT d)) (wc wn : Nat), Rep vs cs ks (d + 1) (jo l) a → Rep vs cs ks (d + 1) (jo m) b → i + q = m.length → W.length + q ≤ l.length + m.length → MS st vs cs ks (W0 ++ W) → RM vs cs ks d W X → vs.length + 1 ≤ bV → ks.length + l.length + m.length ≤ bK → W0.length + l.length + m.length ≤ bK → 3000000 + q < n → MgO st wc wn (fM_merged_b rec n 2 (i3 i) (i3 W0.length) a b st wc wn) vs cs ks W0 (l.length + m.length + 1) (jo (X ++ bn l (m.drop i))) := by
  have hbc : bC = 100000 := rfl
  have hbk' : bK = 32000 := rfl
  intro q
  induction q with
  | zero =>
    intro n i st vs ks W X wc wn ha hb hi hW hM hR hbv hbk hbw hn
    obtain ⟨n, rfl⟩ : ∃ j, n = j + 1 := ⟨n - 1, by omega⟩
    obtain ⟨b1, _, _, _⟩ := hb.g hM
    obtain ⟨bs, bl⟩ := hb.szo hM
    rw [fM_merged_b, if_neg (by decide), if_neg b1, bs, if_pos (by rw [i3_le (by omega) (by omega)]; omega), List.drop_eq_nil_of_le (by omega)]
    have hnil : X ++ bn l ([] : List (Sx × JT d)) = X := List.append_nil X
    rw [hnil]
    exact MgO.wrap (whole_mg hM hR hbv (by omega) (by omega) (by omega) (by omega))
  | succ q ih =>
    intro n i st vs ks W X wc wn ha hb hi hW hM hR hbv hbk hbw hn
    obtain ⟨n, rfl⟩ : ∃ j, n = j + 1 := ⟨n - 1, by omega⟩
    obtain ⟨b1, _, _, _⟩ := hb.g hM
    obtain ⟨a1, a2, _, _⟩ := ha.g hM
    obtain ⟨bs, bl⟩ := hb.szo hM
    obtain ⟨as, al⟩ := ha.szo hM
    obtain ⟨k, nm, e1, e2, r1, s1, sl⟩ := hb.okid (n := n) hM (List.getElem?_eq_getElem (show i < m.length by omega))
    obtain ⟨p1, p2⟩ := placeM (n := n) hM ha s1 sl (by omega)
    rw [fM_merged_b, if_neg (by decide), if_neg b1, bs, if_neg (by rw [i3_le (by omega) (by omega)]; omega), e2, Option.bind_some, List.drop_eq_getElem_cons (show i < m.length by omega), i3_one]
    have hbn : bn l (m[i] :: m.drop (i + 1)) = if (lu m[i].1 l).isNone = true then m[i] :: bn l (m.drop (i + 1)) else bn l (m.drop (i + 1)) := by
      unfold bn
      rw [List.filter_cons]
    rw [hbn]
    cases e : lu m[i].1 l with
    | none =>
      obtain ⟨cc, s, st', e3, m1, m2, m3, _⟩ := wait_w (n := n) hM (a := k) (b := nm) r1.lev s1.le.2.1 (by rw [List.length_append]; omega) (by omega)
      rw [p1 e, Option.bind_some, if_neg (by decide), Option.bind_some, e1, Option.bind_some, e3, Option.bind_some, if_neg a2, if_pos (show (none : Option (JT d)).isNone = true from rfl)]
      refine MgO.wrap (MgO.step0 (MgO.wrap ?_) m2 m3.o (Nat.le_refl _))
      rw [List.append_assoc] at m1
      have := ih n (i + 1) st' vs ks (W ++ [(k, nm)]) (X ++ [m[i]]) (wc + cc) (wn + s) ha hb (by omega) (by rw [List.length_append]; simp; omega) m1 (hR.snoc r1 s1 sl) hbv hbk hbw (by omega)
      rw [List.append_assoc] at this
      exact this
    | some y =>
      obtain ⟨j, k', hj, _, f1, _, _⟩ := p2 y e
      rw [f1, Option.bind_some, if_pos (show (0 : Int32) ≤ i3 j by rw [show (0 : Int32) = i3 0 from rfl, i3_le (by omega) (by omega)]; omega), if_neg (show ¬ (some y).isNone = true from fun h => by cases h)]
      exact MgO.wrap (ih n (i + 1) st vs ks W X wc wn ha hb (by omega) (by omega) hM hR hbv hbk hbw (by omega))
def sS {d : Nat} (m l : List (Sx × JT d)) : Nat := (l.map (fun p => cl p.2 + yl m p)).sum
theorem mrg1 {rec : xS → Nat → Nat → Option (Nat × Nat × Nat × Nat × xS)} (hrec : RecG cs d rec) {l m : List (Sx × JT d)} {a b : Nat} (hol : ∀ p ∈ l, jok d p.2) (hom : ∀ p ∈ m, jok d p.2) : ∀ (q n i : Nat) (st : xS) (vs : List VR) (ks W : List NP) (X : List (Sx × JT d)) (wc wn : Nat), Rep vs cs ks (d + 1) (jo l) a → Rep vs cs ks (d + 1) (jo m) b → i + q = l.length → W.length = i → MS st vs cs ks (W0 ++ W) → RM vs cs ks d W X → vs.length + (sS m (l.drop i) + l.length + m.length + 1) ≤ bV → ks.length + (sS m (l.drop i) + l.length + m.length + 1) ≤ bK → W0.length + (sS m (l.drop i) + l.length + m.length + 1) ≤ bK → 3100000 + q < n → MgO st wc wn (fM_merged_b rec n 1 (i3 i) (i3 W0.length) a b st wc wn) vs cs ks W0 (sS m (l.drop i) + l.length + m.length + 1) (jo (X ++ ((l.drop i).map (bv (selD d) m) ++ bn l m))) := by
  have hbc : bC = 100000 := rfl
  have hbk' : bK = 32000 := rfl
  have hbv' : bV = 32000 := rfl
  intro q
  induction q with
  | zero =>
    intro n i st vs ks W X wc wn ha hb hi hW hM hR hbv hbk hbw hn
    obtain ⟨n, rfl⟩ : ∃ j, n = j + 1 := ⟨n - 1, by omega⟩
    obtain ⟨a1, _, a3, _⟩ := ha.g hM
    obtain ⟨as, al⟩ := ha.szo hM
    rw [fM_merged_b, if_pos rfl, if_neg a1, as, if_pos (by rw [i3_le (by omega) (by omega)]; omega), List.drop_eq_nil_of_le (by omega), List.map_nil, List.nil_append]
    have h0 : sS m ([] : List (Sx × JT d)) = 0 := rfl
    have := mrg2 (rec := rec) (W0 := W0) (l := l) m.length n 0 st vs ks W X wc wn ha hb (by omega) (by omega) hM hR (by omega) (by omega) (by omega) (by omega)
    rw [h0, Nat.zero_add]
    exact MgO.wrap this
  | succ q ih =>
    intro n i st vs ks W X wc wn ha hb hi hW hM hR hbv hbk hbw hn
    obtain ⟨n, rfl⟩ : ∃ j, n = j + 1 := ⟨n - 1, by omega⟩
    obtain ⟨a1, a2, a3, _⟩ := ha.g hM
    obtain ⟨b1, b2, _, _⟩ := hb.g hM
    obtain ⟨as, al⟩ := ha.szo hM
    obtain ⟨bs, bl⟩ := hb.szo hM
    obtain ⟨k, nm, e1, e2, r1, s1, sl⟩ := ha.okid (n := n) hM (List.getElem?_eq_getElem (show i < l.length by omega))
    obtain ⟨p1, p2⟩ := placeM (n := n) hM hb s1 sl (by omega)
    have hmem : l[i] ∈ l := List.getElem_mem _
    obtain ⟨d, rfl⟩ : ∃ d', d = d' + 1 := ⟨d - 1, by
      cases d with
      | zero => exact (j0 l[i].2).elim
      | succ d => rfl⟩
    have hsS : sS m (l.drop i) = cl l[i].2 + yl m l[i] + sS m (l.drop (i + 1)) := by
      rw [List.drop_eq_getElem_cons (show i < l.length by omega)]
      unfold sS
      rw [List.map_cons, List.sum_cons]
    rw [hsS] at hbv hbk hbw ⊢
    rw [fM_merged_b, if_pos rfl, if_neg a1, as, if_neg (by rw [i3_le (by omega) (by omega)]; omega), e2, Option.bind_some, List.drop_eq_getElem_cons (show i < l.length by omega), i3_one, List.map_cons]
    have body : ∀ (st1 : xS) (vs1 : List VR) (ks1 : List NP) (x : JT (d + 1)) (kx cc0 s0 : Nat), Cost st st1 cc0 s0 → FrO st st1 → MS st1 (vs ++ vs1) cs (ks ++ ks1) (W0 ++ W) → Rep (vs ++ vs1) cs (ks ++ ks1) (d + 1) x kx → vs1.length ≤ cl l[i].2 + yl m l[i] → ks1.length ≤ cl l[i].2 + yl m l[i] → bv (selD (d + 1)) m l[i] = (l[i].1, x) → ∃ (cc s : Nat) (st' : xS), fM_wait n st1 nm kx = some (cc, s, st') ∧ MgO st wc wn (xmo (fun a => a.2.1) (fun a => a.2.2.1) ((wc + cc0) + cc) ((wn + s0) + s) (fM_merged_b rec n 1 (i3 (i + 1)) (i3 W0.length) a b st' ((wc + cc0) + cc) ((wn + s0) + s))) vs cs ks W0 (cl l[i].2 + yl m l[i] + sS m (l.drop (i + 1)) + l.length + m.length + 1) (jo (X ++ (bv (selD (d + 1)) m l[i] :: (l.drop (i + 1)).map (bv (selD (d + 1)) m) ++ bn l m))) := by
      intro st1 vs1 ks1 x kx cc0 s0 hc0 hf0 hM1 hx hv1 hk1 hbv'
      obtain ⟨cc, s, st', e3, m1, m2, m3, _⟩ := wait_w (n := n) hM1 (a := kx) (b := nm) hx.lev (by have := s1.le.2.1; rw [List.length_append]; omega) (by rw [List.length_append]; omega) (by omega)
      refine ⟨cc, s, st', e3, ?_⟩
      rw [hbv']
      rw [List.append_assoc] at m1
      have := ih n (i + 1) st' (vs ++ vs1) (ks ++ ks1) (W ++ [(kx, nm)]) (X ++ [(l[i].1, x)]) (wc + (cc0 + cc)) (wn + (s0 + s)) ha.mo hb.mo (by omega) (by rw [List.length_append, hW]; rfl) m1 (hR.mo.snoc hx s1.mo sl) (by rw [List.length_append]; omega) (by rw [List.length_append]; omega) (by omega) (by omega)
      rw [List.append_assoc, ← Nat.add_assoc, ← Nat.add_assoc] at this
      refine MgO.step (a := vs1) (c := ks1) (cc := cc0 + cc) (s := s0 + s) (S' := sS m (l.drop (i + 1)) + l.length + m.length + 1) ?_ (hc0.trans m2) (hf0.trans m3.o) (by omega) (by omega)
      rw [← Nat.add_assoc, ← Nat.add_assoc]
      exact MgO.wrap this
    have b0 : ∀ (x : JT (d + 1)) (kx : Nat), Rep vs cs ks (d + 1) x kx → bv (selD (d + 1)) m l[i] = (l[i].1, x) → ∃ (cc s : Nat) (st' : xS), fM_wait n st nm kx = some (cc, s, st') ∧ MgO st wc wn (xmo (fun a => a.2.1) (fun a => a.2.2.1) (wc + cc) (wn + s) (fM_merged_b rec n 1 (i3 (i + 1)) (i3 W0.length) a b st' (wc + cc) (wn + s))) vs cs ks W0 (cl l[i].2 + yl m l[i] + sS m (l.drop (i + 1)) + l.length + m.length + 1) (jo (X ++ (bv (selD (d + 1)) m l[i] :: (l.drop (i + 1)).map (bv (selD (d + 1)) m) ++ bn l m))) := by
      intro x kx hx hbv'
      exact body st [] [] x kx 0 0 Cost.refl FrO.refl (by rw [List.append_nil, List.append_nil]; exact hM) (by rw [List.append_nil, List.append_nil]; exact hx) (Nat.zero_le _) (Nat.zero_le _) hbv'
    obtain ⟨kg1, kg2, kg3, _⟩ := r1.g hM
    have k7 := kd7 (hol _ hmem)
    cases e : lu l[i].1 m with
    | none =>
      obtain ⟨cc, s, st', w1, w2⟩ := b0 l[i].2 k r1 (by unfold bv; rw [e])
      rw [p1 e, Option.bind_some, e1, Option.bind_some, if_pos (by decide), Option.bind_some, w1, Option.bind_some, if_neg kg2, if_neg b2]
      exact MgO.wrap w2
    | some y =>
      obtain ⟨j, k', hj, hjm, f1, f2, f3⟩ := p2 y e
      have hoy : jok (d + 1) y := hom _ (List.mem_of_getElem? hjm)
      obtain ⟨yg1, yg2, yg3, _⟩ := f3.g hM
      have y7 := kd7 hoy
      have hyl : yl m l[i] = cl y := by unfold yl; rw [e]
      have hbve : bv (selD (d + 1)) m l[i] = (l[i].1, selD (d + 1) l[i].2 y) := by unfold bv; rw [e]
      rw [f1, Option.bind_some, e1, Option.bind_some, if_neg (i3_nn (by omega)), f2, Option.bind_some, if_neg kg1, kg3]
      by_cases hx6 : kd (d + 1) l[i].2 = 6
      · rw [if_pos (by rw [hx6]; rfl), if_neg yg1, yg3]
        by_cases hy6 : kd (d + 1) y = 6
        · rw [if_pos (by rw [hy6]; rfl)]
          have hrc := hrec st vs ks (W0 ++ W) l[i].2 y k k' r1 f3 (hol _ hmem) hoy hx6 hy6 hM (by omega) (by omega) (by rw [List.length_append]; omega)
          rcases hrc with ⟨cc, s, c, st1, vs1, ks1, e3, g1, g2, g3, g4, g5, g6⟩ | ⟨hbig, cc, s, st1, e3, g1, g2⟩
          · rw [e3, Option.bind_some]
            dsimp only
            obtain ⟨cg1, cg2, _, _⟩ := g4.g g1
            have hM1 : MS (xsI st1 9 (xsi st1 9 + xpi st1 3 (c - 1))) (vs ++ vs1) cs (ks ++ ks1) (W0 ++ W) := g1.si (by decide) (by decide) (by decide) (by decide)
            obtain ⟨k2, nm2, _, e4, _, s2, _⟩ := (ha.mo (vs' := vs1) (ks' := ks1)).okid (n := n) hM1 (List.getElem?_eq_getElem (show i < l.length by omega))
            obtain ⟨_, _, _, _⟩ := (ha.mo (vs' := vs1) (ks' := ks1)).g g1
            have ag := ((ha.mo (vs' := vs1) (ks' := ks1)).g g1).2.1
            have bg := ((hb.mo (vs' := vs1) (ks' := ks1)).g g1).2.1
            have yg := ((f3.mo (vs' := vs1) (ks' := ks1)).g g1).2.1
            rw [if_pos rfl, if_neg b2, if_neg cg1, e4, Option.bind_some]
            have hnm : nm2 = nm := by
              obtain ⟨h1, v, hv, _, _, _, _, _, _, hk⟩ := ha
              obtain ⟨pp, hp, _, _⟩ := hk i _ (List.getElem?_eq_getElem (show i < l.length by omega))
              have q1 := (kid_w (n := n) hM h1 hv hp).2
              have q2 := (kid_w (n := n) hM1 h1 (pre_get hv) (pre_get hp)).2
              rw [e2] at q1
              rw [e4] at q2
              injection q1 with q1
              injection q2 with q2
              rw [q1, q2]
            rw [hnm]
            obtain ⟨cc2, s2', st2, w1, w2⟩ := body (xsI st1 9 (xsi st1 9 + xpi st1 3 (c - 1))) vs1 ks1 (selD (d + 1) l[i].2 y) c cc s ⟨g2.1, g2.2⟩ (g3.trans (FrO.at (k := 9) _ (by decide))) hM1 g4 (by omega) (by omega) hbve
            rw [w1, Option.bind_some, if_neg yg, if_neg ag, if_neg bg, Nat.zero_add, Nat.zero_add]
            refine MgO.wrap ?_
            rw [xmo_id (fun z hz => ?_)]
            · exact w2
            · have := w2.ge z
              have h3 : ∀ z, (xmo (fun a : Nat × Nat × Nat × Nat × xS => a.2.1) (fun a => a.2.2.1) ((wc + cc) + cc2) ((wn + s) + s2') (fM_merged_b rec n 1 (i3 (i + 1)) (i3 W0.length) a b st2 ((wc + cc) + cc2) ((wn + s) + s2'))) = some z → wc + cc ≤ z.2.1 ∧ wn + s ≤ z.2.2.1 := by
                intro z hz
                unfold xmo at hz
                rw [Option.bind_eq_some_iff] at hz
                obtain ⟨u, hu, hz⟩ := hz
                split at hz
                · cases hz
                · rename_i hh
                  injection hz with hz
                  rw [← hz]
                  dsimp only at hh
                  omega
              exact h3 z hz
          · rw [e3, Option.bind_some, if_neg (show ¬ (1 : Nat) = 0 by decide), if_pos rfl, if_neg b2]
            dsimp only
            rw [Nat.zero_add, Nat.zero_add, hbve]
            refine MgO.wrap (Or.inr ⟨?_, cc, s, st1, xmo_some (Nat.le_refl _) (Nat.le_refl _), g1, g2⟩)
            exact big_o (p := (l[i].1, selD (d + 1) l[i].2 y)) (List.mem_append_right _ (List.mem_append_left _ List.mem_cons_self)) hbig
        · obtain ⟨cc, s, st', w1, w2⟩ := b0 y k' f3 (by rw [hbve, selD_n (Or.inr hy6) (hol _ hmem) hoy])
          rw [if_neg (show ¬ i3 (kd (d + 1) y) = 6 from fun h => hy6 ((ke (c := 6) y7 (by omega)).mp h)), Option.bind_some, w1, Option.bind_some, if_neg b2]
          exact MgO.wrap w2
      · obtain ⟨cc, s, st', w1, w2⟩ := b0 y k' f3 (by rw [hbve, selD_n (Or.inl hx6) (hol _ hmem) hoy])
        rw [if_neg (show ¬ i3 (kd (d + 1) l[i].2) = 6 from fun h => hx6 ((ke (c := 6) k7 (by omega)).mp h)), Option.bind_some, w1, Option.bind_some, if_neg yg2, if_neg b2]
        exact MgO.wrap w2
theorem mergeM {n : Nat} (hn : 4000000 < n) : ∀ (d fu : Nat), d ≤ fu → RecG cs d (fM_merged fu n) := by
  have hbk' : bK = 32000 := rfl
  intro d
  induction d with
  | zero => intro fu _ st vs ks ws x; exact (j0 x).elim
  | succ d ih =>
    intro fu hfu st vs ks ws x y a b ha hb hx hy hkx hky hM h1 h2 h3
    obtain ⟨fu, rfl⟩ : ∃ f, fu = f + 1 := ⟨fu - 1, by omega⟩
    obtain ⟨l, rfl⟩ : ∃ l, x = jo l := by
      rcases kd_3 hx (by omega) with ⟨z, rfl⟩ | ⟨s, rfl⟩ | ⟨l, rfl⟩ | ⟨l, rfl⟩
      · cases hkx
      · cases hkx
      · cases hkx
      · exact ⟨l, rfl⟩
    obtain ⟨m, rfl⟩ : ∃ l, y = jo l := by
      rcases kd_3 hy (by omega) with ⟨z, rfl⟩ | ⟨s, rfl⟩ | ⟨l, rfl⟩ | ⟨l, rfl⟩
      · cases hky
      · cases hky
      · cases hky
      · exact ⟨l, rfl⟩
    have c1 := cl_o l
    have c2 := cl_o m
    have hy := hy
    have hs : sS m l = (l.map (fun p => cl p.2)).sum + (l.map (yl m)).sum := sum_add l
    have hyl := yl_sum hx.2 m
    rw [fM_merged, hM.1.1.2.2.2, selD_o]
    have := mrg1 (W0 := ws) (ih fu (by omega)) (l := l) (m := m) (a := a) (b := b) (fun p hp => (hx.1 p hp).2) (fun p hp => (hy.1 p hp).2) l.length n 0 st vs ks [] [] 0 0 ha hb (by omega) rfl (by rw [List.append_nil]; exact hM) trivial (by rw [List.drop_zero]; omega) (by rw [List.drop_zero]; omega) (by rw [List.drop_zero]; omega) (by omega)
    rw [List.drop_zero] at this
    rcases this with ⟨cc, s, c, st', vs', ks', g⟩ | g
    · exact Or.inl ⟨cc, s, c, st', vs', ks', g.1, g.2.1, g.2.2.1, g.2.2.2.1, g.2.2.2.2.1, by have := g.2.2.2.2.2.1; omega, by have := g.2.2.2.2.2.2; omega⟩
    · exact Or.inr g
theorem MgO.op {st : xS} {wc wn S cR : Nat} {out : Option (Nat × Nat × Nat × Nat × xS)} {vs : List VR} {ks ws : List NP} {j : JT d} (h : MgO st wc wn out vs cs ks ws S j) : OpO st wc wn cR 1 out vs cs ks ws (.inr j) := by
  rcases h with ⟨cc, s, c, st', vs', ks', g1, g2, g3, g4, g5, _⟩ | ⟨g1, cc, s, st', g2, g3, g4⟩
  · exact Or.inl ⟨cc, s, c, st', vs', [], ks', g1, by rw [List.append_nil]; exact g2, g3, g4, by rw [List.append_nil]; exact g5⟩
  · exact Or.inr ⟨by omega, g1, cc, s, st', g2, g3, g4⟩
end MRG
end ZMrg80
