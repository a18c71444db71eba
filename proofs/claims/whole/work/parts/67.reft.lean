section PU
variable {st : xS} {mx n : Nat} {ps : List Nat}
abbrev Out4P : Type := Nat × Nat × Nat × xS
/-- a text is put behind what is printed, or there is no room for it -/
def PutO (st : xS) (mx : Nat) (ps : List Nat) (wc wn : Nat) (out : Option Out4P) (w : List Nat) : Prop :=
  (ps.length + w.length ≤ mx ∧ ∃ (cc s : Nat) (st' : xS), out = some (0, wc + cc, wn + s, st') ∧ PV st' mx (ps ++ w) ∧ Cost st st' cc s ∧ Fr2 st st') ∨
  (mx < ps.length + w.length ∧ ∃ (cc s : Nat) (st' : xS) (ps' : List Nat), out = some (1, wc + cc, wn + s, st') ∧ PV st' mx ps' ∧ CostE st st' cc s 1 ∧ Fr2 st st')
theorem PutO.ge {wc wn : Nat} {out : Option Out4P} {w : List Nat} (h : PutO st mx ps wc wn out w) : ∀ a, out = some a → wc ≤ a.2.1 ∧ wn ≤ a.2.2.1 := by
  intro a ha
  rcases h with ⟨_, cc, s, st', e, _⟩ | ⟨_, cc, s, st', ps', e, _⟩
  · rw [e] at ha
    obtain rfl := Option.some.inj ha
    exact ⟨Nat.le_add_right _ _, Nat.le_add_right _ _⟩
  · rw [e] at ha
    obtain rfl := Option.some.inj ha
    exact ⟨Nat.le_add_right _ _, Nat.le_add_right _ _⟩
theorem PutO.done (h : PV st mx ps) (hl : ps.length ≤ mx) {wc wn : Nat} : PutO st mx ps wc wn (some (0, wc, wn, st)) [] := Or.inl ⟨by simpa using hl, 0, 0, st, rfl, by rw [List.append_nil]; exact h, Cost.refl, Fr2.refl⟩
/-- one text, then another -/
theorem PutO.bind {out1 : Option Out4P} {K : Out4P → Option Out4P} {w1 w2 : List Nat} {wc wn : Nat} (h1 : PutO st mx ps 0 0 out1 w1) (h2 : ∀ (cc s : Nat) (st1 : xS), PV st1 mx (ps ++ w1) → (ps ++ w1).length ≤ mx → Fr2 st st1 → PutO st1 mx (ps ++ w1) (wc + cc) (wn + s) (K (0, cc, s, st1)) w2) : PutO st mx ps wc wn (out1.bind fun o => (if o.1 = 0 then xmo (fun a => a.2.1) (fun a => a.2.2.1) (wc + o.2.1) (wn + o.2.2.1) (K o) else (if o.1 = 1 then xmo (fun a => a.2.1) (fun a => a.2.2.1) (wc + o.2.1) (wn + o.2.2.1) (some (1, (wc + o.2.1), (wn + o.2.2.1), o.2.2.2)) else none))) (w1 ++ w2) := by
  rcases h1 with ⟨l1, cc, s, st1, e, p1, c1, f1⟩ | ⟨l1, cc, s, st1, ps', e, p1, c1, f1⟩
  · rw [Nat.zero_add, Nat.zero_add] at e
    rw [e, Option.bind_some, if_pos rfl]
    have hK := h2 cc s st1 p1 (by rw [List.length_append]; exact l1) f1
    dsimp only
    rw [xmo_id hK.ge]
    rcases hK with ⟨l2, cc2, s2, st2, e2, p2, c2, f2⟩ | ⟨l2, cc2, s2, st2, ps', e2, p2, c2, f2⟩
    · refine Or.inl ⟨by rw [List.length_append] at l2 ⊢; omega, cc + cc2, s + s2, st2, by rw [e2, Nat.add_assoc, Nat.add_assoc], by rw [← List.append_assoc]; exact p2, c1.trans c2, f1.trans f2⟩
    · refine Or.inr ⟨by rw [List.length_append] at l2 ⊢; omega, cc + cc2, s + s2, st2, ps', by rw [e2, Nat.add_assoc, Nat.add_assoc], p2, ?_, f1.trans f2⟩
      have := c1.e.trans c2
      rwa [Nat.zero_add] at this
  · rw [Nat.zero_add, Nat.zero_add] at e
    rw [e, Option.bind_some, if_neg (show ¬ (1 : Nat) = 0 by decide), if_pos rfl]
    exact Or.inr ⟨by rw [List.length_append]; omega, cc, s, st1, ps', xmo_some (Nat.le_refl _) (Nat.le_refl _), p1, c1, f1⟩
theorem put_o (h : PV st mx ps) (hl : ps.length ≤ mx) {c : Nat} (hc : c < 128) (hb : ps.length + 1 ≤ bP) (hn : bP < n) : PutO st mx ps 0 0 (fM_put0 n st (i3 c)) [c] := by
  obtain ⟨h1, h2⟩ := put0_w (n := n) h hc hb hn
  by_cases hh : ps.length = mx
  · exact Or.inr ⟨by rw [List.length_singleton]; omega, 1, 6, st, ps, h1 hh, h, ⟨by omega, by omega⟩, Fr2.refl⟩
  · obtain ⟨cc, s, st', e, p, c', f⟩ := h2 hh
    exact Or.inl ⟨by rw [List.length_singleton]; omega, cc, s, st', by rw [e, Nat.zero_add, Nat.zero_add], p, c', f⟩
theorem put1_w (h : PV st mx ps) (hl : ps.length ≤ mx) (hb : ps.length + 4 ≤ bP) (hn : bP < n) : PutO st mx ps 0 0 (fM_put1 n st) [110, 117, 108, 108] := by
  unfold fM_put1
  refine PutO.bind (w1 := [110]) (w2 := [117, 108, 108]) (put_o h hl (c := 110) (by omega) (by omega) hn) (fun cc s st1 p1 l1 f1 => ?_)
  refine PutO.bind (w1 := [117]) (w2 := [108, 108]) (put_o p1 l1 (c := 117) (by omega) (by rw [List.length_append, List.length_singleton]; omega) hn) (fun cc s st1 p1 l1 f1 => ?_)
  refine PutO.bind (w1 := [108]) (w2 := [108]) (put_o p1 l1 (c := 108) (by omega) (by simp only [List.length_append, List.length_singleton]; omega) hn) (fun cc s st1 p1 l1 f1 => ?_)
  exact PutO.bind (w1 := [108]) (w2 := []) (put_o p1 l1 (c := 108) (by omega) (by simp only [List.length_append, List.length_singleton]; omega) hn) (fun cc s st1 p1 l1 f1 => PutO.done p1 l1)
/-- the same, where a value is looked at first -/
theorem PutO.bindG {G : Prop} [Decidable G] (hG : ¬ G) {out1 : Option Out4P} {K : Out4P → Option Out4P} {w1 w2 : List Nat} {wc wn : Nat} (h1 : PutO st mx ps 0 0 out1 w1) (h2 : ∀ (cc s : Nat) (st1 : xS), PV st1 mx (ps ++ w1) → (ps ++ w1).length ≤ mx → Fr2 st st1 → PutO st1 mx (ps ++ w1) (wc + cc) (wn + s) (K (0, cc, s, st1)) w2) : PutO st mx ps wc wn (out1.bind fun o => (if o.1 = 0 then if G then none else xmo (fun a => a.2.1) (fun a => a.2.2.1) (wc + o.2.1) (wn + o.2.2.1) (K o) else (if o.1 = 1 then if G then none else xmo (fun a => a.2.1) (fun a => a.2.2.1) (wc + o.2.1) (wn + o.2.2.1) (some (1, (wc + o.2.1), (wn + o.2.2.1), o.2.2.2)) else none))) (w1 ++ w2) := by
  have := PutO.bind (K := K) h1 h2
  simp only [if_neg hG]
  exact this
theorem put1a_w (h : PV st mx ps) (hl : ps.length ≤ mx) (hb : ps.length + 5 ≤ bP) (hn : bP < n) : PutO st mx ps 0 0 (fM_put1a n st) [102, 97, 108, 115, 101] := by
  unfold fM_put1a
  refine PutO.bind (w1 := [102]) (w2 := [97, 108, 115, 101]) (put_o h hl (c := 102) (by omega) (by omega) hn) (fun cc s st1 p1 l1 f1 => ?_)
  refine PutO.bind (w1 := [97]) (w2 := [108, 115, 101]) (put_o p1 l1 (c := 97) (by omega) (by simp only [List.length_append, List.length_singleton]; omega) hn) (fun cc s st1 p1 l1 f1 => ?_)
  refine PutO.bind (w1 := [108]) (w2 := [115, 101]) (put_o p1 l1 (c := 108) (by omega) (by simp only [List.length_append, List.length_singleton]; omega) hn) (fun cc s st1 p1 l1 f1 => ?_)
  refine PutO.bind (w1 := [115]) (w2 := [101]) (put_o p1 l1 (c := 115) (by omega) (by simp only [List.length_append, List.length_singleton]; omega) hn) (fun cc s st1 p1 l1 f1 => ?_)
  exact PutO.bind (w1 := [101]) (w2 := []) (put_o p1 l1 (c := 101) (by omega) (by simp only [List.length_append, List.length_singleton]; omega) hn) (fun cc s st1 p1 l1 f1 => PutO.done p1 l1)
theorem put1b_w (h : PV st mx ps) (hl : ps.length ≤ mx) (hb : ps.length + 4 ≤ bP) (hn : bP < n) : PutO st mx ps 0 0 (fM_put1b n st) [116, 114, 117, 101] := by
  unfold fM_put1b
  refine PutO.bind (w1 := [116]) (w2 := [114, 117, 101]) (put_o h hl (c := 116) (by omega) (by omega) hn) (fun cc s st1 p1 l1 f1 => ?_)
  refine PutO.bind (w1 := [114]) (w2 := [117, 101]) (put_o p1 l1 (c := 114) (by omega) (by simp only [List.length_append, List.length_singleton]; omega) hn) (fun cc s st1 p1 l1 f1 => ?_)
  refine PutO.bind (w1 := [117]) (w2 := [101]) (put_o p1 l1 (c := 117) (by omega) (by simp only [List.length_append, List.length_singleton]; omega) hn) (fun cc s st1 p1 l1 f1 => ?_)
  exact PutO.bind (w1 := [101]) (w2 := []) (put_o p1 l1 (c := 101) (by omega) (by simp only [List.length_append, List.length_singleton]; omega) hn) (fun cc s st1 p1 l1 f1 => PutO.done p1 l1)
theorem put1c_w (h : PV st mx ps) (hl : ps.length ≤ mx) (hb : ps.length + 3 ≤ bP) (hn : bP < n) : PutO st mx ps 0 0 (fM_put1c n st) [117, 48, 48] := by
  unfold fM_put1c
  refine PutO.bind (w1 := [117]) (w2 := [48, 48]) (put_o h hl (c := 117) (by omega) (by omega) hn) (fun cc s st1 p1 l1 f1 => ?_)
  refine PutO.bind (w1 := [48]) (w2 := [48]) (put_o p1 l1 (c := 48) (by omega) (by simp only [List.length_append, List.length_singleton]; omega) hn) (fun cc s st1 p1 l1 f1 => ?_)
  exact PutO.bind (w1 := [48]) (w2 := []) (put_o p1 l1 (c := 48) (by omega) (by simp only [List.length_append, List.length_singleton]; omega) hn) (fun cc s st1 p1 l1 f1 => PutO.done p1 l1)
theorem putHex_w (h : PV st mx ps) (hl : ps.length ≤ mx) (hb : ps.length + 1 ≤ bP) (hn : bP < n) {x : Nat} (hx6 : x < 16) : PutO st mx ps 0 0 (fM_putHex n st (i3 x)) [hx x] := by
  unfold fM_putHex hx
  have hc : ((10 : Int32) ≤ i3 x) = (10 ≤ x) := i3_le (a := 10) (b := x) (by omega) (by omega)
  by_cases h10 : 10 ≤ x
  · have e1 : (97 : Int32) + i3 x - 10 = i3 (87 + x) := by
      rw [show (97 : Int32) = i3 97 from rfl, i3_add, show (10 : Int32) = i3 10 from rfl, i3_sub (by omega)]
      congr 1
      omega
    rw [if_pos (by rw [hc]; exact h10), e1, if_neg (by omega)]
    exact PutO.bind (w1 := [87 + x]) (w2 := []) (put_o h hl (by omega) hb hn) (fun cc s st1 p1 l1 f1 => PutO.done p1 l1)
  · have e1 : (48 : Int32) + i3 x = i3 (48 + x) := i3_add 48 x
    rw [if_neg (by rw [hc]; exact h10), e1, if_pos (by omega)]
    exact PutO.bind (w1 := [48 + x]) (w2 := []) (put_o h hl (by omega) hb hn) (fun cc s st1 p1 l1 f1 => PutO.done p1 l1)
end PU
