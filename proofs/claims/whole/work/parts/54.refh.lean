/-! ===== the reference's reader: strings ===== -/
theorem hexM0 : ∀ c, c < 256 → fM_hex 0 (i3 c) = some (om (hexv c)) := by decide +kernel
theorem hexM {base : Nat} {src r : List Nat} {st : xS} {n : Nat} (h : PR base src st r) : fM_hex n (hv r) = some (om (hd1 hexv r)) := by
  cases r with
  | nil => rfl
  | cons c r =>
    have hc : c < 256 := h.1.1 c (h.2.1.subset (List.mem_cons_self ..))
    exact hexM0 c hc
section RH
variable {base : Nat} {src : List Nat} {vs : List VR} {cs : List Nat} {ks ws : List NP}
theorem Bad.tr {st st1 st' : xS} {x : List Nat} {cs' : List Nat} (h : Bad base src st1 st' vs cs' ks ws x) (hf : Fr1 st st1) (hp : pt st ≤ pt st1) : Bad base src st st' vs cs ks ws x := ⟨h.1, h.2.1, hf.p.trans h.2.2.1, Nat.le_trans hp h.2.2.2.1, h.2.2.2.2.trans (hf.1 19 (by decide) (by decide) (by decide) (by decide) (by decide))⟩
/-- what an escaped character gives -/
def EscO (base : Nat) (src : List Nat) (st : xS) (wc wn : Nat) (vs : List VR) (cs : List Nat) (ks ws : List NP) (out : Option (Nat × Nat × Nat × xS)) (res : List Nat ⊕ (Nat × List Nat)) : Prop := match res with
  | .inl x => ∃ st' : xS, out = some (1, wc + 1, wn + 6, st') ∧ Bad base src st st' vs cs ks ws x
  | .inr (v, r1) => ∃ (cc k : Nat) (st' : xS), out = some (0, wc + cc, wn + k, st') ∧ MS st' vs (cs ++ [v]) ks ws ∧ PR base src st' r1 ∧ Cost st st' cc k ∧ Fr1 st st' ∧ SK st st'
theorem bad_e {st : xS} {n q wc wn : Nat} {p : Int32} : ((fM_bad n st p).bind fun o => (if o.1 = 1 then xmo (fun a : Nat × Nat × Nat × xS => a.2.1) (fun a => a.2.2.1) (wc + o.2.1) (wn + o.2.2.1) (some (q, (wc + o.2.1), (wn + o.2.2.1), o.2.2.2)) else none)) = some (q, wc + 1, wn + 6, xsI st 20 p) := by
  unfold fM_bad
  rw [Option.bind_some, if_pos rfl]
  exact xmo_some (Nat.le_refl _) (Nat.le_refl _)
theorem bad_5 {st : xS} {n q wc wn : Nat} {p : Int32} : ((fM_bad n st p).bind fun o => (if o.1 = 1 then xmo (fun a : Nat × Nat × Nat × Nat × xS => a.2.1) (fun a => a.2.2.1) (wc + o.2.1) (wn + o.2.2.1) (some (q, (wc + o.2.1), (wn + o.2.2.1), 0, o.2.2.2)) else none)) = some (q, wc + 1, wn + 6, 0, xsI st 20 p) := by
  unfold fM_bad
  rw [Option.bind_some, if_pos rfl]
  exact xmo_some (Nat.le_refl _) (Nat.le_refl _)
/-- a character is put, and the reader stands before r -/
theorem let_e {st st0 : xS} {n wc wn c : Nat} {r : List Nat} (hc : c < 128) (hM : MS st vs cs ks ws) (h : PR base src st r) (hb : cs.length + 1 ≤ bC) (hn : bC < n) (hf : Fr1 st0 st) (hs : SK st0 st) (hp : pt st0 = pt st) : EscO base src st0 wc wn vs cs ks ws ((fM_letter n st (i3 c)).bind fun o5 => (xmo (fun a => a.2.1) (fun a => a.2.2.1) (wc + o5.1) (wn + o5.2.1) (some (0, (wc + o5.1), (wn + o5.2.1), o5.2.2)))) (.inr (c, r)) := by
  obtain ⟨cc, k, st', e1, m1, m2, m3, m4⟩ := letter_w (n := n) hM hc hb hn
  refine ⟨cc, k, st', ?_, m1, h.fr m3 m4, ⟨m2.1, by have := m2.2; omega⟩, hf.trans (Fr1.of m3), hs.trans m4⟩
  rw [e1, Option.bind_some]
  exact xmo_some (Nat.le_refl _) (Nat.le_refl _)
theorem hexL {st0 : xS} {start : List Nat} {y2 : Int32} (hb : cs.length + 1 ≤ bC) : ∀ (m n v : Nat) (r : List Nat) (st : xS), m ≤ 4 → v < 65536 → (m = 4 → v = 0) → (m < 4 → v < 16 ^ (4 - m)) → PR base src st r → MS st vs cs ks ws → bC + 1 + m < n → Fr1 st0 st → SK st0 st → pt st0 = pt st → EscO base src st0 0 0 vs cs ks ws (fM_escaped_b n 1 (i3 (4 - m)) (i3 v) y2 (rp base src start) st 0 0) (hex4 start m v r) := by
  intro m
  induction m with
  | zero =>
    intro n v r st hm hv hv0 hv1 h hM hn hf hs hp
    obtain ⟨n, rfl⟩ : ∃ j, n = j + 1 := ⟨n - 1, by omega⟩
    rw [fM_escaped_b, if_pos (by decide), hex4, xmo_id (fun a _ => ⟨Nat.zero_le _, Nat.zero_le _⟩)]
    have hc : (i3 v ≤ 127) = (v ≤ 127) := i3_le (a := v) (b := 127) (by omega) (by omega)
    by_cases h1 : 127 < v
    · rw [if_neg (by rw [hc]; omega), if_pos h1, bad_e]
      exact ⟨_, rfl, Bad.of2 hM hf.p (Nat.le_of_eq hp) (hf.1 19 (by decide) (by decide) (by decide) (by decide) (by decide))⟩
    · rw [if_pos (by rw [hc]; omega), if_neg h1]
      exact let_e (by omega) hM h hb (by omega) hf hs hp
  | succ m ih =>
    intro n v r st hm hv hv0 hv1 h hM hn hf hs hp
    obtain ⟨n, rfl⟩ : ∃ j, n = j + 1 := ⟨n - 1, by omega⟩
    rw [fM_escaped_b, if_neg (by rw [show (4 : Int32) = i3 4 from rfl, i3_le (by omega) (by omega)]; omega), h.peek, Option.bind_some, hexM h, Option.bind_some, Option.bind_some, xmo_id (fun a _ => ⟨Nat.zero_le _, Nat.zero_le _⟩)]
    have bad : ∀ x, x = r → EscO base src st0 0 0 vs cs ks ws (some (1, 0 + 1, 0 + 6, xsI st 20 (xsi st 16))) (.inl x) := fun x hx => by
      subst hx
      rw [h.2.2]
      exact ⟨_, rfl, Bad.of2 hM hf.p (Nat.le_of_eq hp) (hf.1 19 (by decide) (by decide) (by decide) (by decide) (by decide))⟩
    cases r with
    | nil =>
      rw [if_neg (by decide), bad_e]
      exact bad [] rfl
    | cons c r =>
      rw [hex4]
      show EscO base src st0 0 0 vs cs ks ws (if 0 ≤ om (hexv c) then _ else _) _
      cases hx : hexv c with
      | none =>
        dsimp only
        rw [if_neg (by decide), bad_e]
        exact bad (c :: r) rfl
      | some d =>
        have hd := hexv_lt hx
        dsimp only
        have e1 : (0 : Int32) ≤ om (some d) := by
          show (0 : Int32) ≤ i3 d
          rw [show (0 : Int32) = i3 0 from rfl, i3_le (by omega) (by omega)]
          omega
        have e2 : (16 : Int32) * i3 v + om (some d) = i3 (16 * v + d) := by
          show (16 : Int32) * i3 v + i3 d = _
          rw [show (16 : Int32) = i3 16 from rfl, i3_mul, i3_add]
        have hbnd : 16 * v + d < 16 ^ (4 - m) := by
          by_cases h4 : m + 1 = 4
          · rw [hv0 h4, show 4 - m = 1 by omega]
            omega
          · have := hv1 (by omega)
            obtain rfl | rfl | rfl : m = 0 ∨ m = 1 ∨ m = 2 := by omega
            · simp at this ⊢; omega
            · simp at this ⊢; omega
            · simp at this ⊢; omega
        have hpow : 16 ^ (4 - m) ≤ 65536 := Nat.le_trans (Nat.pow_le_pow_right (n := 16) (by omega) (show 4 - m ≤ 4 by omega)) (by decide)
        have hfun : hd1 hexv (c :: r) = some d := hx
        rw [if_pos e1, hexM h, Option.bind_some, hfun, e2, i3_one, show 4 - (m + 1) + 1 = 4 - m by omega]
        exact ih n (16 * v + d) r _ (by omega) (by omega) (by omega) (fun _ => hbnd) h.next (hM.si (by decide) (by decide) (by decide) (by decide)) (by omega) (hf.trans (Fr1.at _)) (hs.trans (SK.at (by decide))) hp
theorem escM {st : xS} {n : Nat} {r : List Nat} (hM : MS st vs cs ks ws) (h : PR base src st r) (hb : cs.length + 1 ≤ bC) (hn : bC + 10 < n) : EscO base src st 0 0 vs cs ks ws (fM_escaped n st (rp base src (92 :: r))) (pcE 92 r) := by
  unfold fM_escaped
  rw [h.peek, Option.bind_some]
  cases r with
  | nil =>
    rw [if_neg (by decide), bad_e, h.2.2]
    exact ⟨_, rfl, Bad.of2 hM FrP.refl (Nat.le_refl _) rfl⟩
  | cons e r =>
    have hc : e < 256 := h.1.1 e (h.2.1.subset (List.mem_cons_self ..))
    have hnx := h.next
    have hMx : MS (xsI st 16 (xsi st 16 + 1)) vs cs ks ws := hM.si (by decide) (by decide) (by decide) (by decide)
    have hlet : ∀ c, c < 128 → EscO base src st 0 0 vs cs ks ws ((fM_letter n (xsI st 16 (xsi st 16 + 1)) (i3 c)).bind fun o5 => (xmo (fun a => a.2.1) (fun a => a.2.2.1) (0 + o5.1) (0 + o5.2.1) (some (0, (0 + o5.1), (0 + o5.2.1), o5.2.2)))) (.inr (c, r)) := fun c hc => let_e hc hMx hnx hb (by omega) (Fr1.at _) (SK.at (by decide)) rfl
    rw [if_pos (show (0 : Int32) ≤ hv (e :: r) from by rw [hv_c, show (0 : Int32) = i3 0 from rfl, i3_le (by omega) (by omega)]; omega)]
    have hce : ∀ d : Nat, d < 256 → (hv (e :: r) = i3 d) = (e = d) := fun d hd => i3_eq (a := e) (b := d) (by omega) (by omega)
    rw [pcE]
    by_cases e34 : e = 34
    · subst e34
      rw [if_pos (show hv (34 :: r) = 34 from rfl), if_neg (show ¬ (34 : Nat) = 117 by omega)]
      exact hlet 34 (by omega)
    rw [if_neg (show ¬ hv (e :: r) = 34 from fun hh => e34 ((hce 34 (by omega)).mp hh))]
    by_cases e47 : e = 47
    · subst e47
      rw [if_pos (show hv (47 :: r) = 47 from rfl), if_neg (show ¬ (47 : Nat) = 117 by omega)]
      exact hlet 47 (by omega)
    rw [if_neg (show ¬ hv (e :: r) = 47 from fun hh => e47 ((hce 47 (by omega)).mp hh))]
    by_cases e92 : e = 92
    · subst e92
      rw [if_pos (show hv (92 :: r) = 92 from rfl), if_neg (show ¬ (92 : Nat) = 117 by omega)]
      exact hlet 92 (by omega)
    rw [if_neg (show ¬ hv (e :: r) = 92 from fun hh => e92 ((hce 92 (by omega)).mp hh))]
    by_cases e98 : e = 98
    · subst e98
      rw [if_pos (show hv (98 :: r) = 98 from rfl), if_neg (show ¬ (98 : Nat) = 117 by omega)]
      exact hlet 8 (by omega)
    rw [if_neg (show ¬ hv (e :: r) = 98 from fun hh => e98 ((hce 98 (by omega)).mp hh))]
    by_cases e102 : e = 102
    · subst e102
      rw [if_pos (show hv (102 :: r) = 102 from rfl), if_neg (show ¬ (102 : Nat) = 117 by omega)]
      exact hlet 12 (by omega)
    rw [if_neg (show ¬ hv (e :: r) = 102 from fun hh => e102 ((hce 102 (by omega)).mp hh))]
    by_cases e110 : e = 110
    · subst e110
      rw [if_pos (show hv (110 :: r) = 110 from rfl), if_neg (show ¬ (110 : Nat) = 117 by omega)]
      exact hlet 10 (by omega)
    rw [if_neg (show ¬ hv (e :: r) = 110 from fun hh => e110 ((hce 110 (by omega)).mp hh))]
    by_cases e114 : e = 114
    · subst e114
      rw [if_pos (show hv (114 :: r) = 114 from rfl), if_neg (show ¬ (114 : Nat) = 117 by omega)]
      exact hlet 13 (by omega)
    rw [if_neg (show ¬ hv (e :: r) = 114 from fun hh => e114 ((hce 114 (by omega)).mp hh))]
    by_cases e116 : e = 116
    · subst e116
      rw [if_pos (show hv (116 :: r) = 116 from rfl), if_neg (show ¬ (116 : Nat) = 117 by omega)]
      exact hlet 9 (by omega)
    rw [if_neg (show ¬ hv (e :: r) = 116 from fun hh => e116 ((hce 116 (by omega)).mp hh))]
    by_cases e117 : e = 117
    · subst e117
      rw [if_pos (show hv (117 :: r) = 117 from rfl), if_pos rfl]
      exact hexL (start := 92 :: 117 :: r) hb 4 n 0 r _ (by omega) (by omega) (fun _ => rfl) (by omega) hnx hMx (by omega) (Fr1.at _) (SK.at (by decide)) rfl
    rw [if_neg (show ¬ hv (e :: r) = 117 from fun hh => e117 ((hce 117 (by omega)).mp hh)), if_neg e117, bad_e]
    have hcof : cof e = none := by
      unfold cof
      rw [if_neg (by omega), if_neg (by omega), if_neg (by omega), if_neg (by omega), if_neg (by omega), if_neg (by omega)]
    rw [hcof, Int32.add_sub_cancel, h.2.2]
    exact ⟨_, rfl, Bad.of2 hMx (FrP.at _ (by decide)) (Nat.le_refl _) rfl⟩
/-- what a string gives; c0: where its characters begin -/
def StrO (base : Nat) (src : List Nat) (st : xS) (wc wn : Nat) (vs : List VR) (cs : List Nat) (ks ws : List NP) (c0 : Nat) (out : Option (Nat × Nat × Nat × Nat × xS)) (res : List Nat ⊕ (Sx × List Nat)) : Prop := match res with
  | .inl x => ∃ (cc k : Nat) (st' : xS), out = some (2, wc + cc, wn + k, 0, st') ∧ CostE st st' cc k 1 ∧ Bad base src st st' vs cs ks ws x
  | .inr (s, r1) => ∃ (cc k : Nat) (st' : xS), out = some (0, wc + cc, wn + k, vs.length + 1, st') ∧ MS st' (vs ++ [(4, c0, cs.length + s.length - c0, 0, 1 + (cs.length + s.length - c0), 0)]) (cs ++ s) ks ws ∧ PR base src st' r1 ∧ Cost st st' cc k ∧ Fr1 st st' ∧ SK st st'
theorem StrO.ge {st : xS} {wc wn c0 : Nat} {out : Option (Nat × Nat × Nat × Nat × xS)} {res : List Nat ⊕ (Sx × List Nat)} (h : StrO base src st wc wn vs cs ks ws c0 out res) : ∀ a, out = some a → wc ≤ a.2.1 ∧ wn ≤ a.2.2.1 := by
  intro a ha
  cases res with
  | inl x =>
    obtain ⟨cc, k, st', e, _⟩ := h
    rw [e] at ha
    obtain rfl := Option.some.inj ha
    exact ⟨Nat.le_add_right _ _, Nat.le_add_right _ _⟩
  | inr q =>
    obtain ⟨cc, k, st', e, _⟩ := h
    rw [e] at ha
    obtain rfl := Option.some.inj ha
    exact ⟨Nat.le_add_right _ _, Nat.le_add_right _ _⟩
/-- one more character before it -/
def cons1 (v : Nat) (res : List Nat ⊕ (Sx × List Nat)) : List Nat ⊕ (Sx × List Nat) := match res with
  | .inl x => .inl x
  | .inr (s, r2) => .inr (v :: s, r2)
theorem StrO.step {st st1 : xS} {wc wn c0 cc k v : Nat} {out : Option (Nat × Nat × Nat × Nat × xS)} {res : List Nat ⊕ (Sx × List Nat)} (h : StrO base src st1 (wc + cc) (wn + k) vs (cs ++ [v]) ks ws c0 out res) (hc : Cost st st1 cc k) (hf : Fr1 st st1) (hs : SK st st1) : StrO base src st wc wn vs cs ks ws c0 out (cons1 v res) := by
  cases res with
  | inl x =>
    obtain ⟨cc', k', st', e, h1, h2⟩ := h
    refine ⟨cc + cc', k + k', st', by rw [e, Nat.add_assoc, Nat.add_assoc], ?_, h2.tr hf (by have := hc.2; omega)⟩
    have := hc.e.trans h1
    rwa [Nat.zero_add] at this
  | inr q =>
    obtain ⟨s, r1⟩ := q
    obtain ⟨cc', k', st', e, h1, h2, h3, h4, h5⟩ := h
    refine ⟨cc + cc', k + k', st', by rw [e, Nat.add_assoc, Nat.add_assoc], ?_, h2, hc.trans h3, hf.trans h4, hs.trans h5⟩
    rw [List.length_append, List.length_singleton, List.append_assoc, show cs.length + 1 + s.length = cs.length + (s.length + 1) by omega] at h1
    exact h1
theorem strL {c0 : Nat} (hbv : vs.length + 1 ≤ bV) : ∀ (m : Nat) (r : List Nat) (n : Nat) (cs : List Nat) (st : xS) (wc wn : Nat), PR base src st r → MS st vs cs ks ws → r.length < m → c0 ≤ cs.length → cs.length + r.length ≤ bC → cs.length - c0 + r.length ≤ 50000 → bC + 20 + r.length < n → StrO base src st wc wn vs cs ks ws c0 (fM_jsonString_b n 1 (i3 c0) st wc wn) (pS m r) := by
  have hbV : bV = 32000 := rfl
  have hbc : bC = 100000 := rfl
  intro m
  induction m with
  | zero => intro r n cs st wc wn h hM hm; omega
  | succ m ih =>
    intro r n cs st wc wn h hM hm hc0 hbl hwl hn
    obtain ⟨n, rfl⟩ : ∃ j, n = j + 1 := ⟨n - 1, by omega⟩
    have badE : ∀ x, x = r → StrO base src st wc wn vs cs ks ws c0 (xmo (fun a => a.2.1) (fun a => a.2.2.1) wc wn (some (2, wc + 1, wn + 6, 0, xsI st 20 (xsi st 16)))) (.inl x) := fun x hx => by
      subst hx
      refine ⟨1, 6, _, xmo_some (Nat.le_succ _) (by show wn ≤ wn + 6; omega), ⟨by omega, Nat.le_of_eq (Nat.add_comm _ _)⟩, ?_⟩
      rw [h.2.2]
      exact Bad.of2 hM FrP.refl (Nat.le_refl _) rfl
    rw [fM_jsonString_b, h.peek, Option.bind_some, pS, Option.bind_some]
    by_cases h34 : r.head? = some 34
    · obtain ⟨r1, rfl⟩ := head_c h34
      rw [if_pos (show hv (34 :: r1) = 34 from rfl), if_pos h34, List.tail_cons]
      rw [List.length_cons] at hwl
      obtain ⟨cc, k, st', e1, m1, m2, m3, m4⟩ := string_w (n := n) (hM.si (k := 16) (v := xsi st 16 + 1) (by decide) (by decide) (by decide) (by decide)) hc0 hbv (by omega)
      rw [if_pos (by omega)] at e1
      refine ⟨cc, k, st', ?_, ?_, h.next.fr m3 m4, ⟨m2.1, m2.2⟩, (Fr1.at _).trans (Fr1.of m3), (SK.at (by decide)).trans m4⟩
      · rw [e1, Option.bind_some, if_pos rfl]
        dsimp only
        have hin : ∀ z : xS, xmo (fun a : Nat × Nat × Nat × Nat × xS => a.2.1) (fun a => a.2.2.1) (wc + cc) (wn + k) (some (0, wc + cc, wn + k, vs.length + 1, z)) = some (0, wc + cc, wn + k, vs.length + 1, z) := fun z => xmo_some (Nat.le_refl _) (Nat.le_refl _)
        rw [hin]
        exact xmo_some (by show wc ≤ wc + cc; omega) (by show wn ≤ wn + k; omega)
      · rw [List.append_nil, List.length_nil, Nat.add_zero]
        exact m1
    · rw [if_neg (show ¬ hv r = 34 from fun hh => h34 ((h.hve (k := 34) (by omega)).mp hh)), if_neg h34]
      cases r with
      | nil =>
        rw [if_pos (by decide), bad_5]
        exact badE [] rfl
      | cons c r =>
        have hc : c < 256 := h.1.1 c (h.2.1.subset (List.mem_cons_self ..))
        have c32 : (hv (c :: r) < 32) = (c < 32) := i3_lt (a := c) (b := 32) (by omega) (by omega)
        have c126 : (hv (c :: r) ≤ 126) = (c ≤ 126) := i3_le (a := c) (b := 126) (by omega) (by omega)
        have c92 : (hv (c :: r) = 92) = (c = 92) := i3_eq (a := c) (b := 92) (by omega) (by omega)
        rw [List.length_cons] at hm hbl hwl hn
        rw [pc]
        by_cases h32 : c < 32
        · rw [if_pos (by rw [c32]; exact h32), bad_5, if_neg (by omega), if_neg (by omega)]
          exact badE _ rfl
        · rw [if_neg (by rw [c32]; exact h32)]
          by_cases h126 : c ≤ 126
          · rw [if_pos (by rw [c126]; exact h126)]
            by_cases h92 : c = 92
            · subst h92
              rw [if_pos (by rw [c92]), if_pos rfl, Int32.add_sub_cancel, h.2.2]
              have hE := escM (n := n) (hM.si (k := 16) (v := xsi st 16 + 1) (by decide) (by decide) (by decide) (by decide)) h.next (by omega) (by omega)
              rw [h.2.2] at hE
              cases hp : pcE 92 r with
              | inl x =>
                rw [hp] at hE
                obtain ⟨st', e1, b1⟩ := hE
                refine ⟨1, 6, st', ?_, ⟨by omega, by have := b1.2.2.2.1; have hpe : pt (xsI st 16 (rp base src (92 :: r) + 1)) = pt st := rfl; omega⟩, b1.tr (Fr1.at _) (Nat.le_refl _)⟩
                rw [e1, Option.bind_some, if_neg (show ¬ (1 : Nat) = 0 by decide), if_pos rfl]
                dsimp only
                have hin : xmo (fun a : Nat × Nat × Nat × Nat × xS => a.2.1) (fun a => a.2.2.1) (wc + (0 + 1)) (wn + (0 + 6)) (some (2, wc + (0 + 1), wn + (0 + 6), 0, st')) = some (2, wc + (0 + 1), wn + (0 + 6), 0, st') := xmo_some (Nat.le_refl _) (Nat.le_refl _)
                rw [hin]
                exact xmo_some (Nat.le_succ _) (by show wn ≤ wn + (0 + 6); omega)
              | inr q =>
                obtain ⟨v, r2⟩ := q
                rw [hp] at hE
                obtain ⟨cc, k, st', e1, m1, m2, m3, m4, m5⟩ := hE
                rw [Nat.zero_add, Nat.zero_add] at e1
                have hsuf := (pc_suf (92 :: r)).2 v r2 (by rw [pc, if_pos rfl]; exact hp)
                rw [List.length_cons] at hsuf
                have hih := ih r2 n (cs ++ [v]) st' (wc + cc) (wn + k) m2 m1 (by omega) (by rw [List.length_append]; omega) (by rw [List.length_append, List.length_singleton]; omega) (by rw [List.length_append, List.length_singleton]; omega) (by omega)
                have hst := hih.step (cs := cs) (wc := wc) (wn := wn) (st := st) (cc := cc) (k := k) ⟨m3.1, m3.2⟩ ((Fr1.at _).trans m4) ((SK.at (by decide)).trans m5)
                dsimp only
                rw [e1, Option.bind_some, if_pos rfl]
                dsimp only
                rw [xmo_id hih.ge, xmo_id hst.ge]
                exact hst
            · rw [if_neg (by rw [c92]; exact h92), if_neg h92, if_pos (by omega)]
              obtain ⟨cc, k, st', e1, m1, m2, m3, m4⟩ := letter_w (n := n) (hM.si (k := 16) (v := xsi st 16 + 1) (by decide) (by decide) (by decide) (by decide)) (c := c) (by omega) (by omega) (by omega)
              have hih := ih r n (cs ++ [c]) st' (wc + cc) (wn + k) (h.next.fr m3 m4) m1 (by omega) (by rw [List.length_append]; omega) (by rw [List.length_append, List.length_singleton]; omega) (by rw [List.length_append, List.length_singleton]; omega) (by omega)
              have hst := hih.step (cs := cs) (wc := wc) (wn := wn) (st := st) (cc := cc) (k := k) ⟨m2.1, m2.2⟩ ((Fr1.at _).trans (Fr1.of m3)) ((SK.at (by decide)).trans m4)
              dsimp only
              rw [hv_c, e1, Option.bind_some]
              dsimp only
              rw [xmo_id hih.ge, xmo_id hst.ge]
              exact hst
          · rw [if_neg (by rw [c126]; exact h126), bad_5, if_neg (by omega), if_neg (by omega)]
            exact badE _ rfl
/-- the reader stands before a quote -/
theorem stringM_w {st : xS} {n : Nat} {r : List Nat} (hM : MS st vs cs ks ws) (h : PR base src st (34 :: r)) (hbv : vs.length + 1 ≤ bV) (hb : cs.length + r.length ≤ bC) (hsz : src.length ≤ 50000) (hn : 2 * bC < n) {m : Nat} (hm : r.length < m) : StrO base src st 0 0 vs cs ks ws cs.length (fM_jsonString n st) (pS m r) := by
  have hbc : bC = 100000 := rfl
  have hl := h.2.1.length_le
  rw [List.length_cons] at hl
  have := strL (c0 := cs.length) hbv m r n cs (xsI st 16 (xsi st 16 + 1)) 0 0 h.next (hM.si (by decide) (by decide) (by decide) (by decide)) hm (Nat.le_refl _) hb (by omega) (by omega)
  unfold fM_jsonString
  rw [hM.1.1.2.1]
  cases hp : pS m r with
  | inl x =>
    rw [hp] at this
    obtain ⟨cc, k, st', e, h1, h2⟩ := this
    exact ⟨cc, k, st', e, h1, h2.tr (Fr1.at _) (Nat.le_refl _)⟩
  | inr q =>
    obtain ⟨s, r1⟩ := q
    rw [hp] at this
    obtain ⟨cc, k, st', e, h1, h2, h3, h4, h5⟩ := this
    exact ⟨cc, k, st', e, h1, h2, h3, (Fr1.at _).trans h4, (SK.at (by decide)).trans h5⟩
end RH
