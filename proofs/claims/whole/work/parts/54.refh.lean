/-! ===== the reference's reader: strings ===== -/
theorem hexM0 : ∀ c, c < 256 → fM_hex 0 (i3 c) = some (om (hexv c)) := by decide +kernel
theorem hexM {base : Nat} {src r : List Nat} {st : xS} {n : Nat} (h : PR base src st r) : fM_hex n (hv r) = some (om (hd1 hexv r)) := by
  cases r with
  | nil => rfl
  | cons c r =>
    have hc : c < 256 := h.1.1 c (h.2.1.subset (List.mem_cons_self ..))
    exact hexM0 c hc
section RH
variable {base : Nat} {src : List Nat} {vs : List VR} {cs : List Nat} {ks ws : List NP}
theorem Bad.tr {st st1 st' : xS} {x : List Nat} {cs' : List Nat} (h : Bad base src st1 st' vs cs' ks ws x) (hf : Fr1 st st1) (hp : pt st ≤ pt st1) : Bad base src st st' vs cs ks ws x := ⟨h.1, h.2.1, hf.p.trans h.2.2.1, Nat.le_trans hp h.2.2.2.1, h.2.2.2.2.trans (hf.1 19 (by decide) (by decide) (by decide) (by decide) (by decide))⟩
/-- what an escaped character gives -/
def EscO (base : Nat) (src : List Nat) (st : xS) (wc wn : Nat) (vs : List VR) (cs : List Nat) (ks ws : List NP) (out : Option (Nat × Nat × Nat × xS)) (res : List Nat ⊕ (Nat × List Nat)) : Prop := match res with
  | .inl x => ∃ st' : xS, out = some (1, wc + 1, wn + 6, st') ∧ Bad base src st st' vs cs ks ws x
  | .inr (v, r1) => ∃ (cc k : Nat) (st' : xS), out = some (0, wc + cc, wn + k, st') ∧ MS st' vs (cs ++ [v]) ks ws ∧ PR base src st' r1 ∧ Cost st st' cc k ∧ Fr1 st st' ∧ SK st st'
theorem bad_e {st : xS} {n q wc wn : Nat} {p : Int32} : ((fM_bad n st p).bind fun o => (if o.1 = 1 then xmo (fun a : Nat × Nat × Nat × xS => a.2.1) (fun a => a.2.2.1) (wc + o.2.1) (wn + o.2.2.1) (some (q, (wc + o.2.1), (wn + o.2.2.1), o.2.2.2)) else none)) = some (q, wc + 1, wn + 6, xsI st 20 p) := by
  unfold fM_bad
  rw [Option.bind_some, if_pos rfl]
  exact xmo_some (Nat.le_refl _) (Nat.le_refl _)
theorem bad_5 {st : xS} {n q wc wn : Nat} {p : Int32} : ((fM_bad n st p).bind fun o => (if o.1 = 1 then xmo (fun a : Nat × Nat × Nat × Nat × xS => a.2.1) (fun a => a.2.2.1) (wc + o.2.1) (wn + o.2.2.1) (some (q, (wc + o.2.1), (wn + o.2.2.1), 0, o.2.2.2)) else none)) = some (q, wc + 1, wn + 6, 0, xsI st 20 p) := by
  unfold fM_bad
  rw [Option.bind_some, if_pos rfl]
  exact xmo_some (Nat.le_refl _) (Nat.le_refl _)
/-- a character is put, and the reader stands before r -/
theorem let_e {st st0 : xS} {n wc wn c : Nat} {r : List Nat} (hc : c < 128) (hM : MS st vs cs ks ws) (h : PR base src st r) (hb : cs.length + 1 ≤ bC) (hn : bC < n) (hf : Fr1 st0 st) (hs : SK st0 st) (hp : pt st0 = pt st) : EscO base src st0 wc wn vs cs ks ws ((fM_letter n st (i3 c)).bind fun o5 => (xmo (fun a => a.2.1) (fun a => a.2.2.1) (wc + o5.1) (wn + o5.2.1) (some (0, (wc + o5.1), (wn + o5.2.1), o5.2.2)))) (.inr (c, r)) := by
  obtain ⟨cc, k, st', e1, m1, m2, m3, m4⟩ := letter_w (n := n) hM hc hb hn
  refine ⟨cc, k, st', ?_, m1, h.fr m3 m4, ⟨m2.1, by have := m2.2; omega⟩, hf.trans (Fr1.of m3), hs.trans m4⟩
  rw [e1, Option.bind_some]
  exact xmo_some (Nat.le_refl _) (Nat.le_refl _)
theorem hexL {st0 : xS} {start : List Nat} {y2 : Int32} (hb : cs.length + 1 ≤ bC) : ∀ (m n v : Nat) (r : List Nat) (st : xS), m ≤ 4 → v < 65536 → (m = 4 → v = 0) → (m < 4 → v < 16 ^ (4 - m)) → PR base src st r → MS st vs cs ks ws → bC + 1 + m < n → Fr1 st0 st → SK st0 st → pt st0 = pt st → EscO base src st0 0 0 vs cs ks ws (fM_escaped_b n 1 (i3 (4 - m)) (i3 v) y2 (rp base src start) st 0 0) (hex4 start m v r) := by
  intro m
  induction m with
  | zero =>
    intro n v r st hm hv hv0 hv1 h hM hn hf hs hp
    obtain ⟨n, rfl⟩ : ∃ j, n = j + 1 := ⟨n - 1, by omega⟩
    rw [fM_escaped_b, if_pos (by decide), hex4, xmo_id (fun a _ => ⟨Nat.zero_le _, Nat.zero_le _⟩)]
    have hc : (i3 v ≤ 127) = (v ≤ 127) := i3_le (a := v) (b := 127) (by omega) (by omega)
    by_cases h1 : 127 < v
    · rw [if_neg (by rw [hc]; omega), if_pos h1, bad_e]
      exact ⟨_, rfl, Bad.of2 hM hf.p (Nat.le_of_eq hp) (hf.1 19 (by decide) (by decide) (by decide) (by decide) (by decide))⟩
    · rw [if_pos (by rw [hc]; omega), if_neg h1]
      exact let_e (by omega) hM h hb (by omega) hf hs hp
  | succ m ih =>
    intro n v r st hm hv hv0 hv1 h hM hn hf hs hp
    obtain ⟨n, rfl⟩ : ∃ j, n = j + 1 := ⟨n - 1, by omega⟩
    rw [fM_escaped_b, if_neg (by rw [show (4 : Int32) = i3 4 from rfl, i3_le (by omega) (by omega)]; omega), h.peek, Option.bind_some, hexM h, Option.bind_some, Option.bind_some, xmo_id (fun a _ => ⟨Nat.zero_le _, Nat.zero_le _⟩)]
    have bad : ∀ x, x = r → EscO base src st0 0 0 vs cs ks ws (some (1, 0 + 1, 0 + 6, xsI st 20 (xsi st 16))) (.inl x) := fun x hx => by
      subst hx
      rw [h.2.2]
      exact ⟨_, rfl, Bad.of2 hM hf.p (Nat.le_of_eq hp) (hf.1 19 (by decide) (by decide) (by decide) (by decide) (by decide))⟩
    cases r with
    | nil =>
      rw [if_neg (by decide), bad_e]
      exact bad [] rfl
    | cons c r =>
      rw [hex4]
      show EscO base src st0 0 0 vs cs ks ws (if 0 ≤ om (hexv c) then _ else _) _
      cases hx : hexv c with
      | none =>
        dsimp only
        rw [if_neg (by decide), bad_e]
        exact bad (c :: r) rfl
      | some d =>
        have hd := hexv_lt hx
        dsimp only
        have e1 : (0 : Int32) ≤ om (some d) := by
          show (0 : Int32) ≤ i3 d
          rw [show (0 : Int32) = i3 0 from rfl, i3_le (by omega) (by omega)]
          omega
        have e2 : (16 : Int32) * i3 v + om (some d) = i3 (16 * v + d) := by
          show (16 : Int32) * i3 v + i3 d = _
          rw [show (16 : Int32) = i3 16 from rfl, i3_mul, i3_add]
        have hbnd : 16 * v + d < 16 ^ (4 - m) := by
          by_cases h4 : m + 1 = 4
          · rw [hv0 h4, show 4 - m = 1 by omega]
            omega
          · have := hv1 (by omega)
            obtain rfl | rfl | rfl : m = 0 ∨ m = 1 ∨ m = 2 := by omega
            · simp at this ⊢; omega
            · simp at this ⊢; omega
            · simp at this ⊢; omega
        have hpow : 16 ^ (4 - m) ≤ 65536 := Nat.le_trans (Nat.pow_le_pow_right (n := 16) (by omega) (show 4 - m ≤ 4 by omega)) (by decide)
        have hfun : hd1 hexv (c :: r) = some d := hx
        rw [if_pos e1, hexM h, Option.bind_some, hfun, e2, i3_one, show 4 - (m + 1) + 1 = 4 - m by omega]
        exact ih n (16 * v + d) r _ (by omega) (by omega) (by omega) (fun _ => hbnd) h.next (hM.si (by decide) (by decide) (by decide) (by decide)) (by omega) (hf.trans (Fr1.at _)) (hs.trans (SK.at (by decide))) hp
end RH
