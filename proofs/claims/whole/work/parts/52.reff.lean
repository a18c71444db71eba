/-! ===== the reference's reader: words ===== -/
/-- all but the stacks and the place is as it was -/
def Fr1 (st st' : xS) : Prop := (∀ k, k ≠ 2 → k ≠ 4 → k ≠ 7 → k ≠ 12 → k ≠ 16 → xsi st' k = xsi st k) ∧ (∀ k, k ≠ 1 → k ≠ 3 → k ≠ 5 → k ≠ 6 → k ≠ 10 → k ≠ 11 → xln st' k = xln st k ∧ xba st' k = xba st k)
/-- what lasts from call to call is as it was -/
def FrP (st st' : xS) : Prop := (∀ k, (21 ≤ k ∨ k = 0) → xsi st' k = xsi st k) ∧ (∀ k, 12 ≤ k → xln st' k = xln st k ∧ xba st' k = xba st k)
theorem Fr1.of {st st' : xS} (h : Fr0 st st') : Fr1 st st' := ⟨fun k a b c d _ => h.1 k a b c d, h.2⟩
theorem Fr1.refl {st : xS} : Fr1 st st := ⟨fun _ _ _ _ _ _ => rfl, fun _ _ _ _ _ _ _ => ⟨rfl, rfl⟩⟩
theorem Fr1.trans {a b c : xS} (h : Fr1 a b) (h' : Fr1 b c) : Fr1 a c := ⟨fun k k1 k2 k3 k4 k5 => (h'.1 k k1 k2 k3 k4 k5).trans (h.1 k k1 k2 k3 k4 k5), fun k k1 k2 k3 k4 k5 k6 => ⟨((h'.2 k k1 k2 k3 k4 k5 k6).1).trans (h.2 k k1 k2 k3 k4 k5 k6).1, ((h'.2 k k1 k2 k3 k4 k5 k6).2).trans (h.2 k k1 k2 k3 k4 k5 k6).2⟩⟩
theorem Fr1.at {st : xS} (v : Int32) : Fr1 st (xsI st 16 v) := ⟨fun _ _ _ _ _ h => up_ne h, fun _ _ _ _ _ _ _ => ⟨rfl, rfl⟩⟩
theorem FrP.refl {st : xS} : FrP st st := ⟨fun _ _ => rfl, fun _ _ => ⟨rfl, rfl⟩⟩
theorem FrP.trans {a b c : xS} (h : FrP a b) (h' : FrP b c) : FrP a c := ⟨fun k hk => (h'.1 k hk).trans (h.1 k hk), fun k hk => ⟨((h'.2 k hk).1).trans (h.2 k hk).1, ((h'.2 k hk).2).trans (h.2 k hk).2⟩⟩
theorem FrP.at {st : xS} {k : Nat} (v : Int32) (hk : 0 < k ∧ k < 21) : FrP st (xsI st k v) := ⟨fun _ h => up_ne (by omega), fun _ _ => ⟨rfl, rfl⟩⟩
theorem Fr1.p {st st' : xS} (h : Fr1 st st') : FrP st st' := ⟨fun k hk => h.1 k (by omega) (by omega) (by omega) (by omega) (by omega), fun k hk => h.2 k (by omega) (by omega) (by omega) (by omega) (by omega) (by omega)⟩
theorem SK.at {st : xS} {k : Nat} {v : Int32} (hk : k ≠ 4) : SK st (xsI st k v) := SK.same rfl rfl rfl rfl (fun _ _ => ⟨rfl, rfl⟩) (up_ne (fun h => hk h.symm))
theorem MS.si {st : xS} {vs : List VR} {cs : List Nat} {ks ws : List NP} (hM : MS st vs cs ks ws) {k : Nat} {v : Int32} (k1 : k ≠ 2) (k2 : k ≠ 4) (k3 : k ≠ 7) (k4 : k ≠ 12) : MS (xsI st k v) vs cs ks ws := by
  obtain ⟨⟨⟨h1, h2, h3, h4⟩, h5, h6, h7, h8⟩, r⟩ := hM
  exact ⟨⟨⟨(up_ne (fun h => k1 h.symm)).trans h1, (up_ne (fun h => k2 h.symm)).trans h2, (up_ne (fun h => k3 h.symm)).trans h3, (up_ne (fun h => k4 h.symm)).trans h4⟩, h5, h6, h7, h8⟩, r⟩
/-- the reader stands before r -/
def PR (base : Nat) (src : List Nat) (st : xS) (r : List Nat) : Prop := PB base src st ∧ r <:+ src ∧ xsi st 16 = rp base src r
section RF
variable {base : Nat} {src r : List Nat} {st : xS} {vs : List VR} {cs : List Nat} {ks ws : List NP} {n : Nat}
theorem PR.at' (h : PR base src st r) : atR base src st r = st := xsI_id h.2.2
theorem PR.peek (h : PR base src st r) : fM_peek n st = some (hv r) := by
  have := peek_w (n := n) h.1 h.2.1
  rwa [h.at'] at this
theorem PR.hve (h : PR base src st r) {k : Nat} (hk : k < 256) : (hv r = i3 k) = (r.head? = some k) := hv_eq (fun c hc => h.1.1 c (h.2.1.subset hc)) hk
theorem PR.next {c : Nat} (h : PR base src st (c :: r)) : PR base src (xsI st 16 (xsi st 16 + 1)) r := ⟨h.1.at _, (List.suffix_cons c r).trans h.2.1, by
  show va_up st.1 16 (xsi st 16 + 1) 16 = _
  rw [up_eq, h.2.2, rp_s h.2.1]⟩
theorem PR.fr {st' : xS} (h : PR base src st r) (hf : Fr0 st st') (hs : SK st st') : PR base src st' r := ⟨h.1.step hf hs, h.2.1, (hf.1 16 (by decide) (by decide) (by decide) (by decide)).trans h.2.2⟩
theorem PR.blanks (h : PR base src st r) (hn : 1000000 < n) : fM_blanks n st = some (xsI st 16 (rp base src (blk r))) ∧ PR base src (xsI st 16 (rp base src (blk r))) (blk r) := by
  have := blanksM (n := n) h.1 h.2.1 hn
  rw [h.at'] at this
  exact ⟨this, h.1.at _, (blk_suf r).trans h.2.1, show va_up st.1 16 (rp base src (blk r)) 16 = _ from up_eq⟩
theorem pw_step {c : Nat} {w : List Nat} : pw (c :: w) r = if r.head? = some c then pw w r.tail else .inl r := by
  cases r with
  | nil => rw [pw]; rfl
  | cons d r =>
    rw [pw, List.head?_cons, List.tail_cons]
    by_cases h : d = c
    · rw [if_pos h, if_pos (by rw [h])]
    · rw [if_neg h, if_neg (fun h' => h (Option.some.inj h'))]
theorem head_c {c : Nat} {r : List Nat} (h : r.head? = some c) : ∃ r', r = c :: r' := by
  cases r with
  | nil => simp at h
  | cons d r => exact ⟨r, by rw [Option.some.inj h]⟩
/-- reading is broken at x -/
def Bad (base : Nat) (src : List Nat) (st st' : xS) (vs : List VR) (cs : List Nat) (ks ws : List NP) (x : List Nat) : Prop := (∃ vs' cs' ks' ws', MS st' vs' cs' ks' ws') ∧ xsi st' 20 = rp base src x ∧ FrP st st' ∧ pt st ≤ pt st' ∧ xsi st' 19 = xsi st 19
theorem Bad.of {st0 : xS} {x : Int32} (hM : MS st vs cs ks ws) (h : PR base src st r) (hx : x = xsi st 16) (hf : FrP st0 st) (hp : pt st0 = pt st) (h19 : xsi st 19 = xsi st0 19 := by rfl) : Bad base src st0 (xsI st 20 x) vs cs ks ws r := ⟨⟨vs, cs, ks, ws, hM.si (by decide) (by decide) (by decide) (by decide)⟩, by
  show va_up st.1 20 x 20 = _
  rw [up_eq, hx]
  exact h.2.2, hf.trans (FrP.at _ (by decide)), Nat.le_of_eq hp, h19⟩
theorem bad_c {q : Nat} {p : Int32} : ((fM_bad n st p).bind fun o => (if o.1 = 1 then xmo (fun a : Nat × Nat × Nat × Nat × xS => a.2.1) (fun a => a.2.2.1) (0 + o.2.1) (0 + o.2.2.1) (some (q, (0 + o.2.1), (0 + o.2.2.1), 0, o.2.2.2)) else none)) = some (q, 1, 6, 0, xsI st 20 p) := by
  unfold fM_bad
  rw [Option.bind_some, if_pos rfl]
  exact xmo_some (Nat.le_refl _) (Nat.le_refl _)
theorem saysb_w (hM : MS st vs cs ks ws) (h : PR base src st r) (hb : vs.length + 1 ≤ bV) (hn : bV < n) : match pw (wd 0) r with
    | .inl x => ∃ st' : xS, fM_saysb n st (i3 0) = some (1, 1, 6, 0, st') ∧ Bad base src st st' vs cs ks ws x
    | .inr r1 => ∃ (cc s : Nat) (st' : xS), fM_saysb n st (i3 0) = some (0, cc, s, vs.length + 1, st') ∧ MS st' (vs ++ [(0, 0, 0, 0, 1, 0)]) cs ks ws ∧ PR base src st' r1 ∧ Cost st st' cc s ∧ Fr1 st st' ∧ SK st st' := by
  rw [show wd 0 = [110, 117, 108, 108] from rfl]
  unfold fM_saysb
  rw [pw_step]
  by_cases c0 : r.head? = some 110
  · obtain ⟨r1, rfl⟩ := head_c c0
    rw [if_pos c0, h.peek, Option.bind_some, if_pos (show hv (110 :: r1) = 110 from rfl), List.tail_cons]
    have h1 : PR base src (xsI st 16 (xsi st 16 + 1)) r1 := h.next
    rw [pw_step]
    by_cases c1 : r1.head? = some 117
    · obtain ⟨r2, rfl⟩ := head_c c1
      rw [if_pos c1, h1.peek, Option.bind_some, if_pos (show hv (117 :: r2) = 117 from rfl), List.tail_cons]
      have h2 : PR base src (xsI (xsI st 16 (xsi st 16 + 1)) 16 (xsi st 16 + 1 + 1)) r2 := h1.next
      rw [pw_step]
      by_cases c2 : r2.head? = some 108
      · obtain ⟨r3, rfl⟩ := head_c c2
        rw [if_pos c2, h2.peek, Option.bind_some, if_pos (show hv (108 :: r3) = 108 from rfl), List.tail_cons]
        have h3 : PR base src (xsI (xsI (xsI st 16 (xsi st 16 + 1)) 16 (xsi st 16 + 1 + 1)) 16 (xsi st 16 + 1 + 1 + 1)) r3 := h2.next
        rw [pw_step]
        by_cases c3 : r3.head? = some 108
        · obtain ⟨r4, rfl⟩ := head_c c3
          rw [if_pos c3, h3.peek, Option.bind_some, if_pos (show hv (108 :: r4) = 108 from rfl), List.tail_cons]
          have h4 : PR base src (xsI (xsI (xsI (xsI st 16 (xsi st 16 + 1)) 16 (xsi st 16 + 1 + 1)) 16 (xsi st 16 + 1 + 1 + 1)) 16 (xsi st 16 + 1 + 1 + 1 + 1)) r4 := h3.next
          rw [pw]
          obtain ⟨cc, s, st', e1, m1, m2, m3, m4⟩ := fresh_w (n := n) ((((hM.si (k := 16) (by decide) (by decide) (by decide) (by decide)).si (k := 16) (by decide) (by decide) (by decide) (by decide)).si (k := 16) (by decide) (by decide) (by decide) (by decide)).si (k := 16) (by decide) (by decide) (by decide) (by decide)) 0 hb hn
          refine ⟨cc, s, st', ?_, m1, h4.fr m3 m4, ⟨m2.1, m2.2⟩, (Fr1.at _).trans ((Fr1.at _).trans ((Fr1.at _).trans ((Fr1.at _).trans (Fr1.of m3)))), (SK.at (by decide)).trans ((SK.at (by decide)).trans ((SK.at (by decide)).trans ((SK.at (by decide)).trans (m4))))⟩
          refine (congrArg (fun x => Option.bind x _) e1).trans ?_
          rw [Option.bind_some]
          dsimp only
          rw [Nat.zero_add, Nat.zero_add]
          exact xmo_some (Nat.le_refl _) (Nat.le_refl _)
        · rw [if_neg c3, h3.peek, Option.bind_some, if_neg (show ¬ hv r3 = 108 from fun hh => c3 ((h3.hve (k := 108) (by omega)).mp hh))]
          exact ⟨_, bad_c, Bad.of (((hM.si (k := 16) (by decide) (by decide) (by decide) (by decide)).si (k := 16) (by decide) (by decide) (by decide) (by decide)).si (k := 16) (by decide) (by decide) (by decide) (by decide)) h3 rfl ((FrP.at _ (by decide)).trans ((FrP.at _ (by decide)).trans ((FrP.at _ (by decide)).trans (FrP.refl)))) rfl⟩
      · rw [if_neg c2, h2.peek, Option.bind_some, if_neg (show ¬ hv r2 = 108 from fun hh => c2 ((h2.hve (k := 108) (by omega)).mp hh))]
        exact ⟨_, bad_c, Bad.of ((hM.si (k := 16) (by decide) (by decide) (by decide) (by decide)).si (k := 16) (by decide) (by decide) (by decide) (by decide)) h2 rfl ((FrP.at _ (by decide)).trans ((FrP.at _ (by decide)).trans (FrP.refl))) rfl⟩
    · rw [if_neg c1, h1.peek, Option.bind_some, if_neg (show ¬ hv r1 = 117 from fun hh => c1 ((h1.hve (k := 117) (by omega)).mp hh))]
      exact ⟨_, bad_c, Bad.of (hM.si (k := 16) (by decide) (by decide) (by decide) (by decide)) h1 rfl ((FrP.at _ (by decide)).trans (FrP.refl)) rfl⟩
  · rw [if_neg c0, h.peek, Option.bind_some, if_neg (show ¬ hv r = 110 from fun hh => c0 ((h.hve (k := 110) (by omega)).mp hh))]
    exact ⟨_, bad_c, Bad.of hM h rfl (FrP.refl) rfl⟩
theorem says_w (hM : MS st vs cs ks ws) (h : PR base src st r) (hb : vs.length + 1 ≤ bV) (hn : bV < n) : match pw (wd 1) r with
    | .inl x => ∃ st' : xS, fM_says n st (i3 1) = some (1, 1, 6, 0, st') ∧ Bad base src st st' vs cs ks ws x
    | .inr r1 => ∃ (cc s : Nat) (st' : xS), fM_says n st (i3 1) = some (0, cc, s, vs.length + 1, st') ∧ MS st' (vs ++ [(1, 0, 0, 0, 1, 0)]) cs ks ws ∧ PR base src st' r1 ∧ Cost st st' cc s ∧ Fr1 st st' ∧ SK st st' := by
  rw [show wd 1 = [102, 97, 108, 115, 101] from rfl]
  unfold fM_says
  rw [pw_step]
  by_cases c0 : r.head? = some 102
  · obtain ⟨r1, rfl⟩ := head_c c0
    rw [if_pos c0, h.peek, Option.bind_some, if_pos (show hv (102 :: r1) = 102 from rfl), List.tail_cons]
    have h1 : PR base src (xsI st 16 (xsi st 16 + 1)) r1 := h.next
    rw [pw_step]
    by_cases c1 : r1.head? = some 97
    · obtain ⟨r2, rfl⟩ := head_c c1
      rw [if_pos c1, h1.peek, Option.bind_some, if_pos (show hv (97 :: r2) = 97 from rfl), List.tail_cons]
      have h2 : PR base src (xsI (xsI st 16 (xsi st 16 + 1)) 16 (xsi st 16 + 1 + 1)) r2 := h1.next
      rw [pw_step]
      by_cases c2 : r2.head? = some 108
      · obtain ⟨r3, rfl⟩ := head_c c2
        rw [if_pos c2, h2.peek, Option.bind_some, if_pos (show hv (108 :: r3) = 108 from rfl), List.tail_cons]
        have h3 : PR base src (xsI (xsI (xsI st 16 (xsi st 16 + 1)) 16 (xsi st 16 + 1 + 1)) 16 (xsi st 16 + 1 + 1 + 1)) r3 := h2.next
        rw [pw_step]
        by_cases c3 : r3.head? = some 115
        · obtain ⟨r4, rfl⟩ := head_c c3
          rw [if_pos c3, h3.peek, Option.bind_some, if_pos (show hv (115 :: r4) = 115 from rfl), List.tail_cons]
          have h4 : PR base src (xsI (xsI (xsI (xsI st 16 (xsi st 16 + 1)) 16 (xsi st 16 + 1 + 1)) 16 (xsi st 16 + 1 + 1 + 1)) 16 (xsi st 16 + 1 + 1 + 1 + 1)) r4 := h3.next
          rw [pw_step]
          by_cases c4 : r4.head? = some 101
          · obtain ⟨r5, rfl⟩ := head_c c4
            rw [if_pos c4, h4.peek, Option.bind_some, if_pos (show hv (101 :: r5) = 101 from rfl), List.tail_cons]
            have h5 : PR base src (xsI (xsI (xsI (xsI (xsI st 16 (xsi st 16 + 1)) 16 (xsi st 16 + 1 + 1)) 16 (xsi st 16 + 1 + 1 + 1)) 16 (xsi st 16 + 1 + 1 + 1 + 1)) 16 (xsi st 16 + 1 + 1 + 1 + 1 + 1)) r5 := h4.next
            rw [pw]
            obtain ⟨cc, s, st', e1, m1, m2, m3, m4⟩ := fresh_w (n := n) (((((hM.si (k := 16) (by decide) (by decide) (by decide) (by decide)).si (k := 16) (by decide) (by decide) (by decide) (by decide)).si (k := 16) (by decide) (by decide) (by decide) (by decide)).si (k := 16) (by decide) (by decide) (by decide) (by decide)).si (k := 16) (by decide) (by decide) (by decide) (by decide)) 1 hb hn
            refine ⟨cc, s, st', ?_, m1, h5.fr m3 m4, ⟨m2.1, m2.2⟩, (Fr1.at _).trans ((Fr1.at _).trans ((Fr1.at _).trans ((Fr1.at _).trans ((Fr1.at _).trans (Fr1.of m3))))), (SK.at (by decide)).trans ((SK.at (by decide)).trans ((SK.at (by decide)).trans ((SK.at (by decide)).trans ((SK.at (by decide)).trans (m4)))))⟩
            refine (congrArg (fun x => Option.bind x _) e1).trans ?_
            rw [Option.bind_some]
            dsimp only
            rw [Nat.zero_add, Nat.zero_add]
            exact xmo_some (Nat.le_refl _) (Nat.le_refl _)
          · rw [if_neg c4, h4.peek, Option.bind_some, if_neg (show ¬ hv r4 = 101 from fun hh => c4 ((h4.hve (k := 101) (by omega)).mp hh))]
            exact ⟨_, bad_c, Bad.of ((((hM.si (k := 16) (by decide) (by decide) (by decide) (by decide)).si (k := 16) (by decide) (by decide) (by decide) (by decide)).si (k := 16) (by decide) (by decide) (by decide) (by decide)).si (k := 16) (by decide) (by decide) (by decide) (by decide)) h4 rfl ((FrP.at _ (by decide)).trans ((FrP.at _ (by decide)).trans ((FrP.at _ (by decide)).trans ((FrP.at _ (by decide)).trans (FrP.refl))))) rfl⟩
        · rw [if_neg c3, h3.peek, Option.bind_some, if_neg (show ¬ hv r3 = 115 from fun hh => c3 ((h3.hve (k := 115) (by omega)).mp hh))]
          exact ⟨_, bad_c, Bad.of (((hM.si (k := 16) (by decide) (by decide) (by decide) (by decide)).si (k := 16) (by decide) (by decide) (by decide) (by decide)).si (k := 16) (by decide) (by decide) (by decide) (by decide)) h3 rfl ((FrP.at _ (by decide)).trans ((FrP.at _ (by decide)).trans ((FrP.at _ (by decide)).trans (FrP.refl)))) rfl⟩
      · rw [if_neg c2, h2.peek, Option.bind_some, if_neg (show ¬ hv r2 = 108 from fun hh => c2 ((h2.hve (k := 108) (by omega)).mp hh))]
        exact ⟨_, bad_c, Bad.of ((hM.si (k := 16) (by decide) (by decide) (by decide) (by decide)).si (k := 16) (by decide) (by decide) (by decide) (by decide)) h2 rfl ((FrP.at _ (by decide)).trans ((FrP.at _ (by decide)).trans (FrP.refl))) rfl⟩
    · rw [if_neg c1, h1.peek, Option.bind_some, if_neg (show ¬ hv r1 = 97 from fun hh => c1 ((h1.hve (k := 97) (by omega)).mp hh))]
      exact ⟨_, bad_c, Bad.of (hM.si (k := 16) (by decide) (by decide) (by decide) (by decide)) h1 rfl ((FrP.at _ (by decide)).trans (FrP.refl)) rfl⟩
  · rw [if_neg c0, h.peek, Option.bind_some, if_neg (show ¬ hv r = 102 from fun hh => c0 ((h.hve (k := 102) (by omega)).mp hh))]
    exact ⟨_, bad_c, Bad.of hM h rfl (FrP.refl) rfl⟩
theorem saysa_w (hM : MS st vs cs ks ws) (h : PR base src st r) (hb : vs.length + 1 ≤ bV) (hn : bV < n) : match pw (wd 2) r with
    | .inl x => ∃ st' : xS, fM_saysa n st (i3 2) = some (1, 1, 6, 0, st') ∧ Bad base src st st' vs cs ks ws x
    | .inr r1 => ∃ (cc s : Nat) (st' : xS), fM_saysa n st (i3 2) = some (0, cc, s, vs.length + 1, st') ∧ MS st' (vs ++ [(2, 0, 0, 0, 1, 0)]) cs ks ws ∧ PR base src st' r1 ∧ Cost st st' cc s ∧ Fr1 st st' ∧ SK st st' := by
  rw [show wd 2 = [116, 114, 117, 101] from rfl]
  unfold fM_saysa
  rw [pw_step]
  by_cases c0 : r.head? = some 116
  · obtain ⟨r1, rfl⟩ := head_c c0
    rw [if_pos c0, h.peek, Option.bind_some, if_pos (show hv (116 :: r1) = 116 from rfl), List.tail_cons]
    have h1 : PR base src (xsI st 16 (xsi st 16 + 1)) r1 := h.next
    rw [pw_step]
    by_cases c1 : r1.head? = some 114
    · obtain ⟨r2, rfl⟩ := head_c c1
      rw [if_pos c1, h1.peek, Option.bind_some, if_pos (show hv (114 :: r2) = 114 from rfl), List.tail_cons]
      have h2 : PR base src (xsI (xsI st 16 (xsi st 16 + 1)) 16 (xsi st 16 + 1 + 1)) r2 := h1.next
      rw [pw_step]
      by_cases c2 : r2.head? = some 117
      · obtain ⟨r3, rfl⟩ := head_c c2
        rw [if_pos c2, h2.peek, Option.bind_some, if_pos (show hv (117 :: r3) = 117 from rfl), List.tail_cons]
        have h3 : PR base src (xsI (xsI (xsI st 16 (xsi st 16 + 1)) 16 (xsi st 16 + 1 + 1)) 16 (xsi st 16 + 1 + 1 + 1)) r3 := h2.next
        rw [pw_step]
        by_cases c3 : r3.head? = some 101
        · obtain ⟨r4, rfl⟩ := head_c c3
          rw [if_pos c3, h3.peek, Option.bind_some, if_pos (show hv (101 :: r4) = 101 from rfl), List.tail_cons]
          have h4 : PR base src (xsI (xsI (xsI (xsI st 16 (xsi st 16 + 1)) 16 (xsi st 16 + 1 + 1)) 16 (xsi st 16 + 1 + 1 + 1)) 16 (xsi st 16 + 1 + 1 + 1 + 1)) r4 := h3.next
          rw [pw]
          obtain ⟨cc, s, st', e1, m1, m2, m3, m4⟩ := fresh_w (n := n) ((((hM.si (k := 16) (by decide) (by decide) (by decide) (by decide)).si (k := 16) (by decide) (by decide) (by decide) (by decide)).si (k := 16) (by decide) (by decide) (by decide) (by decide)).si (k := 16) (by decide) (by decide) (by decide) (by decide)) 2 hb hn
          refine ⟨cc, s, st', ?_, m1, h4.fr m3 m4, ⟨m2.1, m2.2⟩, (Fr1.at _).trans ((Fr1.at _).trans ((Fr1.at _).trans ((Fr1.at _).trans (Fr1.of m3)))), (SK.at (by decide)).trans ((SK.at (by decide)).trans ((SK.at (by decide)).trans ((SK.at (by decide)).trans (m4))))⟩
          refine (congrArg (fun x => Option.bind x _) e1).trans ?_
          rw [Option.bind_some]
          dsimp only
          rw [Nat.zero_add, Nat.zero_add]
          exact xmo_some (Nat.le_refl _) (Nat.le_refl _)
        · rw [if_neg c3, h3.peek, Option.bind_some, if_neg (show ¬ hv r3 = 101 from fun hh => c3 ((h3.hve (k := 101) (by omega)).mp hh))]
          exact ⟨_, bad_c, Bad.of (((hM.si (k := 16) (by decide) (by decide) (by decide) (by decide)).si (k := 16) (by decide) (by decide) (by decide) (by decide)).si (k := 16) (by decide) (by decide) (by decide) (by decide)) h3 rfl ((FrP.at _ (by decide)).trans ((FrP.at _ (by decide)).trans ((FrP.at _ (by decide)).trans (FrP.refl)))) rfl⟩
      · rw [if_neg c2, h2.peek, Option.bind_some, if_neg (show ¬ hv r2 = 117 from fun hh => c2 ((h2.hve (k := 117) (by omega)).mp hh))]
        exact ⟨_, bad_c, Bad.of ((hM.si (k := 16) (by decide) (by decide) (by decide) (by decide)).si (k := 16) (by decide) (by decide) (by decide) (by decide)) h2 rfl ((FrP.at _ (by decide)).trans ((FrP.at _ (by decide)).trans (FrP.refl))) rfl⟩
    · rw [if_neg c1, h1.peek, Option.bind_some, if_neg (show ¬ hv r1 = 114 from fun hh => c1 ((h1.hve (k := 114) (by omega)).mp hh))]
      exact ⟨_, bad_c, Bad.of (hM.si (k := 16) (by decide) (by decide) (by decide) (by decide)) h1 rfl ((FrP.at _ (by decide)).trans (FrP.refl)) rfl⟩
  · rw [if_neg c0, h.peek, Option.bind_some, if_neg (show ¬ hv r = 116 from fun hh => c0 ((h.hve (k := 116) (by omega)).mp hh))]
    exact ⟨_, bad_c, Bad.of hM h rfl (FrP.refl) rfl⟩
end RF
