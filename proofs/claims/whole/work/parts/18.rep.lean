section ZRefe51
/-! ===== the reference's reader: where it is ===== -/
theorem xsI_xsI {st : xS} {k : Nat} {a b : Int32} : xsI (xsI st k a) k b = xsI st k b := by
  have : va_up (va_up st.1 k a) k b = va_up st.1 k b := by
    funext i
    by_cases h : i = k
    · rw [h, up_eq, up_eq]
    · rw [up_ne h, up_ne h, up_ne h]
  show (va_up (va_up st.1 k a) k b, st.2) = (va_up st.1 k b, st.2)
  rw [this]
theorem xsI_id {st : xS} {k : Nat} {a : Int32} (h : xsi st k = a) : xsI st k a = st := by
  have : va_up st.1 k a = st.1 := by
    funext i
    by_cases h' : i = k
    · rw [h', up_eq, ← h]
    · rw [up_ne h']
  show (va_up st.1 k a, st.2) = st
  rw [this]
/-- the place of the rest -/
def rp (base : Nat) (src r : List Nat) : Int32 := i3 (base + (src.length - r.length))
def atR (base : Nat) (src : List Nat) (st : xS) (r : List Nat) : xS := xsI st 16 (rp base src r)
/-- the source is there -/
def PB (base : Nat) (src : List Nat) (st : xS) : Prop := (∀ c ∈ src, c < 256) ∧ (∃ f : Nat → Int32, SV st f (base + src.length) ∧ seg f base (src.map sb)) ∧ xsi st 17 = i3 (base + src.length) ∧ base + src.length ≤ 1000000
section RE
variable {base : Nat} {src : List Nat} {st : xS} {n : Nat}
theorem atR_atR {r r' : List Nat} : atR base src (atR base src st r) r' = atR base src st r' := xsI_xsI
theorem PB.at (h : PB base src st) (v : Int32) : PB base src (xsI st 16 v) := by
  obtain ⟨h1, ⟨f, h2, h3⟩, h4, h5⟩ := h
  exact ⟨h1, ⟨f, h2, h3⟩, h4, h5⟩
theorem PB.step {st' : xS} (h : PB base src st) (hf : Fr0 st st') (hs : SK st st') : PB base src st' := by
  obtain ⟨h1, ⟨f, h2, h3⟩, h4, h5⟩ := h
  refine ⟨h1, ⟨f, hs.1 _ _ h2, h3⟩, ?_, h5⟩
  rw [hf.1 17 (by decide) (by decide) (by decide) (by decide)]
  exact h4
theorem rp_s {c : Nat} {r : List Nat} (h : (c :: r) <:+ src) : rp base src (c :: r) + 1 = rp base src r := by
  have := h.length_le
  unfold rp
  rw [List.length_cons] at *
  rw [i3_one]
  congr 1
  omega
theorem peek_w (h : PB base src st) {r : List Nat} (hr : r <:+ src) : fM_peek n (atR base src st r) = some (hv r) := by
  obtain ⟨h1, ⟨f, ⟨s1, s2, s3, s4⟩, h3⟩, h4, h5⟩ := h
  have hl := hr.length_le
  have e16 : xsi (atR base src st r) 16 = rp base src r := rfl
  have e17 : xsi (atR base src st r) 17 = xsi st 17 := rfl
  unfold fM_peek
  rw [e16, e17, h4]
  unfold rp
  cases r with
  | nil =>
    rw [List.length_nil, if_pos (show i3 (base + src.length) ≤ i3 (base + (src.length - 0)) by rw [i3_le (by omega) (by omega)]; omega)]
    rfl
  | cons c r =>
    rw [List.length_cons] at hl ⊢
    rw [if_neg (by rw [i3_le (by omega) (by omega)]; omega), if_neg (fun hh => hh s1)]
    have hsr : xrl (atR base src st (c :: r)) (xsr (atR base src st (c :: r))) = xrl st (xsr st) := rfl
    have hsb : xrb (atR base src st (c :: r)) (xsr (atR base src st (c :: r))) = xrb st (xsr st) := rfl
    rw [hsr, hsb, if_neg (i3_idx (by omega) (by omega)), i3_N (by omega), s3 _ (by omega)]
    have hc : (src.map sb)[src.length - (r.length + 1)]? = some (sb c) := by
      obtain ⟨p, hp⟩ := hr
      rw [← hp, List.map_append, List.getElem?_append_right (by rw [List.length_map, List.length_append, List.length_cons]; omega), List.length_map, List.length_append, List.length_cons, show p.length + (r.length + 1) - (r.length + 1) - p.length = 0 by omega]
      rfl
    rw [h3 _ _ hc, sb_and (h1 c (hr.subset (List.mem_cons_self ..)))]
    rfl
theorem hv_c {c : Nat} {r : List Nat} : hv (c :: r) = i3 c := rfl
theorem blanksM_l (h : PB base src st) : ∀ (r : List Nat) (n : Nat), r <:+ src → r.length < n → fM_blanks_b n 1 (atR base src st r) = some (atR base src st (blk r)) := by
  intro r
  induction r with
  | nil =>
    intro n hr hn
    obtain ⟨n, rfl⟩ : ∃ j, n = j + 1 := ⟨n - 1, by omega⟩
    rw [fM_blanks_b, peek_w h hr, Option.bind_some, if_neg (by decide), Option.bind_some, if_pos (by decide)]
    rfl
  | cons c r ih =>
    intro n hr hn
    obtain ⟨n, rfl⟩ : ∃ j, n = j + 1 := ⟨n - 1, by omega⟩
    have hc : c < 256 := h.1 c (hr.subset (List.mem_cons_self ..))
    have e16 : xsi (atR base src st (c :: r)) 16 = rp base src (c :: r) := rfl
    have hst : xsI (atR base src st (c :: r)) 16 (rp base src r) = atR base src st r := xsI_xsI
    have hre := ih n ((List.suffix_cons c r).trans hr) (by rw [List.length_cons] at hn; omega)
    rw [fM_blanks_b, peek_w h hr, Option.bind_some, Option.bind_some, Option.bind_some, Option.bind_some, Option.bind_some, e16, rp_s hr, hst, hre, blk]
    have c32 : (hv (c :: r) = 32) = (c = 32) := i3_eq (a := c) (b := 32) (by omega) (by omega)
    have c9 : (hv (c :: r) < 9) = (c < 9) := i3_lt (a := c) (b := 9) (by omega) (by omega)
    have c13 : ((13 : Int32) < hv (c :: r)) = (13 < c) := i3_lt (a := 13) (b := c) (by omega) (by omega)
    have c11 : (hv (c :: r) = 11) = (c = 11) := i3_eq (a := c) (b := 11) (by omega) (by omega)
    have c12 : (hv (c :: r) = 12) = (c = 12) := i3_eq (a := c) (b := 12) (by omega) (by omega)
    by_cases hb : isB c = true
    · rw [if_pos hb]
      unfold isB at hb
      simp only [Bool.or_eq_true, decide_eq_true_eq] at hb
      by_cases h32 : c = 32
      · rw [if_pos (by rw [c32]; exact h32)]
      · rw [if_neg (by rw [c32]; exact h32), if_neg (by rw [c9]; omega), if_neg (by rw [c13]; omega), if_neg (by rw [c11]; omega), if_neg (by rw [c12]; omega)]
    · rw [if_neg hb]
      unfold isB at hb
      simp only [Bool.or_eq_true, decide_eq_true_eq] at hb
      rw [if_neg (by rw [c32]; omega)]
      by_cases h9 : c < 9
      · rw [if_pos (by rw [c9]; exact h9)]
      · rw [if_neg (by rw [c9]; exact h9)]
        by_cases h13 : 13 < c
        · rw [if_pos (by rw [c13]; exact h13)]
        · rw [if_neg (by rw [c13]; exact h13)]
          by_cases h11 : c = 11
          · rw [if_pos (by rw [c11]; exact h11)]
          · rw [if_neg (by rw [c11]; exact h11), if_pos (by rw [c12]; omega)]
theorem blanksM (h : PB base src st) {r : List Nat} (hr : r <:+ src) (hn : 1000000 < n) : fM_blanks n (atR base src st r) = some (atR base src st (blk r)) := blanksM_l h r n hr (by have := hr.length_le; have := h.2.2.2; omega)
end RE
end ZRefe51
section ZReff52
/-! ===== the reference's reader: words ===== -/
/-- all but the stacks and the place is as it was -/
def Fr1 (st st' : xS) : Prop := (∀ k, k ≠ 2 → k ≠ 4 → k ≠ 7 → k ≠ 12 → k ≠ 16 → xsi st' k = xsi st k) ∧ (∀ k, k ≠ 1 → k ≠ 3 → k ≠ 5 → k ≠ 6 → k ≠ 10 → k ≠ 11 → xln st' k = xln st k ∧ xba st' k = xba st k)
/-- what lasts from call to call is as it was -/
def FrP (st st' : xS) : Prop := (∀ k, (21 ≤ k ∨ k = 0) → xsi st' k = xsi st k) ∧ (∀ k, 12 ≤ k → xln st' k = xln st k ∧ xba st' k = xba st k)
theorem Fr1.of {st st' : xS} (h : Fr0 st st') : Fr1 st st' := ⟨fun k a b c d _ => h.1 k a b c d, h.2⟩
theorem Fr1.refl {st : xS} : Fr1 st st := ⟨fun _ _ _ _ _ _ => rfl, fun _ _ _ _ _ _ _ => ⟨rfl, rfl⟩⟩
theorem Fr1.trans {a b c : xS} (h : Fr1 a b) (h' : Fr1 b c) : Fr1 a c := ⟨fun k k1 k2 k3 k4 k5 => (h'.1 k k1 k2 k3 k4 k5).trans (h.1 k k1 k2 k3 k4 k5), fun k k1 k2 k3 k4 k5 k6 => ⟨((h'.2 k k1 k2 k3 k4 k5 k6).1).trans (h.2 k k1 k2 k3 k4 k5 k6).1, ((h'.2 k k1 k2 k3 k4 k5 k6).2).trans (h.2 k k1 k2 k3 k4 k5 k6).2⟩⟩
theorem Fr1.at {st : xS} (v : Int32) : Fr1 st (xsI st 16 v) := ⟨fun _ _ _ _ _ h => up_ne h, fun _ _ _ _ _ _ _ => ⟨rfl, rfl⟩⟩
theorem FrP.refl {st : xS} : FrP st st := ⟨fun _ _ => rfl, fun _ _ => ⟨rfl, rfl⟩⟩
theorem FrP.trans {a b c : xS} (h : FrP a b) (h' : FrP b c) : FrP a c := ⟨fun k hk => (h'.1 k hk).trans (h.1 k hk), fun k hk => ⟨((h'.2 k hk).1).trans (h.2 k hk).1, ((h'.2 k hk).2).trans (h.2 k hk).2⟩⟩
theorem FrP.at {st : xS} {k : Nat} (v : Int32) (hk : 0 < k ∧ k < 21) : FrP st (xsI st k v) := ⟨fun _ h => up_ne (by omega), fun _ _ => ⟨rfl, rfl⟩⟩
theorem Fr1.p {st st' : xS} (h : Fr1 st st') : FrP st st' := ⟨fun k hk => h.1 k (by omega) (by omega) (by omega) (by omega) (by omega), fun k hk => h.2 k (by omega) (by omega) (by omega) (by omega) (by omega) (by omega)⟩
theorem SK.at {st : xS} {k : Nat} {v : Int32} (hk : k ≠ 4) : SK st (xsI st k v) := SK.same rfl rfl rfl rfl (fun _ _ => ⟨rfl, rfl⟩) (up_ne (fun h => hk h.symm))
theorem MS.si {st : xS} {vs : List VR} {cs : List Nat} {ks ws : List NP} (hM : MS st vs cs ks ws) {k : Nat} {v : Int32} (k1 : k ≠ 2) (k2 : k ≠ 4) (k3 : k ≠ 7) (k4 : k ≠ 12) : MS (xsI st k v) vs cs ks ws := by
  obtain ⟨⟨⟨h1, h2, h3, h4⟩, h5, h6, h7, h8⟩, r⟩ := hM
  exact ⟨⟨⟨(up_ne (fun h => k1 h.symm)).trans h1, (up_ne (fun h => k2 h.symm)).trans h2, (up_ne (fun h => k3 h.symm)).trans h3, (up_ne (fun h => k4 h.symm)).trans h4⟩, h5, h6, h7, h8⟩, r⟩
/-- the reader stands before r -/
def PR (base : Nat) (src : List Nat) (st : xS) (r : List Nat) : Prop := PB base src st ∧ r <:+ src ∧ xsi st 16 = rp base src r
section RF
variable {base : Nat} {src r : List Nat} {st : xS} {vs : List VR} {cs : List Nat} {ks ws : List NP} {n : Nat}
theorem PR.at' (h : PR base src st r) : atR base src st r = st := xsI_id h.2.2
theorem PR.peek (h : PR base src st r) : fM_peek n st = some (hv r) := by
  have := peek_w (n := n) h.1 h.2.1
  rwa [h.at'] at this
theorem PR.hve (h : PR base src st r) {k : Nat} (hk : k < 256) : (hv r = i3 k) = (r.head? = some k) := hv_eq (fun c hc => h.1.1 c (h.2.1.subset hc)) hk
theorem PR.next {c : Nat} (h : PR base src st (c :: r)) : PR base src (xsI st 16 (xsi st 16 + 1)) r := ⟨h.1.at _, (List.suffix_cons c r).trans h.2.1, by
  show va_up st.1 16 (xsi st 16 + 1) 16 = _
  rw [up_eq, h.2.2, rp_s h.2.1]⟩
theorem PR.fr {st' : xS} (h : PR base src st r) (hf : Fr0 st st') (hs : SK st st') : PR base src st' r := ⟨h.1.step hf hs, h.2.1, (hf.1 16 (by decide) (by decide) (by decide) (by decide)).trans h.2.2⟩
theorem PR.blanks (h : PR base src st r) (hn : 1000000 < n) : fM_blanks n st = some (xsI st 16 (rp base src (blk r))) ∧ PR base src (xsI st 16 (rp base src (blk r))) (blk r) := by
  have := blanksM (n := n) h.1 h.2.1 hn
  rw [h.at'] at this
  exact ⟨this, h.1.at _, (blk_suf r).trans h.2.1, show va_up st.1 16 (rp base src (blk r)) 16 = _ from up_eq⟩
theorem pw_step {c : Nat} {w : List Nat} : pw (c :: w) r = if r.head? = some c then pw w r.tail else .inl r := by
  cases r with
  | nil => rw [pw]; rfl
  | cons d r =>
    rw [pw, List.head?_cons, List.tail_cons]
    by_cases h : d = c
    · rw [if_pos h, if_pos (by rw [h])]
    · rw [if_neg h, if_neg (fun h' => h (Option.some.inj h'))]
theorem head_c {c : Nat} {r : List Nat} (h : r.head? = some c) : ∃ r', r = c :: r' := by
  cases r with
  | nil => simp at h
  | cons d r => exact ⟨r, by rw [Option.some.inj h]⟩
/-- reading is broken at x -/
def Bad (base : Nat) (src : List Nat) (st st' : xS) (vs : List VR) (cs : List Nat) (ks ws : List NP) (x : List Nat) : Prop := (∃ vs' cs' ks' ws', MS st' vs' cs' ks' ws') ∧ xsi st' 20 = rp base src x ∧ FrP st st' ∧ pt st ≤ pt st' ∧ xsi st' 19 = xsi st 19
theorem Bad.of {st0 : xS} {x : Int32} (hM : MS st vs cs ks ws) (h : PR base src st r) (hx : x = xsi st 16) (hf : FrP st0 st) (hp : pt st0 = pt st) (h19 : xsi st 19 = xsi st0 19 := by rfl) : Bad base src st0 (xsI st 20 x) vs cs ks ws r := ⟨⟨vs, cs, ks, ws, hM.si (by decide) (by decide) (by decide) (by decide)⟩, by
  show va_up st.1 20 x 20 = _
  rw [up_eq, hx]
  exact h.2.2, hf.trans (FrP.at _ (by decide)), Nat.le_of_eq hp, h19⟩
theorem bad_c {q : Nat} {p : Int32} : ((fM_bad n st p).bind fun o => (if o.1 = 1 then xmo (fun a : Nat × Nat × Nat × Nat × xS => a.2.1) (fun a => a.2.2.1) (0 + o.2.1) (0 + o.2.2.1) (some (q, (0 + o.2.1), (0 + o.2.2.1), 0, o.2.2.2)) else none)) = some (q, 1, 6, 0, xsI st 20 p) := by
  unfold fM_bad
  rw [Option.bind_some, if_pos rfl]
  exact xmo_some (Nat.le_refl _) (Nat.le_refl _)
theorem saysb_w (hM : MS st vs cs ks ws) (h : PR base src st r) (hb : vs.length + 1 ≤ bV) (hn : bV < n) : match pw (wd 0) r with
    | .inl x => ∃ st' : xS, fM_saysb n st (i3 0) = some (1, 1, 6, 0, st') ∧ Bad base src st st' vs cs ks ws x
    | .inr r1 => ∃ (cc s : Nat) (st' : xS), fM_saysb n st (i3 0) = some (0, cc, s, vs.length + 1, st') ∧ MS st' (vs ++ [(0, 0, 0, 0, 1, 0)]) cs ks ws ∧ PR base src st' r1 ∧ Cost st st' cc s ∧ Fr1 st st' ∧ SK st st' := by
  rw [show wd 0 = [110, 117, 108, 108] from rfl]
  unfold fM_saysb
  rw [pw_step]
  by_cases c0 : r.head? = some 110
  · obtain ⟨r1, rfl⟩ := head_c c0
    rw [if_pos c0, h.peek, Option.bind_some, if_pos (show hv (110 :: r1) = 110 from rfl), List.tail_cons]
    have h1 : PR base src (xsI st 16 (xsi st 16 + 1)) r1 := h.next
    rw [pw_step]
    by_cases c1 : r1.head? = some 117
    · obtain ⟨r2, rfl⟩ := head_c c1
      rw [if_pos c1, h1.peek, Option.bind_some, if_pos (show hv (117 :: r2) = 117 from rfl), List.tail_cons]
      have h2 : PR base src (xsI (xsI st 16 (xsi st 16 + 1)) 16 (xsi st 16 + 1 + 1)) r2 := h1.next
      rw [pw_step]
      by_cases c2 : r2.head? = some 108
      · obtain ⟨r3, rfl⟩ := head_c c2
        rw [if_pos c2, h2.peek, Option.bind_some, if_pos (show hv (108 :: r3) = 108 from rfl), List.tail_cons]
        have h3 : PR base src (xsI (xsI (xsI st 16 (xsi st 16 + 1)) 16 (xsi st 16 + 1 + 1)) 16 (xsi st 16 + 1 + 1 + 1)) r3 := h2.next
        rw [pw_step]
        by_cases c3 : r3.head? = some 108
        · obtain ⟨r4, rfl⟩ := head_c c3
          rw [if_pos c3, h3.peek, Option.bind_some, if_pos (show hv (108 :: r4) = 108 from rfl), List.tail_cons]
          have h4 : PR base src (xsI (xsI (xsI (xsI st 16 (xsi st 16 + 1)) 16 (xsi st 16 + 1 + 1)) 16 (xsi st 16 + 1 + 1 + 1)) 16 (xsi st 16 + 1 + 1 + 1 + 1)) r4 := h3.next
          rw [pw]
          obtain ⟨cc, s, st', e1, m1, m2, m3, m4⟩ := fresh_w (n := n) ((((hM.si (k := 16) (by decide) (by decide) (by decide) (by decide)).si (k := 16) (by decide) (by decide) (by decide) (by decide)).si (k := 16) (by decide) (by decide) (by decide) (by decide)).si (k := 16) (by decide) (by decide) (by decide) (by decide)) 0 hb hn
          refine ⟨cc, s, st', ?_, m1, h4.fr m3 m4, ⟨m2.1, m2.2⟩, (Fr1.at _).trans ((Fr1.at _).trans ((Fr1.at _).trans ((Fr1.at _).trans (Fr1.of m3)))), (SK.at (by decide)).trans ((SK.at (by decide)).trans ((SK.at (by decide)).trans ((SK.at (by decide)).trans (m4))))⟩
          refine (congrArg (fun x => Option.bind x _) e1).trans ?_
          rw [Option.bind_some]
          dsimp only
          rw [Nat.zero_add, Nat.zero_add]
          exact xmo_some (Nat.le_refl _) (Nat.le_refl _)
        · rw [if_neg c3, h3.peek, Option.bind_some, if_neg (show ¬ hv r3 = 108 from fun hh => c3 ((h3.hve (k := 108) (by omega)).mp hh))]
          exact ⟨_, bad_c, Bad.of (((hM.si (k := 16) (by decide) (by decide) (by decide) (by decide)).si (k := 16) (by decide) (by decide) (by decide) (by decide)).si (k := 16) (by decide) (by decide) (by decide) (by decide)) h3 rfl ((FrP.at _ (by decide)).trans ((FrP.at _ (by decide)).trans ((FrP.at _ (by decide)).trans (FrP.refl)))) rfl⟩
      · rw [if_neg c2, h2.peek, Option.bind_some, if_neg (show ¬ hv r2 = 108 from fun hh => c2 ((h2.hve (k := 108) (by omega)).mp hh))]
        exact ⟨_, bad_c, Bad.of ((hM.si (k := 16) (by decide) (by decide) (by decide) (by decide)).si (k := 16) (by decide) (by decide) (by decide) (by decide)) h2 rfl ((FrP.at _ (by decide)).trans ((FrP.at _ (by decide)).trans (FrP.refl))) rfl⟩
    · rw [if_neg c1, h1.peek, Option.bind_some, if_neg (show ¬ hv r1 = 117 from fun hh => c1 ((h1.hve (k := 117) (by omega)).mp hh))]
      exact ⟨_, bad_c, Bad.of (hM.si (k := 16) (by decide) (by decide) (by decide) (by decide)) h1 rfl ((FrP.at _ (by decide)).trans (FrP.refl)) rfl⟩
  · rw [if_neg c0, h.peek, Option.bind_some, if_neg (show ¬ hv r = 110 from fun hh => c0 ((h.hve (k := 110) (by omega)).mp hh))]
    exact ⟨_, bad_c, Bad.of hM h rfl (FrP.refl) rfl⟩
theorem says_w (hM : MS st vs cs ks ws) (h : PR base src st r) (hb : vs.length + 1 ≤ bV) (hn : bV < n) : match pw (wd 1) r with
    | .inl x => ∃ st' : xS, fM_says n st (i3 1) = some (1, 1, 6, 0, st') ∧ Bad base src st st' vs cs ks ws x
    | .inr r1 => ∃ (cc s : Nat) (st' : xS), fM_says n st (i3 1) = some (0, cc, s, vs.length + 1, st') ∧ MS st' (vs ++ [(1, 0, 0, 0, 1, 0)]) cs ks ws ∧ PR base src st' r1 ∧ Cost st st' cc s ∧ Fr1 st st' ∧ SK st st' := by
  rw [show wd 1 = [102, 97, 108, 115, 101] from rfl]
  unfold fM_says
  rw [pw_step]
  by_cases c0 : r.head? = some 102
  · obtain ⟨r1, rfl⟩ := head_c c0
    rw [if_pos c0, h.peek, Option.bind_some, if_pos (show hv (102 :: r1) = 102 from rfl), List.tail_cons]
    have h1 : PR base src (xsI st 16 (xsi st 16 + 1)) r1 := h.next
    rw [pw_step]
    by_cases c1 : r1.head? = some 97
    · obtain ⟨r2, rfl⟩ := head_c c1
      rw [if_pos c1, h1.peek, Option.bind_some, if_pos (show hv (97 :: r2) = 97 from rfl), List.tail_cons]
      have h2 : PR base src (xsI (xsI st 16 (xsi st 16 + 1)) 16 (xsi st 16 + 1 + 1)) r2 := h1.next
      rw [pw_step]
      by_cases c2 : r2.head? = some 108
      · obtain ⟨r3, rfl⟩ := head_c c2
        rw [if_pos c2, h2.peek, Option.bind_some, if_pos (show hv (108 :: r3) = 108 from rfl), List.tail_cons]
        have h3 : PR base src (xsI (xsI (xsI st 16 (xsi st 16 + 1)) 16 (xsi st 16 + 1 + 1)) 16 (xsi st 16 + 1 + 1 + 1)) r3 := h2.next
        rw [pw_step]
        by_cases c3 : r3.head? = some 115
        · obtain ⟨r4, rfl⟩ := head_c c3
          rw [if_pos c3, h3.peek, Option.bind_some, if_pos (show hv (115 :: r4) = 115 from rfl), List.tail_cons]
          have h4 : PR base src (xsI (xsI (xsI (xsI st 16 (xsi st 16 + 1)) 16 (xsi st 16 + 1 + 1)) 16 (xsi st 16 + 1 + 1 + 1)) 16 (xsi st 16 + 1 + 1 + 1 + 1)) r4 := h3.next
          rw [pw_step]
          by_cases c4 : r4.head? = some 101
          · obtain ⟨r5, rfl⟩ := head_c c4
            rw [if_pos c4, h4.peek, Option.bind_some, if_pos (show hv (101 :: r5) = 101 from rfl), List.tail_cons]
            have h5 : PR base src (xsI (xsI (xsI (xsI (xsI st 16 (xsi st 16 + 1)) 16 (xsi st 16 + 1 + 1)) 16 (xsi st 16 + 1 + 1 + 1)) 16 (xsi st 16 + 1 + 1 + 1 + 1)) 16 (xsi st 16 + 1 + 1 + 1 + 1 + 1)) r5 := h4.next
            rw [pw]
            obtain ⟨cc, s, st', e1, m1, m2, m3, m4⟩ := fresh_w (n := n) (((((hM.si (k := 16) (by decide) (by decide) (by decide) (by decide)).si (k := 16) (by decide) (by decide) (by decide) (by decide)).si (k := 16) (by decide) (by decide) (by decide) (by decide)).si (k := 16) (by decide) (by decide) (by decide) (by decide)).si (k := 16) (by decide) (by decide) (by decide) (by decide)) 1 hb hn
            refine ⟨cc, s, st', ?_, m1, h5.fr m3 m4, ⟨m2.1, m2.2⟩, (Fr1.at _).trans ((Fr1.at _).trans ((Fr1.at _).trans ((Fr1.at _).trans ((Fr1.at _).trans (Fr1.of m3))))), (SK.at (by decide)).trans ((SK.at (by decide)).trans ((SK.at (by decide)).trans ((SK.at (by decide)).trans ((SK.at (by decide)).trans (m4)))))⟩
            refine (congrArg (fun x => Option.bind x _) e1).trans ?_
            rw [Option.bind_some]
            dsimp only
            rw [Nat.zero_add, Nat.zero_add]
            exact xmo_some (Nat.le_refl _) (Nat.le_refl _)
          · rw [if_neg c4, h4.peek, Option.bind_some, if_neg (show ¬ hv r4 = 101 from fun hh => c4 ((h4.hve (k := 101) (by omega)).mp hh))]
            exact ⟨_, bad_c, Bad.of ((((hM.si (k := 16) (by decide) (by decide) (by decide) (by decide)).si (k := 16) (by decide) (by decide) (by decide) (by decide)).si (k := 16) (by decide) (by decide) (by decide) (by decide)).si (k := 16) (by decide) (by decide) (by decide) (by decide)) h4 rfl ((FrP.at _ (by decide)).trans ((FrP.at _ (by decide)).trans ((FrP.at _ (by decide)).trans ((FrP.at _ (by decide)).trans (FrP.refl))))) rfl⟩
        · rw [if_neg c3, h3.peek, Option.bind_some, if_neg (show ¬ hv r3 = 115 from fun hh => c3 ((h3.hve (k := 115) (by omega)).mp hh))]
          exact ⟨_, bad_c, Bad.of (((hM.si (k := 16) (by decide) (by decide) (by decide) (by decide)).si (k := 16) (by decide) (by decide) (by decide) (by decide)).si (k := 16) (by decide) (by decide) (by decide) (by decide)) h3 rfl ((FrP.at _ (by decide)).trans ((FrP.at _ (by decide)).trans ((FrP.at _ (by decide)).trans (FrP.refl)))) rfl⟩
      · rw [if_neg c2, h2.peek, Option.bind_some, if_neg (show ¬ hv r2 = 108 from fun hh => c2 ((h2.hve (k := 108) (by omega)).mp hh))]
        exact ⟨_, bad_c, Bad.of ((hM.si (k := 16) (by decide) (by decide) (by decide) (by decide)).si (k := 16) (by decide) (by decide) (by decide) (by decide)) h2 rfl ((FrP.at _ (by decide)).trans ((FrP.at _ (by decide)).trans (FrP.refl))) rfl⟩
    · rw [if_neg c1, h1.peek, Option.bind_some, if_neg (show ¬ hv r1 = 97 from fun hh => c1 ((h1.hve (k := 97) (by omega)).mp hh))]
      exact ⟨_, bad_c, Bad.of (hM.si (k := 16) (by decide) (by decide) (by decide) (by decide)) h1 rfl ((FrP.at _ (by decide)).trans (FrP.refl)) rfl⟩
  · rw [if_neg c0, h.peek, Option.bind_some, if_neg (show ¬ hv r = 102 from fun hh => c0 ((h.hve (k := 102) (by omega)).mp hh))]
    exact ⟨_, bad_c, Bad.of hM h rfl (FrP.refl) rfl⟩
theorem saysa_w (hM : MS st vs cs ks ws) (h : PR base src st r) (hb : vs.length + 1 ≤ bV) (hn : bV < n) : match pw (wd 2) r with
    | .inl x => ∃ st' : xS, fM_saysa n st (i3 2) = some (1, 1, 6, 0, st') ∧ Bad base src st st' vs cs ks ws x
    | .inr r1 => ∃ (cc s : Nat) (st' : xS), fM_saysa n st (i3 2) = some (0, cc, s, vs.length + 1, st') ∧ MS st' (vs ++ [(2, 0, 0, 0, 1, 0)]) cs ks ws ∧ PR base src st' r1 ∧ Cost st st' cc s ∧ Fr1 st st' ∧ SK st st' := by
  rw [show wd 2 = [116, 114, 117, 101] from rfl]
  unfold fM_saysa
  rw [pw_step]
  by_cases c0 : r.head? = some 116
  · obtain ⟨r1, rfl⟩ := head_c c0
    rw [if_pos c0, h.peek, Option.bind_some, if_pos (show hv (116 :: r1) = 116 from rfl), List.tail_cons]
    have h1 : PR base src (xsI st 16 (xsi st 16 + 1)) r1 := h.next
    rw [pw_step]
    by_cases c1 : r1.head? = some 114
    · obtain ⟨r2, rfl⟩ := head_c c1
      rw [if_pos c1, h1.peek, Option.bind_some, if_pos (show hv (114 :: r2) = 114 from rfl), List.tail_cons]
      have h2 : PR base src (xsI (xsI st 16 (xsi st 16 + 1)) 16 (xsi st 16 + 1 + 1)) r2 := h1.next
      rw [pw_step]
      by_cases c2 : r2.head? = some 117
      · obtain ⟨r3, rfl⟩ := head_c c2
        rw [if_pos c2, h2.peek, Option.bind_some, if_pos (show hv (117 :: r3) = 117 from rfl), List.tail_cons]
        have h3 : PR base src (xsI (xsI (xsI st 16 (xsi st 16 + 1)) 16 (xsi st 16 + 1 + 1)) 16 (xsi st 16 + 1 + 1 + 1)) r3 := h2.next
        rw [pw_step]
        by_cases c3 : r3.head? = some 101
        · obtain ⟨r4, rfl⟩ := head_c c3
          rw [if_pos c3, h3.peek, Option.bind_some, if_pos (show hv (101 :: r4) = 101 from rfl), List.tail_cons]
          have h4 : PR base src (xsI (xsI (xsI (xsI st 16 (xsi st 16 + 1)) 16 (xsi st 16 + 1 + 1)) 16 (xsi st 16 + 1 + 1 + 1)) 16 (xsi st 16 + 1 + 1 + 1 + 1)) r4 := h3.next
          rw [pw]
          obtain ⟨cc, s, st', e1, m1, m2, m3, m4⟩ := fresh_w (n := n) ((((hM.si (k := 16) (by decide) (by decide) (by decide) (by decide)).si (k := 16) (by decide) (by decide) (by decide) (by decide)).si (k := 16) (by decide) (by decide) (by decide) (by decide)).si (k := 16) (by decide) (by decide) (by decide) (by decide)) 2 hb hn
          refine ⟨cc, s, st', ?_, m1, h4.fr m3 m4, ⟨m2.1, m2.2⟩, (Fr1.at _).trans ((Fr1.at _).trans ((Fr1.at _).trans ((Fr1.at _).trans (Fr1.of m3)))), (SK.at (by decide)).trans ((SK.at (by decide)).trans ((SK.at (by decide)).trans ((SK.at (by decide)).trans (m4))))⟩
          refine (congrArg (fun x => Option.bind x _) e1).trans ?_
          rw [Option.bind_some]
          dsimp only
          rw [Nat.zero_add, Nat.zero_add]
          exact xmo_some (Nat.le_refl _) (Nat.le_refl _)
        · rw [if_neg c3, h3.peek, Option.bind_some, if_neg (show ¬ hv r3 = 101 from fun hh => c3 ((h3.hve (k := 101) (by omega)).mp hh))]
          exact ⟨_, bad_c, Bad.of (((hM.si (k := 16) (by decide) (by decide) (by decide) (by decide)).si (k := 16) (by decide) (by decide) (by decide) (by decide)).si (k := 16) (by decide) (by decide) (by decide) (by decide)) h3 rfl ((FrP.at _ (by decide)).trans ((FrP.at _ (by decide)).trans ((FrP.at _ (by decide)).trans (FrP.refl)))) rfl⟩
      · rw [if_neg c2, h2.peek, Option.bind_some, if_neg (show ¬ hv r2 = 117 from fun hh => c2 ((h2.hve (k := 117) (by omega)).mp hh))]
        exact ⟨_, bad_c, Bad.of ((hM.si (k := 16) (by decide) (by decide) (by decide) (by decide)).si (k := 16) (by decide) (by decide) (by decide) (by decide)) h2 rfl ((FrP.at _ (by decide)).trans ((FrP.at _ (by decide)).trans (FrP.refl))) rfl⟩
    · rw [if_neg c1, h1.peek, Option.bind_some, if_neg (show ¬ hv r1 = 114 from fun hh => c1 ((h1.hve (k := 114) (by omega)).mp hh))]
      exact ⟨_, bad_c, Bad.of (hM.si (k := 16) (by decide) (by decide) (by decide) (by decide)) h1 rfl ((FrP.at _ (by decide)).trans (FrP.refl)) rfl⟩
  · rw [if_neg c0, h.peek, Option.bind_some, if_neg (show ¬ hv r = 116 from fun hh => c0 ((h.hve (k := 116) (by omega)).mp hh))]
    exact ⟨_, bad_c, Bad.of hM h rfl (FrP.refl) rfl⟩
end RF
end ZReff52
section ZRefg53
/-! ===== the reference's reader: numbers ===== -/
section RG
variable {base : Nat} {src : List Nat} {vs : List VR} {cs : List Nat} {ks ws : List NP}
theorem Bad.of2 {st0 st : xS} {x : List Nat} (hM : MS st vs cs ks ws) (hf : FrP st0 st) (hp : pt st0 ≤ pt st) (h19 : xsi st 19 = xsi st0 19) : Bad base src st0 (xsI st 20 (rp base src x)) vs cs ks ws x := ⟨⟨vs, cs, ks, ws, hM.si (by decide) (by decide) (by decide) (by decide)⟩, (show va_up st.1 20 (rp base src x) 20 = _ from up_eq), hf.trans (FrP.at _ (by decide)), hp, (show va_up st.1 20 (rp base src x) 19 = _ from (up_ne (by decide)).trans h19)⟩
theorem digitM {base : Nat} {src r : List Nat} {st : xS} {n : Nat} (h : PR base src st r) : fM_digit n (hv r) = some (if hD r then 1 else 0) := by
  unfold fM_digit
  cases r with
  | nil => rfl
  | cons c r =>
    have hc : c < 256 := h.1.1 c (h.2.1.subset (List.mem_cons_self ..))
    have c1 : (hv (c :: r) < 48) = (c < 48) := i3_lt (a := c) (b := 48) (by omega) (by omega)
    have c2 : ((57 : Int32) < hv (c :: r)) = (57 < c) := i3_lt (a := 57) (b := c) (by omega) (by omega)
    show _ = some (if isD c then 1 else 0)
    unfold isD
    by_cases h1 : c < 48
    · rw [if_pos (by rw [c1]; exact h1), if_neg (by simp; omega)]
    · rw [if_neg (by rw [c1]; exact h1)]
      by_cases h2 : 57 < c
      · rw [if_pos (by rw [c2]; exact h2), if_neg (by simp; omega)]
      · rw [if_neg (by rw [c2]; exact h2), if_pos (by simp; omega)]
/-- what a number gives -/
def NumO (base : Nat) (src : List Nat) (st : xS) (vs : List VR) (cs : List Nat) (ks ws : List NP) (out : Option (Nat × Nat × Nat × Nat × xS)) (res : List Nat ⊕ (Int × List Nat)) : Prop := match res with
  | .inl x => ∃ st' : xS, out = some (2, 1, 6, 0, st') ∧ Bad base src st st' vs cs ks ws x
  | .inr (z, r1) => ∃ (cc s : Nat) (st' : xS), out = some (0, cc, s, vs.length + 1, st') ∧ MS st' (vs ++ [(3, 0, 0, 0, 1, z)]) cs ks ws ∧ PR base src st' r1 ∧ Cost st st' cc s ∧ Fr1 st st' ∧ SK st st'
theorem numEnd {st st0 : xS} {n : Nat} {r : List Nat} {z : Int} (hz : -9007199254740991 ≤ z ∧ z ≤ 9007199254740991) (hM : MS st vs cs ks ws) (h : PR base src st r) (hb : vs.length + 1 ≤ bV) (hn : bV < n) (hf : Fr1 st0 st) (hs : SK st0 st) (hp : pt st0 = pt st) : NumO base src st0 vs cs ks ws ((fM_number n st (cW z)).bind fun o7 => ((if o7.1 = 0 then xmo (fun a => a.2.1) (fun a => a.2.2.1) (0 + o7.2.1) (0 + o7.2.2.1) (some (0, (0 + o7.2.1), (0 + o7.2.2.1), o7.2.2.2.1, o7.2.2.2.2)) else (if o7.1 = 1 then xmo (fun a => a.2.1) (fun a => a.2.2.1) (0 + o7.2.1) (0 + o7.2.2.1) (some (1, (0 + o7.2.1), (0 + o7.2.2.1), 0, o7.2.2.2.2)) else none)))) (.inr (z, r)) := by
  obtain ⟨cc, s, st', e1, m1, m2, m3, m4⟩ := (numM_w (n := n) hM (z := z) (by omega) (by omega) hb hn).1 hz
  refine ⟨cc, s, st', ?_, m1, h.fr m3 m4, ⟨m2.1, by have := m2.2; omega⟩, hf.trans (Fr1.of m3), hs.trans m4⟩
  rw [e1, Option.bind_some, if_pos rfl, Nat.zero_add, Nat.zero_add]
  exact xmo_some (Nat.le_refl _) (Nat.le_refl _)
theorem jn_stop {st0 : xS} {start : List Nat} {sgn : Int} {y2 : Int32} (hy : (y2 = 0 ∧ sgn = 1) ∨ (y2 = 1 ∧ sgn = -1)) (hb : vs.length + 1 ≤ bV) {r : List Nat} {n y v : Nat} {st : xS} (h : PR base src st r) (hM : MS st vs cs ks ws) (hyl : y ≤ 100000000000000000) (hyv : y = v ∨ (9007199254740991 < y ∧ 9007199254740991 < v)) (hn : bV < n) (hf : Fr1 st0 st) (hs : SK st0 st) (hp : pt st0 = pt st) (hd : hD r = false) : NumO base src st0 vs cs ks ws (fM_jsonNumber_b (n + 1) 1 (cW (y : Nat)) y2 (rp base src start) st 0 0) (if 9007199254740991 < v then .inl start else .inr (sgn * (v : Int), r)) := by
  have hc : (lg_cmp (cW (y : Nat)) 9007199254740991 ≤ 0) = (y ≤ 9007199254740991) := by
    rw [show (9007199254740991 : Int64) = cW 9007199254740991 from rfl, lg_cW (by omega) (by omega) (by omega) (by omega), izs_le0]
    exact propext (by omega)
  have key : NumO base src st0 vs cs ks ws (if (lg_cmp (cW (y : Nat)) 9007199254740991) ≤ 0 then (if y2 = 0 then (fM_number n st (cW (y : Nat))).bind fun o7 => ((if o7.1 = 0 then xmo (fun a => a.2.1) (fun a => a.2.2.1) (0 + o7.2.1) (0 + o7.2.2.1) (some (0, (0 + o7.2.1), (0 + o7.2.2.1), o7.2.2.2.1, o7.2.2.2.2)) else (if o7.1 = 1 then xmo (fun a => a.2.1) (fun a => a.2.2.1) (0 + o7.2.1) (0 + o7.2.2.1) (some (1, (0 + o7.2.1), (0 + o7.2.2.1), 0, o7.2.2.2.2)) else none))) else (fM_number n st (-(cW (y : Nat)))).bind fun o7 => ((if o7.1 = 0 then xmo (fun a => a.2.1) (fun a => a.2.2.1) (0 + o7.2.1) (0 + o7.2.2.1) (some (0, (0 + o7.2.1), (0 + o7.2.2.1), o7.2.2.2.1, o7.2.2.2.2)) else (if o7.1 = 1 then xmo (fun a => a.2.1) (fun a => a.2.2.1) (0 + o7.2.1) (0 + o7.2.2.1) (some (1, (0 + o7.2.1), (0 + o7.2.2.1), 0, o7.2.2.2.2)) else none)))) else (fM_bad n st (rp base src start)).bind fun o7 => ((if o7.1 = 1 then xmo (fun a => a.2.1) (fun a => a.2.2.1) (0 + o7.2.1) (0 + o7.2.2.1) (some (2, (0 + o7.2.1), (0 + o7.2.2.1), 0, o7.2.2.2)) else none))) (if 9007199254740991 < v then .inl start else .inr (sgn * (v : Int), r)) := by
    by_cases hg : 9007199254740991 < v
    · rw [if_neg (by rw [hc]; omega), if_pos hg, bad_c]
      exact ⟨_, rfl, Bad.of2 hM hf.p (Nat.le_of_eq hp) (hf.1 19 (by decide) (by decide) (by decide) (by decide) (by decide))⟩
    · have hyv' : y = v := by omega
      subst hyv'
      rw [if_pos (by rw [hc]; omega), if_neg hg]
      rcases hy with ⟨rfl, rfl⟩ | ⟨rfl, rfl⟩
      · rw [if_pos rfl, Int.one_mul]
        exact numEnd (by omega) hM h hb hn hf hs hp
      · rw [if_neg (by decide), cW_neg, show (-1 : Int) * (y : Int) = -(y : Int) by omega]
        exact numEnd (by omega) hM h hb hn hf hs hp
  rw [fM_jsonNumber_b, h.peek, Option.bind_some, digitM h, Option.bind_some, hd, if_pos (by decide)]
  rw [xmo_id (fun a _ => ⟨Nat.zero_le _, Nat.zero_le _⟩)]
  exact key
theorem jn_loop {st0 : xS} {start : List Nat} {sgn : Int} {y2 : Int32} (hy : (y2 = 0 ∧ sgn = 1) ∨ (y2 = 1 ∧ sgn = -1)) (hb : vs.length + 1 ≤ bV) : ∀ (r : List Nat) (n y v : Nat) (st : xS), PR base src st r → MS st vs cs ks ws → y ≤ 100000000000000000 → (y = v ∨ (9007199254740991 < y ∧ 9007199254740991 < v)) → bV + 1 + r.length < n → Fr1 st0 st → SK st0 st → pt st0 = pt st → NumO base src st0 vs cs ks ws (fM_jsonNumber_b n 1 (cW (y : Nat)) y2 (rp base src start) st 0 0) (if 9007199254740991 < (dv v r).1 then .inl start else .inr (sgn * ((dv v r).1 : Int), (dv v r).2)) := by
  intro r
  induction r with
  | nil =>
    intro n y v st h hM hyl hyv hn hf hs hp
    obtain ⟨n, rfl⟩ : ∃ j, n = j + 1 := ⟨n - 1, by omega⟩
    exact jn_stop hy hb h hM hyl hyv (by omega) hf hs hp rfl
  | cons c r ih =>
    intro n y v st h hM hyl hyv hn hf hs hp
    obtain ⟨n, rfl⟩ : ∃ j, n = j + 1 := ⟨n - 1, by omega⟩
    rw [List.length_cons] at hn
    by_cases hd : isD c = true
    · have hd' := hd
      unfold isD at hd'
      simp only [Bool.and_eq_true, decide_eq_true_eq] at hd'
      have e1 : (10 : Int64) * cW (y : Nat) + (hv (c :: r)).toInt64 - 48 = cW ((10 * y + (c - 48) : Nat) : Int) := by
        rw [hv_c, i3_64 (by omega), show (10 : Int64) = cW 10 from rfl, cW_mul, cW_add, show (48 : Int64) = cW 48 from rfl, cW_sub]
        congr 1
        omega
      have e2 : (if (100000000000000000 : Int64) < cW ((10 * y + (c - 48) : Nat) : Int) then (100000000000000000 : Int64) else cW ((10 * y + (c - 48) : Nat) : Int)) = cW ((min (10 * y + (c - 48)) 100000000000000000 : Nat) : Int) := by
        have hlt : ((100000000000000000 : Int64) < cW ((10 * y + (c - 48) : Nat) : Int)) = (100000000000000000 < 10 * y + (c - 48)) := by
          rw [show (100000000000000000 : Int64) = cW 100000000000000000 from rfl, cW_lt (by omega) (by omega) (by omega) (by omega)]
          exact propext (by omega)
        by_cases hh : 100000000000000000 < 10 * y + (c - 48)
        · rw [if_pos (hlt ▸ hh), Nat.min_eq_right (by omega)]
          rfl
        · rw [if_neg (hlt ▸ hh), Nat.min_eq_left (by omega)]
      rw [fM_jsonNumber_b, h.peek, Option.bind_some, digitM h, Option.bind_some, show hD (c :: r) = true from hd, if_pos rfl, if_neg (by decide), Option.bind_some, e1, e2, dv, if_pos hd]
      rw [xmo_id (fun a _ => ⟨Nat.zero_le _, Nat.zero_le _⟩)]
      exact ih n (min (10 * y + (c - 48)) 100000000000000000) (10 * v + (c - 48)) _ h.next (hM.si (by decide) (by decide) (by decide) (by decide)) (by omega) (by omega) (by omega) (hf.trans (Fr1.at _)) (hs.trans (SK.at (by decide))) hp
    · have hd' : isD c = false := by simpa using hd
      rw [dv, if_neg hd]
      exact jn_stop hy hb h hM hyl hyv (by omega) hf hs hp hd'
theorem numberM_w {st : xS} {n : Nat} {r : List Nat} (hM : MS st vs cs ks ws) (h : PR base src st r) (hb : vs.length + 1 ≤ bV) (hn : 2000000 < n) : NumO base src st vs cs ks ws (fM_jsonNumber n st) (pN r) := by
  have hbv : bV = 32000 := rfl
  have hl := h.2.1.length_le
  have hsz := h.1.2.2.2
  have body : ∀ (st1 : xS) (r1 : List Nat) (sgn : Int) (y2 : Int32), ((y2 = 0 ∧ sgn = 1) ∨ (y2 = 1 ∧ sgn = -1)) → PR base src st1 r1 → MS st1 vs cs ks ws → Fr1 st st1 → SK st st1 → pt st = pt st1 → xsi st1 19 = xsi st 19 → NumO base src st vs cs ks ws ((fM_peek n st1).bind fun o4 => ((fM_digit n o4).bind fun o7 => ((if o7 = 0 then (fM_bad n st1 (rp base src r1)).bind fun o10 => ((if o10.1 = 1 then xmo (fun a => a.2.1) (fun a => a.2.2.1) (0 + o10.2.1) (0 + o10.2.2.1) (some (2, (0 + o10.2.1), (0 + o10.2.2.1), 0, o10.2.2.2)) else none)) else (fM_peek n st1).bind fun o10 => ((if o10 = 48 then (if (lg_cmp 0 9007199254740991) ≤ 0 then (fM_number n (xsI st1 16 (rp base src r1 + 1)) 0).bind fun o13 => ((if o13.1 = 0 then xmo (fun a => a.2.1) (fun a => a.2.2.1) (0 + o13.2.1) (0 + o13.2.2.1) (some (0, (0 + o13.2.1), (0 + o13.2.2.1), o13.2.2.2.1, o13.2.2.2.2)) else (if o13.1 = 1 then xmo (fun a => a.2.1) (fun a => a.2.2.1) (0 + o13.2.1) (0 + o13.2.2.1) (some (1, (0 + o13.2.1), (0 + o13.2.2.1), 0, o13.2.2.2.2)) else none))) else (fM_bad n (xsI st1 16 (rp base src r1 + 1)) (rp base src r)).bind fun o13 => ((if o13.1 = 1 then xmo (fun a => a.2.1) (fun a => a.2.2.1) (0 + o13.2.1) (0 + o13.2.2.1) (some (2, (0 + o13.2.1), (0 + o13.2.2.1), 0, o13.2.2.2)) else none))) else fM_jsonNumber_b n 1 0 y2 (rp base src r) st1 0 0)))))) (pNd r r1 sgn) := by
    intro st1 r1 sgn y2 hy h1 hM1 hf hs hp h19
    have hl1 := h1.2.1.length_le
    rw [h1.peek, Option.bind_some, digitM h1, Option.bind_some, Option.bind_some]
    cases r1 with
    | nil =>
      rw [show hD [] = false from rfl, if_pos (by decide), bad_c]
      exact ⟨_, rfl, Bad.of2 hM1 hf.p (Nat.le_of_eq hp) h19⟩
    | cons c r1 =>
      by_cases hd : isD c = true
      · have hd' := hd
        unfold isD at hd'
        simp only [Bool.and_eq_true, decide_eq_true_eq] at hd'
        rw [show hD (c :: r1) = true from hd, if_pos rfl, if_neg (by decide), pNd, pD, if_pos hd]
        have c48 : (hv (c :: r1) = 48) = (c = 48) := i3_eq (a := c) (b := 48) (by omega) (by omega)
        by_cases h48 : c = 48
        · rw [if_pos (by rw [c48]; exact h48), if_pos (by decide), if_pos h48]
          dsimp only
          rw [if_neg (by omega)]
          have hnx := h1.next
          rw [h1.2.2] at hnx
          have := numEnd (st0 := st) (z := sgn * ((0 : Nat) : Int)) (n := n) (by rw [show sgn * ((0 : Nat) : Int) = 0 by simp]; omega) (hM1.si (k := 16) (v := rp base src (c :: r1) + 1) (by decide) (by decide) (by decide) (by decide)) hnx hb (by omega) (hf.trans (Fr1.at _)) (hs.trans (SK.at (by decide))) hp
          rw [show cW (sgn * ((0 : Nat) : Int)) = 0 by rw [show sgn * ((0 : Nat) : Int) = 0 by simp]; rfl] at this
          exact this
        · rw [if_neg (by rw [c48]; exact h48), if_neg h48]
          dsimp only
          have := jn_loop (start := r) hy hb (c :: r1) n 0 0 st1 h1 hM1 (by omega) (Or.inl rfl) (by omega) hf hs hp
          rw [dv, if_pos hd, show 10 * 0 + (c - 48) = c - 48 by omega] at this
          exact this
      · have hd' : isD c = false := by simpa using hd
        rw [show hD (c :: r1) = false from hd', if_pos (by decide), bad_c, pNd, pD, if_neg hd]
        exact ⟨_, rfl, Bad.of2 hM1 hf.p (Nat.le_of_eq hp) h19⟩
  unfold fM_jsonNumber pN
  rw [h.peek, Option.bind_some]
  by_cases h45 : r.head? = some 45
  · obtain ⟨r1, rfl⟩ := head_c h45
    rw [if_pos (show hv (45 :: r1) = 45 from rfl), if_pos h45, List.tail_cons]
    have hnx := h.next
    have := body _ r1 (-1) 1 (Or.inr ⟨rfl, rfl⟩) hnx (hM.si (by decide) (by decide) (by decide) (by decide)) (Fr1.at _) (SK.at (by decide)) rfl rfl
    rw [← rp_s h.2.1, ← h.2.2] at this
    exact this
  · rw [if_neg (show ¬ hv r = 45 from fun hh => h45 ((h.hve (k := 45) (by omega)).mp hh)), if_neg h45]
    have := body st r 1 0 (Or.inl ⟨rfl, rfl⟩) h hM Fr1.refl SK.refl rfl rfl
    rw [← h.2.2, h.peek] at this
    exact this
end RG
end ZRefg53
section ZRefh54
/-! ===== the reference's reader: strings ===== -/
theorem hexM0 : ∀ c, c < 256 → fM_hex 0 (i3 c) = some (om (hexv c)) := by decide +kernel
theorem hexM {base : Nat} {src r : List Nat} {st : xS} {n : Nat} (h : PR base src st r) : fM_hex n (hv r) = some (om (hd1 hexv r)) := by
  cases r with
  | nil => rfl
  | cons c r =>
    have hc : c < 256 := h.1.1 c (h.2.1.subset (List.mem_cons_self ..))
    exact hexM0 c hc
section RH
variable {base : Nat} {src : List Nat} {vs : List VR} {cs : List Nat} {ks ws : List NP}
theorem Bad.tr {st st1 st' : xS} {x : List Nat} {cs' : List Nat} (h : Bad base src st1 st' vs cs' ks ws x) (hf : Fr1 st st1) (hp : pt st ≤ pt st1) : Bad base src st st' vs cs ks ws x := ⟨h.1, h.2.1, hf.p.trans h.2.2.1, Nat.le_trans hp h.2.2.2.1, h.2.2.2.2.trans (hf.1 19 (by decide) (by decide) (by decide) (by decide) (by decide))⟩
/-- what an escaped character gives -/
def EscO (base : Nat) (src : List Nat) (st : xS) (wc wn : Nat) (vs : List VR) (cs : List Nat) (ks ws : List NP) (out : Option (Nat × Nat × Nat × xS)) (res : List Nat ⊕ (Nat × List Nat)) : Prop := match res with
  | .inl x => ∃ st' : xS, out = some (1, wc + 1, wn + 6, st') ∧ Bad base src st st' vs cs ks ws x
  | .inr (v, r1) => ∃ (cc k : Nat) (st' : xS), out = some (0, wc + cc, wn + k, st') ∧ MS st' vs (cs ++ [v]) ks ws ∧ PR base src st' r1 ∧ Cost st st' cc k ∧ Fr1 st st' ∧ SK st st'
theorem bad_e {st : xS} {n q wc wn : Nat} {p : Int32} : ((fM_bad n st p).bind fun o => (if o.1 = 1 then xmo (fun a : Nat × Nat × Nat × xS => a.2.1) (fun a => a.2.2.1) (wc + o.2.1) (wn + o.2.2.1) (some (q, (wc + o.2.1), (wn + o.2.2.1), o.2.2.2)) else none)) = some (q, wc + 1, wn + 6, xsI st 20 p) := by
  unfold fM_bad
  rw [Option.bind_some, if_pos rfl]
  exact xmo_some (Nat.le_refl _) (Nat.le_refl _)
theorem bad_5 {st : xS} {n q wc wn : Nat} {p : Int32} : ((fM_bad n st p).bind fun o => (if o.1 = 1 then xmo (fun a : Nat × Nat × Nat × Nat × xS => a.2.1) (fun a => a.2.2.1) (wc + o.2.1) (wn + o.2.2.1) (some (q, (wc + o.2.1), (wn + o.2.2.1), 0, o.2.2.2)) else none)) = some (q, wc + 1, wn + 6, 0, xsI st 20 p) := by
  unfold fM_bad
  rw [Option.bind_some, if_pos rfl]
  exact xmo_some (Nat.le_refl _) (Nat.le_refl _)
/-- a character is put, and the reader stands before r -/
theorem let_e {st st0 : xS} {n wc wn c : Nat} {r : List Nat} (hc : c < 128) (hM : MS st vs cs ks ws) (h : PR base src st r) (hb : cs.length + 1 ≤ bC) (hn : bC < n) (hf : Fr1 st0 st) (hs : SK st0 st) (hp : pt st0 = pt st) : EscO base src st0 wc wn vs cs ks ws ((fM_letter n st (i3 c)).bind fun o5 => (xmo (fun a => a.2.1) (fun a => a.2.2.1) (wc + o5.1) (wn + o5.2.1) (some (0, (wc + o5.1), (wn + o5.2.1), o5.2.2)))) (.inr (c, r)) := by
  obtain ⟨cc, k, st', e1, m1, m2, m3, m4⟩ := letter_w (n := n) hM hc hb hn
  refine ⟨cc, k, st', ?_, m1, h.fr m3 m4, ⟨m2.1, by have := m2.2; omega⟩, hf.trans (Fr1.of m3), hs.trans m4⟩
  rw [e1, Option.bind_some]
  exact xmo_some (Nat.le_refl _) (Nat.le_refl _)
theorem hexL {st0 : xS} {start : List Nat} {y2 : Int32} (hb : cs.length + 1 ≤ bC) : ∀ (m n v : Nat) (r : List Nat) (st : xS), m ≤ 4 → v < 65536 → (m = 4 → v = 0) → (m < 4 → v < 16 ^ (4 - m)) → PR base src st r → MS st vs cs ks ws → bC + 1 + m < n → Fr1 st0 st → SK st0 st → pt st0 = pt st → EscO base src st0 0 0 vs cs ks ws (fM_escaped_b n 1 (i3 (4 - m)) (i3 v) y2 (rp base src start) st 0 0) (hex4 start m v r) := by
  intro m
  induction m with
  | zero =>
    intro n v r st hm hv hv0 hv1 h hM hn hf hs hp
    obtain ⟨n, rfl⟩ : ∃ j, n = j + 1 := ⟨n - 1, by omega⟩
    rw [fM_escaped_b, if_pos (by decide), hex4, xmo_id (fun a _ => ⟨Nat.zero_le _, Nat.zero_le _⟩)]
    have hc : (i3 v ≤ 127) = (v ≤ 127) := i3_le (a := v) (b := 127) (by omega) (by omega)
    by_cases h1 : 127 < v
    · rw [if_neg (by rw [hc]; omega), if_pos h1, bad_e]
      exact ⟨_, rfl, Bad.of2 hM hf.p (Nat.le_of_eq hp) (hf.1 19 (by decide) (by decide) (by decide) (by decide) (by decide))⟩
    · rw [if_pos (by rw [hc]; omega), if_neg h1]
      exact let_e (by omega) hM h hb (by omega) hf hs hp
  | succ m ih =>
    intro n v r st hm hv hv0 hv1 h hM hn hf hs hp
    obtain ⟨n, rfl⟩ : ∃ j, n = j + 1 := ⟨n - 1, by omega⟩
    rw [fM_escaped_b, if_neg (by rw [show (4 : Int32) = i3 4 from rfl, i3_le (by omega) (by omega)]; omega), h.peek, Option.bind_some, hexM h, Option.bind_some, Option.bind_some, xmo_id (fun a _ => ⟨Nat.zero_le _, Nat.zero_le _⟩)]
    have bad : ∀ x, x = r → EscO base src st0 0 0 vs cs ks ws (some (1, 0 + 1, 0 + 6, xsI st 20 (xsi st 16))) (.inl x) := fun x hx => by
      subst hx
      rw [h.2.2]
      exact ⟨_, rfl, Bad.of2 hM hf.p (Nat.le_of_eq hp) (hf.1 19 (by decide) (by decide) (by decide) (by decide) (by decide))⟩
    cases r with
    | nil =>
      rw [if_neg (by decide), bad_e]
      exact bad [] rfl
    | cons c r =>
      rw [hex4]
      show EscO base src st0 0 0 vs cs ks ws (if 0 ≤ om (hexv c) then _ else _) _
      cases hx : hexv c with
      | none =>
        dsimp only
        rw [if_neg (by decide), bad_e]
        exact bad (c :: r) rfl
      | some d =>
        have hd := hexv_lt hx
        dsimp only
        have e1 : (0 : Int32) ≤ om (some d) := by
          show (0 : Int32) ≤ i3 d
          rw [show (0 : Int32) = i3 0 from rfl, i3_le (by omega) (by omega)]
          omega
        have e2 : (16 : Int32) * i3 v + om (some d) = i3 (16 * v + d) := by
          show (16 : Int32) * i3 v + i3 d = _
          rw [show (16 : Int32) = i3 16 from rfl, i3_mul, i3_add]
        have hbnd : 16 * v + d < 16 ^ (4 - m) := by
          by_cases h4 : m + 1 = 4
          · rw [hv0 h4, show 4 - m = 1 by omega]
            omega
          · have := hv1 (by omega)
            obtain rfl | rfl | rfl : m = 0 ∨ m = 1 ∨ m = 2 := by omega
            · simp at this ⊢; omega
            · simp at this ⊢; omega
            · simp at this ⊢; omega
        have hpow : 16 ^ (4 - m) ≤ 65536 := Nat.le_trans (Nat.pow_le_pow_right (n := 16) (by omega) (show 4 - m ≤ 4 by omega)) (by decide)
        have hfun : hd1 hexv (c :: r) = some d := hx
        rw [if_pos e1, hexM h, Option.bind_some, hfun, e2, i3_one, show 4 - (m + 1) + 1 = 4 - m by omega]
        exact ih n (16 * v + d) r _ (by omega) (by omega) (by omega) (fun _ => hbnd) h.next (hM.si (by decide) (by decide) (by decide) (by decide)) (by omega) (hf.trans (Fr1.at _)) (hs.trans (SK.at (by decide))) hp
theorem escM {st : xS} {n : Nat} {r : List Nat} (hM : MS st vs cs ks ws) (h : PR base src st r) (hb : cs.length + 1 ≤ bC) (hn : bC + 10 < n) : EscO base src st 0 0 vs cs ks ws (fM_escaped n st (rp base src (92 :: r))) (pcE 92 r) := by
  unfold fM_escaped
  rw [h.peek, Option.bind_some]
  cases r with
  | nil =>
    rw [if_neg (by decide), bad_e, h.2.2]
    exact ⟨_, rfl, Bad.of2 hM FrP.refl (Nat.le_refl _) rfl⟩
  | cons e r =>
    have hc : e < 256 := h.1.1 e (h.2.1.subset (List.mem_cons_self ..))
    have hnx := h.next
    have hMx : MS (xsI st 16 (xsi st 16 + 1)) vs cs ks ws := hM.si (by decide) (by decide) (by decide) (by decide)
    have hlet : ∀ c, c < 128 → EscO base src st 0 0 vs cs ks ws ((fM_letter n (xsI st 16 (xsi st 16 + 1)) (i3 c)).bind fun o5 => (xmo (fun a => a.2.1) (fun a => a.2.2.1) (0 + o5.1) (0 + o5.2.1) (some (0, (0 + o5.1), (0 + o5.2.1), o5.2.2)))) (.inr (c, r)) := fun c hc => let_e hc hMx hnx hb (by omega) (Fr1.at _) (SK.at (by decide)) rfl
    rw [if_pos (show (0 : Int32) ≤ hv (e :: r) from by rw [hv_c, show (0 : Int32) = i3 0 from rfl, i3_le (by omega) (by omega)]; omega)]
    have hce : ∀ d : Nat, d < 256 → (hv (e :: r) = i3 d) = (e = d) := fun d hd => i3_eq (a := e) (b := d) (by omega) (by omega)
    rw [pcE]
    by_cases e34 : e = 34
    · subst e34
      rw [if_pos (show hv (34 :: r) = 34 from rfl), if_neg (show ¬ (34 : Nat) = 117 by omega)]
      exact hlet 34 (by omega)
    rw [if_neg (show ¬ hv (e :: r) = 34 from fun hh => e34 ((hce 34 (by omega)).mp hh))]
    by_cases e47 : e = 47
    · subst e47
      rw [if_pos (show hv (47 :: r) = 47 from rfl), if_neg (show ¬ (47 : Nat) = 117 by omega)]
      exact hlet 47 (by omega)
    rw [if_neg (show ¬ hv (e :: r) = 47 from fun hh => e47 ((hce 47 (by omega)).mp hh))]
    by_cases e92 : e = 92
    · subst e92
      rw [if_pos (show hv (92 :: r) = 92 from rfl), if_neg (show ¬ (92 : Nat) = 117 by omega)]
      exact hlet 92 (by omega)
    rw [if_neg (show ¬ hv (e :: r) = 92 from fun hh => e92 ((hce 92 (by omega)).mp hh))]
    by_cases e98 : e = 98
    · subst e98
      rw [if_pos (show hv (98 :: r) = 98 from rfl), if_neg (show ¬ (98 : Nat) = 117 by omega)]
      exact hlet 8 (by omega)
    rw [if_neg (show ¬ hv (e :: r) = 98 from fun hh => e98 ((hce 98 (by omega)).mp hh))]
    by_cases e102 : e = 102
    · subst e102
      rw [if_pos (show hv (102 :: r) = 102 from rfl), if_neg (show ¬ (102 : Nat) = 117 by omega)]
      exact hlet 12 (by omega)
    rw [if_neg (show ¬ hv (e :: r) = 102 from fun hh => e102 ((hce 102 (by omega)).mp hh))]
    by_cases e110 : e = 110
    · subst e110
      rw [if_pos (show hv (110 :: r) = 110 from rfl), if_neg (show ¬ (110 : Nat) = 117 by omega)]
      exact hlet 10 (by omega)
    rw [if_neg (show ¬ hv (e :: r) = 110 from fun hh => e110 ((hce 110 (by omega)).mp hh))]
    by_cases e114 : e = 114
    · subst e114
      rw [if_pos (show hv (114 :: r) = 114 from rfl), if_neg (show ¬ (114 : Nat) = 117 by omega)]
      exact hlet 13 (by omega)
    rw [if_neg (show ¬ hv (e :: r) = 114 from fun hh => e114 ((hce 114 (by omega)).mp hh))]
    by_cases e116 : e = 116
    · subst e116
      rw [if_pos (show hv (116 :: r) = 116 from rfl), if_neg (show ¬ (116 : Nat) = 117 by omega)]
      exact hlet 9 (by omega)
    rw [if_neg (show ¬ hv (e :: r) = 116 from fun hh => e116 ((hce 116 (by omega)).mp hh))]
    by_cases e117 : e = 117
    · subst e117
      rw [if_pos (show hv (117 :: r) = 117 from rfl), if_pos rfl]
      exact hexL (start := 92 :: 117 :: r) hb 4 n 0 r _ (by omega) (by omega) (fun _ => rfl) (by omega) hnx hMx (by omega) (Fr1.at _) (SK.at (by decide)) rfl
    rw [if_neg (show ¬ hv (e :: r) = 117 from fun hh => e117 ((hce 117 (by omega)).mp hh)), if_neg e117, bad_e]
    have hcof : cof e = none := by
      unfold cof
      rw [if_neg (by omega), if_neg (by omega), if_neg (by omega), if_neg (by omega), if_neg (by omega), if_neg (by omega)]
    rw [hcof, Int32.add_sub_cancel, h.2.2]
    exact ⟨_, rfl, Bad.of2 hMx (FrP.at _ (by decide)) (Nat.le_refl _) rfl⟩
/-- what a string gives; c0: where its characters begin -/
def StrO (base : Nat) (src : List Nat) (st : xS) (wc wn : Nat) (vs : List VR) (cs : List Nat) (ks ws : List NP) (c0 : Nat) (out : Option (Nat × Nat × Nat × Nat × xS)) (res : List Nat ⊕ (Sx × List Nat)) : Prop := match res with
  | .inl x => ∃ (cc k : Nat) (st' : xS), out = some (2, wc + cc, wn + k, 0, st') ∧ CostE st st' cc k 1 ∧ Bad base src st st' vs cs ks ws x
  | .inr (s, r1) => ∃ (cc k : Nat) (st' : xS), out = some (0, wc + cc, wn + k, vs.length + 1, st') ∧ MS st' (vs ++ [(4, c0, cs.length + s.length - c0, 0, 1 + (cs.length + s.length - c0), 0)]) (cs ++ s) ks ws ∧ PR base src st' r1 ∧ Cost st st' cc k ∧ Fr1 st st' ∧ SK st st'
theorem StrO.ge {st : xS} {wc wn c0 : Nat} {out : Option (Nat × Nat × Nat × Nat × xS)} {res : List Nat ⊕ (Sx × List Nat)} (h : StrO base src st wc wn vs cs ks ws c0 out res) : ∀ a, out = some a → wc ≤ a.2.1 ∧ wn ≤ a.2.2.1 := by
  intro a ha
  cases res with
  | inl x =>
    obtain ⟨cc, k, st', e, _⟩ := h
    rw [e] at ha
    obtain rfl := Option.some.inj ha
    exact ⟨Nat.le_add_right _ _, Nat.le_add_right _ _⟩
  | inr q =>
    obtain ⟨cc, k, st', e, _⟩ := h
    rw [e] at ha
    obtain rfl := Option.some.inj ha
    exact ⟨Nat.le_add_right _ _, Nat.le_add_right _ _⟩
/-- one more character before it -/
def cons1 (v : Nat) (res : List Nat ⊕ (Sx × List Nat)) : List Nat ⊕ (Sx × List Nat) := match res with
  | .inl x => .inl x
  | .inr (s, r2) => .inr (v :: s, r2)
theorem StrO.step {st st1 : xS} {wc wn c0 cc k v : Nat} {out : Option (Nat × Nat × Nat × Nat × xS)} {res : List Nat ⊕ (Sx × List Nat)} (h : StrO base src st1 (wc + cc) (wn + k) vs (cs ++ [v]) ks ws c0 out res) (hc : Cost st st1 cc k) (hf : Fr1 st st1) (hs : SK st st1) : StrO base src st wc wn vs cs ks ws c0 out (cons1 v res) := by
  cases res with
  | inl x =>
    obtain ⟨cc', k', st', e, h1, h2⟩ := h
    refine ⟨cc + cc', k + k', st', by rw [e, Nat.add_assoc, Nat.add_assoc], ?_, h2.tr hf (by have := hc.2; omega)⟩
    have := hc.e.trans h1
    rwa [Nat.zero_add] at this
  | inr q =>
    obtain ⟨s, r1⟩ := q
    obtain ⟨cc', k', st', e, h1, h2, h3, h4, h5⟩ := h
    refine ⟨cc + cc', k + k', st', by rw [e, Nat.add_assoc, Nat.add_assoc], ?_, h2, hc.trans h3, hf.trans h4, hs.trans h5⟩
    rw [List.length_append, List.length_singleton, List.append_assoc, show cs.length + 1 + s.length = cs.length + (s.length + 1) by omega] at h1
    exact h1
theorem strL {c0 : Nat} (hbv : vs.length + 1 ≤ bV) : ∀ (m : Nat) (r : List Nat) (n : Nat) (cs : List Nat) (st : xS) (wc wn : Nat), PR base src st r → MS st vs cs ks ws → r.length < m → c0 ≤ cs.length → cs.length + r.length ≤ bC → cs.length - c0 + r.length ≤ 50000 → bC + 20 + r.length < n → StrO base src st wc wn vs cs ks ws c0 (fM_jsonString_b n 1 (i3 c0) st wc wn) (pS m r) := by
  have hbV : bV = 32000 := rfl
  have hbc : bC = 100000 := rfl
  intro m
  induction m with
  | zero => intro r n cs st wc wn h hM hm; omega
  | succ m ih =>
    intro r n cs st wc wn h hM hm hc0 hbl hwl hn
    obtain ⟨n, rfl⟩ : ∃ j, n = j + 1 := ⟨n - 1, by omega⟩
    have badE : ∀ x, x = r → StrO base src st wc wn vs cs ks ws c0 (xmo (fun a => a.2.1) (fun a => a.2.2.1) wc wn (some (2, wc + 1, wn + 6, 0, xsI st 20 (xsi st 16)))) (.inl x) := fun x hx => by
      subst hx
      refine ⟨1, 6, _, xmo_some (Nat.le_succ _) (by show wn ≤ wn + 6; omega), ⟨by omega, Nat.le_of_eq (Nat.add_comm _ _)⟩, ?_⟩
      rw [h.2.2]
      exact Bad.of2 hM FrP.refl (Nat.le_refl _) rfl
    rw [fM_jsonString_b, h.peek, Option.bind_some, pS, Option.bind_some]
    by_cases h34 : r.head? = some 34
    · obtain ⟨r1, rfl⟩ := head_c h34
      rw [if_pos (show hv (34 :: r1) = 34 from rfl), if_pos h34, List.tail_cons]
      rw [List.length_cons] at hwl
      obtain ⟨cc, k, st', e1, m1, m2, m3, m4⟩ := string_w (n := n) (hM.si (k := 16) (v := xsi st 16 + 1) (by decide) (by decide) (by decide) (by decide)) hc0 hbv (by omega)
      rw [if_pos (by omega)] at e1
      refine ⟨cc, k, st', ?_, ?_, h.next.fr m3 m4, ⟨m2.1, m2.2⟩, (Fr1.at _).trans (Fr1.of m3), (SK.at (by decide)).trans m4⟩
      · rw [e1, Option.bind_some, if_pos rfl]
        dsimp only
        have hin : ∀ z : xS, xmo (fun a : Nat × Nat × Nat × Nat × xS => a.2.1) (fun a => a.2.2.1) (wc + cc) (wn + k) (some (0, wc + cc, wn + k, vs.length + 1, z)) = some (0, wc + cc, wn + k, vs.length + 1, z) := fun z => xmo_some (Nat.le_refl _) (Nat.le_refl _)
        rw [hin]
        exact xmo_some (by show wc ≤ wc + cc; omega) (by show wn ≤ wn + k; omega)
      · rw [List.append_nil, List.length_nil, Nat.add_zero]
        exact m1
    · rw [if_neg (show ¬ hv r = 34 from fun hh => h34 ((h.hve (k := 34) (by omega)).mp hh)), if_neg h34]
      cases r with
      | nil =>
        rw [if_pos (by decide), bad_5]
        exact badE [] rfl
      | cons c r =>
        have hc : c < 256 := h.1.1 c (h.2.1.subset (List.mem_cons_self ..))
        have c32 : (hv (c :: r) < 32) = (c < 32) := i3_lt (a := c) (b := 32) (by omega) (by omega)
        have c126 : (hv (c :: r) ≤ 126) = (c ≤ 126) := i3_le (a := c) (b := 126) (by omega) (by omega)
        have c92 : (hv (c :: r) = 92) = (c = 92) := i3_eq (a := c) (b := 92) (by omega) (by omega)
        rw [List.length_cons] at hm hbl hwl hn
        rw [pc]
        by_cases h32 : c < 32
        · rw [if_pos (by rw [c32]; exact h32), bad_5, if_neg (by omega), if_neg (by omega)]
          exact badE _ rfl
        · rw [if_neg (by rw [c32]; exact h32)]
          by_cases h126 : c ≤ 126
          · rw [if_pos (by rw [c126]; exact h126)]
            by_cases h92 : c = 92
            · subst h92
              rw [if_pos (by rw [c92]), if_pos rfl, Int32.add_sub_cancel, h.2.2]
              have hE := escM (n := n) (hM.si (k := 16) (v := xsi st 16 + 1) (by decide) (by decide) (by decide) (by decide)) h.next (by omega) (by omega)
              rw [h.2.2] at hE
              cases hp : pcE 92 r with
              | inl x =>
                rw [hp] at hE
                obtain ⟨st', e1, b1⟩ := hE
                refine ⟨1, 6, st', ?_, ⟨by omega, by have := b1.2.2.2.1; have hpe : pt (xsI st 16 (rp base src (92 :: r) + 1)) = pt st := rfl; omega⟩, b1.tr (Fr1.at _) (Nat.le_refl _)⟩
                rw [e1, Option.bind_some, if_neg (show ¬ (1 : Nat) = 0 by decide), if_pos rfl]
                dsimp only
                have hin : xmo (fun a : Nat × Nat × Nat × Nat × xS => a.2.1) (fun a => a.2.2.1) (wc + (0 + 1)) (wn + (0 + 6)) (some (2, wc + (0 + 1), wn + (0 + 6), 0, st')) = some (2, wc + (0 + 1), wn + (0 + 6), 0, st') := xmo_some (Nat.le_refl _) (Nat.le_refl _)
                rw [hin]
                exact xmo_some (Nat.le_succ _) (by show wn ≤ wn + (0 + 6); omega)
              | inr q =>
                obtain ⟨v, r2⟩ := q
                rw [hp] at hE
                obtain ⟨cc, k, st', e1, m1, m2, m3, m4, m5⟩ := hE
                rw [Nat.zero_add, Nat.zero_add] at e1
                have hsuf := (pc_suf (92 :: r)).2 v r2 (by rw [pc, if_pos rfl]; exact hp)
                rw [List.length_cons] at hsuf
                have hih := ih r2 n (cs ++ [v]) st' (wc + cc) (wn + k) m2 m1 (by omega) (by rw [List.length_append]; omega) (by rw [List.length_append, List.length_singleton]; omega) (by rw [List.length_append, List.length_singleton]; omega) (by omega)
                have hst := hih.step (cs := cs) (wc := wc) (wn := wn) (st := st) (cc := cc) (k := k) ⟨m3.1, m3.2⟩ ((Fr1.at _).trans m4) ((SK.at (by decide)).trans m5)
                dsimp only
                rw [e1, Option.bind_some, if_pos rfl]
                dsimp only
                rw [xmo_id hih.ge, xmo_id hst.ge]
                exact hst
            · rw [if_neg (by rw [c92]; exact h92), if_neg h92, if_pos (by omega)]
              obtain ⟨cc, k, st', e1, m1, m2, m3, m4⟩ := letter_w (n := n) (hM.si (k := 16) (v := xsi st 16 + 1) (by decide) (by decide) (by decide) (by decide)) (c := c) (by omega) (by omega) (by omega)
              have hih := ih r n (cs ++ [c]) st' (wc + cc) (wn + k) (h.next.fr m3 m4) m1 (by omega) (by rw [List.length_append]; omega) (by rw [List.length_append, List.length_singleton]; omega) (by rw [List.length_append, List.length_singleton]; omega) (by omega)
              have hst := hih.step (cs := cs) (wc := wc) (wn := wn) (st := st) (cc := cc) (k := k) ⟨m2.1, m2.2⟩ ((Fr1.at _).trans (Fr1.of m3)) ((SK.at (by decide)).trans m4)
              dsimp only
              rw [hv_c, e1, Option.bind_some]
              dsimp only
              rw [xmo_id hih.ge, xmo_id hst.ge]
              exact hst
          · rw [if_neg (by rw [c126]; exact h126), bad_5, if_neg (by omega), if_neg (by omega)]
            exact badE _ rfl
/-- the reader stands before a quote -/
theorem stringM_w {st : xS} {n : Nat} {r : List Nat} (hM : MS st vs cs ks ws) (h : PR base src st (34 :: r)) (hbv : vs.length + 1 ≤ bV) (hb : cs.length + r.length ≤ bC) (hsz : src.length ≤ 50000) (hn : 2 * bC < n) {m : Nat} (hm : r.length < m) : StrO base src st 0 0 vs cs ks ws cs.length (fM_jsonString n st) (pS m r) := by
  have hbc : bC = 100000 := rfl
  have hl := h.2.1.length_le
  rw [List.length_cons] at hl
  have := strL (c0 := cs.length) hbv m r n cs (xsI st 16 (xsi st 16 + 1)) 0 0 h.next (hM.si (by decide) (by decide) (by decide) (by decide)) hm (Nat.le_refl _) hb (by omega) (by omega)
  unfold fM_jsonString
  rw [hM.1.1.2.1]
  cases hp : pS m r with
  | inl x =>
    rw [hp] at this
    obtain ⟨cc, k, st', e, h1, h2⟩ := this
    exact ⟨cc, k, st', e, h1, h2.tr (Fr1.at _) (Nat.le_refl _)⟩
  | inr q =>
    obtain ⟨s, r1⟩ := q
    rw [hp] at this
    obtain ⟨cc, k, st', e, h1, h2, h3, h4, h5⟩ := this
    exact ⟨cc, k, st', e, h1, h2, h3, (Fr1.at _).trans h4, (SK.at (by decide)).trans h5⟩
end RH
end ZRefh54
section ZRep55
/-! ===== the reference: which value a record stands for ===== -/
def RepB (vs : List VR) (cs : List Nat) (ks : List NP) {d : Nat} (rec : JT d → Nat → Prop) (v : VR) (j : JT (d + 1)) : Prop := match j with
  | .inl (.inl k) => v.1 = k
  | .inl (.inr (.inl z)) => v.1 = 3 ∧ v.2.2.2.2.2 = z
  | .inl (.inr (.inr s)) => v.1 = 4 ∧ v.2.2.1 = s.length ∧ ∀ i x, s[i]? = some x → cs[v.2.1 + i]? = some x
  | .inr (.inl l) => v.1 = 5 ∧ v.2.2.1 = l.length ∧ ∀ (i : Nat) x, l[i]? = some x → ∃ p : NP, ks[v.2.1 + i]? = some p ∧ rec x p.1
  | .inr (.inr l) => v.1 = 6 ∧ v.2.2.1 = l.length ∧ ∀ (i : Nat) x, l[i]? = some x → ∃ p : NP, ks[v.2.1 + i]? = some p ∧ rec x.2 p.1 ∧ isStr vs cs p.2 x.1
def Rep (vs : List VR) (cs : List Nat) (ks : List NP) : (d : Nat) → JT d → Nat → Prop
  | 0, j, _ => Empty.elim j
  | d + 1, j, c => 1 ≤ c ∧ ∃ v : VR, vs[c - 1]? = some v ∧ v.2.2.2.1 = jd (d + 1) j ∧ v.2.2.2.2.1 = (jc (d + 1) j).length ∧ jd (d + 1) j ≤ 60 ∧ (jc (d + 1) j).length ≤ 60000 ∧ RepB vs cs ks (Rep vs cs ks d) v j
theorem pre_get {α : Type} {l m : List α} {i : Nat} {x : α} (h : l[i]? = some x) : (l ++ m)[i]? = some x := by
  rw [List.getElem?_append_left (List.getElem?_eq_some_iff.mp h).1]
  exact h
theorem isStr.mono {vs vs' : List VR} {cs cs' : List Nat} {c : Nat} {s : Sx} (h : isStr vs cs c s) : isStr (vs ++ vs') (cs ++ cs') c s := by
  obtain ⟨h1, v, h2, h3, h4, h5, h6, h7⟩ := h
  exact ⟨h1, v, pre_get h2, h3, h4, h5, h6, fun i x hx => pre_get (h7 i x hx)⟩
theorem Rep.mono {vs vs' : List VR} {cs cs' : List Nat} {ks ks' : List NP} : ∀ (d : Nat) (j : JT d) (c : Nat), Rep vs cs ks d j c → Rep (vs ++ vs') (cs ++ cs') (ks ++ ks') d j c := by
  intro d
  induction d with
  | zero => intro j; exact (j0 j).elim
  | succ d ih =>
    intro j c h
    obtain ⟨h1, v, h2, h3, h4, h5, h6, h7⟩ := h
    refine ⟨h1, v, pre_get h2, h3, h4, h5, h6, ?_⟩
    rcases jcases j with ⟨k, rfl⟩ | ⟨z, rfl⟩ | ⟨s, rfl⟩ | ⟨l, rfl⟩ | ⟨l, rfl⟩
    · exact h7
    · exact h7
    · exact ⟨h7.1, h7.2.1, fun i x hx => pre_get (h7.2.2 i x hx)⟩
    · refine ⟨h7.1, h7.2.1, fun i x hx => ?_⟩
      obtain ⟨p, p1, p2⟩ := h7.2.2 i x hx
      exact ⟨p, pre_get p1, ih _ _ p2⟩
    · refine ⟨h7.1, h7.2.1, fun i x hx => ?_⟩
      obtain ⟨p, p1, p2, p3⟩ := h7.2.2 i x hx
      exact ⟨p, pre_get p1, ih _ _ p2, p3.mono⟩
theorem Rep.le {vs : List VR} {cs : List Nat} {ks : List NP} {d : Nat} {j : JT d} {c : Nat} (h : Rep vs cs ks d j c) : 1 ≤ c ∧ c ≤ vs.length := by
  cases d with
  | zero => exact (j0 j).elim
  | succ d =>
    obtain ⟨h1, v, h2, _⟩ := h
    have := (List.getElem?_eq_some_iff.mp h2).1
    omega
theorem Rep.dw {vs : List VR} {cs : List Nat} {ks : List NP} {d : Nat} {j : JT d} {c : Nat} (h : Rep vs cs ks d j c) : vDp vs c = jd d j ∧ vWt vs c = (jc d j).length ∧ jd d j ≤ 60 ∧ (jc d j).length ≤ 60000 := by
  cases d with
  | zero => exact (j0 j).elim
  | succ d =>
    obtain ⟨h1, v, h2, h3, h4, h5, h6, _⟩ := h
    exact ⟨by rw [vDp_some h2, h3], by rw [vWt_some h2, h4], h5, h6⟩
theorem isStr.le {vs : List VR} {cs : List Nat} {c : Nat} {s : Sx} (h : isStr vs cs c s) : 1 ≤ c ∧ c ≤ vs.length ∧ vWt vs c = s.length + 1 := by
  obtain ⟨h1, v, h2, h3, h4, h5, h6, h7⟩ := h
  have := (List.getElem?_eq_some_iff.mp h2).1
  exact ⟨h1, by omega, by rw [vWt_some h2, h6]⟩
/-- a row of values -/
def RL (vs : List VR) (cs : List Nat) (ks : List NP) (d : Nat) : List NP → List (JT d) → Prop
  | [], [] => True
  | p :: W, x :: l => Rep vs cs ks d x p.1 ∧ p.2 ≤ vs.length ∧ RL vs cs ks d W l
  | _, _ => False
def RM (vs : List VR) (cs : List Nat) (ks : List NP) (d : Nat) : List NP → List (Sx × JT d) → Prop
  | [], [] => True
  | p :: W, x :: l => Rep vs cs ks d x.2 p.1 ∧ isStr vs cs p.2 x.1 ∧ x.1.length ≤ 59999 ∧ RM vs cs ks d W l
  | _, _ => False
section RI
variable {vs vs' : List VR} {cs cs' : List Nat} {ks ks' : List NP} {d : Nat}
theorem RL.mono : ∀ {W : List NP} {l : List (JT d)}, RL vs cs ks d W l → RL (vs ++ vs') (cs ++ cs') (ks ++ ks') d W l := by
  intro W
  induction W with
  | nil => intro l h; cases l with
    | nil => trivial
    | cons x l => exact h.elim
  | cons p W ih => intro l h; cases l with
    | nil => exact h.elim
    | cons x l => exact ⟨h.1.mono, by have := h.2.1; rw [List.length_append]; omega, ih h.2.2⟩
theorem RM.mono : ∀ {W : List NP} {l : List (Sx × JT d)}, RM vs cs ks d W l → RM (vs ++ vs') (cs ++ cs') (ks ++ ks') d W l := by
  intro W
  induction W with
  | nil => intro l h; cases l with
    | nil => trivial
    | cons x l => exact h.elim
  | cons p W ih => intro l h; cases l with
    | nil => exact h.elim
    | cons x l => exact ⟨h.1.mono, h.2.1.mono, h.2.2.1, ih h.2.2.2⟩
theorem RL.snoc : ∀ {W : List NP} {l : List (JT d)} {p : NP} {x : JT d}, RL vs cs ks d W l → Rep vs cs ks d x p.1 → p.2 ≤ vs.length → RL vs cs ks d (W ++ [p]) (l ++ [x]) := by
  intro W
  induction W with
  | nil => intro l p x h hx hp; cases l with
    | nil => exact ⟨hx, hp, trivial⟩
    | cons x l => exact h.elim
  | cons q W ih => intro l p x h hx hp; cases l with
    | nil => exact h.elim
    | cons y l => exact ⟨h.1, h.2.1, ih h.2.2 hx hp⟩
theorem RM.snoc : ∀ {W : List NP} {l : List (Sx × JT d)} {p : NP} {x : Sx × JT d}, RM vs cs ks d W l → Rep vs cs ks d x.2 p.1 → isStr vs cs p.2 x.1 → x.1.length ≤ 59999 → RM vs cs ks d (W ++ [p]) (l ++ [x]) := by
  intro W
  induction W with
  | nil => intro l p x h hx hp hs; cases l with
    | nil => exact ⟨hx, hp, hs, trivial⟩
    | cons x l => exact h.elim
  | cons q W ih => intro l p x h hx hp hs; cases l with
    | nil => exact h.elim
    | cons y l => exact ⟨h.1, h.2.1, h.2.2.1, ih h.2.2.2 hx hp hs⟩
theorem RL.sums : ∀ {W : List NP} {l : List (JT d)}, RL vs cs ks d W l → W.length = l.length ∧ W.map (fun p => vDp vs p.1) = l.map (jd d) ∧ W.map (kWt vs 5) = l.map (fun x => (jc d x).length) ∧ (∀ p ∈ W, KP vs 5 p) ∧ (∀ (i : Nat) (x : JT d), l[i]? = some x → ∃ p : NP, W[i]? = some p ∧ Rep vs cs ks d x p.1) := by
  intro W
  induction W with
  | nil => intro l h; cases l with
    | nil => exact ⟨rfl, rfl, rfl, fun p hp => absurd hp (by simp), fun i x hx => by simp at hx⟩
    | cons x l => exact h.elim
  | cons p W ih => intro l h; cases l with
    | nil => exact h.elim
    | cons x l =>
      obtain ⟨h1, h2, h3⟩ := h
      obtain ⟨a1, a2, a3, a4, a5⟩ := ih h3
      obtain ⟨d1, d2, d3, d4⟩ := h1.dw
      have hle := h1.le
      refine ⟨by rw [List.length_cons, List.length_cons, a1], by rw [List.map_cons, List.map_cons, a2, d1], ?_, fun q hq => ?_, fun i y hy => ?_⟩
      · rw [List.map_cons, List.map_cons, a3]
        congr 1
      · rcases List.mem_cons.mp hq with rfl | hq
        · refine ⟨⟨hle.1, vs[q.1 - 1]'(by omega), List.getElem?_eq_getElem (by omega), ?_, ?_⟩, fun hk => absurd hk (by decide), h2⟩
          · have : vDp vs q.1 = (vs[q.1 - 1]'(by omega)).2.2.2.1 := vDp_some (List.getElem?_eq_getElem (by omega))
            omega
          · have : vWt vs q.1 = (vs[q.1 - 1]'(by omega)).2.2.2.2.1 := vWt_some (List.getElem?_eq_getElem (by omega))
            omega
        · exact a4 q hq
      · cases i with
        | zero =>
          obtain rfl := Option.some.inj hy
          exact ⟨p, rfl, h1⟩
        | succ i =>
          obtain ⟨q, q1, q2⟩ := a5 i y (by simpa using hy)
          exact ⟨q, by simpa using q1, q2⟩
theorem RM.sums : ∀ {W : List NP} {l : List (Sx × JT d)}, RM vs cs ks d W l → W.length = l.length ∧ W.map (fun p => vDp vs p.1) = l.map (fun x => jd d x.2) ∧ W.map (kWt vs 6) = l.map (fun x => (strc x.1 ++ jc d x.2).length) ∧ (∀ p ∈ W, KP vs 6 p) ∧ (∀ (i : Nat) (x : Sx × JT d), l[i]? = some x → ∃ p : NP, W[i]? = some p ∧ Rep vs cs ks d x.2 p.1 ∧ isStr vs cs p.2 x.1) := by
  intro W
  induction W with
  | nil => intro l h; cases l with
    | nil => exact ⟨rfl, rfl, rfl, fun p hp => absurd hp (by simp), fun i x hx => by simp at hx⟩
    | cons x l => exact h.elim
  | cons p W ih => intro l h; cases l with
    | nil => exact h.elim
    | cons x l =>
      obtain ⟨h1, h2, hs, h3⟩ := h
      obtain ⟨a1, a2, a3, a4, a5⟩ := ih h3
      obtain ⟨d1, d2, d3, d4⟩ := h1.dw
      have hle := h1.le
      have hsl := h2.le
      refine ⟨by rw [List.length_cons, List.length_cons, a1], by rw [List.map_cons, List.map_cons, a2, d1], ?_, fun q hq => ?_, fun i y hy => ?_⟩
      · rw [List.map_cons, List.map_cons, a3]
        congr 1
        show (if 6 = 6 then vWt vs p.1 + vWt vs p.2 else vWt vs p.1) = _
        rw [if_pos rfl, d2, hsl.2.2, List.length_append, strc_len]
        omega
      · rcases List.mem_cons.mp hq with rfl | hq
        · refine ⟨⟨hle.1, vs[q.1 - 1]'(by omega), List.getElem?_eq_getElem (by omega), ?_, ?_⟩, fun _ => ⟨hsl.1, vs[q.2 - 1]'(by omega), List.getElem?_eq_getElem (by omega), ?_⟩, hsl.2.1⟩
          · have : vDp vs q.1 = (vs[q.1 - 1]'(by omega)).2.2.2.1 := vDp_some (List.getElem?_eq_getElem (by omega))
            omega
          · have : vWt vs q.1 = (vs[q.1 - 1]'(by omega)).2.2.2.2.1 := vWt_some (List.getElem?_eq_getElem (by omega))
            omega
          · have : vWt vs q.2 = (vs[q.2 - 1]'(by omega)).2.2.2.2.1 := vWt_some (List.getElem?_eq_getElem (by omega))
            omega
        · exact a4 q hq
      · cases i with
        | zero =>
          obtain rfl := Option.some.inj hy
          exact ⟨p, rfl, h1, h2⟩
        | succ i =>
          obtain ⟨q, q1, q2⟩ := a5 i y (by simpa using hy)
          exact ⟨q, by simpa using q1, q2⟩
/-- the new record stands for the list -/
theorem rep_a {W : List NP} {l : List (JT d)} (h : RL vs cs ks d W l) (hd : jd (d + 1) (ja l) ≤ 60) (hw : (jc (d + 1) (ja l)).length ≤ 60000) : Rep (vs ++ [(5, ks.length, W.length, (W.map (fun p => vDp vs p.1)).foldl max 0 + 1, 1 + (W.map (kWt vs 5)).sum, 0)]) cs (ks ++ W) (d + 1) (ja l) (vs.length + 1) := by
  obtain ⟨a1, a2, a3, a4, a5⟩ := h.sums
  refine ⟨by omega, _, by rw [Nat.add_sub_cancel, List.getElem?_append_right (Nat.le_refl _), Nat.sub_self]; rfl, by rw [a2, jd_a], ?_, hd, hw, rfl, a1, fun i x hx => ?_⟩
  · rw [a3, jc_a, lst_len, sm_flat]
    exact Nat.add_comm _ _
  · obtain ⟨p, p1, p2⟩ := a5 i x hx
    refine ⟨p, ?_, ?_⟩
    · show (ks ++ W)[ks.length + i]? = _
      rw [List.getElem?_append_right (by omega), Nat.add_sub_cancel_left]
      exact p1
    · have := p2.mono (vs' := [((5, ks.length, W.length, (W.map (fun p => vDp vs p.1)).foldl max 0 + 1, 1 + (W.map (kWt vs 5)).sum, 0) : VR)]) (cs' := []) (ks' := W)
      rw [List.append_nil] at this
      exact this
theorem rep_o {W : List NP} {l : List (Sx × JT d)} (h : RM vs cs ks d W l) (hd : jd (d + 1) (jo l) ≤ 60) (hw : (jc (d + 1) (jo l)).length ≤ 60000) : Rep (vs ++ [(6, ks.length, W.length, (W.map (fun p => vDp vs p.1)).foldl max 0 + 1, 1 + (W.map (kWt vs 6)).sum, 0)]) cs (ks ++ W) (d + 1) (jo l) (vs.length + 1) := by
  obtain ⟨a1, a2, a3, a4, a5⟩ := h.sums
  refine ⟨by omega, _, by rw [Nat.add_sub_cancel, List.getElem?_append_right (Nat.le_refl _), Nat.sub_self]; rfl, by rw [a2, jd_o], ?_, hd, hw, rfl, a1, fun i x hx => ?_⟩
  · rw [a3, jc_o, lst_len, sm_flat]
    exact Nat.add_comm _ _
  · obtain ⟨p, p1, p2, p3⟩ := a5 i x hx
    refine ⟨p, ?_, ?_, ?_⟩
    · show (ks ++ W)[ks.length + i]? = _
      rw [List.getElem?_append_right (by omega), Nat.add_sub_cancel_left]
      exact p1
    · have := p2.mono (vs' := [((6, ks.length, W.length, (W.map (fun p => vDp vs p.1)).foldl max 0 + 1, 1 + (W.map (kWt vs 6)).sum, 0) : VR)]) (cs' := []) (ks' := W)
      rw [List.append_nil] at this
      exact this
    · have := p3.mono (vs' := [((6, ks.length, W.length, (W.map (fun p => vDp vs p.1)).foldl max 0 + 1, 1 + (W.map (kWt vs 6)).sum, 0) : VR)]) (cs' := [])
      rw [List.append_nil] at this
      exact this
end RI
end ZRep55
