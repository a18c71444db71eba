section RP2
variable {base : Nat} {src : List Nat} {vs : List VR} {cs : List Nat} {ks ws : List NP}
/-- a plain record -/
theorem ValO.one {d : Nat} {st st' : xS} {j : JT (d + 1)} {v : VR} {cs' : List Nat} {cc k : Nat} {out : Option (Nat × Nat × Nat × Nat × xS)} {r r1 : List Nat} (e : out = some (0, cc, k, vs.length + 1, st')) (hM : MS st' (vs ++ [v]) (cs ++ cs') ks ws) (hP : PR base src st' r1) (hc : Cost st st' cc k) (hf : Fr1 st st') (hs : SK st st') (hd : v.2.2.2.1 = jd (d + 1) j) (hw : v.2.2.2.2.1 = (jc (d + 1) j).length) (hd6 : jd (d + 1) j ≤ 60) (hw6 : (jc (d + 1) j).length ≤ 60000) (hB : RepB (vs ++ [v]) (cs ++ cs') (ks ++ []) (Rep (vs ++ [v]) (cs ++ cs') (ks ++ []) d) v j) (h1 : r1.length + 1 ≤ r.length) (h2 : cs'.length + r1.length ≤ r.length) : ValO base src st 0 0 vs cs ks ws 1 out r 0 (.inr (j, r1)) := by
  refine ⟨cc, k, vs.length + 1, st', [v], cs', [], by rw [e, Nat.zero_add, Nat.zero_add], by rw [List.append_nil]; exact hM, hP, hc, hf, hs, ⟨by omega, v, ?_, hd, hw, hd6, hw6, hB⟩, by rw [List.length_singleton]; omega, h2, by rw [List.length_nil]; omega⟩
  rw [Nat.add_sub_cancel, List.getElem?_append_right (Nat.le_refl _), Nat.sub_self]
  rfl
theorem wordV {k j : Nat} {st S : xS} {r rr : List Nat} {out : Option (Nat × Nat × Nat × Nat × xS)} (hj : j < 3) (hf : Fr1 st S) (hs : SK st S) (hp : pt st = pt S) (hrr : rr.length ≤ r.length) (h : match pw (wd j) rr with
    | .inl x => ∃ st' : xS, out = some (1, 1, 6, 0, st') ∧ Bad base src S st' vs cs ks ws x
    | .inr r1 => ∃ (cc s : Nat) (st' : xS), out = some (0, cc, s, vs.length + 1, st') ∧ MS st' (vs ++ [(j, 0, 0, 0, 1, 0)]) cs ks ws ∧ PR base src st' r1 ∧ Cost S st' cc s ∧ Fr1 S st' ∧ SK S st') : ValO base src st 0 0 vs cs ks ws 1 (out.bind fun o8 => ((if o8.1 = 0 then xmo (fun a => a.2.1) (fun a => a.2.2.1) (0 + o8.2.1) (0 + o8.2.2.1) (some (0, (0 + o8.2.1), (0 + o8.2.2.1), o8.2.2.2.1, o8.2.2.2.2)) else (if o8.1 = 1 then xmo (fun a => a.2.1) (fun a => a.2.2.1) (0 + o8.2.1) (0 + o8.2.2.1) (some (1, (0 + o8.2.1), (0 + o8.2.2.1), 0, o8.2.2.2.2)) else none)))) r 0 (pWd j rr : List Nat ⊕ (JT (k + 1) × List Nat)) := by
  unfold pWd
  cases hq : pw (wd j) rr with
  | inl x =>
    rw [hq] at h
    obtain ⟨st', e, b⟩ := h
    refine ⟨1, 6, st', ?_, ⟨by omega, by have := b.2.2.2.1; omega⟩, b.any hf (Nat.le_of_eq hp)⟩
    rw [e, Option.bind_some, if_neg (show ¬ (1 : Nat) = 0 by decide), if_pos rfl]
    exact xmo_some (Nat.le_refl _) (Nat.le_refl _)
  | inr r1 =>
    rw [hq] at h
    obtain ⟨cc, s, st', e, m1, m2, m3, m4, m5⟩ := h
    have hl := (pw_suf (wd j) rr).2 r1 hq
    have hw := wd_pos j
    refine ValO.one (d := k) (j := jk j) (v := (j, 0, 0, 0, 1, 0)) (cs' := []) (cc := cc) (k := s) (st' := st') ?_ (by rw [List.append_nil]; exact m1) m2 ⟨m3.1, by have := m3.2; omega⟩ (hf.trans m4) (hs.trans m5) rfl rfl (by rw [jd_k]; omega) (by show 1 ≤ 60000; omega) rfl (by omega) (by rw [List.length_nil]; omega)
    rw [e, Option.bind_some, if_pos rfl]
    dsimp only
    rw [Nat.zero_add, Nat.zero_add]
    exact xmo_some (Nat.le_refl _) (Nat.le_refl _)
theorem numV {k : Nat} {st S : xS} {r rr : List Nat} {out : Option (Nat × Nat × Nat × Nat × xS)} (hf : Fr1 st S) (hs : SK st S) (hp : pt st = pt S) (hrr : rr.length ≤ r.length) (h : NumO base src S vs cs ks ws out (pN rr)) : ValO base src st 0 0 vs cs ks ws 1 (out.bind fun o8 => ((if o8.1 = 0 then xmo (fun a => a.2.1) (fun a => a.2.2.1) (0 + o8.2.1) (0 + o8.2.2.1) (some (0, (0 + o8.2.1), (0 + o8.2.2.1), o8.2.2.2.1, o8.2.2.2.2)) else (if o8.1 = 1 then xmo (fun a => a.2.1) (fun a => a.2.2.1) (0 + o8.2.1) (0 + o8.2.2.1) (some (3, (0 + o8.2.1), (0 + o8.2.2.1), 0, o8.2.2.2.2)) else (if o8.1 = 2 then xmo (fun a => a.2.1) (fun a => a.2.2.1) (0 + o8.2.1) (0 + o8.2.2.1) (some (1, (0 + o8.2.1), (0 + o8.2.2.1), 0, o8.2.2.2.2)) else none))))) r 0 (mp jn (pN rr) : List Nat ⊕ (JT (k + 1) × List Nat)) := by
  cases hq : pN rr with
  | inl x =>
    rw [hq] at h
    obtain ⟨st', e, b⟩ := h
    refine ⟨1, 6, st', ?_, ⟨by omega, by have := b.2.2.2.1; omega⟩, b.any hf (Nat.le_of_eq hp)⟩
    rw [e, Option.bind_some, if_neg (show ¬ (2 : Nat) = 0 by decide), if_neg (show ¬ (2 : Nat) = 1 by decide), if_pos rfl]
    exact xmo_some (Nat.le_refl _) (Nat.le_refl _)
  | inr t =>
    obtain ⟨z, r1⟩ := t
    rw [hq] at h
    obtain ⟨cc, s, st', e, m1, m2, m3, m4, m5⟩ := h
    have hl := (pN_suf rr).2 z r1 hq
    refine ValO.one (d := k) (j := jn z) (v := (3, 0, 0, 0, 1, z)) (cs' := []) (cc := cc) (k := s) (st' := st') ?_ (by rw [List.append_nil]; exact m1) m2 ⟨m3.1, by have := m3.2; omega⟩ (hf.trans m4) (hs.trans m5) rfl rfl (by rw [jd_n]; omega) (by show 1 ≤ 60000; omega) ⟨rfl, rfl⟩ (by omega) (by rw [List.length_nil]; omega)
    rw [e, Option.bind_some, if_pos rfl]
    dsimp only
    rw [Nat.zero_add, Nat.zero_add]
    exact xmo_some (Nat.le_refl _) (Nat.le_refl _)
theorem strV {k m : Nat} {st S : xS} {r rr : List Nat} {out : Option (Nat × Nat × Nat × Nat × xS)} (hf : Fr1 st S) (hs : SK st S) (hp : pt st = pt S) (hrr : rr.length + 1 ≤ r.length) (hr5 : r.length ≤ 50000) (h : StrO base src S 0 0 vs cs ks ws cs.length out (pS m rr)) : ValO base src st 0 0 vs cs ks ws 1 (out.bind fun o8 => ((if o8.1 = 0 then xmo (fun a => a.2.1) (fun a => a.2.2.1) (0 + o8.2.1) (0 + o8.2.2.1) (some (0, (0 + o8.2.1), (0 + o8.2.2.1), o8.2.2.2.1, o8.2.2.2.2)) else (if o8.1 = 1 then xmo (fun a => a.2.1) (fun a => a.2.2.1) (0 + o8.2.1) (0 + o8.2.2.1) (some (2, (0 + o8.2.1), (0 + o8.2.2.1), 0, o8.2.2.2.2)) else (if o8.1 = 2 then xmo (fun a => a.2.1) (fun a => a.2.2.1) (0 + o8.2.1) (0 + o8.2.2.1) (some (1, (0 + o8.2.1), (0 + o8.2.2.1), 0, o8.2.2.2.2)) else none))))) r 0 (mp js (pS m rr) : List Nat ⊕ (JT (k + 1) × List Nat)) := by
  cases hq : pS m rr with
  | inl x =>
    rw [hq] at h
    obtain ⟨cc, s, st', e, c, b⟩ := h
    refine ⟨cc, s, st', ?_, ⟨c.1, by have := c.2; omega⟩, b.any hf (Nat.le_of_eq hp)⟩
    rw [e, Option.bind_some, if_neg (show ¬ (2 : Nat) = 0 by decide), if_neg (show ¬ (2 : Nat) = 1 by decide), if_pos rfl]
    dsimp only
    rw [Nat.zero_add, Nat.zero_add, Nat.zero_add, Nat.zero_add]
    exact xmo_some (Nat.le_refl _) (Nat.le_refl _)
  | inr t =>
    obtain ⟨s, r1⟩ := t
    rw [hq] at h
    obtain ⟨cc, q, st', e, m1, m2, m3, m4, m5⟩ := h
    have hl := (pS_suf m rr).2 s r1 hq
    refine ValO.one (d := k) (j := js s) (cs' := s) (cc := cc) (k := q) (st' := st') ?_ m1 m2 ⟨m3.1, by have := m3.2; omega⟩ (hf.trans m4) (hs.trans m5) rfl ?_ (by rw [jd_s]; omega) (by rw [jc_s, strc_len]; omega) ⟨rfl, ?_, fun i x hx => ?_⟩ (by omega) (by omega)
    · rw [e, Option.bind_some, if_pos rfl]
      dsimp only
      rw [Nat.zero_add, Nat.zero_add, Nat.zero_add, Nat.zero_add]
      exact xmo_some (Nat.le_refl _) (Nat.le_refl _)
    · rw [jc_s, strc_len]
      show 1 + (cs.length + s.length - cs.length) = _
      omega
    · show cs.length + s.length - cs.length = _
      omega
    · show (cs ++ s)[cs.length + i]? = some x
      rw [List.getElem?_append_right (by omega), Nat.add_sub_cancel_left]
      exact hx
/-- a list's end: one opened less -/
theorem lstV {d o : Nat} {st S S1 : xS} {r rr : List Nat} {out : Option (Nat × Nat × Nat × Nat × xS)} {res : List Nat ⊕ (JT d × List Nat)} (hS1 : xsi S1 18 = xsi st 18 + 1) (hoth : ∀ k, k ≠ 2 → k ≠ 4 → k ≠ 7 → k ≠ 12 → k ≠ 16 → k ≠ 18 → xsi S1 k = xsi st k) (harr : ∀ k, xln S1 k = xln st k ∧ xba S1 k = xba st k) (hs : SK st S1) (hp : pt st = pt S1) (hrr : rr.length ≤ r.length) (h : ValO base src S1 0 0 vs cs ks ws 2 out rr 0 res) : ValO base src st 0 0 vs cs ks ws 1 (out.bind fun o11 => ((if o11.1 = 0 then xmo (fun a => a.2.1) (fun a => a.2.2.1) (0 + o11.2.1) (0 + o11.2.2.1) (some (0, (0 + o11.2.1), (0 + o11.2.2.1), o11.2.2.2.1, (xsI o11.2.2.2.2 18 ((xsi o11.2.2.2.2 18) - 1)))) else (if o11.1 = 1 then xmo (fun a => a.2.1) (fun a => a.2.2.1) (0 + o11.2.1) (0 + o11.2.2.1) (some (2, (0 + o11.2.1), (0 + o11.2.2.1), 0, o11.2.2.2.2)) else (if o11.1 = 2 then xmo (fun a => a.2.1) (fun a => a.2.2.1) (0 + o11.2.1) (0 + o11.2.2.1) (some (1, (0 + o11.2.1), (0 + o11.2.2.1), 0, o11.2.2.2.2)) else (if o11.1 = 3 then xmo (fun a => a.2.1) (fun a => a.2.2.1) (0 + o11.2.1) (0 + o11.2.2.1) (some (3, (0 + o11.2.1), (0 + o11.2.2.1), 0, o11.2.2.2.2)) else none)))))) r 0 res := by
  have hfp : FrP st S1 := ⟨fun k hk => hoth k (by omega) (by omega) (by omega) (by omega) (by omega) (by omega), fun k _ => harr k⟩
  cases res with
  | inl x =>
    obtain ⟨cc, s, st', e, c, b⟩ := h
    refine ⟨cc, s, st', ?_, ⟨c.1, by have := c.2; omega⟩, b.1, b.2.1, hfp.trans b.2.2.1, by have := b.2.2.2.1; omega, b.2.2.2.2.trans (hoth 19 (by decide) (by decide) (by decide) (by decide) (by decide) (by decide))⟩
    rw [e, Option.bind_some, if_neg (show ¬ (2 : Nat) = 0 by decide), if_neg (show ¬ (2 : Nat) = 1 by decide), if_pos rfl]
    dsimp only
    rw [Nat.zero_add, Nat.zero_add, Nat.zero_add, Nat.zero_add]
    exact xmo_some (Nat.le_refl _) (Nat.le_refl _)
  | inr t =>
    obtain ⟨j, r1⟩ := t
    obtain ⟨cc, s, c, st', a, b, e', e, m1, m2, m3, m4, m5, m6, m7, m8, m9⟩ := h
    have h18 : xsi st' 18 - 1 = xsi st 18 := by
      rw [m4.1 18 (by decide) (by decide) (by decide) (by decide) (by decide), hS1, Int32.add_sub_cancel]
    refine ⟨cc, s, c, xsI st' 18 (xsi st' 18 - 1), a, b, e', ?_, m1.si (by decide) (by decide) (by decide) (by decide), ⟨?_, m2.2.1, m2.2.2⟩, ⟨m3.1, ?_⟩, ⟨fun k k1 k2 k3 k4 k5 => ?_, fun k k1 k2 k3 k4 k5 k6 => ⟨(m4.2 k k1 k2 k3 k4 k5 k6).1.trans (harr k).1, (m4.2 k k1 k2 k3 k4 k5 k6).2.trans (harr k).2⟩⟩, (hs.trans m5).trans (SK.at (by decide)), m6, by omega, by omega, by omega⟩
    · rw [e, Option.bind_some, if_pos rfl]
      dsimp only
      rw [Nat.zero_add, Nat.zero_add, Nat.zero_add, Nat.zero_add]
      exact xmo_some (Nat.le_refl _) (Nat.le_refl _)
    · obtain ⟨p1, ⟨f, p2, p3⟩, p4, p5⟩ := m2.1
      exact ⟨p1, ⟨f, (SK.at (k := 18) (by decide)).1 _ _ p2, p3⟩, p4, p5⟩
    · have := m3.2
      have hpe : pt (xsI st' 18 (xsi st' 18 - 1)) = pt st' := rfl
      omega
    · show va_up st'.1 18 (xsi st' 18 - 1) k = xsi st k
      by_cases hk : k = 18
      · rw [hk, up_eq, h18]
      · rw [up_ne hk]
        exact (m4.1 k k1 k2 k3 k4 k5).trans (hoth k k1 k2 k3 k4 k5 hk)
end RP2
