/-! ===== the reference's reader: numbers ===== -/
section RG
variable {base : Nat} {src : List Nat} {vs : List VR} {cs : List Nat} {ks ws : List NP}
theorem Bad.of2 {st0 st : xS} {x : List Nat} (hM : MS st vs cs ks ws) (hf : FrP st0 st) (hp : pt st0 ≤ pt st) (h19 : xsi st 19 = xsi st0 19) : Bad base src st0 (xsI st 20 (rp base src x)) vs cs ks ws x := ⟨⟨vs, cs, ks, ws, hM.si (by decide) (by decide) (by decide) (by decide)⟩, (show va_up st.1 20 (rp base src x) 20 = _ from up_eq), hf.trans (FrP.at _ (by decide)), hp, (show va_up st.1 20 (rp base src x) 19 = _ from (up_ne (by decide)).trans h19)⟩
theorem digitM {base : Nat} {src r : List Nat} {st : xS} {n : Nat} (h : PR base src st r) : fM_digit n (hv r) = some (if hD r then 1 else 0) := by
  unfold fM_digit
  cases r with
  | nil => rfl
  | cons c r =>
    have hc : c < 256 := h.1.1 c (h.2.1.subset (List.mem_cons_self ..))
    have c1 : (hv (c :: r) < 48) = (c < 48) := i3_lt (a := c) (b := 48) (by omega) (by omega)
    have c2 : ((57 : Int32) < hv (c :: r)) = (57 < c) := i3_lt (a := 57) (b := c) (by omega) (by omega)
    show _ = some (if isD c then 1 else 0)
    unfold isD
    by_cases h1 : c < 48
    · rw [if_pos (by rw [c1]; exact h1), if_neg (by simp; omega)]
    · rw [if_neg (by rw [c1]; exact h1)]
      by_cases h2 : 57 < c
      · rw [if_pos (by rw [c2]; exact h2), if_neg (by simp; omega)]
      · rw [if_neg (by rw [c2]; exact h2), if_pos (by simp; omega)]
/-- what a number gives -/
def NumO (base : Nat) (src : List Nat) (st : xS) (vs : List VR) (cs : List Nat) (ks ws : List NP) (out : Option (Nat × Nat × Nat × Nat × xS)) (res : List Nat ⊕ (Int × List Nat)) : Prop := match res with
  | .inl x => ∃ st' : xS, out = some (2, 1, 6, 0, st') ∧ Bad base src st st' vs cs ks ws x
  | .inr (z, r1) => ∃ (cc s : Nat) (st' : xS), out = some (0, cc, s, vs.length + 1, st') ∧ MS st' (vs ++ [(3, 0, 0, 0, 1, z)]) cs ks ws ∧ PR base src st' r1 ∧ Cost st st' cc s ∧ Fr1 st st' ∧ SK st st'
theorem numEnd {st st0 : xS} {n : Nat} {r : List Nat} {z : Int} (hz : -9007199254740991 ≤ z ∧ z ≤ 9007199254740991) (hM : MS st vs cs ks ws) (h : PR base src st r) (hb : vs.length + 1 ≤ bV) (hn : bV < n) (hf : Fr1 st0 st) (hs : SK st0 st) (hp : pt st0 = pt st) : NumO base src st0 vs cs ks ws ((fM_number n st (cW z)).bind fun o7 => ((if o7.1 = 0 then xmo (fun a => a.2.1) (fun a => a.2.2.1) (0 + o7.2.1) (0 + o7.2.2.1) (some (0, (0 + o7.2.1), (0 + o7.2.2.1), o7.2.2.2.1, o7.2.2.2.2)) else (if o7.1 = 1 then xmo (fun a => a.2.1) (fun a => a.2.2.1) (0 + o7.2.1) (0 + o7.2.2.1) (some (1, (0 + o7.2.1), (0 + o7.2.2.1), 0, o7.2.2.2.2)) else none)))) (.inr (z, r)) := by
  obtain ⟨cc, s, st', e1, m1, m2, m3, m4⟩ := (numM_w (n := n) hM (z := z) (by omega) (by omega) hb hn).1 hz
  refine ⟨cc, s, st', ?_, m1, h.fr m3 m4, ⟨m2.1, by have := m2.2; omega⟩, hf.trans (Fr1.of m3), hs.trans m4⟩
  rw [e1, Option.bind_some, if_pos rfl, Nat.zero_add, Nat.zero_add]
  exact xmo_some (Nat.le_refl _) (Nat.le_refl _)
theorem jn_stop {st0 : xS} {start : List Nat} {sgn : Int} {y2 : Int32} (hy : (y2 = 0 ∧ sgn = 1) ∨ (y2 = 1 ∧ sgn = -1)) (hb : vs.length + 1 ≤ bV) {r : List Nat} {n y v : Nat} {st : xS} (h : PR base src st r) (hM : MS st vs cs ks ws) (hyl : y ≤ 100000000000000000) (hyv : y = v ∨ (9007199254740991 < y ∧ 9007199254740991 < v)) (hn : bV < n) (hf : Fr1 st0 st) (hs : SK st0 st) (hp : pt st0 = pt st) (hd : hD r = false) : NumO base src st0 vs cs ks ws (fM_jsonNumber_b (n + 1) 1 (cW (y : Nat)) y2 (rp base src start) st 0 0) (if 9007199254740991 < v then .inl start else .inr (sgn * (v : Int), r)) := by
  have hc : (lg_cmp (cW (y : Nat)) 9007199254740991 ≤ 0) = (y ≤ 9007199254740991) := by
    rw [show (9007199254740991 : Int64) = cW 9007199254740991 from rfl, lg_cW (by omega) (by omega) (by omega) (by omega), izs_le0]
    exact propext (by omega)
  have key : NumO base src st0 vs cs ks ws (if (lg_cmp (cW (y : Nat)) 9007199254740991) ≤ 0 then (if y2 = 0 then (fM_number n st (cW (y : Nat))).bind fun o7 => ((if o7.1 = 0 then xmo (fun a => a.2.1) (fun a => a.2.2.1) (0 + o7.2.1) (0 + o7.2.2.1) (some (0, (0 + o7.2.1), (0 + o7.2.2.1), o7.2.2.2.1, o7.2.2.2.2)) else (if o7.1 = 1 then xmo (fun a => a.2.1) (fun a => a.2.2.1) (0 + o7.2.1) (0 + o7.2.2.1) (some (1, (0 + o7.2.1), (0 + o7.2.2.1), 0, o7.2.2.2.2)) else none))) else (fM_number n st (-(cW (y : Nat)))).bind fun o7 => ((if o7.1 = 0 then xmo (fun a => a.2.1) (fun a => a.2.2.1) (0 + o7.2.1) (0 + o7.2.2.1) (some (0, (0 + o7.2.1), (0 + o7.2.2.1), o7.2.2.2.1, o7.2.2.2.2)) else (if o7.1 = 1 then xmo (fun a => a.2.1) (fun a => a.2.2.1) (0 + o7.2.1) (0 + o7.2.2.1) (some (1, (0 + o7.2.1), (0 + o7.2.2.1), 0, o7.2.2.2.2)) else none)))) else (fM_bad n st (rp base src start)).bind fun o7 => ((if o7.1 = 1 then xmo (fun a => a.2.1) (fun a => a.2.2.1) (0 + o7.2.1) (0 + o7.2.2.1) (some (2, (0 + o7.2.1), (0 + o7.2.2.1), 0, o7.2.2.2)) else none))) (if 9007199254740991 < v then .inl start else .inr (sgn * (v : Int), r)) := by
    by_cases hg : 9007199254740991 < v
    · rw [if_neg (by rw [hc]; omega), if_pos hg, bad_c]
      exact ⟨_, rfl, Bad.of2 hM hf.p (Nat.le_of_eq hp) (hf.1 19 (by decide) (by decide) (by decide) (by decide) (by decide))⟩
    · have hyv' : y = v := by omega
      subst hyv'
      rw [if_pos (by rw [hc]; omega), if_neg hg]
      rcases hy with ⟨rfl, rfl⟩ | ⟨rfl, rfl⟩
      · rw [if_pos rfl, Int.one_mul]
        exact numEnd (by omega) hM h hb hn hf hs hp
      · rw [if_neg (by decide), cW_neg, show (-1 : Int) * (y : Int) = -(y : Int) by omega]
        exact numEnd (by omega) hM h hb hn hf hs hp
  rw [fM_jsonNumber_b, h.peek, Option.bind_some, digitM h, Option.bind_some, hd, if_pos (by decide)]
  rw [xmo_id (fun a _ => ⟨Nat.zero_le _, Nat.zero_le _⟩)]
  exact key
theorem jn_loop {st0 : xS} {start : List Nat} {sgn : Int} {y2 : Int32} (hy : (y2 = 0 ∧ sgn = 1) ∨ (y2 = 1 ∧ sgn = -1)) (hb : vs.length + 1 ≤ bV) : ∀ (r : List Nat) (n y v : Nat) (st : xS), PR base src st r → MS st vs cs ks ws → y ≤ 100000000000000000 → (y = v ∨ (9007199254740991 < y ∧ 9007199254740991 < v)) → bV + 1 + r.length < n → Fr1 st0 st → SK st0 st → pt st0 = pt st → NumO base src st0 vs cs ks ws (fM_jsonNumber_b n 1 (cW (y : Nat)) y2 (rp base src start) st 0 0) (if 9007199254740991 < (dv v r).1 then .inl start else .inr (sgn * ((dv v r).1 : Int), (dv v r).2)) := by
  intro r
  induction r with
  | nil =>
    intro n y v st h hM hyl hyv hn hf hs hp
    obtain ⟨n, rfl⟩ : ∃ j, n = j + 1 := ⟨n - 1, by omega⟩
    exact jn_stop hy hb h hM hyl hyv (by omega) hf hs hp rfl
  | cons c r ih =>
    intro n y v st h hM hyl hyv hn hf hs hp
    obtain ⟨n, rfl⟩ : ∃ j, n = j + 1 := ⟨n - 1, by omega⟩
    rw [List.length_cons] at hn
    by_cases hd : isD c = true
    · have hd' := hd
      unfold isD at hd'
      simp only [Bool.and_eq_true, decide_eq_true_eq] at hd'
      have e1 : (10 : Int64) * cW (y : Nat) + (hv (c :: r)).toInt64 - 48 = cW ((10 * y + (c - 48) : Nat) : Int) := by
        rw [hv_c, i3_64 (by omega), show (10 : Int64) = cW 10 from rfl, cW_mul, cW_add, show (48 : Int64) = cW 48 from rfl, cW_sub]
        congr 1
        omega
      have e2 : (if (100000000000000000 : Int64) < cW ((10 * y + (c - 48) : Nat) : Int) then (100000000000000000 : Int64) else cW ((10 * y + (c - 48) : Nat) : Int)) = cW ((min (10 * y + (c - 48)) 100000000000000000 : Nat) : Int) := by
        have hlt : ((100000000000000000 : Int64) < cW ((10 * y + (c - 48) : Nat) : Int)) = (100000000000000000 < 10 * y + (c - 48)) := by
          rw [show (100000000000000000 : Int64) = cW 100000000000000000 from rfl, cW_lt (by omega) (by omega) (by omega) (by omega)]
          exact propext (by omega)
        by_cases hh : 100000000000000000 < 10 * y + (c - 48)
        · rw [if_pos (hlt ▸ hh), Nat.min_eq_right (by omega)]
          rfl
        · rw [if_neg (hlt ▸ hh), Nat.min_eq_left (by omega)]
      rw [fM_jsonNumber_b, h.peek, Option.bind_some, digitM h, Option.bind_some, show hD (c :: r) = true from hd, if_pos rfl, if_neg (by decide), Option.bind_some, e1, e2, dv, if_pos hd]
      rw [xmo_id (fun a _ => ⟨Nat.zero_le _, Nat.zero_le _⟩)]
      exact ih n (min (10 * y + (c - 48)) 100000000000000000) (10 * v + (c - 48)) _ h.next (hM.si (by decide) (by decide) (by decide) (by decide)) (by omega) (by omega) (by omega) (hf.trans (Fr1.at _)) (hs.trans (SK.at (by decide))) hp
    · have hd' : isD c = false := by simpa using hd
      rw [dv, if_neg hd]
      exact jn_stop hy hb h hM hyl hyv (by omega) hf hs hp hd'
theorem numberM_w {st : xS} {n : Nat} {r : List Nat} (hM : MS st vs cs ks ws) (h : PR base src st r) (hb : vs.length + 1 ≤ bV) (hn : 2000000 < n) : NumO base src st vs cs ks ws (fM_jsonNumber n st) (pN r) := by
  have hbv : bV = 32000 := rfl
  have hl := h.2.1.length_le
  have hsz := h.1.2.2.2
  have body : ∀ (st1 : xS) (r1 : List Nat) (sgn : Int) (y2 : Int32), ((y2 = 0 ∧ sgn = 1) ∨ (y2 = 1 ∧ sgn = -1)) → PR base src st1 r1 → MS st1 vs cs ks ws → Fr1 st st1 → SK st st1 → pt st = pt st1 → xsi st1 19 = xsi st 19 → NumO base src st vs cs ks ws ((fM_peek n st1).bind fun o4 => ((fM_digit n o4).bind fun o7 => ((if o7 = 0 then (fM_bad n st1 (rp base src r1)).bind fun o10 => ((if o10.1 = 1 then xmo (fun a => a.2.1) (fun a => a.2.2.1) (0 + o10.2.1) (0 + o10.2.2.1) (some (2, (0 + o10.2.1), (0 + o10.2.2.1), 0, o10.2.2.2)) else none)) else (fM_peek n st1).bind fun o10 => ((if o10 = 48 then (if (lg_cmp 0 9007199254740991) ≤ 0 then (fM_number n (xsI st1 16 (rp base src r1 + 1)) 0).bind fun o13 => ((if o13.1 = 0 then xmo (fun a => a.2.1) (fun a => a.2.2.1) (0 + o13.2.1) (0 + o13.2.2.1) (some (0, (0 + o13.2.1), (0 + o13.2.2.1), o13.2.2.2.1, o13.2.2.2.2)) else (if o13.1 = 1 then xmo (fun a => a.2.1) (fun a => a.2.2.1) (0 + o13.2.1) (0 + o13.2.2.1) (some (1, (0 + o13.2.1), (0 + o13.2.2.1), 0, o13.2.2.2.2)) else none))) else (fM_bad n (xsI st1 16 (rp base src r1 + 1)) (rp base src r)).bind fun o13 => ((if o13.1 = 1 then xmo (fun a => a.2.1) (fun a => a.2.2.1) (0 + o13.2.1) (0 + o13.2.2.1) (some (2, (0 + o13.2.1), (0 + o13.2.2.1), 0, o13.2.2.2)) else none))) else fM_jsonNumber_b n 1 0 y2 (rp base src r) st1 0 0)))))) (pNd r r1 sgn) := by
    intro st1 r1 sgn y2 hy h1 hM1 hf hs hp h19
    have hl1 := h1.2.1.length_le
    rw [h1.peek, Option.bind_some, digitM h1, Option.bind_some, Option.bind_some]
    cases r1 with
    | nil =>
      rw [show hD [] = false from rfl, if_pos (by decide), bad_c]
      exact ⟨_, rfl, Bad.of2 hM1 hf.p (Nat.le_of_eq hp) h19⟩
    | cons c r1 =>
      by_cases hd : isD c = true
      · have hd' := hd
        unfold isD at hd'
        simp only [Bool.and_eq_true, decide_eq_true_eq] at hd'
        rw [show hD (c :: r1) = true from hd, if_pos rfl, if_neg (by decide), pNd, pD, if_pos hd]
        have c48 : (hv (c :: r1) = 48) = (c = 48) := i3_eq (a := c) (b := 48) (by omega) (by omega)
        by_cases h48 : c = 48
        · rw [if_pos (by rw [c48]; exact h48), if_pos (by decide), if_pos h48]
          dsimp only
          rw [if_neg (by omega)]
          have hnx := h1.next
          rw [h1.2.2] at hnx
          have := numEnd (st0 := st) (z := sgn * ((0 : Nat) : Int)) (n := n) (by rw [show sgn * ((0 : Nat) : Int) = 0 by simp]; omega) (hM1.si (k := 16) (v := rp base src (c :: r1) + 1) (by decide) (by decide) (by decide) (by decide)) hnx hb (by omega) (hf.trans (Fr1.at _)) (hs.trans (SK.at (by decide))) hp
          rw [show cW (sgn * ((0 : Nat) : Int)) = 0 by rw [show sgn * ((0 : Nat) : Int) = 0 by simp]; rfl] at this
          exact this
        · rw [if_neg (by rw [c48]; exact h48), if_neg h48]
          dsimp only
          have := jn_loop (start := r) hy hb (c :: r1) n 0 0 st1 h1 hM1 (by omega) (Or.inl rfl) (by omega) hf hs hp
          rw [dv, if_pos hd, show 10 * 0 + (c - 48) = c - 48 by omega] at this
          exact this
      · have hd' : isD c = false := by simpa using hd
        rw [show hD (c :: r1) = false from hd', if_pos (by decide), bad_c, pNd, pD, if_neg hd]
        exact ⟨_, rfl, Bad.of2 hM1 hf.p (Nat.le_of_eq hp) h19⟩
  unfold fM_jsonNumber pN
  rw [h.peek, Option.bind_some]
  by_cases h45 : r.head? = some 45
  · obtain ⟨r1, rfl⟩ := head_c h45
    rw [if_pos (show hv (45 :: r1) = 45 from rfl), if_pos h45, List.tail_cons]
    have hnx := h.next
    have := body _ r1 (-1) 1 (Or.inr ⟨rfl, rfl⟩) hnx (hM.si (by decide) (by decide) (by decide) (by decide)) (Fr1.at _) (SK.at (by decide)) rfl rfl
    rw [← rp_s h.2.1, ← h.2.2] at this
    exact this
  · rw [if_neg (show ¬ hv r = 45 from fun hh => h45 ((h.hve (k := 45) (by omega)).mp hh)), if_neg h45]
    have := body st r 1 0 (Or.inl ⟨rfl, rfl⟩) h hM Fr1.refl SK.refl rfl rfl
    rw [← h.2.2, h.peek] at this
    exact this
end RG
