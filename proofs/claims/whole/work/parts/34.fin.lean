section FIN
variable {cs : List Nat} {d : Nat} {st : xS} {vs : List VR} {ks ws : List NP}
theorem xs_e {st : xS} {k : Nat} {v : Int32} : xsi (xsI st k v) k = v := (up_eq : va_up st.1 k v k = v)
def RefT (st : xS) (T : Nat → List Nat) (tape prn : List Nat) (pl rs : Int32) : Prop := (∃ vs cs ks ws, MS st vs cs ks ws) ∧ Hs st ∧ (∀ x, x < 8 → RegM st x (T x)) ∧ (xln st 40 = 4096 ∧ xsi st 27 = i3 tape.length ∧ tape.length ≤ 4096 ∧ (∀ c ∈ tape, c < 256) ∧ seg (xba st 40) 0 (tape.map sb)) ∧ (xln st 28 = 4096 ∧ xsi st 29 = i3 prn.length ∧ prn.length ≤ 4096 ∧ seg (xba st 28) 0 (prn.map sb)) ∧ xsi st 31 = pl ∧ xsi st 30 = rs
theorem RefT.fro {st st' : xS} {T : Nat → List Nat} {tape prn : List Nat} {pl rs : Int32} (h : RefT st T tape prn pl rs) (hb : OpB st st') : RefT st' T tape prn pl rs := by
  obtain ⟨_, h2, h3, ⟨a1, a2, a3, a4, a5⟩, ⟨b1, b2, b3, b4⟩, h6, h7⟩ := h
  obtain ⟨hm, hf⟩ := hb
  have f40 := hf.2.1 40 (by decide)
  have f28 := hf.2.1 28 (by decide)
  exact ⟨hm, hf.2.2 h2, fun x hx => (h3 x hx).fro hf, ⟨by rw [f40.1]; exact a1, by rw [hf.1 27 (by decide)]; exact a2, a3, a4, by rw [f40.2]; exact a5⟩, ⟨by rw [f28.1]; exact b1, by rw [hf.1 29 (by decide)]; exact b2, b3, by rw [f28.2]; exact b4⟩, by rw [hf.1 31 (by decide)]; exact h6, by rw [hf.1 30 (by decide)]; exact h7⟩
theorem RefT.frs {st st' : xS} {x : Nat} {w : List Nat} {T : Nat → List Nat} {tape prn : List Nat} {pl rs : Int32} (h : RefT st T tape prn pl rs) (hm : ∃ vs cs ks ws, MS st' vs cs ks ws) (hf : FrS x st st') (hx : x < 8) (hw : RegM st' x w) : RefT st' (fun y => if y = x then w else T y) tape prn pl rs := by
  obtain ⟨_, h2, h3, ⟨a1, a2, a3, a4, a5⟩, ⟨b1, b2, b3, b4⟩, h6, h7⟩ := h
  have f40 := hf.2.2.1 40 (by decide) (by decide) (by omega)
  have f28 := hf.2.2.1 28 (by decide) (by decide) (by omega)
  refine ⟨hm, hf.2.2.2.2 h2, fun y hy => ?_, ⟨by rw [hf.2.1 40 (by decide)]; exact a1, by rw [hf.1 27 (by decide)]; exact a2, a3, a4, by rw [f40]; exact a5⟩, ⟨by rw [hf.2.1 28 (by decide)]; exact b1, by rw [hf.1 29 (by decide)]; exact b2, b3, by rw [f28]; exact b4⟩, by rw [hf.1 31 (by decide)]; exact h6, by rw [hf.1 30 (by decide)]; exact h7⟩
  dsimp only
  by_cases e : y = x
  · rw [if_pos e, e]
    exact hw
  · rw [if_neg e]
    exact (h3 y hy).frs hf e
theorem RefT.f0 {st : xS} {T : Nat → List Nat} {tape prn : List Nat} {pl rs : Int32} (h : RefT st T tape prn pl rs) {v : Int32} : RefT (xsI st 0 v) T tape prn pl rs := by
  obtain ⟨⟨v1, c1, k1, w1, hm⟩, h2, h3, ⟨a1, a2, a3, a4, a5⟩, ⟨b1, b2, b3, b4⟩, h6, h7⟩ := h
  exact ⟨⟨v1, c1, k1, w1, hm.si (by decide) (by decide) (by decide) (by decide)⟩, h2, h3, ⟨a1, (up_ne (by decide) : va_up st.1 0 v 27 = st.1 27).trans a2, a3, a4, a5⟩, ⟨b1, (up_ne (by decide) : va_up st.1 0 v 29 = st.1 29).trans b2, b3, b4⟩, (up_ne (by decide) : va_up st.1 0 v 31 = st.1 31).trans h6, (up_ne (by decide) : va_up st.1 0 v 30 = st.1 30).trans h7⟩
theorem RefT.f30 {st : xS} {T : Nat → List Nat} {tape prn : List Nat} {pl rs : Int32} (h : RefT st T tape prn pl rs) {v : Int32} : RefT (xsI st 30 v) T tape prn pl v := by
  obtain ⟨⟨v1, c1, k1, w1, hm⟩, h2, h3, ⟨a1, a2, a3, a4, a5⟩, ⟨b1, b2, b3, b4⟩, h6, h7⟩ := h
  exact ⟨⟨v1, c1, k1, w1, hm.si (by decide) (by decide) (by decide) (by decide)⟩, h2, h3, ⟨a1, (up_ne (by decide) : va_up st.1 30 v 27 = st.1 27).trans a2, a3, a4, a5⟩, ⟨b1, (up_ne (by decide) : va_up st.1 30 v 29 = st.1 29).trans b2, b3, b4⟩, (up_ne (by decide) : va_up st.1 30 v 31 = st.1 31).trans h6, (up_eq : va_up st.1 30 v 30 = v)⟩
theorem beginM {n : Nat} {T : Nat → List Nat} {tape prn : List Nat} {pl rs : Int32} (h : RefT st T tape prn pl rs) : ∃ st', fM_begin n st = some st' ∧ MS st' [] [] [] [] ∧ PV st' 1000000000 [] ∧ RefT st' T tape prn pl rs ∧ xsi st' 0 = 0 ∧ pt st' = pt st := by
  obtain ⟨⟨v1, c1, k1, w1, hm⟩, h2, h3, ⟨a1, a2, a3, a4, a5⟩, ⟨b1, b2, b3, b4⟩, h6, h7⟩ := h
  have hkeep : ∀ k, k ≠ 0 → k ≠ 2 → k ≠ 4 → k ≠ 7 → k ≠ 12 → k ≠ 9 → k ≠ 22 → k ≠ 23 → xsi (xsI (xsI (xsI (xsI (xsI (xsI (xsI (xsI st 0 0) 2 0) 4 0) 7 0) 12 0) 9 0) 22 0) 23 1000000000) k = xsi st k := fun k k1 k2 k3 k4 k5 k6 k7 k8 => by
    show va_up (va_up (va_up (va_up (va_up (va_up (va_up (va_up st.1 0 0) 2 0) 4 0) 7 0) 12 0) 9 0) 22 0) 23 1000000000 k = _
    rw [up_ne k8, up_ne k7, up_ne k6, up_ne k5, up_ne k4, up_ne k3, up_ne k2, up_ne k1]
  have hz : ∀ k, k = 0 ∨ k = 2 ∨ k = 4 ∨ k = 7 ∨ k = 12 ∨ k = 22 → xsi (xsI (xsI (xsI (xsI (xsI (xsI (xsI (xsI st 0 0) 2 0) 4 0) 7 0) 12 0) 9 0) 22 0) 23 1000000000) k = 0 := fun k hk => by
    show va_up (va_up (va_up (va_up (va_up (va_up (va_up (va_up st.1 0 0) 2 0) 4 0) 7 0) 12 0) 9 0) 22 0) 23 1000000000 k = _
    rcases hk with rfl | rfl | rfl | rfl | rfl | rfl
    · rw [up_ne (by decide), up_ne (by decide), up_ne (by decide), up_ne (by decide), up_ne (by decide), up_ne (by decide), up_ne (by decide), up_eq]
    · rw [up_ne (by decide), up_ne (by decide), up_ne (by decide), up_ne (by decide), up_ne (by decide), up_ne (by decide), up_eq]
    · rw [up_ne (by decide), up_ne (by decide), up_ne (by decide), up_ne (by decide), up_ne (by decide), up_eq]
    · rw [up_ne (by decide), up_ne (by decide), up_ne (by decide), up_ne (by decide), up_eq]
    · rw [up_ne (by decide), up_ne (by decide), up_ne (by decide), up_eq]
    · rw [up_ne (by decide), up_eq]
  obtain ⟨_, r1, r2, r3, r4, r5, r6, r7⟩ := hm
  have hm' : MS (xsI (xsI (xsI (xsI (xsI (xsI (xsI (xsI st 0 0) 2 0) 4 0) 7 0) 12 0) 9 0) 22 0) 23 1000000000) [] [] [] [] := by
    refine ⟨⟨⟨hz 2 (by decide), hz 4 (by decide), hz 7 (by decide), hz 12 (by decide)⟩, fun i v h => by simp at h, fun i v h => by simp at h, fun i v h => by simp at h, fun i v h => by simp at h⟩, r1, ⟨Nat.zero_le _, r2.2⟩, ⟨Nat.zero_le _, r3.2⟩, ⟨Nat.zero_le _, r4.2⟩, ⟨Nat.zero_le _, r5.2⟩, r6, r7⟩
  refine ⟨_, rfl, hm', ⟨hz 22 (by decide), xs_e, by omega, fun i c h => by simp at h, Nat.zero_le _, h2.1, h2.2.1⟩, ⟨⟨_, _, _, _, hm'⟩, h2, h3, ⟨a1, (hkeep 27 (by decide) (by decide) (by decide) (by decide) (by decide) (by decide) (by decide) (by decide)).trans a2, a3, a4, a5⟩, ⟨b1, (hkeep 29 (by decide) (by decide) (by decide) (by decide) (by decide) (by decide) (by decide) (by decide)).trans b2, b3, b4⟩, (hkeep 31 (by decide) (by decide) (by decide) (by decide) (by decide) (by decide) (by decide) (by decide)).trans h6, (hkeep 30 (by decide) (by decide) (by decide) (by decide) (by decide) (by decide) (by decide) (by decide)).trans h7⟩, hz 0 (by decide), rfl⟩
def FinP (st : xS) (wc wn : Nat) (out : Option (Nat × Nat × xS)) (T : Nat → List Nat) (to : Nat) (tape prn : List Nat) (pl rs : Int32) {d : Nat} (res : Nat ⊕ JT d) : Prop := ∃ (cc s : Nat) (st' : xS), out = some (wc + cc, wn + s, st') ∧ CostE st st' cc s 3 ∧ (match res with
  | .inl k => RefT st' T tape prn pl (i3 k) ∧ xsi st' 0 = 2
  | .inr j => (fit j ∧ RefT st' (fun y => if y = to then jt d j else T y) tape prn pl rs ∧ xsi st' 0 = 0) ∨ (¬ fit j ∧ RefT st' T tape prn pl rs ∧ xsi st' 0 = 3))
theorem FinP.wrap {wc wn to : Nat} {out : Option (Nat × Nat × xS)} {T : Nat → List Nat} {tape prn : List Nat} {pl rs : Int32} {res : Nat ⊕ JT d} (h : FinP st wc wn out T to tape prn pl rs res) : FinP st wc wn (xmo (fun a => a.1) (fun a => a.2.1) wc wn out) T to tape prn pl rs res := by
  obtain ⟨cc, s, st', h1, h2⟩ := h
  refine ⟨cc, s, st', ?_, h2⟩
  rw [h1]
  exact xmo_some (Nat.le_add_right _ _) (Nat.le_add_right _ _)
theorem FinP.step {st1 : xS} {wc wn c1 s1 to : Nat} {out : Option (Nat × Nat × xS)} {T : Nat → List Nat} {tape prn : List Nat} {pl rs : Int32} {res : Nat ⊕ JT d} (h : FinP st1 (wc + c1) (wn + s1) out T to tape prn pl rs res) (hc : Cost st st1 c1 s1) : FinP st wc wn out T to tape prn pl rs res := by
  obtain ⟨cc, s, st', h1, h2, h3⟩ := h
  exact ⟨c1 + cc, s1 + s, st', by rw [h1, Nat.add_assoc, Nat.add_assoc], hc.ce h2, h3⟩
theorem big_nf {j : JT d} (hj : jok d j) (h : 60 < jd d j ∨ 60000 < (jc d j).length) : ¬ fit j := by
  intro hf
  rcases h with h | h
  · have := hf.1; omega
  · have h1 := hf.2
    have h2 := jc_le_jt d j
    omega
theorem finS {fu n to c wc wn : Nat} {T : Nat → List Nat} {tape prn : List Nat} {pl rs : Int32} {j : JT d} (hT : RefT st T tape prn pl rs) (h0 : xsi st 0 = 0) (hM : MS st vs cs ks ws) (hR : Rep vs cs ks d j c) (hj : jok d j) (hto : to < 8) (hfu : d ≤ fu) (hn : 2000000 < n) : FinP st wc wn ((fM_store fu n st (i3 to) c).bind fun o21 => ((if o21.1 = 0 then xmo (fun a => a.1) (fun a => a.2.1) (wc + o21.2.1) (wn + o21.2.2.1) (some ((wc + o21.2.1), (wn + o21.2.2.1), o21.2.2.2.2)) else (if o21.1 = 1 then xmo (fun a => a.1) (fun a => a.2.1) (wc + o21.2.1) (wn + o21.2.2.1) (some ((wc + o21.2.1), (wn + o21.2.2.1), (xsI o21.2.2.2.2 0 3))) else none)))) T to tape prn pl rs (.inr j) := by
  have hreg := hT.2.2.1 to hto
  rcases storeM (fu := fu) (n := n) hM hT.2.1 hR hj hto hreg.2.1 hreg.2.2.1 hreg.2.2.2.1 hfu hn with ⟨hl, cc, s, st', e1, m1, m2, m3, m4⟩ | ⟨hl, cc, s, st', e1, m1, m2⟩
  · refine ⟨cc, s, st', ?_, ⟨m2.1, by have := m2.2; omega⟩, Or.inl ⟨⟨hR.dw.2.2.1, hl⟩, hT.frs ⟨_, _, _, _, m1⟩ m3 hto m4, by rw [m3.1 0 (by decide)]; exact h0⟩⟩
    rw [e1, Option.bind_some, if_pos rfl]
    exact xmo_some (Nat.le_refl _) (Nat.le_refl _)
  · refine ⟨cc, s, xsI st' 0 3, ?_, ⟨m1.1, ?_⟩, Or.inr ⟨fun h => by have := h.2; omega, (hT.fro m2).f0, (up_eq : va_up st'.1 0 3 0 = 3)⟩⟩
    · rw [e1, Option.bind_some, if_neg (show ¬ (1 : Nat) = 0 by decide), if_pos rfl]
      exact xmo_some (Nat.le_refl _) (Nat.le_refl _)
    · have := m1.2
      show s + pt st ≤ pt st' + 6 * 3
      omega
theorem finA {fu n to wc wn : Nat} {T : Nat → List Nat} {tape prn : List Nat} {pl rs : Int32} {res : Nat ⊕ JT d} {X : Option (Nat × Nat × Nat × Nat × xS)} (hT : RefT st T tape prn pl rs) (h0 : xsi st 0 = 0) (h : OpO st 0 0 1 2 X vs cs ks ws res) (hj : RJ res) (hto : to < 8) (hfu : d ≤ fu) (hn : 2000000 < n) : FinP st wc wn (X.bind fun o11 => ((if o11.1 = 0 then xmo (fun a => a.1) (fun a => a.2.1) (wc + o11.2.1) (wn + o11.2.2.1) ((fM_store fu n o11.2.2.2.2 (i3 to) o11.2.2.2.1).bind fun o21 => ((if o21.1 = 0 then xmo (fun a => a.1) (fun a => a.2.1) ((wc + o11.2.1) + o21.2.1) ((wn + o11.2.2.1) + o21.2.2.1) (some (((wc + o11.2.1) + o21.2.1), ((wn + o11.2.2.1) + o21.2.2.1), o21.2.2.2.2)) else (if o21.1 = 1 then xmo (fun a => a.1) (fun a => a.2.1) ((wc + o11.2.1) + o21.2.1) ((wn + o11.2.2.1) + o21.2.2.1) (some (((wc + o11.2.1) + o21.2.1), ((wn + o11.2.2.1) + o21.2.2.1), (xsI o21.2.2.2.2 0 3))) else none)))) else (if o11.1 = 1 then xmo (fun a => a.1) (fun a => a.2.1) (wc + o11.2.1) (wn + o11.2.2.1) (some ((wc + o11.2.1), (wn + o11.2.2.1), (xsI (xsI o11.2.2.2.2 30 (xsi o11.2.2.2.2 8)) 0 2))) else (if o11.1 = 2 then xmo (fun a => a.1) (fun a => a.2.1) (wc + o11.2.1) (wn + o11.2.2.1) (some ((wc + o11.2.1), (wn + o11.2.2.1), (xsI o11.2.2.2.2 0 3))) else none))))) T to tape prn pl rs res := by
  cases res with
  | inl k =>
    obtain ⟨cc, s, st', e1, m1, m2, m3⟩ := h
    refine ⟨cc, s, xsI (xsI st' 30 (xsi st' 8)) 0 2, ?_, ⟨m1.1, ?_⟩, ?_, xs_e⟩
    · rw [e1, Option.bind_some, if_neg (show ¬ (1 : Nat) = 0 by decide), if_pos rfl]
      simp only [Nat.zero_add]
      exact xmo_some (Nat.le_refl _) (Nat.le_refl _)
    · have := m1.2
      show s + pt st ≤ pt st' + 6 * 3
      omega
    · rw [m3]
      exact (hT.fro m2).f30.f0
  | inr j =>
    rcases h with ⟨cc, s, c, st', v', c', k', e1, m1, m2, m3, m4⟩ | ⟨_, hbig, cc, s, st', e1, m1, m2⟩
    · rw [e1, Option.bind_some, if_pos rfl]
      simp only [Nat.zero_add]
      exact FinP.step (FinP.wrap (finS (hT.fro ⟨⟨_, _, _, _, m1⟩, m3⟩) (by rw [m3.1 0 (by decide)]; exact h0) m1 m4 (hj j rfl) hto hfu hn)) m2
    · refine ⟨cc, s, xsI st' 0 3, ?_, ⟨m1.1, ?_⟩, Or.inr ⟨big_nf (hj j rfl) hbig, (hT.fro m2).f0, (up_eq : va_up st'.1 0 3 0 = 3)⟩⟩
      · rw [e1, Option.bind_some, if_neg (show ¬ (2 : Nat) = 0 by decide), if_neg (show ¬ (2 : Nat) = 1 by decide), if_pos rfl]
        simp only [Nat.zero_add]
        exact xmo_some (Nat.le_refl _) (Nat.le_refl _)
      · have := m1.2
        show s + pt st ≤ pt st' + 6 * 3
        omega
end FIN
