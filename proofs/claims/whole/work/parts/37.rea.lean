section REA
variable {st : xS} {n : Nat} {T : Nat → List Nat} {tape prn : List Nat} {pl rs : Int32}
theorem RefT.f27 (h : RefT st T tape prn pl rs) {k : Nat} (hk : k ≤ tape.length) : RefT (xsI st 27 (i3 k)) T (tape.take k) prn pl rs := by
  obtain ⟨⟨v1, c1, k1, w1, hm⟩, h2, h3, ⟨a1, a2, a3, a4, a5⟩, ⟨b1, b2, b3, b4⟩, h6, h7⟩ := h
  have hl : (tape.take k).length = k := by rw [List.length_take]; omega
  refine ⟨⟨v1, c1, k1, w1, hm.si (by decide) (by decide) (by decide) (by decide)⟩, h2, h3, ⟨a1, ?_, by omega, fun c hc => a4 c (List.mem_of_mem_take hc), ?_⟩, ⟨b1, (up_ne (by decide) : va_up st.1 27 (i3 k) 29 = st.1 29).trans b2, b3, b4⟩, (up_ne (by decide) : va_up st.1 27 (i3 k) 31 = st.1 31).trans h6, (up_ne (by decide) : va_up st.1 27 (i3 k) 30 = st.1 30).trans h7⟩
  · rw [hl]; exact xs_e
  · rw [← List.take_append_drop k tape, List.map_append, seg_app] at a5
    exact a5.1
theorem RefT.f31 (h : RefT st T tape prn pl rs) {v : Int32} : RefT (xsI st 31 v) T tape prn v rs := by
  obtain ⟨⟨v1, c1, k1, w1, hm⟩, h2, h3, ⟨a1, a2, a3, a4, a5⟩, ⟨b1, b2, b3, b4⟩, h6, h7⟩ := h
  exact ⟨⟨v1, c1, k1, w1, hm.si (by decide) (by decide) (by decide) (by decide)⟩, h2, h3, ⟨a1, (up_ne (by decide) : va_up st.1 31 v 27 = st.1 27).trans a2, a3, a4, a5⟩, ⟨b1, (up_ne (by decide) : va_up st.1 31 v 29 = st.1 29).trans b2, b3, b4⟩, xs_e, (up_ne (by decide) : va_up st.1 31 v 30 = st.1 30).trans h7⟩
theorem read_v {to : Nat} (hT : RefT st T tape prn pl rs) (hto : to < 8) (hn : 5000000000 < n) (hj : ∀ j, pT 100 40 tape = .inr j → jok 101 j ∧ jd 101 j ≤ 40) : ∃ (cc s : Nat) (z : Int32) (st' : xS), fM_read 104 n st (i3 to) = some (cc, s, z, st') ∧ CostE st st' cc s 3 ∧ (match pT 100 40 tape with
    | .inl x => RefT st' T [] prn (i3 (tape.length - x.length)) rs ∧ xsi st' 0 = 2
    | .inr j => (fit j ∧ z = i3 (jt 101 j).length ∧ RefT st' (fun y => if y = to then jt 101 j else T y) [] prn (-1) rs ∧ xsi st' 0 = 0) ∨ (¬ fit j ∧ RefT st' T [] prn (-1) rs ∧ xsi st' 0 = 3)) := by
  obtain ⟨st1, e1, m1, m2, m3, m4, m5⟩ := beginM (n := n) hT
  obtain ⟨a1, a2, a3, a4, a5⟩ := m3.2.2.2.1
  have hT2 : RefT (xsI (xsI (xsI st1 27 0) 31 (-1)) 19 40) T [] prn (-1) rs := RefT.fro (RefT.f31 (RefT.f27 m3 (Nat.zero_le _))) ⟨⟨_, _, _, _, ((m1.si (k := 27) (v := 0) (by decide) (by decide) (by decide) (by decide)).si (k := 31) (v := -1) (by decide) (by decide) (by decide) (by decide)).si (k := 19) (v := 40) (by decide) (by decide) (by decide) (by decide)⟩, FrO.at _ (by decide)⟩
  have hM2 : MS (xsI (xsI (xsI st1 27 0) 31 (-1)) 19 40) [] [] [] [] := ((m1.si (by decide) (by decide) (by decide) (by decide)).si (by decide) (by decide) (by decide) (by decide)).si (by decide) (by decide) (by decide) (by decide)
  have h02 : xsi (xsI (xsI (xsI st1 27 0) 31 (-1)) 19 40) 0 = 0 := by
    show va_up (va_up (va_up st1.1 27 0) 31 (-1)) 19 40 0 = 0
    rw [up_ne (by decide), up_ne (by decide), up_ne (by decide)]
    exact m4
  have p2 : pt (xsI (xsI (xsI st1 27 0) 31 (-1)) 19 40) = pt st := m5
  have h192 : xsi (xsI (xsI (xsI st1 27 0) 31 (-1)) 19 40) 19 = i3 40 := xs_e
  have b2 : xln (xsI (xsI (xsI st1 27 0) 31 (-1)) 19 40) 40 = 4096 := a1
  have b5 : seg (xba (xsI (xsI (xsI st1 27 0) 31 (-1)) 19 40) 40) 0 (tape.map sb) := a5
  unfold fM_read
  rw [e1, Option.bind_some, out_t hto, Option.bind_some, if_pos rfl, a2]
  generalize xsI (xsI (xsI st1 27 0) 31 (-1)) 19 40 = st2 at hT2 hM2 h02 p2 h192 b2 b5 ⊢
  have hM0 : MS (xsI (xsI (xsI (xsX st2 40) 16 0) 17 (i3 tape.length)) 18 0) [] [] [] [] := (((MS.sx hM2 (show 40 < 41 + xgl st2 by omega)).si (by decide) (by decide) (by decide) (by decide)).si (by decide) (by decide) (by decide) (by decide)).si (by decide) (by decide) (by decide) (by decide)
  have hP0 : PR 0 tape (xsI (xsI (xsI (xsX st2 40) 16 0) 17 (i3 tape.length)) 18 0) tape := by
    refine ⟨⟨a4, ⟨xba st2 40, ⟨Or.inr (Or.inl ⟨show (32 : Nat) ≤ 40 by decide, show (40 : Nat) < 41 by decide⟩), ?_, fun i hi => rfl, fun hh => ?_⟩, b5⟩, ?_, by omega⟩, List.suffix_refl _, ?_⟩
    · show 0 + tape.length ≤ xln st2 40
      omega
    · have : (40 : Nat) = 3 := hh
      omega
    · show i3 tape.length = i3 (0 + tape.length)
      rw [Nat.zero_add]
    · show (0 : Int32) = rp 0 tape tape
      unfold rp
      rw [Nat.sub_self]
      rfl
  have hT0 : RefT (xsI (xsI (xsI (xsX st2 40) 16 0) 17 (i3 tape.length)) 18 0) T [] prn (-1) rs := hT2.fro ⟨⟨_, _, _, _, hM0⟩, ((FrO.sx.trans (FrO.at _ (by decide))).trans (FrO.at _ (by decide))).trans (FrO.at _ (by decide))⟩
  have h00 : xsi (xsI (xsI (xsI (xsX st2 40) 16 0) 17 (i3 tape.length)) 18 0) 0 = 0 := by
    show va_up (va_up (va_up st2.1 16 0) 17 (i3 tape.length)) 18 0 0 = 0
    rw [up_ne (by decide), up_ne (by decide), up_ne (by decide)]
    exact h02
  have hpt : pt (xsI (xsI (xsI (xsX st2 40) 16 0) 17 (i3 tape.length)) 18 0) = pt st := p2
  have hbv : bV = 32000 := rfl
  have hbk : bK = 32000 := rfl
  have hbc : bC = 100000 := rfl
  have hJ := jsonM (base := 0) (src := tape) (st := st2) (c0 := 40) (x1 := 0) (x2 := i3 tape.length) (k := 100) (m0 := 40) (fu := 104) (n := n) (by omega) (by omega) (by omega) (by omega) (by omega) hM0 hP0 h192 (Or.inl (by omega)) (by simp; omega) (by simp; omega) (by simp; omega) (by simp; omega)
  rw [pW_pT] at hJ
  generalize xsI (xsI (xsI (xsX st2 40) 16 0) 17 (i3 tape.length)) 18 0 = st3 at hT0 h00 hpt hJ
  have hin : ∀ (c1 s1 c3 s3 : Nat) (z : Int32) (w : xS), c1 ≤ c3 → s1 ≤ s3 → xmo (fun a : Nat × Nat × Int32 × xS => a.1) (fun a => a.2.1) c1 s1 (some (c3, s3, z, w)) = some (c3, s3, z, w) := fun _ _ _ _ _ _ h1 h2 => xmo_some h1 h2
  cases hp : pT 100 40 tape with
  | inl x =>
    rw [hp] at hJ
    obtain ⟨cc, s, st', e2, k1, k2, k3, k4, k5, k6⟩ := hJ
    refine ⟨cc, s, 0, xsI (xsI st' 31 (xsi st' 20)) 0 2, ?_, ⟨k1.1, ?_⟩, ?_, xs_e⟩
    · rw [e2, Option.bind_some, if_neg (show ¬ (1 : Nat) = 0 by decide), if_pos rfl]
      unfold fM_fail
      rw [Option.bind_some]
      simp only [Nat.zero_add]
      exact hin _ _ _ _ _ _ (Nat.le_refl _) (Nat.le_refl _)
    · have := k1.2
      show s + pt st ≤ pt st' + 6 * 3
      omega
    · have hb := (hT0.fro ⟨k2, k4.o⟩).f31 (v := xsi st' 20)
      rw [k3] at hb ⊢
      unfold rp at hb ⊢
      rw [Nat.zero_add] at hb ⊢
      exact hb.f0
  | inr j =>
    obtain ⟨j1, j2⟩ := hj j hp
    rw [hp] at hJ
    obtain ⟨cc, s, c, st', vs', cs', ks', e2, k1, k2, k3, k4, k5, k6, _⟩ := hJ
    have hT3 := hT0.fro ⟨⟨_, _, _, _, k1⟩, k4.p.o⟩
    have hreg := hT3.2.2.1 to hto
    have h03 : xsi st' 0 = 0 := by rw [k4.p.1 0 (by decide)]; exact h00
    rw [e2, Option.bind_some, if_pos rfl]
    dsimp only
    rcases storeM (fu := 104) (n := n) k1 hT3.2.1 k6 j1 hto hreg.2.1 hreg.2.2.1 hreg.2.2.2.1 (by omega) (by omega) with ⟨hl, cc2, s2, st4, e3, n1, n2, n3, n4⟩ | ⟨hl, cc2, s2, st4, e3, n1, n2⟩
    · have hc := k3.trans n2
      refine ⟨cc + cc2, s + s2, i3 (jt 101 j).length, st4, ?_, ⟨hc.1, by have := hc.2; omega⟩, Or.inl ⟨⟨Nat.le_trans j2 (by decide), hl⟩, rfl, hT3.frs ⟨_, _, _, _, n1⟩ n3 hto n4, by rw [n3.1 0 (by decide)]; exact h03⟩⟩
      rw [e3, Option.bind_some, if_pos rfl]
      simp only [Nat.zero_add]
      rw [hin _ _ _ _ _ _ (Nat.le_refl _) (Nat.le_refl _)]
      exact hin _ _ _ _ _ _ (by omega) (by omega)
    · have hc := k3.ce n1
      refine ⟨cc + cc2, s + s2, 0, xsI st4 0 3, ?_, ⟨hc.1, ?_⟩, Or.inr ⟨fun h => by have h := h.2; have hl' : 4096 < (jt 101 j).length := hl; omega, (hT3.fro n2).f0, xs_e⟩⟩
      · rw [e3, Option.bind_some, if_neg (show ¬ (1 : Nat) = 0 by decide), if_pos rfl]
        unfold fM_fail
        rw [Option.bind_some]
        simp only [Nat.zero_add]
        rw [hin _ _ _ _ _ _ (Nat.le_refl _) (Nat.le_refl _)]
        exact hin _ _ _ _ _ _ (by omega) (by omega)
      · have := hc.2
        show s + s2 + pt st ≤ pt st4 + 6 * 3
        omega
theorem read_n {x : Int32} (hT : RefT st T tape prn pl rs) (h : ¬ isR x) : ∃ (z : Int32) (st' : xS), fM_read 104 n st x = some (0, 0, z, st') ∧ RefT st' T tape prn pl rs ∧ xsi st' 0 = 1 ∧ pt st' = pt st := by
  obtain ⟨st1, e1, m1, m2, m3, m4, m5⟩ := beginM (n := n) hT
  unfold fM_read
  rw [e1, Option.bind_some, out_f h, Option.bind_some, if_neg (by decide)]
  exact ⟨_, _, rfl, m3.f0, xs_e, m5⟩
end REA
