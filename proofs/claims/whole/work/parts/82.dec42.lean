set_option maxHeartbeats 400000000 in
set_option maxRecDepth 100000 in
theorem gM_store (l : Launch) (hl9 : l.stackTraces = false) (D : va_G) (cT : Nat → ClassId) (aK aV : Nat → Nat) (sz d n : Nat) (aM : Nat) (ad rd gd vad : Nat → Nat) (st : xS) (x0 : Int32) (c1 : Nat) (out : Nat × Nat × Nat × Int32 × xS) (hf : fM_store d n st x0 c1 = some out) (hkd : out.1 = 0) : xMet l yM_store wyM_store (16 * d + 1) out.2.1 out.2.2.1 (400 * d + 22) D cT aK aV sz [.ref aM, .int x0, xv vad c1] (xMw cT aM ad rd gd vad st []) (fun A => va_Qi (fun (r : Int32) (u : xU) => r = out.2.2.2.1 ∧ xE vad st out.2.2.2.2 u) (fun u t => xB D xcl cT A (xMw cT aM u.1 rd u.2.1 u.2.2 out.2.2.2.2 []) t) A) := by
  refine Met.ofW (cc := prog_13_method_80_code) (maxL := 4) (ret := (some .int)) (by decide) rfl ?_
  intro p e s m args below meth c s₁ B hml hv
  obtain ⟨rfl, hsz, hZ, hP, hK, hD0⟩ := hv
  have hx := B.exec
  have hb := B.bytes
  have hr := B.returns
  have hts := atoms_spec (ws := wyM_store) B.pre
  have htx := fun w h => hts w (List.mem_cons_of_mem _ h)
  have hown : s.vm.findClass "ValueBenchModel" = some m.cls := findClass_of_methodNamed B.named
  have hlocks := B.notSynchronized
  subst hsz
  have hD := hD0.self (sz := s.heap.size)
  generalize hAe : va_A (xMw cT aM ad rd gd vad st []) s.heap.size = A at hD hZ ⊢
  have hA : ∀ q : Nat, s.heap.size ≤ q → A q := fun q h => by rw [← hAe]; exact Or.inr h
  have hS : va_S A s.heap s.heap [] := va_S.rf
  have hl := lv_entry ([.ref aM, .int x0, xv vad c1]) (n := 4) (by simp [lg_sl, xvcat, xrscat, xcI, xcL, xcR, xcN])
  rw [show lv_args 0 [.ref aM, .int x0, xv vad c1] = [(0, .ref aM), (1, .int x0), (2, xv vad c1)] from by simp [lv_args, xvcat, xrscat, xcI, xcL, xcR, xcN]] at hl
  rw [lg_entry_eq]
  generalize (lg_sl ([.ref aM, .int x0, xv vad c1]) ++ List.replicate (4 - (lg_sl ([.ref aM, .int x0, xv vad c1])).length) Slot.unset).toArray = ls at hl ⊢
  have hl : lv_has ls 4 [(0, .ref aM), (1, .int x0), (2, xv vad c1)] := hl
  have hE : ∀ p, p < xct st → vad p = vad p := fun _ _ => rfl
  have hN : xct st ≤ xct st := Nat.le_refl _
  unfold fM_store at hf
  refine xloopM (σ := Nat × Int32 × Int32 × xS × Nat × Nat) (fun n x H locs ls => (∃ (adL gdL vadL : Nat → Nat), x.1 = 1 ∧ fM_store_b d n x.1 x.2.1 x.2.2.1 x.2.2.2.1 x.2.2.2.2.1 x.2.2.2.2.2 = some out ∧ va_P D xcl (xMw cT aM adL rd gdL vadL x.2.2.2.1 []) H ∧ va_D A (xMw cT aM adL rd gdL vadL x.2.2.2.1 []) ∧ va_S A s.heap H locs ∧ lv_has ls 4 [(3, .int x.2.1), (0, .ref aM), (1, .int x.2.2.1)] ∧ (∀ p, p < xct st → vadL p = vad p) ∧ xct st ≤ xct x.2.2.2.1)) (fun x => 19) (fun x => x.2.2.2.2.1) (fun x => x.2.2.2.2.2) (fun x H locs ls h => by (obtain ⟨_, _, _, h⟩ := h; exact absurd h.2.1 (by rw [fM_store_b]; exact fun h => nomatch h))) (fun n ih x H locs ls hv => ?_) (fun key => ?_)
  · obtain ⟨lb, y3, y1, ws9, wc, wn⟩ := x
    rcases hv with ⟨adL, gdL, vadL, hj, hf, hP, hD, hS, hl, hE, hN⟩
    subst hj
    have hf : fM_store_b d (n + 1) 1 y3 y1 ws9 wc wn = some out := hf
    rw [fM_store_b] at hf
    obtain ⟨hP, hD⟩ : xPD D xcl A (xMw cT aM adL rd gdL vadL ws9 []) H := ⟨hP, hD⟩
    have hl : lv_has ls 4 [(3, .int y3), (0, .ref aM), (1, .int y1)] := hl
    refine W.eq (g2 := F0 m 19 ls []) rfl ?_
    show W p l e _ s m _ below meth c H locs wc wn _ _
    obtain ⟨hm0, hf⟩ := xmoE hf
    refine lv_iload_n hx hb dM_store_19 rfl (lv_at hl 0 rfl) ?_
    refine lv_aload_n hx hb dM_store_20 rfl (lv_at hl 1 rfl) ?_
    refine xm_get (v := .int (xsi ws9 22)) hx hb htx hown hK hP 22 (by decide) rfl (htx _ kw_5_109) rfl dM_store_21 ?_
    refine lv_icmp_ge (tgt := 47) hx hb dM_store_24 (by decide) (fun hc => ?_) (fun hc => ?_)
    · rw [if_pos hc] at hf
      refine lv_aload_n hx hb dM_store_47 rfl (lv_at hl 1 rfl) ?_
      refine xm_get (v := .ref (adL 25)) hx hb htx hown hK hP 25 (by decide) rfl (htx _ kw_5_112) rfl dM_store_48 ?_
      refine lv_iload_n hx hb dM_store_51 rfl (lv_at hl 2 rfl) ?_
      refine lv_aload_n hx hb dM_store_52 rfl (lv_at hl 1 rfl) ?_
      refine xm_get (v := .int (xsi ws9 22)) hx hb htx hown hK hP 22 (by decide) rfl (htx _ kw_5_109) rfl dM_store_53 ?_
      obtain ⟨hg1, hf⟩ := xifn hf
      refine va_iast hx hb hK hP hD hS 11 1 rfl rfl hg1 dM_store_56 (fun H locs hP hD hS => ?_)
      obtain ⟨hP, hD⟩ : xPD D xcl A (xMw cT aM adL rd gdL vadL (xsB ws9 25 y1.toNatClampNeg (xsi ws9 22)) []) H := ⟨hP, hD⟩
      refine lv_aload_n hx hb dM_store_57 rfl (lv_at hl 1 rfl) ?_
      refine xm_get (v := .int (xsi ws9 22)) hx hb htx hown hK hP 22 (by decide) rfl (htx _ kw_5_109) rfl dM_store_58 ?_
      obtain rfl := Option.some.inj hf
      exact W.iret (v := (xsi ws9 22)) hx hb hr (fun t ht hW => ⟨⟨(xsi ws9 22), (adL, gdL, vadL), rfl, ⟨rfl, hE, hN⟩, by rw [ht]; exact hP, va_K.moved hW.alike hK, hD⟩, hS.F ht⟩) hS.2.2 dM_store_61
    · rw [if_neg hc] at hf
      refine lv_aload_n hx hb dM_store_27 rfl (lv_at hl 1 rfl) ?_
      refine xm_get (v := .ref (adL 24)) hx hb htx hown hK hP 24 (by decide) rfl (htx _ kw_5_111) rfl dM_store_28 ?_
      refine lv_iload_n hx hb dM_store_31 rfl (lv_at hl 2 rfl) ?_
      obtain ⟨hg1, hf⟩ := xifn hf
      obtain ⟨hg2, hf⟩ := xifn hf
      refine xx_aldA hx hb hK hP 10 5 rfl rfl hg1 dM_store_32 ?_
      refine W.eq (g2 := F0 m 33 ls [xrs adL rd gdL (32 + y1.toNatClampNeg)]) (by show F0 m _ ls (va_rf (xrg rd y1.toNatClampNeg) :: _) = _; rw [xrgE (Nat.lt_of_not_le hg2)]) ?_
      refine lv_iload_n hx hb dM_store_33 rfl (lv_at hl 0 rfl) ?_
      refine lv_aload_n hx hb dM_store_34 rfl (lv_at hl 1 rfl) ?_
      refine xm_get (v := .ref (adL 21)) hx hb htx hown hK hP 21 (by decide) rfl (htx _ kw_5_108) rfl dM_store_35 ?_
      refine lv_iload_n hx hb dM_store_38 rfl (lv_at hl 0 rfl) ?_
      obtain ⟨hg3, hf⟩ := xifn hf
      refine va_bald hx hb hK hP 9 0 rfl rfl hg3 dM_store_39 ?_
      refine W.eq (g2 := F0 m 40 ls [.int ((xba ws9 21) y3.toNatClampNeg), .int y3, xrs adL rd gdL (32 + y1.toNatClampNeg)]) rfl ?_
      obtain ⟨hg4, hf⟩ := xifn hf
      refine W.eq (g2 := F0 m 40 ls (.int ((xba ws9 21) y3.toNatClampNeg) :: .int y3 :: .ref (rd y1.toNatClampNeg) :: [])) (by rw [xrs_row (Nat.lt_of_not_le hg2)]) ?_
      refine xm_rst hx hb hK hP hD hS (Nat.lt_of_not_le hg2) hg4 dM_store_40 (fun H locs hP hD hS => ?_)
      refine lv_iinc (v := (y3 + 1)) (lv' := [(3, .int (y3 + 1)), (0, .ref aM), (1, .int y1)]) hx hb dM_store_41 hl (k := 0) rfl rfl (by decide) rfl (fun ls hl => ?_)
      refine lv_goto (tgt := 19) hx hb dM_store_44 (by decide) ?_
      exact ih (1, (y3 + 1), y1, (xsB ws9 (32 + y1.toNatClampNeg) y3.toNatClampNeg (vp_nar .byte ((xba ws9 21) y3.toNatClampNeg))), wc, wn) _ _ ls (⟨adL, gdL, vadL, rfl, hf, hP, hD, hS, lv_sub hl [0, 1, 2] rfl, hE, hN⟩)
  refine lv_aload_n hx hb dM_store_0 rfl (lv_at hl 0 rfl) ?_
  refine lv_iconst (v := 0) hx hb dM_store_1 (by decide) ?_
  refine xm_put (v := .int 0) (W' := (xMw cT aM ad rd gd vad (xsI st 22 0) [])) (ty := .int) hx hb htx hown hK hP hD hS 22 (by decide) rfl (htx _ kw_5_109) rfl rfl (by decide +kernel) rfl rfl dM_store_2 (fun H locs hP hD hS => ?_)
  refine lv_aload_n hx hb dM_store_5 rfl (lv_at hl 0 rfl) ?_
  refine lv_sipush (v := 4096) hx hb dM_store_6 (by decide) ?_
  refine xm_put (v := .int 4096) (W' := (xMw cT aM ad rd gd vad (xsI (xsI st 22 0) 23 4096) [])) (ty := .int) hx hb htx hown hK hP hD hS 23 (by decide) rfl (htx _ kw_5_110) rfl rfl (by decide +kernel) rfl rfl dM_store_9 (fun H locs hP hD hS => ?_)
  refine lv_aload_n hx hb dM_store_12 rfl (lv_at hl 0 rfl) ?_
  refine xm_aload_n hx hb (xvor _ _) dM_store_13 rfl (lv_at hl 2 rfl) ?_
  obtain ⟨o1, hq2, hf⟩ := xbind hf
  have hl := lv_sub (l' := [(0, .ref aM), (1, .int x0)]) hl [0, 1] rfl
  by_cases hk3 : o1.1 = 0
  · rw [if_pos hk3] at hf
    obtain ⟨hm4, hf⟩ := xmoE hf
    have hFc := xm_free hD hS hA
    refine va_callv (va_runV (C := "ValueBenchModel") (As := [xv vad c1]) (rest := []) ⟨hx, hb, hml, hown, htx⟩ ((gM_print1 l hl9 D cT aK aV d H.size n aM ad rd gd vad (xsI (xsI st 22 0) 23 4096) c1 o1 hq2).1 hk3) ⟨callB_of 1 htx (xw_goodC kw_6_128) rfl rfl rfl (htx _ kw_1_5) (htx _ kw_6_125) ⟨by decide, by decide, by decide +kernel⟩ ⟨(by show (16 * d) + 1 ≤ 16 * d + 1; omega), (by show 8 + (3 + 11) + (400 * d) ≤ 400 * d + 22; omega)⟩, (htx _ kw_6_127), (htx _ kp_M_print1)⟩ ⟨xPre_blind, va_recv hK hP (ci := 5) rfl (q0 := 0) rfl, (fun U hU hW => ⟨rfl, xPre_of hZ hS hFc hP hD hK U hU hW⟩)⟩ rfl rfl hl.1 rfl (xm_room (Nat.le_of_ble_eq_true rfl)) dM_store_14 ⟨hm4.1, hm4.2⟩) hS (fun q _ h => hFc q h) hFc (fun u9 t H1 locs ht hvm hr9 hB hz1 hk1 hS => ?_)
    obtain ⟨hP1, hK1, hD1⟩ := hB
    rw [ht] at hP1
    obtain ⟨ad6, gd7, vad8⟩ := u9
    obtain ⟨hv9, hn10⟩ := hr9
    have hP : va_P D xcl (xMw cT aM ad6 rd gd7 vad8 o1.2.2.2 []) H1 := hP1
    have hD : va_D A (xMw cT aM ad6 rd gd7 vad8 o1.2.2.2 []) := hD1.weaken (fun k q _ h => hFc q.1 h)
    generalize H1 = H at hP hS ⊢
    have hE9 : ∀ p, p < xct st → vad8 p = vad p := fun p h => (hv9 p (Nat.lt_of_lt_of_le h hN)).trans (hE p h)
    have hE := hE9
    have hN : xct st ≤ xct o1.2.2.2 := Nat.le_trans hN hn10
    refine W.eq (g2 := F0 m 17 ls []) (by first | rfl | (skip; rfl)) ?_
    refine lv_iconst (v := 0) hx hb dM_store_17 (by decide) ?_
    refine lv_istore_n (lv' := [(3, .int 0), (0, .ref aM), (1, .int x0)]) hx hb dM_store_18 rfl hl (by decide) rfl (fun ls hl => ?_)
    exact key n (1, (0 : Int32), x0, o1.2.2.2, (0 + o1.2.1), (0 + o1.2.2.1)) _ _ ls (⟨ad6, gd7, vad8, rfl, hf, hP, hD, hS, lv_sub hl [0, 1, 2] rfl, hE, hN⟩)
  rw [if_neg hk3] at hf
  by_cases hk11 : o1.1 = 1
  · rw [if_pos hk11] at hf
    obtain ⟨hm12, hf⟩ := xmoE hf
    obtain rfl := Option.some.inj hf
    exact absurd (show (1 : Nat) = 0 from hkd) (by decide)
  rw [if_neg hk11] at hf
  exact nomatch hf
set_option maxHeartbeats 400000000 in
set_option maxRecDepth 100000 in
theorem gM_store_1 (l : Launch) (hl9 : l.stackTraces = false) (D : va_G) (cT : Nat → ClassId) (aK aV : Nat → Nat) (sz d n : Nat) (aM : Nat) (ad rd gd vad : Nat → Nat) (st : xS) (x0 : Int32) (c1 : Nat) (out : Nat × Nat × Nat × Int32 × xS) (hf : fM_store d n st x0 c1 = some out) (hkd : out.1 = 1) : xMetY l yM_store wyM_store (16 * d + 1) out.2.1 out.2.2.1 (400 * d + 22) D cT aK aV sz [.ref aM, .int x0, xv vad c1] (xMw cT aM ad rd gd vad st []) "java/lang/IndexOutOfBoundsException" (fun u => xE vad st out.2.2.2.2 u) (fun A u t => xB D xcl cT A (xMw cT aM u.1 rd u.2.1 u.2.2 out.2.2.2.2 []) t) := by
  refine vx_ofW (cc := prog_13_method_80_code) (maxL := 4) (ret := (some .int)) (by decide) rfl ?_
  intro p e s m args below meth c s₁ B hml hne hv
  obtain ⟨rfl, hsz, hZ, hP, hK, hD0⟩ := hv
  have hx := B.exec
  have hb := B.bytes
  have hr := B.returns
  have hts := atoms_spec (ws := wyM_store) B.pre
  have htx := fun w h => hts w (List.mem_cons_of_mem _ h)
  have hown : s.vm.findClass "ValueBenchModel" = some m.cls := findClass_of_methodNamed B.named
  have hlocks := B.notSynchronized
  subst hsz
  have hD := hD0.self (sz := s.heap.size)
  generalize hAe : va_A (xMw cT aM ad rd gd vad st []) s.heap.size = A at hD hZ ⊢
  have hA : ∀ q : Nat, s.heap.size ≤ q → A q := fun q h => by rw [← hAe]; exact Or.inr h
  have hS : va_S A s.heap s.heap [] := va_S.rf
  have hl := lv_entry ([.ref aM, .int x0, xv vad c1]) (n := 4) (by simp [lg_sl, xvcat, xrscat, xcI, xcL, xcR, xcN])
  rw [show lv_args 0 [.ref aM, .int x0, xv vad c1] = [(0, .ref aM), (1, .int x0), (2, xv vad c1)] from by simp [lv_args, xvcat, xrscat, xcI, xcL, xcR, xcN]] at hl
  rw [lg_entry_eq]
  generalize (lg_sl ([.ref aM, .int x0, xv vad c1]) ++ List.replicate (4 - (lg_sl ([.ref aM, .int x0, xv vad c1])).length) Slot.unset).toArray = ls at hl ⊢
  have hl : lv_has ls 4 [(0, .ref aM), (1, .int x0), (2, xv vad c1)] := hl
  have hE : ∀ p, p < xct st → vad p = vad p := fun _ _ => rfl
  have hN : xct st ≤ xct st := Nat.le_refl _
  unfold fM_store at hf
  refine xloopM (σ := Nat × Int32 × Int32 × xS × Nat × Nat) (fun n x H locs ls => (∃ (adL gdL vadL : Nat → Nat), x.1 = 1 ∧ fM_store_b d n x.1 x.2.1 x.2.2.1 x.2.2.2.1 x.2.2.2.2.1 x.2.2.2.2.2 = some out ∧ va_P D xcl (xMw cT aM adL rd gdL vadL x.2.2.2.1 []) H ∧ va_D A (xMw cT aM adL rd gdL vadL x.2.2.2.1 []) ∧ va_S A s.heap H locs ∧ lv_has ls 4 [(3, .int x.2.1), (0, .ref aM), (1, .int x.2.2.1)] ∧ (∀ p, p < xct st → vadL p = vad p) ∧ xct st ≤ xct x.2.2.2.1)) (fun x => 19) (fun x => x.2.2.2.2.1) (fun x => x.2.2.2.2.2) (fun x H locs ls h => by (obtain ⟨_, _, _, h⟩ := h; exact absurd h.2.1 (by rw [fM_store_b]; exact fun h => nomatch h))) (fun n ih x H locs ls hv => ?_) (fun key => ?_)
  · obtain ⟨lb, y3, y1, ws9, wc, wn⟩ := x
    rcases hv with ⟨adL, gdL, vadL, hj, hf, hP, hD, hS, hl, hE, hN⟩
    subst hj
    have hf : fM_store_b d (n + 1) 1 y3 y1 ws9 wc wn = some out := hf
    rw [fM_store_b] at hf
    obtain ⟨hP, hD⟩ : xPD D xcl A (xMw cT aM adL rd gdL vadL ws9 []) H := ⟨hP, hD⟩
    have hl : lv_has ls 4 [(3, .int y3), (0, .ref aM), (1, .int y1)] := hl
    refine W.eq (g2 := F0 m 19 ls []) rfl ?_
    show W p l e _ s m _ below meth c H locs wc wn _ _
    obtain ⟨hm0, hf⟩ := xmoE hf
    refine lv_iload_n hx hb dM_store_19 rfl (lv_at hl 0 rfl) ?_
    refine lv_aload_n hx hb dM_store_20 rfl (lv_at hl 1 rfl) ?_
    refine xm_get (v := .int (xsi ws9 22)) hx hb htx hown hK hP 22 (by decide) rfl (htx _ kw_5_109) rfl dM_store_21 ?_
    refine lv_icmp_ge (tgt := 47) hx hb dM_store_24 (by decide) (fun hc => ?_) (fun hc => ?_)
    · rw [if_pos hc] at hf
      refine lv_aload_n hx hb dM_store_47 rfl (lv_at hl 1 rfl) ?_
      refine xm_get (v := .ref (adL 25)) hx hb htx hown hK hP 25 (by decide) rfl (htx _ kw_5_112) rfl dM_store_48 ?_
      refine lv_iload_n hx hb dM_store_51 rfl (lv_at hl 2 rfl) ?_
      refine lv_aload_n hx hb dM_store_52 rfl (lv_at hl 1 rfl) ?_
      refine xm_get (v := .int (xsi ws9 22)) hx hb htx hown hK hP 22 (by decide) rfl (htx _ kw_5_109) rfl dM_store_53 ?_
      obtain ⟨hg1, hf⟩ := xifn hf
      refine va_iast hx hb hK hP hD hS 11 1 rfl rfl hg1 dM_store_56 (fun H locs hP hD hS => ?_)
      obtain ⟨hP, hD⟩ : xPD D xcl A (xMw cT aM adL rd gdL vadL (xsB ws9 25 y1.toNatClampNeg (xsi ws9 22)) []) H := ⟨hP, hD⟩
      refine lv_aload_n hx hb dM_store_57 rfl (lv_at hl 1 rfl) ?_
      refine xm_get (v := .int (xsi ws9 22)) hx hb htx hown hK hP 22 (by decide) rfl (htx _ kw_5_109) rfl dM_store_58 ?_
      obtain rfl := Option.some.inj hf
      exact absurd (show (0 : Nat) = 1 from hkd) (by decide)
    · rw [if_neg hc] at hf
      refine lv_aload_n hx hb dM_store_27 rfl (lv_at hl 1 rfl) ?_
      refine xm_get (v := .ref (adL 24)) hx hb htx hown hK hP 24 (by decide) rfl (htx _ kw_5_111) rfl dM_store_28 ?_
      refine lv_iload_n hx hb dM_store_31 rfl (lv_at hl 2 rfl) ?_
      obtain ⟨hg1, hf⟩ := xifn hf
      obtain ⟨hg2, hf⟩ := xifn hf
      refine xx_aldA hx hb hK hP 10 5 rfl rfl hg1 dM_store_32 ?_
      refine W.eq (g2 := F0 m 33 ls [xrs adL rd gdL (32 + y1.toNatClampNeg)]) (by show F0 m _ ls (va_rf (xrg rd y1.toNatClampNeg) :: _) = _; rw [xrgE (Nat.lt_of_not_le hg2)]) ?_
      refine lv_iload_n hx hb dM_store_33 rfl (lv_at hl 0 rfl) ?_
      refine lv_aload_n hx hb dM_store_34 rfl (lv_at hl 1 rfl) ?_
      refine xm_get (v := .ref (adL 21)) hx hb htx hown hK hP 21 (by decide) rfl (htx _ kw_5_108) rfl dM_store_35 ?_
      refine lv_iload_n hx hb dM_store_38 rfl (lv_at hl 0 rfl) ?_
      obtain ⟨hg3, hf⟩ := xifn hf
      refine va_bald hx hb hK hP 9 0 rfl rfl hg3 dM_store_39 ?_
      refine W.eq (g2 := F0 m 40 ls [.int ((xba ws9 21) y3.toNatClampNeg), .int y3, xrs adL rd gdL (32 + y1.toNatClampNeg)]) rfl ?_
      obtain ⟨hg4, hf⟩ := xifn hf
      refine W.eq (g2 := F0 m 40 ls (.int ((xba ws9 21) y3.toNatClampNeg) :: .int y3 :: .ref (rd y1.toNatClampNeg) :: [])) (by rw [xrs_row (Nat.lt_of_not_le hg2)]) ?_
      refine xm_rst hx hb hK hP hD hS (Nat.lt_of_not_le hg2) hg4 dM_store_40 (fun H locs hP hD hS => ?_)
      refine lv_iinc (v := (y3 + 1)) (lv' := [(3, .int (y3 + 1)), (0, .ref aM), (1, .int y1)]) hx hb dM_store_41 hl (k := 0) rfl rfl (by decide) rfl (fun ls hl => ?_)
      refine lv_goto (tgt := 19) hx hb dM_store_44 (by decide) ?_
      exact ih (1, (y3 + 1), y1, (xsB ws9 (32 + y1.toNatClampNeg) y3.toNatClampNeg (vp_nar .byte ((xba ws9 21) y3.toNatClampNeg))), wc, wn) _ _ ls (⟨adL, gdL, vadL, rfl, hf, hP, hD, hS, lv_sub hl [0, 1, 2] rfl, hE, hN⟩)
  refine lv_aload_n hx hb dM_store_0 rfl (lv_at hl 0 rfl) ?_
  refine lv_iconst (v := 0) hx hb dM_store_1 (by decide) ?_
  refine xm_put (v := .int 0) (W' := (xMw cT aM ad rd gd vad (xsI st 22 0) [])) (ty := .int) hx hb htx hown hK hP hD hS 22 (by decide) rfl (htx _ kw_5_109) rfl rfl (by decide +kernel) rfl rfl dM_store_2 (fun H locs hP hD hS => ?_)
  refine lv_aload_n hx hb dM_store_5 rfl (lv_at hl 0 rfl) ?_
  refine lv_sipush (v := 4096) hx hb dM_store_6 (by decide) ?_
  refine xm_put (v := .int 4096) (W' := (xMw cT aM ad rd gd vad (xsI (xsI st 22 0) 23 4096) [])) (ty := .int) hx hb htx hown hK hP hD hS 23 (by decide) rfl (htx _ kw_5_110) rfl rfl (by decide +kernel) rfl rfl dM_store_9 (fun H locs hP hD hS => ?_)
  refine lv_aload_n hx hb dM_store_12 rfl (lv_at hl 0 rfl) ?_
  refine xm_aload_n hx hb (xvor _ _) dM_store_13 rfl (lv_at hl 2 rfl) ?_
  obtain ⟨o1, hq2, hf⟩ := xbind hf
  have hl := lv_sub (l' := [(0, .ref aM), (1, .int x0)]) hl [0, 1] rfl
  by_cases hk3 : o1.1 = 0
  · rw [if_pos hk3] at hf
    obtain ⟨hm4, hf⟩ := xmoE hf
    have hFc := xm_free hD hS hA
    refine va_callv (va_runV (C := "ValueBenchModel") (As := [xv vad c1]) (rest := []) ⟨hx, hb, hml, hown, htx⟩ ((gM_print1 l hl9 D cT aK aV d H.size n aM ad rd gd vad (xsI (xsI st 22 0) 23 4096) c1 o1 hq2).1 hk3) ⟨callB_of 1 htx (xw_goodC kw_6_128) rfl rfl rfl (htx _ kw_1_5) (htx _ kw_6_125) ⟨by decide, by decide, by decide +kernel⟩ ⟨(by show (16 * d) + 1 ≤ 16 * d + 1; omega), (by show 8 + (3 + 11) + (400 * d) ≤ 400 * d + 22; omega)⟩, (htx _ kw_6_127), (htx _ kp_M_print1)⟩ ⟨xPre_blind, va_recv hK hP (ci := 5) rfl (q0 := 0) rfl, (fun U hU hW => ⟨rfl, xPre_of hZ hS hFc hP hD hK U hU hW⟩)⟩ rfl rfl hl.1 rfl (xm_room (Nat.le_of_ble_eq_true rfl)) dM_store_14 ⟨hm4.1, hm4.2⟩) hS (fun q _ h => hFc q h) hFc (fun u9 t H1 locs ht hvm hr9 hB hz1 hk1 hS => ?_)
    obtain ⟨hP1, hK1, hD1⟩ := hB
    rw [ht] at hP1
    obtain ⟨ad6, gd7, vad8⟩ := u9
    obtain ⟨hv9, hn10⟩ := hr9
    have hP : va_P D xcl (xMw cT aM ad6 rd gd7 vad8 o1.2.2.2 []) H1 := hP1
    have hD : va_D A (xMw cT aM ad6 rd gd7 vad8 o1.2.2.2 []) := hD1.weaken (fun k q _ h => hFc q.1 h)
    generalize H1 = H at hP hS ⊢
    have hE9 : ∀ p, p < xct st → vad8 p = vad p := fun p h => (hv9 p (Nat.lt_of_lt_of_le h hN)).trans (hE p h)
    have hE := hE9
    have hN : xct st ≤ xct o1.2.2.2 := Nat.le_trans hN hn10
    refine W.eq (g2 := F0 m 17 ls []) (by first | rfl | (skip; rfl)) ?_
    refine lv_iconst (v := 0) hx hb dM_store_17 (by decide) ?_
    refine lv_istore_n (lv' := [(3, .int 0), (0, .ref aM), (1, .int x0)]) hx hb dM_store_18 rfl hl (by decide) rfl (fun ls hl => ?_)
    exact key n (1, (0 : Int32), x0, o1.2.2.2, (0 + o1.2.1), (0 + o1.2.2.1)) _ _ ls (⟨ad6, gd7, vad8, rfl, hf, hP, hD, hS, lv_sub hl [0, 1, 2] rfl, hE, hN⟩)
  rw [if_neg hk3] at hf
  by_cases hk11 : o1.1 = 1
  · rw [if_pos hk11] at hf
    obtain ⟨hm12, hf⟩ := xmoE hf
    have hFc := xm_free hD hS hA
    refine xx_thr (vx_runV (C := "ValueBenchModel") (As := [xv vad c1]) (rest := []) ⟨hx, hb, hml, hown, htx⟩ ((gM_print1 l hl9 D cT aK aV d H.size n aM ad rd gd vad (xsI (xsI st 22 0) 23 4096) c1 o1 hq2).2 hk11) ⟨callB_of 1 htx (xw_goodC kw_6_128) rfl rfl rfl (htx _ kw_1_5) (htx _ kw_6_125) ⟨by decide, by decide, by decide +kernel⟩ ⟨(by show (16 * d) + 1 ≤ 16 * d + 1; omega), (by show 8 + (3 + 11) + (400 * d) ≤ 400 * d + 22; omega)⟩, (htx _ kw_6_127), (htx _ kp_M_print1)⟩ ⟨xPre_blind, va_recv hK hP (ci := 5) rfl (q0 := 0) rfl, (fun U hU hW => ⟨rfl, xPre_of hZ hS hFc hP hD hK U hU hW⟩)⟩ rfl rfl hl.1 rfl (xm_room (Nat.le_of_ble_eq_true rfl)) dM_store_14 ⟨hm12.1, hm12.2⟩) hS hFc (fun q _ h => hFc q h) (fun E ce q9 u9 t H1 locs ht hvm hr9 hB hz1 hk1 hS hce hcv hcl => ?_)
    obtain ⟨rfl, hP1, hK1, hD1⟩ := hB
    rw [ht] at hP1
    obtain ⟨ad14, gd15, vad16⟩ := u9
    obtain ⟨hv17, hn18⟩ := hr9
    have hP : va_P D xcl (xMw cT aM ad14 rd gd15 vad16 o1.2.2.2 []) H1 := hP1
    have hD : va_D A (xMw cT aM ad14 rd gd15 vad16 o1.2.2.2 []) := hD1.weaken (fun k q _ h => hFc q.1 h)
    generalize H1 = H at hP hS hce ⊢
    have hE9 : ∀ p, p < xct st → vad16 p = vad p := fun p h => (hv17 p (Nat.lt_of_lt_of_le h hN)).trans (hE p h)
    have hE := hE9
    have hN : xct st ≤ xct o1.2.2.2 := Nat.le_trans hN hn18
    obtain rfl := Option.some.inj hf
    exact vx_out (E := "java/lang/IndexOutOfBoundsException") (fun x h => (hne x h).elim) hlocks hce hcv hcl (fun t ht ha => ⟨(ad14, gd15, vad16), ⟨hE, hN⟩, ⟨rfl, by rw [ht]; exact hP, va_K.moved ha hK, hD⟩, hS.F ht⟩) hS.2.2 (Nat.le_refl _) (Nat.le_refl _)
  rw [if_neg hk11] at hf
  exact nomatch hf
set_option maxHeartbeats 400000000 in
set_option maxRecDepth 100000 in
theorem gM_truth (l : Launch) (hl9 : l.stackTraces = false) (D : va_G) (cT : Nat → ClassId) (aK aV : Nat → Nat) (sz n : Nat) (aM : Nat) (ad rd gd vad : Nat → Nat) (st : xS) (x0 : Int32) (out : Nat × Nat × Nat × xS) (hf : fM_truth n st x0 = some out) : xMet l yM_truth wyM_truth 3 out.1 out.2.1 55 D cT aK aV sz [.ref aM, .int x0] (xMw cT aM ad rd gd vad st []) (fun A => va_Qq (fun (r : Option Nat) (u : xU) => r = xca u.2.2 out.2.2.1 ∧ xE vad st out.2.2.2 u) (fun u t => xB D xcl cT A (xMw cT aM u.1 rd u.2.1 u.2.2 out.2.2.2 []) t) A) := by
  refine Met.ofW (cc := prog_13_method_8_code) (maxL := 2) (ret := (some (.object "ValueBenchModel$V"))) (by decide) rfl ?_
  intro p e s m args below meth c s₁ B hml hv
  obtain ⟨rfl, hsz, hZ, hP, hK, hD0⟩ := hv
  have hx := B.exec
  have hb := B.bytes
  have hr := B.returns
  have hts := atoms_spec (ws := wyM_truth) B.pre
  have htx := fun w h => hts w (List.mem_cons_of_mem _ h)
  have hown : s.vm.findClass "ValueBenchModel" = some m.cls := findClass_of_methodNamed B.named
  have hlocks := B.notSynchronized
  subst hsz
  have hD := hD0.self (sz := s.heap.size)
  generalize hAe : va_A (xMw cT aM ad rd gd vad st []) s.heap.size = A at hD hZ ⊢
  have hA : ∀ q : Nat, s.heap.size ≤ q → A q := fun q h => by rw [← hAe]; exact Or.inr h
  have hS : va_S A s.heap s.heap [] := va_S.rf
  have hl := lv_entry ([.ref aM, .int x0]) (n := 2) (by simp [lg_sl, xvcat, xrscat, xcI, xcL, xcR, xcN])
  rw [show lv_args 0 [.ref aM, .int x0] = [(0, .ref aM), (1, .int x0)] from by simp [lv_args, xvcat, xrscat, xcI, xcL, xcR, xcN]] at hl
  rw [lg_entry_eq]
  generalize (lg_sl ([.ref aM, .int x0]) ++ List.replicate (2 - (lg_sl ([.ref aM, .int x0])).length) Slot.unset).toArray = ls at hl ⊢
  have hl : lv_has ls 2 [(0, .ref aM), (1, .int x0)] := hl
  have hE : ∀ p, p < xct st → vad p = vad p := fun _ _ => rfl
  have hN : xct st ≤ xct st := Nat.le_refl _
  unfold fM_truth at hf
  refine lv_aload_n hx hb dM_truth_0 rfl (lv_at hl 0 rfl) ?_
  refine lv_iload_n hx hb dM_truth_1 rfl (lv_at hl 1 rfl) ?_
  refine lv_if_eq (tgt := 9) hx hb dM_truth_2 (by decide) (fun hc => ?_) (fun hc => ?_)
  · rw [if_pos hc] at hf
    refine lv_iconst (v := 1) hx hb dM_truth_9 (by decide) ?_
    obtain ⟨o1, hq2, hf⟩ := xbind hf
    obtain ⟨hm3, hf⟩ := xmoE hf
    have hFc := xm_free hD hS hA
    refine va_callq (va_runV (C := "ValueBenchModel") (As := [.int 1]) (rest := []) ⟨hx, hb, hml, hown, htx⟩ (gM_fresh l hl9 D cT aK aV s.heap.size n aM ad rd gd vad st (1 : Int32) o1 hq2) ⟨callB_of 1 htx (xw_goodC kw_6_16) rfl rfl rfl (htx _ kw_1_5) (htx _ kw_6_13) ⟨by decide, by decide, by decide +kernel⟩ ⟨Nat.le_of_ble_eq_true rfl, Nat.le_of_ble_eq_true rfl⟩, (htx _ kw_6_15), (htx _ kp_M_fresh)⟩ ⟨xPre_blind, va_recv hK hP (ci := 5) rfl (q0 := 0) rfl, (fun U hU hW => ⟨rfl, xPre_of hZ hS hFc hP hD hK U hU hW⟩)⟩ rfl rfl hl.1 rfl (xm_room (Nat.le_of_ble_eq_true rfl)) dM_truth_10 ⟨hm3.1, hm3.2⟩) hS (fun q _ h => hFc q h) hFc (fun r4 u9 t H1 locs ht hvm hr9 hB hz1 hk1 hS => ?_)
    obtain ⟨hP1, hK1, hD1⟩ := hB
    rw [ht] at hP1
    obtain ⟨ad5, gd6, vad7⟩ := u9
    obtain ⟨hr9, hv8, hn9⟩ := hr9
    have hP : va_P D xcl (xMw cT aM ad5 rd gd6 vad7 o1.2.2.2 []) H1 := hP1
    have hD : va_D A (xMw cT aM ad5 rd gd6 vad7 o1.2.2.2 []) := hD1.weaken (fun k q _ h => hFc q.1 h)
    generalize H1 = H at hP hS ⊢
    have hE9 : ∀ p, p < xct st → vad7 p = vad p := fun p h => (hv8 p (Nat.lt_of_lt_of_le h hN)).trans (hE p h)
    have hE := hE9
    have hN : xct st ≤ xct o1.2.2.2 := Nat.le_trans hN hn9
    rw [hr9]
    refine W.eq (g2 := F0 m 13 ls [xv vad7 o1.2.2.1]) (by first | rfl | (skip; rfl)) ?_
    obtain rfl := Option.some.inj hf
    exact W.aret (v := xv vad7 o1.2.2.1) hx hb hr (Or.inl ⟨_, rfl⟩) (xvor _ _) (fun t ht hW => ⟨⟨xca vad7 o1.2.2.1, (ad5, gd6, vad7), rfl, ⟨rfl, hE, hN⟩, by rw [ht]; exact hP, va_K.moved hW.alike hK, hD⟩, hS.F ht⟩) hS.2.2 dM_truth_13
  · rw [if_neg hc] at hf
    refine lv_iconst (v := 2) hx hb dM_truth_5 (by decide) ?_
    refine lv_goto (tgt := 10) hx hb dM_truth_6 (by decide) ?_
    obtain ⟨o1, hq2, hf⟩ := xbind hf
    obtain ⟨hm3, hf⟩ := xmoE hf
    have hFc := xm_free hD hS hA
    refine va_callq (va_runV (C := "ValueBenchModel") (As := [.int 2]) (rest := []) ⟨hx, hb, hml, hown, htx⟩ (gM_fresh l hl9 D cT aK aV s.heap.size n aM ad rd gd vad st (2 : Int32) o1 hq2) ⟨callB_of 1 htx (xw_goodC kw_6_16) rfl rfl rfl (htx _ kw_1_5) (htx _ kw_6_13) ⟨by decide, by decide, by decide +kernel⟩ ⟨Nat.le_of_ble_eq_true rfl, Nat.le_of_ble_eq_true rfl⟩, (htx _ kw_6_15), (htx _ kp_M_fresh)⟩ ⟨xPre_blind, va_recv hK hP (ci := 5) rfl (q0 := 0) rfl, (fun U hU hW => ⟨rfl, xPre_of hZ hS hFc hP hD hK U hU hW⟩)⟩ rfl rfl hl.1 rfl (xm_room (Nat.le_of_ble_eq_true rfl)) dM_truth_10 ⟨hm3.1, hm3.2⟩) hS (fun q _ h => hFc q h) hFc (fun r4 u9 t H1 locs ht hvm hr9 hB hz1 hk1 hS => ?_)
    obtain ⟨hP1, hK1, hD1⟩ := hB
    rw [ht] at hP1
    obtain ⟨ad5, gd6, vad7⟩ := u9
    obtain ⟨hr9, hv8, hn9⟩ := hr9
    have hP : va_P D xcl (xMw cT aM ad5 rd gd6 vad7 o1.2.2.2 []) H1 := hP1
    have hD : va_D A (xMw cT aM ad5 rd gd6 vad7 o1.2.2.2 []) := hD1.weaken (fun k q _ h => hFc q.1 h)
    generalize H1 = H at hP hS ⊢
    have hE9 : ∀ p, p < xct st → vad7 p = vad p := fun p h => (hv8 p (Nat.lt_of_lt_of_le h hN)).trans (hE p h)
    have hE := hE9
    have hN : xct st ≤ xct o1.2.2.2 := Nat.le_trans hN hn9
    rw [hr9]
    refine W.eq (g2 := F0 m 13 ls [xv vad7 o1.2.2.1]) (by first | rfl | (skip; rfl)) ?_
    obtain rfl := Option.some.inj hf
    exact W.aret (v := xv vad7 o1.2.2.1) hx hb hr (Or.inl ⟨_, rfl⟩) (xvor _ _) (fun t ht hW => ⟨⟨xca vad7 o1.2.2.1, (ad5, gd6, vad7), rfl, ⟨rfl, hE, hN⟩, by rw [ht]; exact hP, va_K.moved hW.alike hK, hD⟩, hS.F ht⟩) hS.2.2 dM_truth_13
set_option maxHeartbeats 400000000 in
set_option maxRecDepth 100000 in
theorem gM_has (l : Launch) (hl9 : l.stackTraces = false) (D : va_G) (cT : Nat → ClassId) (aK aV : Nat → Nat) (sz n : Nat) (aM : Nat) (ad rd gd vad : Nat → Nat) (st : xS) (c0 : Nat) (c1 : Nat) (out : Nat × Nat × Nat × Nat × xS) (hf : fM_has n st c0 c1 = some out) (hkd : out.1 = 0) : xMet l yM_has wyM_has 7 out.2.1 out.2.2.1 121 D cT aK aV sz [.ref aM, xv vad c0, xv vad c1] (xMw cT aM ad rd gd vad st []) (fun A => va_Qq (fun (r : Option Nat) (u : xU) => r = xca u.2.2 out.2.2.2.1 ∧ xE vad st out.2.2.2.2 u) (fun u t => xB D xcl cT A (xMw cT aM u.1 rd u.2.1 u.2.2 out.2.2.2.2 []) t) A) := by
  refine Met.ofW (cc := prog_13_method_67_code) (maxL := 3) (ret := (some (.object "ValueBenchModel$V"))) (by decide) rfl ?_
  intro p e s m args below meth c s₁ B hml hv
  obtain ⟨rfl, hsz, hZ, hP, hK, hD0⟩ := hv
  have hx := B.exec
  have hb := B.bytes
  have hr := B.returns
  have hts := atoms_spec (ws := wyM_has) B.pre
  have htx := fun w h => hts w (List.mem_cons_of_mem _ h)
  have hown : s.vm.findClass "ValueBenchModel" = some m.cls := findClass_of_methodNamed B.named
  have hlocks := B.notSynchronized
  subst hsz
  have hD := hD0.self (sz := s.heap.size)
  generalize hAe : va_A (xMw cT aM ad rd gd vad st []) s.heap.size = A at hD hZ ⊢
  have hA : ∀ q : Nat, s.heap.size ≤ q → A q := fun q h => by rw [← hAe]; exact Or.inr h
  have hS : va_S A s.heap s.heap [] := va_S.rf
  have hl := lv_entry ([.ref aM, xv vad c0, xv vad c1]) (n := 3) (by simp [lg_sl, xvcat, xrscat, xcI, xcL, xcR, xcN])
  rw [show lv_args 0 [.ref aM, xv vad c0, xv vad c1] = [(0, .ref aM), (1, xv vad c0), (2, xv vad c1)] from by simp [lv_args, xvcat, xrscat, xcI, xcL, xcR, xcN]] at hl
  rw [lg_entry_eq]
  generalize (lg_sl ([.ref aM, xv vad c0, xv vad c1]) ++ List.replicate (3 - (lg_sl ([.ref aM, xv vad c0, xv vad c1])).length) Slot.unset).toArray = ls at hl ⊢
  have hl : lv_has ls 3 [(0, .ref aM), (1, xv vad c0), (2, xv vad c1)] := hl
  have hE : ∀ p, p < xct st → vad p = vad p := fun _ _ => rfl
  have hN : xct st ≤ xct st := Nat.le_refl _
  unfold fM_has at hf
  refine xm_aload_n hx hb (xvor _ _) dM_has_0 rfl (lv_at hl 1 rfl) ?_
  obtain ⟨hg1, hf⟩ := xifn hf
  refine xm_vget (v := .int ((xpi st 0) (c0 - 1))) hx hb htx hown hK hP 0 (by decide) hg1 rfl ((hZ.1 (93, "kind", "I") (List.mem_of_getElem? (i := 0) rfl)).use rfl) rfl dM_has_1 ?_
  refine lv_bipush (v := 6) hx hb dM_has_4 (by decide) ?_
  refine lv_icmp_ne (tgt := 36) hx hb dM_has_6 (by decide) (fun hc => ?_) (fun hc => ?_)
  · rw [if_neg hc] at hf
    refine xm_aload_n hx hb (xvor _ _) dM_has_36 rfl (lv_at hl 1 rfl) ?_
    refine xm_vget (v := .int ((xpi st 0) (c0 - 1))) hx hb htx hown hK hP 0 (by decide) hg1 rfl ((hZ.1 (93, "kind", "I") (List.mem_of_getElem? (i := 0) rfl)).use rfl) rfl dM_has_37 ?_
    refine lv_iconst (v := 5) hx hb dM_has_40 (by decide) ?_
    refine lv_icmp_ne (tgt := 84) hx hb dM_has_41 (by decide) (fun hc => ?_) (fun hc => ?_)
    · rw [if_neg hc] at hf
      refine lv_aload_n hx hb dM_has_84 rfl (lv_at hl 0 rfl) ?_
      refine lv_iconst (v := 1) hx hb dM_has_85 (by decide) ?_
      obtain ⟨o2, hq3, hf⟩ := xbind hf
      have hl := lv_sub (l' := [(0, .ref aM)]) hl [0] rfl
      by_cases hk4 : o2.1 = 1
      · rw [if_pos hk4] at hf
        obtain ⟨hm5, hf⟩ := xmoE hf
        obtain rfl := Option.some.inj hf
        exact absurd (show (1 : Nat) = 0 from hkd) (by decide)
      rw [if_neg hk4] at hf
      exact nomatch hf
    · rw [if_pos hc] at hf
      refine xm_aload_n hx hb (xvor _ _) dM_has_44 rfl (lv_at hl 2 rfl) ?_
      obtain ⟨hg2, hf⟩ := xifn hf
      refine xm_vget (v := .int ((xpi st 0) (c1 - 1))) hx hb htx hown hK hP 0 (by decide) hg2 rfl ((hZ.1 (93, "kind", "I") (List.mem_of_getElem? (i := 0) rfl)).use rfl) rfl dM_has_45 ?_
      refine lv_iconst (v := 3) hx hb dM_has_48 (by decide) ?_
      refine lv_icmp_ne (tgt := 84) hx hb dM_has_49 (by decide) (fun hc => ?_) (fun hc => ?_)
      · rw [if_neg hc] at hf
        refine lv_aload_n hx hb dM_has_84 rfl (lv_at hl 0 rfl) ?_
        refine lv_iconst (v := 1) hx hb dM_has_85 (by decide) ?_
        obtain ⟨o3, hq4, hf⟩ := xbind hf
        have hl := lv_sub (l' := [(0, .ref aM)]) hl [0] rfl
        by_cases hk5 : o3.1 = 1
        · rw [if_pos hk5] at hf
          obtain ⟨hm6, hf⟩ := xmoE hf
          obtain rfl := Option.some.inj hf
          exact absurd (show (1 : Nat) = 0 from hkd) (by decide)
        rw [if_neg hk5] at hf
        exact nomatch hf
      · rw [if_pos hc] at hf
        refine lv_aload_n hx hb dM_has_52 rfl (lv_at hl 0 rfl) ?_
        refine xm_aload_n hx hb (xvor _ _) dM_has_53 rfl (lv_at hl 2 rfl) ?_
        refine xm_vget (v := .long ((xpl st) (c1 - 1))) hx hb htx hown hK hP 1 (by decide) hg2 rfl ((hZ.1 (96, "n", "J") (List.mem_of_getElem? (i := 1) rfl)).use rfl) rfl dM_has_54 ?_
        refine lv_lconst (v := 0) hx hb dM_has_57 (by decide) ?_
        refine W.lcmp hx hb dM_has_58 ?_
        refine lv_if_lt (tgt := 79) hx hb dM_has_59 (by decide) (fun hc => ?_) (fun hc => ?_)
        · rw [if_pos hc] at hf
          refine lv_iconst (v := 0) hx hb dM_has_79 (by decide) ?_
          obtain ⟨o3, hq4, hf⟩ := xbind hf
          have hl := lv_sub (l' := [(0, .ref aM)]) hl [0] rfl
          obtain ⟨hm5, hf⟩ := xmoE hf
          have hFc := xm_free hD hS hA
          refine va_callq (va_runV (C := "ValueBenchModel") (As := [.int 0]) (rest := []) ⟨hx, hb, hml, hown, htx⟩ (gM_truth l hl9 D cT aK aV s.heap.size n aM ad rd gd vad st (0 : Int32) o3 hq4) ⟨callB_of 1 htx (xw_goodC kw_7_5) rfl rfl rfl (htx _ kw_1_5) (htx _ kw_7_2) ⟨by decide, by decide, by decide +kernel⟩ ⟨Nat.le_of_ble_eq_true rfl, Nat.le_of_ble_eq_true rfl⟩, (htx _ kw_7_4), (htx _ kp_M_truth)⟩ ⟨xPre_blind, va_recv hK hP (ci := 5) rfl (q0 := 0) rfl, (fun U hU hW => ⟨rfl, xPre_of hZ hS hFc hP hD hK U hU hW⟩)⟩ rfl rfl hl.1 rfl (xm_room (Nat.le_of_ble_eq_true rfl)) dM_has_80 ⟨hm5.1, hm5.2⟩) hS (fun q _ h => hFc q h) hFc (fun r6 u9 t H1 locs ht hvm hr9 hB hz1 hk1 hS => ?_)
          obtain ⟨hP1, hK1, hD1⟩ := hB
          rw [ht] at hP1
          obtain ⟨ad7, gd8, vad9⟩ := u9
          obtain ⟨hr9, hv10, hn11⟩ := hr9
          have hP : va_P D xcl (xMw cT aM ad7 rd gd8 vad9 o3.2.2.2 []) H1 := hP1
          have hD : va_D A (xMw cT aM ad7 rd gd8 vad9 o3.2.2.2 []) := hD1.weaken (fun k q _ h => hFc q.1 h)
          generalize H1 = H at hP hS ⊢
          have hE9 : ∀ p, p < xct st → vad9 p = vad p := fun p h => (hv10 p (Nat.lt_of_lt_of_le h hN)).trans (hE p h)
          have hE := hE9
          have hN : xct st ≤ xct o3.2.2.2 := Nat.le_trans hN hn11
          rw [hr9]
          refine W.eq (g2 := F0 m 83 ls [xv vad9 o3.2.2.1]) (by first | rfl | (skip; rfl)) ?_
          obtain rfl := Option.some.inj hf
          exact W.aret (v := xv vad9 o3.2.2.1) hx hb hr (Or.inl ⟨_, rfl⟩) (xvor _ _) (fun t ht hW => ⟨⟨xca vad9 o3.2.2.1, (ad7, gd8, vad9), rfl, ⟨rfl, hE, hN⟩, by rw [ht]; exact hP, va_K.moved hW.alike hK, hD⟩, hS.F ht⟩) hS.2.2 dM_has_83
        · rw [if_neg hc] at hf
          refine xm_aload_n hx hb (xvor _ _) dM_has_62 rfl (lv_at hl 2 rfl) ?_
          refine xm_vget (v := .long ((xpl st) (c1 - 1))) hx hb htx hown hK hP 1 (by decide) hg2 rfl ((hZ.1 (96, "n", "J") (List.mem_of_getElem? (i := 1) rfl)).use rfl) rfl dM_has_63 ?_
          refine xm_aload_n hx hb (xvor _ _) dM_has_66 rfl (lv_at hl 1 rfl) ?_
          refine xm_vget (v := .int ((xpi st 3) (c0 - 1))) hx hb htx hown hK hP 3 (by decide) hg1 rfl ((hZ.1 (103, "count", "I") (List.mem_of_getElem? (i := 3) rfl)).use rfl) rfl dM_has_67 ?_
          refine lv_i2l hx hb dM_has_70 rfl ?_
          refine W.lcmp hx hb dM_has_71 ?_
          refine lv_if_ge (tgt := 79) hx hb dM_has_72 (by decide) (fun hc => ?_) (fun hc => ?_)
          · rw [if_pos hc] at hf
            refine lv_iconst (v := 0) hx hb dM_has_79 (by decide) ?_
            obtain ⟨o3, hq4, hf⟩ := xbind hf
            have hl := lv_sub (l' := [(0, .ref aM)]) hl [0] rfl
            obtain ⟨hm5, hf⟩ := xmoE hf
            have hFc := xm_free hD hS hA
            refine va_callq (va_runV (C := "ValueBenchModel") (As := [.int 0]) (rest := []) ⟨hx, hb, hml, hown, htx⟩ (gM_truth l hl9 D cT aK aV s.heap.size n aM ad rd gd vad st (0 : Int32) o3 hq4) ⟨callB_of 1 htx (xw_goodC kw_7_5) rfl rfl rfl (htx _ kw_1_5) (htx _ kw_7_2) ⟨by decide, by decide, by decide +kernel⟩ ⟨Nat.le_of_ble_eq_true rfl, Nat.le_of_ble_eq_true rfl⟩, (htx _ kw_7_4), (htx _ kp_M_truth)⟩ ⟨xPre_blind, va_recv hK hP (ci := 5) rfl (q0 := 0) rfl, (fun U hU hW => ⟨rfl, xPre_of hZ hS hFc hP hD hK U hU hW⟩)⟩ rfl rfl hl.1 rfl (xm_room (Nat.le_of_ble_eq_true rfl)) dM_has_80 ⟨hm5.1, hm5.2⟩) hS (fun q _ h => hFc q h) hFc (fun r6 u9 t H1 locs ht hvm hr9 hB hz1 hk1 hS => ?_)
            obtain ⟨hP1, hK1, hD1⟩ := hB
            rw [ht] at hP1
            obtain ⟨ad7, gd8, vad9⟩ := u9
            obtain ⟨hr9, hv10, hn11⟩ := hr9
            have hP : va_P D xcl (xMw cT aM ad7 rd gd8 vad9 o3.2.2.2 []) H1 := hP1
            have hD : va_D A (xMw cT aM ad7 rd gd8 vad9 o3.2.2.2 []) := hD1.weaken (fun k q _ h => hFc q.1 h)
            generalize H1 = H at hP hS ⊢
            have hE9 : ∀ p, p < xct st → vad9 p = vad p := fun p h => (hv10 p (Nat.lt_of_lt_of_le h hN)).trans (hE p h)
            have hE := hE9
            have hN : xct st ≤ xct o3.2.2.2 := Nat.le_trans hN hn11
            rw [hr9]
            refine W.eq (g2 := F0 m 83 ls [xv vad9 o3.2.2.1]) (by first | rfl | (skip; rfl)) ?_
            obtain rfl := Option.some.inj hf
            exact W.aret (v := xv vad9 o3.2.2.1) hx hb hr (Or.inl ⟨_, rfl⟩) (xvor _ _) (fun t ht hW => ⟨⟨xca vad9 o3.2.2.1, (ad7, gd8, vad9), rfl, ⟨rfl, hE, hN⟩, by rw [ht]; exact hP, va_K.moved hW.alike hK, hD⟩, hS.F ht⟩) hS.2.2 dM_has_83
          · rw [if_neg hc] at hf
            refine lv_iconst (v := 1) hx hb dM_has_75 (by decide) ?_
            refine lv_goto (tgt := 80) hx hb dM_has_76 (by decide) ?_
            obtain ⟨o3, hq4, hf⟩ := xbind hf
            have hl := lv_sub (l' := [(0, .ref aM)]) hl [0] rfl
            obtain ⟨hm5, hf⟩ := xmoE hf
            have hFc := xm_free hD hS hA
            refine va_callq (va_runV (C := "ValueBenchModel") (As := [.int 1]) (rest := []) ⟨hx, hb, hml, hown, htx⟩ (gM_truth l hl9 D cT aK aV s.heap.size n aM ad rd gd vad st (1 : Int32) o3 hq4) ⟨callB_of 1 htx (xw_goodC kw_7_5) rfl rfl rfl (htx _ kw_1_5) (htx _ kw_7_2) ⟨by decide, by decide, by decide +kernel⟩ ⟨Nat.le_of_ble_eq_true rfl, Nat.le_of_ble_eq_true rfl⟩, (htx _ kw_7_4), (htx _ kp_M_truth)⟩ ⟨xPre_blind, va_recv hK hP (ci := 5) rfl (q0 := 0) rfl, (fun U hU hW => ⟨rfl, xPre_of hZ hS hFc hP hD hK U hU hW⟩)⟩ rfl rfl hl.1 rfl (xm_room (Nat.le_of_ble_eq_true rfl)) dM_has_80 ⟨hm5.1, hm5.2⟩) hS (fun q _ h => hFc q h) hFc (fun r6 u9 t H1 locs ht hvm hr9 hB hz1 hk1 hS => ?_)
            obtain ⟨hP1, hK1, hD1⟩ := hB
            rw [ht] at hP1
            obtain ⟨ad7, gd8, vad9⟩ := u9
            obtain ⟨hr9, hv10, hn11⟩ := hr9
            have hP : va_P D xcl (xMw cT aM ad7 rd gd8 vad9 o3.2.2.2 []) H1 := hP1
            have hD : va_D A (xMw cT aM ad7 rd gd8 vad9 o3.2.2.2 []) := hD1.weaken (fun k q _ h => hFc q.1 h)
            generalize H1 = H at hP hS ⊢
            have hE9 : ∀ p, p < xct st → vad9 p = vad p := fun p h => (hv10 p (Nat.lt_of_lt_of_le h hN)).trans (hE p h)
            have hE := hE9
            have hN : xct st ≤ xct o3.2.2.2 := Nat.le_trans hN hn11
            rw [hr9]
            refine W.eq (g2 := F0 m 83 ls [xv vad9 o3.2.2.1]) (by first | rfl | (skip; rfl)) ?_
            obtain rfl := Option.some.inj hf
            exact W.aret (v := xv vad9 o3.2.2.1) hx hb hr (Or.inl ⟨_, rfl⟩) (xvor _ _) (fun t ht hW => ⟨⟨xca vad9 o3.2.2.1, (ad7, gd8, vad9), rfl, ⟨rfl, hE, hN⟩, by rw [ht]; exact hP, va_K.moved hW.alike hK, hD⟩, hS.F ht⟩) hS.2.2 dM_has_83
  · rw [if_pos hc] at hf
    refine xm_aload_n hx hb (xvor _ _) dM_has_9 rfl (lv_at hl 2 rfl) ?_
    obtain ⟨hg2, hf⟩ := xifn hf
    refine xm_vget (v := .int ((xpi st 0) (c1 - 1))) hx hb htx hown hK hP 0 (by decide) hg2 rfl ((hZ.1 (93, "kind", "I") (List.mem_of_getElem? (i := 0) rfl)).use rfl) rfl dM_has_10 ?_
    refine lv_iconst (v := 4) hx hb dM_has_13 (by decide) ?_
    refine lv_icmp_ne (tgt := 36) hx hb dM_has_14 (by decide) (fun hc => ?_) (fun hc => ?_)
    · rw [if_neg hc] at hf
      refine xm_aload_n hx hb (xvor _ _) dM_has_36 rfl (lv_at hl 1 rfl) ?_
      refine xm_vget (v := .int ((xpi st 0) (c0 - 1))) hx hb htx hown hK hP 0 (by decide) hg1 rfl ((hZ.1 (93, "kind", "I") (List.mem_of_getElem? (i := 0) rfl)).use rfl) rfl dM_has_37 ?_
      refine lv_iconst (v := 5) hx hb dM_has_40 (by decide) ?_
      refine lv_icmp_ne (tgt := 84) hx hb dM_has_41 (by decide) (fun hc => ?_) (fun hc => ?_)
      · rw [if_neg hc] at hf
        refine lv_aload_n hx hb dM_has_84 rfl (lv_at hl 0 rfl) ?_
        refine lv_iconst (v := 1) hx hb dM_has_85 (by decide) ?_
        obtain ⟨o3, hq4, hf⟩ := xbind hf
        have hl := lv_sub (l' := [(0, .ref aM)]) hl [0] rfl
        by_cases hk5 : o3.1 = 1
        · rw [if_pos hk5] at hf
          obtain ⟨hm6, hf⟩ := xmoE hf
          obtain rfl := Option.some.inj hf
          exact absurd (show (1 : Nat) = 0 from hkd) (by decide)
        rw [if_neg hk5] at hf
        exact nomatch hf
      · rw [if_pos hc] at hf
        refine xm_aload_n hx hb (xvor _ _) dM_has_44 rfl (lv_at hl 2 rfl) ?_
        refine xm_vget (v := .int ((xpi st 0) (c1 - 1))) hx hb htx hown hK hP 0 (by decide) hg2 rfl ((hZ.1 (93, "kind", "I") (List.mem_of_getElem? (i := 0) rfl)).use rfl) rfl dM_has_45 ?_
        refine lv_iconst (v := 3) hx hb dM_has_48 (by decide) ?_
        refine lv_icmp_ne (tgt := 84) hx hb dM_has_49 (by decide) (fun hc => ?_) (fun hc => ?_)
        · rw [if_neg hc] at hf
          refine lv_aload_n hx hb dM_has_84 rfl (lv_at hl 0 rfl) ?_
          refine lv_iconst (v := 1) hx hb dM_has_85 (by decide) ?_
          obtain ⟨o3, hq4, hf⟩ := xbind hf
          have hl := lv_sub (l' := [(0, .ref aM)]) hl [0] rfl
          by_cases hk5 : o3.1 = 1
          · rw [if_pos hk5] at hf
            obtain ⟨hm6, hf⟩ := xmoE hf
            obtain rfl := Option.some.inj hf
            exact absurd (show (1 : Nat) = 0 from hkd) (by decide)
          rw [if_neg hk5] at hf
          exact nomatch hf
        · rw [if_pos hc] at hf
          refine lv_aload_n hx hb dM_has_52 rfl (lv_at hl 0 rfl) ?_
          refine xm_aload_n hx hb (xvor _ _) dM_has_53 rfl (lv_at hl 2 rfl) ?_
          refine xm_vget (v := .long ((xpl st) (c1 - 1))) hx hb htx hown hK hP 1 (by decide) hg2 rfl ((hZ.1 (96, "n", "J") (List.mem_of_getElem? (i := 1) rfl)).use rfl) rfl dM_has_54 ?_
          refine lv_lconst (v := 0) hx hb dM_has_57 (by decide) ?_
          refine W.lcmp hx hb dM_has_58 ?_
          refine lv_if_lt (tgt := 79) hx hb dM_has_59 (by decide) (fun hc => ?_) (fun hc => ?_)
          · rw [if_pos hc] at hf
            refine lv_iconst (v := 0) hx hb dM_has_79 (by decide) ?_
            obtain ⟨o3, hq4, hf⟩ := xbind hf
            have hl := lv_sub (l' := [(0, .ref aM)]) hl [0] rfl
            obtain ⟨hm5, hf⟩ := xmoE hf
            have hFc := xm_free hD hS hA
            refine va_callq (va_runV (C := "ValueBenchModel") (As := [.int 0]) (rest := []) ⟨hx, hb, hml, hown, htx⟩ (gM_truth l hl9 D cT aK aV s.heap.size n aM ad rd gd vad st (0 : Int32) o3 hq4) ⟨callB_of 1 htx (xw_goodC kw_7_5) rfl rfl rfl (htx _ kw_1_5) (htx _ kw_7_2) ⟨by decide, by decide, by decide +kernel⟩ ⟨Nat.le_of_ble_eq_true rfl, Nat.le_of_ble_eq_true rfl⟩, (htx _ kw_7_4), (htx _ kp_M_truth)⟩ ⟨xPre_blind, va_recv hK hP (ci := 5) rfl (q0 := 0) rfl, (fun U hU hW => ⟨rfl, xPre_of hZ hS hFc hP hD hK U hU hW⟩)⟩ rfl rfl hl.1 rfl (xm_room (Nat.le_of_ble_eq_true rfl)) dM_has_80 ⟨hm5.1, hm5.2⟩) hS (fun q _ h => hFc q h) hFc (fun r6 u9 t H1 locs ht hvm hr9 hB hz1 hk1 hS => ?_)
            obtain ⟨hP1, hK1, hD1⟩ := hB
            rw [ht] at hP1
            obtain ⟨ad7, gd8, vad9⟩ := u9
            obtain ⟨hr9, hv10, hn11⟩ := hr9
            have hP : va_P D xcl (xMw cT aM ad7 rd gd8 vad9 o3.2.2.2 []) H1 := hP1
            have hD : va_D A (xMw cT aM ad7 rd gd8 vad9 o3.2.2.2 []) := hD1.weaken (fun k q _ h => hFc q.1 h)
            generalize H1 = H at hP hS ⊢
            have hE9 : ∀ p, p < xct st → vad9 p = vad p := fun p h => (hv10 p (Nat.lt_of_lt_of_le h hN)).trans (hE p h)
            have hE := hE9
            have hN : xct st ≤ xct o3.2.2.2 := Nat.le_trans hN hn11
            rw [hr9]
            refine W.eq (g2 := F0 m 83 ls [xv vad9 o3.2.2.1]) (by first | rfl | (skip; rfl)) ?_
            obtain rfl := Option.some.inj hf
            exact W.aret (v := xv vad9 o3.2.2.1) hx hb hr (Or.inl ⟨_, rfl⟩) (xvor _ _) (fun t ht hW => ⟨⟨xca vad9 o3.2.2.1, (ad7, gd8, vad9), rfl, ⟨rfl, hE, hN⟩, by rw [ht]; exact hP, va_K.moved hW.alike hK, hD⟩, hS.F ht⟩) hS.2.2 dM_has_83
          · rw [if_neg hc] at hf
            refine xm_aload_n hx hb (xvor _ _) dM_has_62 rfl (lv_at hl 2 rfl) ?_
            refine xm_vget (v := .long ((xpl st) (c1 - 1))) hx hb htx hown hK hP 1 (by decide) hg2 rfl ((hZ.1 (96, "n", "J") (List.mem_of_getElem? (i := 1) rfl)).use rfl) rfl dM_has_63 ?_
            refine xm_aload_n hx hb (xvor _ _) dM_has_66 rfl (lv_at hl 1 rfl) ?_
            refine xm_vget (v := .int ((xpi st 3) (c0 - 1))) hx hb htx hown hK hP 3 (by decide) hg1 rfl ((hZ.1 (103, "count", "I") (List.mem_of_getElem? (i := 3) rfl)).use rfl) rfl dM_has_67 ?_
            refine lv_i2l hx hb dM_has_70 rfl ?_
            refine W.lcmp hx hb dM_has_71 ?_
            refine lv_if_ge (tgt := 79) hx hb dM_has_72 (by decide) (fun hc => ?_) (fun hc => ?_)
            · rw [if_pos hc] at hf
              refine lv_iconst (v := 0) hx hb dM_has_79 (by decide) ?_
              obtain ⟨o3, hq4, hf⟩ := xbind hf
              have hl := lv_sub (l' := [(0, .ref aM)]) hl [0] rfl
              obtain ⟨hm5, hf⟩ := xmoE hf
              have hFc := xm_free hD hS hA
              refine va_callq (va_runV (C := "ValueBenchModel") (As := [.int 0]) (rest := []) ⟨hx, hb, hml, hown, htx⟩ (gM_truth l hl9 D cT aK aV s.heap.size n aM ad rd gd vad st (0 : Int32) o3 hq4) ⟨callB_of 1 htx (xw_goodC kw_7_5) rfl rfl rfl (htx _ kw_1_5) (htx _ kw_7_2) ⟨by decide, by decide, by decide +kernel⟩ ⟨Nat.le_of_ble_eq_true rfl, Nat.le_of_ble_eq_true rfl⟩, (htx _ kw_7_4), (htx _ kp_M_truth)⟩ ⟨xPre_blind, va_recv hK hP (ci := 5) rfl (q0 := 0) rfl, (fun U hU hW => ⟨rfl, xPre_of hZ hS hFc hP hD hK U hU hW⟩)⟩ rfl rfl hl.1 rfl (xm_room (Nat.le_of_ble_eq_true rfl)) dM_has_80 ⟨hm5.1, hm5.2⟩) hS (fun q _ h => hFc q h) hFc (fun r6 u9 t H1 locs ht hvm hr9 hB hz1 hk1 hS => ?_)
              obtain ⟨hP1, hK1, hD1⟩ := hB
              rw [ht] at hP1
              obtain ⟨ad7, gd8, vad9⟩ := u9
              obtain ⟨hr9, hv10, hn11⟩ := hr9
              have hP : va_P D xcl (xMw cT aM ad7 rd gd8 vad9 o3.2.2.2 []) H1 := hP1
              have hD : va_D A (xMw cT aM ad7 rd gd8 vad9 o3.2.2.2 []) := hD1.weaken (fun k q _ h => hFc q.1 h)
              generalize H1 = H at hP hS ⊢
              have hE9 : ∀ p, p < xct st → vad9 p = vad p := fun p h => (hv10 p (Nat.lt_of_lt_of_le h hN)).trans (hE p h)
              have hE := hE9
              have hN : xct st ≤ xct o3.2.2.2 := Nat.le_trans hN hn11
              rw [hr9]
              refine W.eq (g2 := F0 m 83 ls [xv vad9 o3.2.2.1]) (by first | rfl | (skip; rfl)) ?_
              obtain rfl := Option.some.inj hf
              exact W.aret (v := xv vad9 o3.2.2.1) hx hb hr (Or.inl ⟨_, rfl⟩) (xvor _ _) (fun t ht hW => ⟨⟨xca vad9 o3.2.2.1, (ad7, gd8, vad9), rfl, ⟨rfl, hE, hN⟩, by rw [ht]; exact hP, va_K.moved hW.alike hK, hD⟩, hS.F ht⟩) hS.2.2 dM_has_83
            · rw [if_neg hc] at hf
              refine lv_iconst (v := 1) hx hb dM_has_75 (by decide) ?_
              refine lv_goto (tgt := 80) hx hb dM_has_76 (by decide) ?_
              obtain ⟨o3, hq4, hf⟩ := xbind hf
              have hl := lv_sub (l' := [(0, .ref aM)]) hl [0] rfl
              obtain ⟨hm5, hf⟩ := xmoE hf
              have hFc := xm_free hD hS hA
              refine va_callq (va_runV (C := "ValueBenchModel") (As := [.int 1]) (rest := []) ⟨hx, hb, hml, hown, htx⟩ (gM_truth l hl9 D cT aK aV s.heap.size n aM ad rd gd vad st (1 : Int32) o3 hq4) ⟨callB_of 1 htx (xw_goodC kw_7_5) rfl rfl rfl (htx _ kw_1_5) (htx _ kw_7_2) ⟨by decide, by decide, by decide +kernel⟩ ⟨Nat.le_of_ble_eq_true rfl, Nat.le_of_ble_eq_true rfl⟩, (htx _ kw_7_4), (htx _ kp_M_truth)⟩ ⟨xPre_blind, va_recv hK hP (ci := 5) rfl (q0 := 0) rfl, (fun U hU hW => ⟨rfl, xPre_of hZ hS hFc hP hD hK U hU hW⟩)⟩ rfl rfl hl.1 rfl (xm_room (Nat.le_of_ble_eq_true rfl)) dM_has_80 ⟨hm5.1, hm5.2⟩) hS (fun q _ h => hFc q h) hFc (fun r6 u9 t H1 locs ht hvm hr9 hB hz1 hk1 hS => ?_)
              obtain ⟨hP1, hK1, hD1⟩ := hB
              rw [ht] at hP1
              obtain ⟨ad7, gd8, vad9⟩ := u9
              obtain ⟨hr9, hv10, hn11⟩ := hr9
              have hP : va_P D xcl (xMw cT aM ad7 rd gd8 vad9 o3.2.2.2 []) H1 := hP1
              have hD : va_D A (xMw cT aM ad7 rd gd8 vad9 o3.2.2.2 []) := hD1.weaken (fun k q _ h => hFc q.1 h)
              generalize H1 = H at hP hS ⊢
              have hE9 : ∀ p, p < xct st → vad9 p = vad p := fun p h => (hv10 p (Nat.lt_of_lt_of_le h hN)).trans (hE p h)
              have hE := hE9
              have hN : xct st ≤ xct o3.2.2.2 := Nat.le_trans hN hn11
              rw [hr9]
              refine W.eq (g2 := F0 m 83 ls [xv vad9 o3.2.2.1]) (by first | rfl | (skip; rfl)) ?_
              obtain rfl := Option.some.inj hf
              exact W.aret (v := xv vad9 o3.2.2.1) hx hb hr (Or.inl ⟨_, rfl⟩) (xvor _ _) (fun t ht hW => ⟨⟨xca vad9 o3.2.2.1, (ad7, gd8, vad9), rfl, ⟨rfl, hE, hN⟩, by rw [ht]; exact hP, va_K.moved hW.alike hK, hD⟩, hS.F ht⟩) hS.2.2 dM_has_83
    · rw [if_pos hc] at hf
      refine lv_aload_n hx hb dM_has_17 rfl (lv_at hl 0 rfl) ?_
      refine lv_aload_n hx hb dM_has_18 rfl (lv_at hl 0 rfl) ?_
      refine xm_aload_n hx hb (xvor _ _) dM_has_19 rfl (lv_at hl 1 rfl) ?_
      refine xm_aload_n hx hb (xvor _ _) dM_has_20 rfl (lv_at hl 2 rfl) ?_
      obtain ⟨o3, hq4, hf⟩ := xbind hf
      have hl := lv_sub (l' := [(0, .ref aM)]) hl [0] rfl
      have hFc := xm_free hD hS hA
      refine va_calli (va_runV (C := "ValueBenchModel") (As := [xv vad c0, xv vad c1]) (rest := [.ref aM]) ⟨hx, hb, hml, hown, htx⟩ (gM_place l hl9 D cT aK aV s.heap.size n aM ad rd gd vad st c0 c1 o3 hq4) ⟨callB_of 2 htx (xw_goodC kw_6_178) rfl rfl rfl (htx _ kw_1_5) (htx _ kw_6_175) ⟨by decide, by decide, by decide +kernel⟩ ⟨Nat.le_of_ble_eq_true rfl, Nat.le_of_ble_eq_true rfl⟩, (htx _ kw_6_177), (htx _ kp_M_place)⟩ ⟨xPre_blind, va_recv hK hP (ci := 5) rfl (q0 := 0) rfl, (fun U hU hW => ⟨rfl, xPre_of hZ hS hFc hP hD hK U hU hW⟩)⟩ rfl rfl hl.1 rfl (xm_room (Nat.le_of_ble_eq_true rfl)) dM_has_21 ⟨Nat.zero_le _, Nat.zero_le _⟩) hS (fun q _ h => hFc q h) hFc (fun r5 u9 t H1 locs ht hvm hr9 hB hz1 hk1 hS => ?_)
      obtain ⟨hP1, hK1, hD1⟩ := hB
      rw [ht] at hP1
      have hP : va_P D xcl (xMw cT aM ad rd gd vad st []) H1 := hP1
      have hD : va_D A (xMw cT aM ad rd gd vad st []) := hD1.weaken (fun k q _ h => hFc q.1 h)
      generalize H1 = H at hP hS ⊢
      rw [hr9]
      refine W.eq (g2 := F0 m 24 ls [.int o3, .ref aM]) (by first | rfl | (skip; rfl)) ?_
      refine lv_if_lt (tgt := 31) hx hb dM_has_24 (by decide) (fun hc => ?_) (fun hc => ?_)
      · rw [if_pos hc] at hf
        refine lv_iconst (v := 0) hx hb dM_has_31 (by decide) ?_
        obtain ⟨o6, hq7, hf⟩ := xbind hf
        obtain ⟨hm8, hf⟩ := xmoE hf
        have hFc := xm_free hD hS hA
        refine va_callq (va_runV (C := "ValueBenchModel") (As := [.int 0]) (rest := []) ⟨hx, hb, hml, hown, htx⟩ (gM_truth l hl9 D cT aK aV H.size n aM ad rd gd vad st (0 : Int32) o6 hq7) ⟨callB_of 1 htx (xw_goodC kw_7_5) rfl rfl rfl (htx _ kw_1_5) (htx _ kw_7_2) ⟨by decide, by decide, by decide +kernel⟩ ⟨Nat.le_of_ble_eq_true rfl, Nat.le_of_ble_eq_true rfl⟩, (htx _ kw_7_4), (htx _ kp_M_truth)⟩ ⟨xPre_blind, va_recv hK hP (ci := 5) rfl (q0 := 0) rfl, (fun U hU hW => ⟨rfl, xPre_of hZ hS hFc hP hD hK U hU hW⟩)⟩ rfl rfl hl.1 rfl (xm_room (Nat.le_of_ble_eq_true rfl)) dM_has_32 ⟨hm8.1, hm8.2⟩) hS (fun q _ h => hFc q h) hFc (fun r9 u9 t H1 locs ht hvm hr9 hB hz1 hk1 hS => ?_)
        obtain ⟨hP1, hK1, hD1⟩ := hB
        rw [ht] at hP1
        obtain ⟨ad10, gd11, vad12⟩ := u9
        obtain ⟨hr9, hv13, hn14⟩ := hr9
        have hP : va_P D xcl (xMw cT aM ad10 rd gd11 vad12 o6.2.2.2 []) H1 := hP1
        have hD : va_D A (xMw cT aM ad10 rd gd11 vad12 o6.2.2.2 []) := hD1.weaken (fun k q _ h => hFc q.1 h)
        generalize H1 = H at hP hS ⊢
        have hE9 : ∀ p, p < xct st → vad12 p = vad p := fun p h => (hv13 p (Nat.lt_of_lt_of_le h hN)).trans (hE p h)
        have hE := hE9
        have hN : xct st ≤ xct o6.2.2.2 := Nat.le_trans hN hn14
        rw [hr9]
        refine W.eq (g2 := F0 m 35 ls [xv vad12 o6.2.2.1]) (by first | rfl | (skip; rfl)) ?_
        obtain rfl := Option.some.inj hf
        exact W.aret (v := xv vad12 o6.2.2.1) hx hb hr (Or.inl ⟨_, rfl⟩) (xvor _ _) (fun t ht hW => ⟨⟨xca vad12 o6.2.2.1, (ad10, gd11, vad12), rfl, ⟨rfl, hE, hN⟩, by rw [ht]; exact hP, va_K.moved hW.alike hK, hD⟩, hS.F ht⟩) hS.2.2 dM_has_35
      · rw [if_neg hc] at hf
        refine lv_iconst (v := 1) hx hb dM_has_27 (by decide) ?_
        refine lv_goto (tgt := 32) hx hb dM_has_28 (by decide) ?_
        obtain ⟨o6, hq7, hf⟩ := xbind hf
        obtain ⟨hm8, hf⟩ := xmoE hf
        have hFc := xm_free hD hS hA
        refine va_callq (va_runV (C := "ValueBenchModel") (As := [.int 1]) (rest := []) ⟨hx, hb, hml, hown, htx⟩ (gM_truth l hl9 D cT aK aV H.size n aM ad rd gd vad st (1 : Int32) o6 hq7) ⟨callB_of 1 htx (xw_goodC kw_7_5) rfl rfl rfl (htx _ kw_1_5) (htx _ kw_7_2) ⟨by decide, by decide, by decide +kernel⟩ ⟨Nat.le_of_ble_eq_true rfl, Nat.le_of_ble_eq_true rfl⟩, (htx _ kw_7_4), (htx _ kp_M_truth)⟩ ⟨xPre_blind, va_recv hK hP (ci := 5) rfl (q0 := 0) rfl, (fun U hU hW => ⟨rfl, xPre_of hZ hS hFc hP hD hK U hU hW⟩)⟩ rfl rfl hl.1 rfl (xm_room (Nat.le_of_ble_eq_true rfl)) dM_has_32 ⟨hm8.1, hm8.2⟩) hS (fun q _ h => hFc q h) hFc (fun r9 u9 t H1 locs ht hvm hr9 hB hz1 hk1 hS => ?_)
        obtain ⟨hP1, hK1, hD1⟩ := hB
        rw [ht] at hP1
        obtain ⟨ad10, gd11, vad12⟩ := u9
        obtain ⟨hr9, hv13, hn14⟩ := hr9
        have hP : va_P D xcl (xMw cT aM ad10 rd gd11 vad12 o6.2.2.2 []) H1 := hP1
        have hD : va_D A (xMw cT aM ad10 rd gd11 vad12 o6.2.2.2 []) := hD1.weaken (fun k q _ h => hFc q.1 h)
        generalize H1 = H at hP hS ⊢
        have hE9 : ∀ p, p < xct st → vad12 p = vad p := fun p h => (hv13 p (Nat.lt_of_lt_of_le h hN)).trans (hE p h)
        have hE := hE9
        have hN : xct st ≤ xct o6.2.2.2 := Nat.le_trans hN hn14
        rw [hr9]
        refine W.eq (g2 := F0 m 35 ls [xv vad12 o6.2.2.1]) (by first | rfl | (skip; rfl)) ?_
        obtain rfl := Option.some.inj hf
        exact W.aret (v := xv vad12 o6.2.2.1) hx hb hr (Or.inl ⟨_, rfl⟩) (xvor _ _) (fun t ht hW => ⟨⟨xca vad12 o6.2.2.1, (ad10, gd11, vad12), rfl, ⟨rfl, hE, hN⟩, by rw [ht]; exact hP, va_K.moved hW.alike hK, hD⟩, hS.F ht⟩) hS.2.2 dM_has_35
set_option maxHeartbeats 400000000 in
set_option maxRecDepth 100000 in
theorem gM_has_1 (l : Launch) (hl9 : l.stackTraces = false) (D : va_G) (cT : Nat → ClassId) (aK aV : Nat → Nat) (sz n : Nat) (aM : Nat) (ad rd gd vad : Nat → Nat) (st : xS) (c0 : Nat) (c1 : Nat) (out : Nat × Nat × Nat × Nat × xS) (hf : fM_has n st c0 c1 = some out) (hkd : out.1 = 1) : xMetY l yM_has wyM_has 7 out.2.1 out.2.2.1 121 D cT aK aV sz [.ref aM, xv vad c0, xv vad c1] (xMw cT aM ad rd gd vad st []) "java/lang/ArithmeticException" (fun u => xE vad st out.2.2.2.2 u) (fun A u t => xB D xcl cT A (xMw cT aM u.1 rd u.2.1 u.2.2 out.2.2.2.2 []) t) := by
  refine vx_ofW (cc := prog_13_method_67_code) (maxL := 3) (ret := (some (.object "ValueBenchModel$V"))) (by decide) rfl ?_
  intro p e s m args below meth c s₁ B hml hne hv
  obtain ⟨rfl, hsz, hZ, hP, hK, hD0⟩ := hv
  have hx := B.exec
  have hb := B.bytes
  have hr := B.returns
  have hts := atoms_spec (ws := wyM_has) B.pre
  have htx := fun w h => hts w (List.mem_cons_of_mem _ h)
  have hown : s.vm.findClass "ValueBenchModel" = some m.cls := findClass_of_methodNamed B.named
  have hlocks := B.notSynchronized
  subst hsz
  have hD := hD0.self (sz := s.heap.size)
  generalize hAe : va_A (xMw cT aM ad rd gd vad st []) s.heap.size = A at hD hZ ⊢
  have hA : ∀ q : Nat, s.heap.size ≤ q → A q := fun q h => by rw [← hAe]; exact Or.inr h
  have hS : va_S A s.heap s.heap [] := va_S.rf
  have hl := lv_entry ([.ref aM, xv vad c0, xv vad c1]) (n := 3) (by simp [lg_sl, xvcat, xrscat, xcI, xcL, xcR, xcN])
  rw [show lv_args 0 [.ref aM, xv vad c0, xv vad c1] = [(0, .ref aM), (1, xv vad c0), (2, xv vad c1)] from by simp [lv_args, xvcat, xrscat, xcI, xcL, xcR, xcN]] at hl
  rw [lg_entry_eq]
  generalize (lg_sl ([.ref aM, xv vad c0, xv vad c1]) ++ List.replicate (3 - (lg_sl ([.ref aM, xv vad c0, xv vad c1])).length) Slot.unset).toArray = ls at hl ⊢
  have hl : lv_has ls 3 [(0, .ref aM), (1, xv vad c0), (2, xv vad c1)] := hl
  have hE : ∀ p, p < xct st → vad p = vad p := fun _ _ => rfl
  have hN : xct st ≤ xct st := Nat.le_refl _
  unfold fM_has at hf
  refine xm_aload_n hx hb (xvor _ _) dM_has_0 rfl (lv_at hl 1 rfl) ?_
  obtain ⟨hg1, hf⟩ := xifn hf
  refine xm_vget (v := .int ((xpi st 0) (c0 - 1))) hx hb htx hown hK hP 0 (by decide) hg1 rfl ((hZ.1 (93, "kind", "I") (List.mem_of_getElem? (i := 0) rfl)).use rfl) rfl dM_has_1 ?_
  refine lv_bipush (v := 6) hx hb dM_has_4 (by decide) ?_
  refine lv_icmp_ne (tgt := 36) hx hb dM_has_6 (by decide) (fun hc => ?_) (fun hc => ?_)
  · rw [if_neg hc] at hf
    refine xm_aload_n hx hb (xvor _ _) dM_has_36 rfl (lv_at hl 1 rfl) ?_
    refine xm_vget (v := .int ((xpi st 0) (c0 - 1))) hx hb htx hown hK hP 0 (by decide) hg1 rfl ((hZ.1 (93, "kind", "I") (List.mem_of_getElem? (i := 0) rfl)).use rfl) rfl dM_has_37 ?_
    refine lv_iconst (v := 5) hx hb dM_has_40 (by decide) ?_
    refine lv_icmp_ne (tgt := 84) hx hb dM_has_41 (by decide) (fun hc => ?_) (fun hc => ?_)
    · rw [if_neg hc] at hf
      refine lv_aload_n hx hb dM_has_84 rfl (lv_at hl 0 rfl) ?_
      refine lv_iconst (v := 1) hx hb dM_has_85 (by decide) ?_
      obtain ⟨o2, hq3, hf⟩ := xbind hf
      have hl := lv_sub (l' := [(0, .ref aM)]) hl [0] rfl
      by_cases hk4 : o2.1 = 1
      · rw [if_pos hk4] at hf
        obtain ⟨hm5, hf⟩ := xmoE hf
        have hFc := xm_free hD hS hA
        refine xx_thr (vx_runV (C := "ValueBenchModel") (As := [.int 1]) (rest := []) ⟨hx, hb, hml, hown, htx⟩ (gM_refuse_1 l hl9 D cT aK aV s.heap.size n aM ad rd gd vad st (1 : Int32) o2 hq3 hk4) ⟨callB_of 1 htx (xw_goodC kw_6_93) rfl rfl rfl (htx _ kw_1_5) (htx _ kw_6_90) ⟨by decide, by decide, by decide +kernel⟩ ⟨Nat.le_of_ble_eq_true rfl, Nat.le_of_ble_eq_true rfl⟩, (htx _ kw_6_92), (htx _ kp_M_refuse)⟩ ⟨xPre_blind, va_recv hK hP (ci := 5) rfl (q0 := 0) rfl, (fun U hU hW => ⟨rfl, xPre_of hZ hS hFc hP hD hK U hU hW⟩)⟩ rfl rfl hl.1 rfl (xm_room (Nat.le_of_ble_eq_true rfl)) dM_has_86 ⟨hm5.1, hm5.2⟩) hS hFc (fun q _ h => hFc q h) (fun E ce q9 u9 t H1 locs ht hvm hr9 hB hz1 hk1 hS hce hcv hcl => ?_)
        obtain ⟨rfl, hP1, hK1, hD1⟩ := hB
        rw [ht] at hP1
        obtain ⟨ad7, gd8, vad9⟩ := u9
        obtain ⟨hv10, hn11⟩ := hr9
        have hP : va_P D xcl (xMw cT aM ad7 rd gd8 vad9 o2.2.2.2.2 []) H1 := hP1
        have hD : va_D A (xMw cT aM ad7 rd gd8 vad9 o2.2.2.2.2 []) := hD1.weaken (fun k q _ h => hFc q.1 h)
        generalize H1 = H at hP hS hce ⊢
        have hE9 : ∀ p, p < xct st → vad9 p = vad p := fun p h => (hv10 p (Nat.lt_of_lt_of_le h hN)).trans (hE p h)
        have hE := hE9
        have hN : xct st ≤ xct o2.2.2.2.2 := Nat.le_trans hN hn11
        obtain rfl := Option.some.inj hf
        exact vx_out (E := "java/lang/ArithmeticException") (fun x h => (hne x h).elim) hlocks hce hcv hcl (fun t ht ha => ⟨(ad7, gd8, vad9), ⟨hE, hN⟩, ⟨rfl, by rw [ht]; exact hP, va_K.moved ha hK, hD⟩, hS.F ht⟩) hS.2.2 (Nat.le_refl _) (Nat.le_refl _)
      rw [if_neg hk4] at hf
      exact nomatch hf
    · rw [if_pos hc] at hf
      refine xm_aload_n hx hb (xvor _ _) dM_has_44 rfl (lv_at hl 2 rfl) ?_
      obtain ⟨hg2, hf⟩ := xifn hf
      refine xm_vget (v := .int ((xpi st 0) (c1 - 1))) hx hb htx hown hK hP 0 (by decide) hg2 rfl ((hZ.1 (93, "kind", "I") (List.mem_of_getElem? (i := 0) rfl)).use rfl) rfl dM_has_45 ?_
      refine lv_iconst (v := 3) hx hb dM_has_48 (by decide) ?_
      refine lv_icmp_ne (tgt := 84) hx hb dM_has_49 (by decide) (fun hc => ?_) (fun hc => ?_)
      · rw [if_neg hc] at hf
        refine lv_aload_n hx hb dM_has_84 rfl (lv_at hl 0 rfl) ?_
        refine lv_iconst (v := 1) hx hb dM_has_85 (by decide) ?_
        obtain ⟨o3, hq4, hf⟩ := xbind hf
        have hl := lv_sub (l' := [(0, .ref aM)]) hl [0] rfl
        by_cases hk5 : o3.1 = 1
        · rw [if_pos hk5] at hf
          obtain ⟨hm6, hf⟩ := xmoE hf
          have hFc := xm_free hD hS hA
          refine xx_thr (vx_runV (C := "ValueBenchModel") (As := [.int 1]) (rest := []) ⟨hx, hb, hml, hown, htx⟩ (gM_refuse_1 l hl9 D cT aK aV s.heap.size n aM ad rd gd vad st (1 : Int32) o3 hq4 hk5) ⟨callB_of 1 htx (xw_goodC kw_6_93) rfl rfl rfl (htx _ kw_1_5) (htx _ kw_6_90) ⟨by decide, by decide, by decide +kernel⟩ ⟨Nat.le_of_ble_eq_true rfl, Nat.le_of_ble_eq_true rfl⟩, (htx _ kw_6_92), (htx _ kp_M_refuse)⟩ ⟨xPre_blind, va_recv hK hP (ci := 5) rfl (q0 := 0) rfl, (fun U hU hW => ⟨rfl, xPre_of hZ hS hFc hP hD hK U hU hW⟩)⟩ rfl rfl hl.1 rfl (xm_room (Nat.le_of_ble_eq_true rfl)) dM_has_86 ⟨hm6.1, hm6.2⟩) hS hFc (fun q _ h => hFc q h) (fun E ce q9 u9 t H1 locs ht hvm hr9 hB hz1 hk1 hS hce hcv hcl => ?_)
          obtain ⟨rfl, hP1, hK1, hD1⟩ := hB
          rw [ht] at hP1
          obtain ⟨ad8, gd9, vad10⟩ := u9
          obtain ⟨hv11, hn12⟩ := hr9
          have hP : va_P D xcl (xMw cT aM ad8 rd gd9 vad10 o3.2.2.2.2 []) H1 := hP1
          have hD : va_D A (xMw cT aM ad8 rd gd9 vad10 o3.2.2.2.2 []) := hD1.weaken (fun k q _ h => hFc q.1 h)
          generalize H1 = H at hP hS hce ⊢
          have hE9 : ∀ p, p < xct st → vad10 p = vad p := fun p h => (hv11 p (Nat.lt_of_lt_of_le h hN)).trans (hE p h)
          have hE := hE9
          have hN : xct st ≤ xct o3.2.2.2.2 := Nat.le_trans hN hn12
          obtain rfl := Option.some.inj hf
          exact vx_out (E := "java/lang/ArithmeticException") (fun x h => (hne x h).elim) hlocks hce hcv hcl (fun t ht ha => ⟨(ad8, gd9, vad10), ⟨hE, hN⟩, ⟨rfl, by rw [ht]; exact hP, va_K.moved ha hK, hD⟩, hS.F ht⟩) hS.2.2 (Nat.le_refl _) (Nat.le_refl _)
        rw [if_neg hk5] at hf
        exact nomatch hf
      · rw [if_pos hc] at hf
        refine lv_aload_n hx hb dM_has_52 rfl (lv_at hl 0 rfl) ?_
        refine xm_aload_n hx hb (xvor _ _) dM_has_53 rfl (lv_at hl 2 rfl) ?_
        refine xm_vget (v := .long ((xpl st) (c1 - 1))) hx hb htx hown hK hP 1 (by decide) hg2 rfl ((hZ.1 (96, "n", "J") (List.mem_of_getElem? (i := 1) rfl)).use rfl) rfl dM_has_54 ?_
        refine lv_lconst (v := 0) hx hb dM_has_57 (by decide) ?_
        refine W.lcmp hx hb dM_has_58 ?_
        refine lv_if_lt (tgt := 79) hx hb dM_has_59 (by decide) (fun hc => ?_) (fun hc => ?_)
        · rw [if_pos hc] at hf
          refine lv_iconst (v := 0) hx hb dM_has_79 (by decide) ?_
          obtain ⟨o3, hq4, hf⟩ := xbind hf
          have hl := lv_sub (l' := [(0, .ref aM)]) hl [0] rfl
          obtain ⟨hm5, hf⟩ := xmoE hf
          have hFc := xm_free hD hS hA
          refine va_callq (va_runV (C := "ValueBenchModel") (As := [.int 0]) (rest := []) ⟨hx, hb, hml, hown, htx⟩ (gM_truth l hl9 D cT aK aV s.heap.size n aM ad rd gd vad st (0 : Int32) o3 hq4) ⟨callB_of 1 htx (xw_goodC kw_7_5) rfl rfl rfl (htx _ kw_1_5) (htx _ kw_7_2) ⟨by decide, by decide, by decide +kernel⟩ ⟨Nat.le_of_ble_eq_true rfl, Nat.le_of_ble_eq_true rfl⟩, (htx _ kw_7_4), (htx _ kp_M_truth)⟩ ⟨xPre_blind, va_recv hK hP (ci := 5) rfl (q0 := 0) rfl, (fun U hU hW => ⟨rfl, xPre_of hZ hS hFc hP hD hK U hU hW⟩)⟩ rfl rfl hl.1 rfl (xm_room (Nat.le_of_ble_eq_true rfl)) dM_has_80 ⟨hm5.1, hm5.2⟩) hS (fun q _ h => hFc q h) hFc (fun r6 u9 t H1 locs ht hvm hr9 hB hz1 hk1 hS => ?_)
          obtain ⟨hP1, hK1, hD1⟩ := hB
          rw [ht] at hP1
          obtain ⟨ad7, gd8, vad9⟩ := u9
          obtain ⟨hr9, hv10, hn11⟩ := hr9
          have hP : va_P D xcl (xMw cT aM ad7 rd gd8 vad9 o3.2.2.2 []) H1 := hP1
          have hD : va_D A (xMw cT aM ad7 rd gd8 vad9 o3.2.2.2 []) := hD1.weaken (fun k q _ h => hFc q.1 h)
          generalize H1 = H at hP hS ⊢
          have hE9 : ∀ p, p < xct st → vad9 p = vad p := fun p h => (hv10 p (Nat.lt_of_lt_of_le h hN)).trans (hE p h)
          have hE := hE9
          have hN : xct st ≤ xct o3.2.2.2 := Nat.le_trans hN hn11
          rw [hr9]
          refine W.eq (g2 := F0 m 83 ls [xv vad9 o3.2.2.1]) (by first | rfl | (skip; rfl)) ?_
          obtain rfl := Option.some.inj hf
          exact absurd (show (0 : Nat) = 1 from hkd) (by decide)
        · rw [if_neg hc] at hf
          refine xm_aload_n hx hb (xvor _ _) dM_has_62 rfl (lv_at hl 2 rfl) ?_
          refine xm_vget (v := .long ((xpl st) (c1 - 1))) hx hb htx hown hK hP 1 (by decide) hg2 rfl ((hZ.1 (96, "n", "J") (List.mem_of_getElem? (i := 1) rfl)).use rfl) rfl dM_has_63 ?_
          refine xm_aload_n hx hb (xvor _ _) dM_has_66 rfl (lv_at hl 1 rfl) ?_
          refine xm_vget (v := .int ((xpi st 3) (c0 - 1))) hx hb htx hown hK hP 3 (by decide) hg1 rfl ((hZ.1 (103, "count", "I") (List.mem_of_getElem? (i := 3) rfl)).use rfl) rfl dM_has_67 ?_
          refine lv_i2l hx hb dM_has_70 rfl ?_
          refine W.lcmp hx hb dM_has_71 ?_
          refine lv_if_ge (tgt := 79) hx hb dM_has_72 (by decide) (fun hc => ?_) (fun hc => ?_)
          · rw [if_pos hc] at hf
            refine lv_iconst (v := 0) hx hb dM_has_79 (by decide) ?_
            obtain ⟨o3, hq4, hf⟩ := xbind hf
            have hl := lv_sub (l' := [(0, .ref aM)]) hl [0] rfl
            obtain ⟨hm5, hf⟩ := xmoE hf
            have hFc := xm_free hD hS hA
            refine va_callq (va_runV (C := "ValueBenchModel") (As := [.int 0]) (rest := []) ⟨hx, hb, hml, hown, htx⟩ (gM_truth l hl9 D cT aK aV s.heap.size n aM ad rd gd vad st (0 : Int32) o3 hq4) ⟨callB_of 1 htx (xw_goodC kw_7_5) rfl rfl rfl (htx _ kw_1_5) (htx _ kw_7_2) ⟨by decide, by decide, by decide +kernel⟩ ⟨Nat.le_of_ble_eq_true rfl, Nat.le_of_ble_eq_true rfl⟩, (htx _ kw_7_4), (htx _ kp_M_truth)⟩ ⟨xPre_blind, va_recv hK hP (ci := 5) rfl (q0 := 0) rfl, (fun U hU hW => ⟨rfl, xPre_of hZ hS hFc hP hD hK U hU hW⟩)⟩ rfl rfl hl.1 rfl (xm_room (Nat.le_of_ble_eq_true rfl)) dM_has_80 ⟨hm5.1, hm5.2⟩) hS (fun q _ h => hFc q h) hFc (fun r6 u9 t H1 locs ht hvm hr9 hB hz1 hk1 hS => ?_)
            obtain ⟨hP1, hK1, hD1⟩ := hB
            rw [ht] at hP1
            obtain ⟨ad7, gd8, vad9⟩ := u9
            obtain ⟨hr9, hv10, hn11⟩ := hr9
            have hP : va_P D xcl (xMw cT aM ad7 rd gd8 vad9 o3.2.2.2 []) H1 := hP1
            have hD : va_D A (xMw cT aM ad7 rd gd8 vad9 o3.2.2.2 []) := hD1.weaken (fun k q _ h => hFc q.1 h)
            generalize H1 = H at hP hS ⊢
            have hE9 : ∀ p, p < xct st → vad9 p = vad p := fun p h => (hv10 p (Nat.lt_of_lt_of_le h hN)).trans (hE p h)
            have hE := hE9
            have hN : xct st ≤ xct o3.2.2.2 := Nat.le_trans hN hn11
            rw [hr9]
            refine W.eq (g2 := F0 m 83 ls [xv vad9 o3.2.2.1]) (by first | rfl | (skip; rfl)) ?_
            obtain rfl := Option.some.inj hf
            exact absurd (show (0 : Nat) = 1 from hkd) (by decide)
          · rw [if_neg hc] at hf
            refine lv_iconst (v := 1) hx hb dM_has_75 (by decide) ?_
            refine lv_goto (tgt := 80) hx hb dM_has_76 (by decide) ?_
            obtain ⟨o3, hq4, hf⟩ := xbind hf
            have hl := lv_sub (l' := [(0, .ref aM)]) hl [0] rfl
            obtain ⟨hm5, hf⟩ := xmoE hf
            have hFc := xm_free hD hS hA
            refine va_callq (va_runV (C := "ValueBenchModel") (As := [.int 1]) (rest := []) ⟨hx, hb, hml, hown, htx⟩ (gM_truth l hl9 D cT aK aV s.heap.size n aM ad rd gd vad st (1 : Int32) o3 hq4) ⟨callB_of 1 htx (xw_goodC kw_7_5) rfl rfl rfl (htx _ kw_1_5) (htx _ kw_7_2) ⟨by decide, by decide, by decide +kernel⟩ ⟨Nat.le_of_ble_eq_true rfl, Nat.le_of_ble_eq_true rfl⟩, (htx _ kw_7_4), (htx _ kp_M_truth)⟩ ⟨xPre_blind, va_recv hK hP (ci := 5) rfl (q0 := 0) rfl, (fun U hU hW => ⟨rfl, xPre_of hZ hS hFc hP hD hK U hU hW⟩)⟩ rfl rfl hl.1 rfl (xm_room (Nat.le_of_ble_eq_true rfl)) dM_has_80 ⟨hm5.1, hm5.2⟩) hS (fun q _ h => hFc q h) hFc (fun r6 u9 t H1 locs ht hvm hr9 hB hz1 hk1 hS => ?_)
            obtain ⟨hP1, hK1, hD1⟩ := hB
            rw [ht] at hP1
            obtain ⟨ad7, gd8, vad9⟩ := u9
            obtain ⟨hr9, hv10, hn11⟩ := hr9
            have hP : va_P D xcl (xMw cT aM ad7 rd gd8 vad9 o3.2.2.2 []) H1 := hP1
            have hD : va_D A (xMw cT aM ad7 rd gd8 vad9 o3.2.2.2 []) := hD1.weaken (fun k q _ h => hFc q.1 h)
            generalize H1 = H at hP hS ⊢
            have hE9 : ∀ p, p < xct st → vad9 p = vad p := fun p h => (hv10 p (Nat.lt_of_lt_of_le h hN)).trans (hE p h)
            have hE := hE9
            have hN : xct st ≤ xct o3.2.2.2 := Nat.le_trans hN hn11
            rw [hr9]
            refine W.eq (g2 := F0 m 83 ls [xv vad9 o3.2.2.1]) (by first | rfl | (skip; rfl)) ?_
            obtain rfl := Option.some.inj hf
            exact absurd (show (0 : Nat) = 1 from hkd) (by decide)
  · rw [if_pos hc] at hf
    refine xm_aload_n hx hb (xvor _ _) dM_has_9 rfl (lv_at hl 2 rfl) ?_
    obtain ⟨hg2, hf⟩ := xifn hf
    refine xm_vget (v := .int ((xpi st 0) (c1 - 1))) hx hb htx hown hK hP 0 (by decide) hg2 rfl ((hZ.1 (93, "kind", "I") (List.mem_of_getElem? (i := 0) rfl)).use rfl) rfl dM_has_10 ?_
    refine lv_iconst (v := 4) hx hb dM_has_13 (by decide) ?_
    refine lv_icmp_ne (tgt := 36) hx hb dM_has_14 (by decide) (fun hc => ?_) (fun hc => ?_)
    · rw [if_neg hc] at hf
      refine xm_aload_n hx hb (xvor _ _) dM_has_36 rfl (lv_at hl 1 rfl) ?_
      refine xm_vget (v := .int ((xpi st 0) (c0 - 1))) hx hb htx hown hK hP 0 (by decide) hg1 rfl ((hZ.1 (93, "kind", "I") (List.mem_of_getElem? (i := 0) rfl)).use rfl) rfl dM_has_37 ?_
      refine lv_iconst (v := 5) hx hb dM_has_40 (by decide) ?_
      refine lv_icmp_ne (tgt := 84) hx hb dM_has_41 (by decide) (fun hc => ?_) (fun hc => ?_)
      · rw [if_neg hc] at hf
        refine lv_aload_n hx hb dM_has_84 rfl (lv_at hl 0 rfl) ?_
        refine lv_iconst (v := 1) hx hb dM_has_85 (by decide) ?_
        obtain ⟨o3, hq4, hf⟩ := xbind hf
        have hl := lv_sub (l' := [(0, .ref aM)]) hl [0] rfl
        by_cases hk5 : o3.1 = 1
        · rw [if_pos hk5] at hf
          obtain ⟨hm6, hf⟩ := xmoE hf
          have hFc := xm_free hD hS hA
          refine xx_thr (vx_runV (C := "ValueBenchModel") (As := [.int 1]) (rest := []) ⟨hx, hb, hml, hown, htx⟩ (gM_refuse_1 l hl9 D cT aK aV s.heap.size n aM ad rd gd vad st (1 : Int32) o3 hq4 hk5) ⟨callB_of 1 htx (xw_goodC kw_6_93) rfl rfl rfl (htx _ kw_1_5) (htx _ kw_6_90) ⟨by decide, by decide, by decide +kernel⟩ ⟨Nat.le_of_ble_eq_true rfl, Nat.le_of_ble_eq_true rfl⟩, (htx _ kw_6_92), (htx _ kp_M_refuse)⟩ ⟨xPre_blind, va_recv hK hP (ci := 5) rfl (q0 := 0) rfl, (fun U hU hW => ⟨rfl, xPre_of hZ hS hFc hP hD hK U hU hW⟩)⟩ rfl rfl hl.1 rfl (xm_room (Nat.le_of_ble_eq_true rfl)) dM_has_86 ⟨hm6.1, hm6.2⟩) hS hFc (fun q _ h => hFc q h) (fun E ce q9 u9 t H1 locs ht hvm hr9 hB hz1 hk1 hS hce hcv hcl => ?_)
          obtain ⟨rfl, hP1, hK1, hD1⟩ := hB
          rw [ht] at hP1
          obtain ⟨ad8, gd9, vad10⟩ := u9
          obtain ⟨hv11, hn12⟩ := hr9
          have hP : va_P D xcl (xMw cT aM ad8 rd gd9 vad10 o3.2.2.2.2 []) H1 := hP1
          have hD : va_D A (xMw cT aM ad8 rd gd9 vad10 o3.2.2.2.2 []) := hD1.weaken (fun k q _ h => hFc q.1 h)
          generalize H1 = H at hP hS hce ⊢
          have hE9 : ∀ p, p < xct st → vad10 p = vad p := fun p h => (hv11 p (Nat.lt_of_lt_of_le h hN)).trans (hE p h)
          have hE := hE9
          have hN : xct st ≤ xct o3.2.2.2.2 := Nat.le_trans hN hn12
          obtain rfl := Option.some.inj hf
          exact vx_out (E := "java/lang/ArithmeticException") (fun x h => (hne x h).elim) hlocks hce hcv hcl (fun t ht ha => ⟨(ad8, gd9, vad10), ⟨hE, hN⟩, ⟨rfl, by rw [ht]; exact hP, va_K.moved ha hK, hD⟩, hS.F ht⟩) hS.2.2 (Nat.le_refl _) (Nat.le_refl _)
        rw [if_neg hk5] at hf
        exact nomatch hf
      · rw [if_pos hc] at hf
        refine xm_aload_n hx hb (xvor _ _) dM_has_44 rfl (lv_at hl 2 rfl) ?_
        refine xm_vget (v := .int ((xpi st 0) (c1 - 1))) hx hb htx hown hK hP 0 (by decide) hg2 rfl ((hZ.1 (93, "kind", "I") (List.mem_of_getElem? (i := 0) rfl)).use rfl) rfl dM_has_45 ?_
        refine lv_iconst (v := 3) hx hb dM_has_48 (by decide) ?_
        refine lv_icmp_ne (tgt := 84) hx hb dM_has_49 (by decide) (fun hc => ?_) (fun hc => ?_)
        · rw [if_neg hc] at hf
          refine lv_aload_n hx hb dM_has_84 rfl (lv_at hl 0 rfl) ?_
          refine lv_iconst (v := 1) hx hb dM_has_85 (by decide) ?_
          obtain ⟨o3, hq4, hf⟩ := xbind hf
          have hl := lv_sub (l' := [(0, .ref aM)]) hl [0] rfl
          by_cases hk5 : o3.1 = 1
          · rw [if_pos hk5] at hf
            obtain ⟨hm6, hf⟩ := xmoE hf
            have hFc := xm_free hD hS hA
            refine xx_thr (vx_runV (C := "ValueBenchModel") (As := [.int 1]) (rest := []) ⟨hx, hb, hml, hown, htx⟩ (gM_refuse_1 l hl9 D cT aK aV s.heap.size n aM ad rd gd vad st (1 : Int32) o3 hq4 hk5) ⟨callB_of 1 htx (xw_goodC kw_6_93) rfl rfl rfl (htx _ kw_1_5) (htx _ kw_6_90) ⟨by decide, by decide, by decide +kernel⟩ ⟨Nat.le_of_ble_eq_true rfl, Nat.le_of_ble_eq_true rfl⟩, (htx _ kw_6_92), (htx _ kp_M_refuse)⟩ ⟨xPre_blind, va_recv hK hP (ci := 5) rfl (q0 := 0) rfl, (fun U hU hW => ⟨rfl, xPre_of hZ hS hFc hP hD hK U hU hW⟩)⟩ rfl rfl hl.1 rfl (xm_room (Nat.le_of_ble_eq_true rfl)) dM_has_86 ⟨hm6.1, hm6.2⟩) hS hFc (fun q _ h => hFc q h) (fun E ce q9 u9 t H1 locs ht hvm hr9 hB hz1 hk1 hS hce hcv hcl => ?_)
            obtain ⟨rfl, hP1, hK1, hD1⟩ := hB
            rw [ht] at hP1
            obtain ⟨ad8, gd9, vad10⟩ := u9
            obtain ⟨hv11, hn12⟩ := hr9
            have hP : va_P D xcl (xMw cT aM ad8 rd gd9 vad10 o3.2.2.2.2 []) H1 := hP1
            have hD : va_D A (xMw cT aM ad8 rd gd9 vad10 o3.2.2.2.2 []) := hD1.weaken (fun k q _ h => hFc q.1 h)
            generalize H1 = H at hP hS hce ⊢
            have hE9 : ∀ p, p < xct st → vad10 p = vad p := fun p h => (hv11 p (Nat.lt_of_lt_of_le h hN)).trans (hE p h)
            have hE := hE9
            have hN : xct st ≤ xct o3.2.2.2.2 := Nat.le_trans hN hn12
            obtain rfl := Option.some.inj hf
            exact vx_out (E := "java/lang/ArithmeticException") (fun x h => (hne x h).elim) hlocks hce hcv hcl (fun t ht ha => ⟨(ad8, gd9, vad10), ⟨hE, hN⟩, ⟨rfl, by rw [ht]; exact hP, va_K.moved ha hK, hD⟩, hS.F ht⟩) hS.2.2 (Nat.le_refl _) (Nat.le_refl _)
          rw [if_neg hk5] at hf
          exact nomatch hf
        · rw [if_pos hc] at hf
          refine lv_aload_n hx hb dM_has_52 rfl (lv_at hl 0 rfl) ?_
          refine xm_aload_n hx hb (xvor _ _) dM_has_53 rfl (lv_at hl 2 rfl) ?_
          refine xm_vget (v := .long ((xpl st) (c1 - 1))) hx hb htx hown hK hP 1 (by decide) hg2 rfl ((hZ.1 (96, "n", "J") (List.mem_of_getElem? (i := 1) rfl)).use rfl) rfl dM_has_54 ?_
          refine lv_lconst (v := 0) hx hb dM_has_57 (by decide) ?_
          refine W.lcmp hx hb dM_has_58 ?_
          refine lv_if_lt (tgt := 79) hx hb dM_has_59 (by decide) (fun hc => ?_) (fun hc => ?_)
          · rw [if_pos hc] at hf
            refine lv_iconst (v := 0) hx hb dM_has_79 (by decide) ?_
            obtain ⟨o3, hq4, hf⟩ := xbind hf
            have hl := lv_sub (l' := [(0, .ref aM)]) hl [0] rfl
            obtain ⟨hm5, hf⟩ := xmoE hf
            have hFc := xm_free hD hS hA
            refine va_callq (va_runV (C := "ValueBenchModel") (As := [.int 0]) (rest := []) ⟨hx, hb, hml, hown, htx⟩ (gM_truth l hl9 D cT aK aV s.heap.size n aM ad rd gd vad st (0 : Int32) o3 hq4) ⟨callB_of 1 htx (xw_goodC kw_7_5) rfl rfl rfl (htx _ kw_1_5) (htx _ kw_7_2) ⟨by decide, by decide, by decide +kernel⟩ ⟨Nat.le_of_ble_eq_true rfl, Nat.le_of_ble_eq_true rfl⟩, (htx _ kw_7_4), (htx _ kp_M_truth)⟩ ⟨xPre_blind, va_recv hK hP (ci := 5) rfl (q0 := 0) rfl, (fun U hU hW => ⟨rfl, xPre_of hZ hS hFc hP hD hK U hU hW⟩)⟩ rfl rfl hl.1 rfl (xm_room (Nat.le_of_ble_eq_true rfl)) dM_has_80 ⟨hm5.1, hm5.2⟩) hS (fun q _ h => hFc q h) hFc (fun r6 u9 t H1 locs ht hvm hr9 hB hz1 hk1 hS => ?_)
            obtain ⟨hP1, hK1, hD1⟩ := hB
            rw [ht] at hP1
            obtain ⟨ad7, gd8, vad9⟩ := u9
            obtain ⟨hr9, hv10, hn11⟩ := hr9
            have hP : va_P D xcl (xMw cT aM ad7 rd gd8 vad9 o3.2.2.2 []) H1 := hP1
            have hD : va_D A (xMw cT aM ad7 rd gd8 vad9 o3.2.2.2 []) := hD1.weaken (fun k q _ h => hFc q.1 h)
            generalize H1 = H at hP hS ⊢
            have hE9 : ∀ p, p < xct st → vad9 p = vad p := fun p h => (hv10 p (Nat.lt_of_lt_of_le h hN)).trans (hE p h)
            have hE := hE9
            have hN : xct st ≤ xct o3.2.2.2 := Nat.le_trans hN hn11
            rw [hr9]
            refine W.eq (g2 := F0 m 83 ls [xv vad9 o3.2.2.1]) (by first | rfl | (skip; rfl)) ?_
            obtain rfl := Option.some.inj hf
            exact absurd (show (0 : Nat) = 1 from hkd) (by decide)
          · rw [if_neg hc] at hf
            refine xm_aload_n hx hb (xvor _ _) dM_has_62 rfl (lv_at hl 2 rfl) ?_
            refine xm_vget (v := .long ((xpl st) (c1 - 1))) hx hb htx hown hK hP 1 (by decide) hg2 rfl ((hZ.1 (96, "n", "J") (List.mem_of_getElem? (i := 1) rfl)).use rfl) rfl dM_has_63 ?_
            refine xm_aload_n hx hb (xvor _ _) dM_has_66 rfl (lv_at hl 1 rfl) ?_
            refine xm_vget (v := .int ((xpi st 3) (c0 - 1))) hx hb htx hown hK hP 3 (by decide) hg1 rfl ((hZ.1 (103, "count", "I") (List.mem_of_getElem? (i := 3) rfl)).use rfl) rfl dM_has_67 ?_
            refine lv_i2l hx hb dM_has_70 rfl ?_
            refine W.lcmp hx hb dM_has_71 ?_
            refine lv_if_ge (tgt := 79) hx hb dM_has_72 (by decide) (fun hc => ?_) (fun hc => ?_)
            · rw [if_pos hc] at hf
              refine lv_iconst (v := 0) hx hb dM_has_79 (by decide) ?_
              obtain ⟨o3, hq4, hf⟩ := xbind hf
              have hl := lv_sub (l' := [(0, .ref aM)]) hl [0] rfl
              obtain ⟨hm5, hf⟩ := xmoE hf
              have hFc := xm_free hD hS hA
              refine va_callq (va_runV (C := "ValueBenchModel") (As := [.int 0]) (rest := []) ⟨hx, hb, hml, hown, htx⟩ (gM_truth l hl9 D cT aK aV s.heap.size n aM ad rd gd vad st (0 : Int32) o3 hq4) ⟨callB_of 1 htx (xw_goodC kw_7_5) rfl rfl rfl (htx _ kw_1_5) (htx _ kw_7_2) ⟨by decide, by decide, by decide +kernel⟩ ⟨Nat.le_of_ble_eq_true rfl, Nat.le_of_ble_eq_true rfl⟩, (htx _ kw_7_4), (htx _ kp_M_truth)⟩ ⟨xPre_blind, va_recv hK hP (ci := 5) rfl (q0 := 0) rfl, (fun U hU hW => ⟨rfl, xPre_of hZ hS hFc hP hD hK U hU hW⟩)⟩ rfl rfl hl.1 rfl (xm_room (Nat.le_of_ble_eq_true rfl)) dM_has_80 ⟨hm5.1, hm5.2⟩) hS (fun q _ h => hFc q h) hFc (fun r6 u9 t H1 locs ht hvm hr9 hB hz1 hk1 hS => ?_)
              obtain ⟨hP1, hK1, hD1⟩ := hB
              rw [ht] at hP1
              obtain ⟨ad7, gd8, vad9⟩ := u9
              obtain ⟨hr9, hv10, hn11⟩ := hr9
              have hP : va_P D xcl (xMw cT aM ad7 rd gd8 vad9 o3.2.2.2 []) H1 := hP1
              have hD : va_D A (xMw cT aM ad7 rd gd8 vad9 o3.2.2.2 []) := hD1.weaken (fun k q _ h => hFc q.1 h)
              generalize H1 = H at hP hS ⊢
              have hE9 : ∀ p, p < xct st → vad9 p = vad p := fun p h => (hv10 p (Nat.lt_of_lt_of_le h hN)).trans (hE p h)
              have hE := hE9
              have hN : xct st ≤ xct o3.2.2.2 := Nat.le_trans hN hn11
              rw [hr9]
              refine W.eq (g2 := F0 m 83 ls [xv vad9 o3.2.2.1]) (by first | rfl | (skip; rfl)) ?_
              obtain rfl := Option.some.inj hf
              exact absurd (show (0 : Nat) = 1 from hkd) (by decide)
            · rw [if_neg hc] at hf
              refine lv_iconst (v := 1) hx hb dM_has_75 (by decide) ?_
              refine lv_goto (tgt := 80) hx hb dM_has_76 (by decide) ?_
              obtain ⟨o3, hq4, hf⟩ := xbind hf
              have hl := lv_sub (l' := [(0, .ref aM)]) hl [0] rfl
              obtain ⟨hm5, hf⟩ := xmoE hf
              have hFc := xm_free hD hS hA
              refine va_callq (va_runV (C := "ValueBenchModel") (As := [.int 1]) (rest := []) ⟨hx, hb, hml, hown, htx⟩ (gM_truth l hl9 D cT aK aV s.heap.size n aM ad rd gd vad st (1 : Int32) o3 hq4) ⟨callB_of 1 htx (xw_goodC kw_7_5) rfl rfl rfl (htx _ kw_1_5) (htx _ kw_7_2) ⟨by decide, by decide, by decide +kernel⟩ ⟨Nat.le_of_ble_eq_true rfl, Nat.le_of_ble_eq_true rfl⟩, (htx _ kw_7_4), (htx _ kp_M_truth)⟩ ⟨xPre_blind, va_recv hK hP (ci := 5) rfl (q0 := 0) rfl, (fun U hU hW => ⟨rfl, xPre_of hZ hS hFc hP hD hK U hU hW⟩)⟩ rfl rfl hl.1 rfl (xm_room (Nat.le_of_ble_eq_true rfl)) dM_has_80 ⟨hm5.1, hm5.2⟩) hS (fun q _ h => hFc q h) hFc (fun r6 u9 t H1 locs ht hvm hr9 hB hz1 hk1 hS => ?_)
              obtain ⟨hP1, hK1, hD1⟩ := hB
              rw [ht] at hP1
              obtain ⟨ad7, gd8, vad9⟩ := u9
              obtain ⟨hr9, hv10, hn11⟩ := hr9
              have hP : va_P D xcl (xMw cT aM ad7 rd gd8 vad9 o3.2.2.2 []) H1 := hP1
              have hD : va_D A (xMw cT aM ad7 rd gd8 vad9 o3.2.2.2 []) := hD1.weaken (fun k q _ h => hFc q.1 h)
              generalize H1 = H at hP hS ⊢
              have hE9 : ∀ p, p < xct st → vad9 p = vad p := fun p h => (hv10 p (Nat.lt_of_lt_of_le h hN)).trans (hE p h)
              have hE := hE9
              have hN : xct st ≤ xct o3.2.2.2 := Nat.le_trans hN hn11
              rw [hr9]
              refine W.eq (g2 := F0 m 83 ls [xv vad9 o3.2.2.1]) (by first | rfl | (skip; rfl)) ?_
              obtain rfl := Option.some.inj hf
              exact absurd (show (0 : Nat) = 1 from hkd) (by decide)
    · rw [if_pos hc] at hf
      refine lv_aload_n hx hb dM_has_17 rfl (lv_at hl 0 rfl) ?_
      refine lv_aload_n hx hb dM_has_18 rfl (lv_at hl 0 rfl) ?_
      refine xm_aload_n hx hb (xvor _ _) dM_has_19 rfl (lv_at hl 1 rfl) ?_
      refine xm_aload_n hx hb (xvor _ _) dM_has_20 rfl (lv_at hl 2 rfl) ?_
      obtain ⟨o3, hq4, hf⟩ := xbind hf
      have hl := lv_sub (l' := [(0, .ref aM)]) hl [0] rfl
      have hFc := xm_free hD hS hA
      refine va_calli (va_runV (C := "ValueBenchModel") (As := [xv vad c0, xv vad c1]) (rest := [.ref aM]) ⟨hx, hb, hml, hown, htx⟩ (gM_place l hl9 D cT aK aV s.heap.size n aM ad rd gd vad st c0 c1 o3 hq4) ⟨callB_of 2 htx (xw_goodC kw_6_178) rfl rfl rfl (htx _ kw_1_5) (htx _ kw_6_175) ⟨by decide, by decide, by decide +kernel⟩ ⟨Nat.le_of_ble_eq_true rfl, Nat.le_of_ble_eq_true rfl⟩, (htx _ kw_6_177), (htx _ kp_M_place)⟩ ⟨xPre_blind, va_recv hK hP (ci := 5) rfl (q0 := 0) rfl, (fun U hU hW => ⟨rfl, xPre_of hZ hS hFc hP hD hK U hU hW⟩)⟩ rfl rfl hl.1 rfl (xm_room (Nat.le_of_ble_eq_true rfl)) dM_has_21 ⟨Nat.zero_le _, Nat.zero_le _⟩) hS (fun q _ h => hFc q h) hFc (fun r5 u9 t H1 locs ht hvm hr9 hB hz1 hk1 hS => ?_)
      obtain ⟨hP1, hK1, hD1⟩ := hB
      rw [ht] at hP1
      have hP : va_P D xcl (xMw cT aM ad rd gd vad st []) H1 := hP1
      have hD : va_D A (xMw cT aM ad rd gd vad st []) := hD1.weaken (fun k q _ h => hFc q.1 h)
      generalize H1 = H at hP hS ⊢
      rw [hr9]
      refine W.eq (g2 := F0 m 24 ls [.int o3, .ref aM]) (by first | rfl | (skip; rfl)) ?_
      refine lv_if_lt (tgt := 31) hx hb dM_has_24 (by decide) (fun hc => ?_) (fun hc => ?_)
      · rw [if_pos hc] at hf
        refine lv_iconst (v := 0) hx hb dM_has_31 (by decide) ?_
        obtain ⟨o6, hq7, hf⟩ := xbind hf
        obtain ⟨hm8, hf⟩ := xmoE hf
        have hFc := xm_free hD hS hA
        refine va_callq (va_runV (C := "ValueBenchModel") (As := [.int 0]) (rest := []) ⟨hx, hb, hml, hown, htx⟩ (gM_truth l hl9 D cT aK aV H.size n aM ad rd gd vad st (0 : Int32) o6 hq7) ⟨callB_of 1 htx (xw_goodC kw_7_5) rfl rfl rfl (htx _ kw_1_5) (htx _ kw_7_2) ⟨by decide, by decide, by decide +kernel⟩ ⟨Nat.le_of_ble_eq_true rfl, Nat.le_of_ble_eq_true rfl⟩, (htx _ kw_7_4), (htx _ kp_M_truth)⟩ ⟨xPre_blind, va_recv hK hP (ci := 5) rfl (q0 := 0) rfl, (fun U hU hW => ⟨rfl, xPre_of hZ hS hFc hP hD hK U hU hW⟩)⟩ rfl rfl hl.1 rfl (xm_room (Nat.le_of_ble_eq_true rfl)) dM_has_32 ⟨hm8.1, hm8.2⟩) hS (fun q _ h => hFc q h) hFc (fun r9 u9 t H1 locs ht hvm hr9 hB hz1 hk1 hS => ?_)
        obtain ⟨hP1, hK1, hD1⟩ := hB
        rw [ht] at hP1
        obtain ⟨ad10, gd11, vad12⟩ := u9
        obtain ⟨hr9, hv13, hn14⟩ := hr9
        have hP : va_P D xcl (xMw cT aM ad10 rd gd11 vad12 o6.2.2.2 []) H1 := hP1
        have hD : va_D A (xMw cT aM ad10 rd gd11 vad12 o6.2.2.2 []) := hD1.weaken (fun k q _ h => hFc q.1 h)
        generalize H1 = H at hP hS ⊢
        have hE9 : ∀ p, p < xct st → vad12 p = vad p := fun p h => (hv13 p (Nat.lt_of_lt_of_le h hN)).trans (hE p h)
        have hE := hE9
        have hN : xct st ≤ xct o6.2.2.2 := Nat.le_trans hN hn14
        rw [hr9]
        refine W.eq (g2 := F0 m 35 ls [xv vad12 o6.2.2.1]) (by first | rfl | (skip; rfl)) ?_
        obtain rfl := Option.some.inj hf
        exact absurd (show (0 : Nat) = 1 from hkd) (by decide)
      · rw [if_neg hc] at hf
        refine lv_iconst (v := 1) hx hb dM_has_27 (by decide) ?_
        refine lv_goto (tgt := 32) hx hb dM_has_28 (by decide) ?_
        obtain ⟨o6, hq7, hf⟩ := xbind hf
        obtain ⟨hm8, hf⟩ := xmoE hf
        have hFc := xm_free hD hS hA
        refine va_callq (va_runV (C := "ValueBenchModel") (As := [.int 1]) (rest := []) ⟨hx, hb, hml, hown, htx⟩ (gM_truth l hl9 D cT aK aV H.size n aM ad rd gd vad st (1 : Int32) o6 hq7) ⟨callB_of 1 htx (xw_goodC kw_7_5) rfl rfl rfl (htx _ kw_1_5) (htx _ kw_7_2) ⟨by decide, by decide, by decide +kernel⟩ ⟨Nat.le_of_ble_eq_true rfl, Nat.le_of_ble_eq_true rfl⟩, (htx _ kw_7_4), (htx _ kp_M_truth)⟩ ⟨xPre_blind, va_recv hK hP (ci := 5) rfl (q0 := 0) rfl, (fun U hU hW => ⟨rfl, xPre_of hZ hS hFc hP hD hK U hU hW⟩)⟩ rfl rfl hl.1 rfl (xm_room (Nat.le_of_ble_eq_true rfl)) dM_has_32 ⟨hm8.1, hm8.2⟩) hS (fun q _ h => hFc q h) hFc (fun r9 u9 t H1 locs ht hvm hr9 hB hz1 hk1 hS => ?_)
        obtain ⟨hP1, hK1, hD1⟩ := hB
        rw [ht] at hP1
        obtain ⟨ad10, gd11, vad12⟩ := u9
        obtain ⟨hr9, hv13, hn14⟩ := hr9
        have hP : va_P D xcl (xMw cT aM ad10 rd gd11 vad12 o6.2.2.2 []) H1 := hP1
        have hD : va_D A (xMw cT aM ad10 rd gd11 vad12 o6.2.2.2 []) := hD1.weaken (fun k q _ h => hFc q.1 h)
        generalize H1 = H at hP hS ⊢
        have hE9 : ∀ p, p < xct st → vad12 p = vad p := fun p h => (hv13 p (Nat.lt_of_lt_of_le h hN)).trans (hE p h)
        have hE := hE9
        have hN : xct st ≤ xct o6.2.2.2 := Nat.le_trans hN hn14
        rw [hr9]
        refine W.eq (g2 := F0 m 35 ls [xv vad12 o6.2.2.1]) (by first | rfl | (skip; rfl)) ?_
        obtain rfl := Option.some.inj hf
        exact absurd (show (0 : Nat) = 1 from hkd) (by decide)
set_option maxHeartbeats 400000000 in
set_option maxRecDepth 100000 in
theorem gM_contains (l : Launch) (hl9 : l.stackTraces = false) (D : va_G) (cT : Nat → ClassId) (aK aV : Nat → Nat) : ∀ (d sz n : Nat) (aM : Nat) (ad rd gd vad : Nat → Nat) (st : xS) (c0 : Nat) (c1 : Nat) (out : Int32) (hf : fM_contains d n st c0 c1 = some out), xMet l yM_contains wyM_contains ((16 * d)) 0 0 ((400 * d)) D cT aK aV sz [.ref aM, xv vad c0, xv vad c1] (xMw cT aM ad rd gd vad st []) (fun A => va_Qi (fun (r : Int32) (_ : Unit) => r = out) (fun _ t => xB D xcl cT A (xMw cT aM ad rd gd vad st []) t) A) := by
  intro d
  induction d with
  | zero =>
    intro sz n aM ad rd gd vad st c0 c1 out hf
    rw [fM_contains] at hf
    exact nomatch hf
  | succ d ih =>
    intro sz n aM ad rd gd vad st c0 c1 out hf
    rw [fM_contains] at hf
    obtain ⟨rec, hrec, hf⟩ : ∃ rec : xS → Nat → Nat → Option (Int32), (∀ (sz aM : Nat) (ad rd gd vad : Nat → Nat) (st : xS) (c0 : Nat) (c1 : Nat) (out : Int32), rec st c0 c1 = some out → xMet l yM_contains wyM_contains (16 * d) 0 0 (400 * d) D cT aK aV sz [.ref aM, xv vad c0, xv vad c1] (xMw cT aM ad rd gd vad st []) (fun A => va_Qi (fun (r : Int32) (_ : Unit) => r = out) (fun _ t => xB D xcl cT A (xMw cT aM ad rd gd vad st []) t) A)) ∧ ((fM_alike n st c0 c1).bind fun o1 => ((if o1 = 0 then some ((0 : Int32)) else if c0 = 0 ∨ (xct st) < c0 then none else (if ((xpi st 0) (c0 - 1)) = 4 then fM_contains_b rec d st n 1 (0 : Int32) c0 c1 0 0 else (if 5 ≤ ((xpi st 0) (c0 - 1)) then fM_contains_b rec d st n 2 (0 : Int32) c0 c1 0 0 else (fM_same1 d n st c0 c1).bind fun o5 => (if ¬ (o5 = 0 ∨ o5 = 1) then none else some (o5))))))) = some out := ⟨fM_contains d n, fun sz => ih sz n, hf⟩
    refine Met.ofW (cc := prog_13_method_70_code) (maxL := 6) (ret := (some .boolean)) (by decide) rfl ?_
    intro p e s m args below meth c s₁ B hml hv
    obtain ⟨rfl, hsz, hZ, hP, hK, hD0⟩ := hv
    have hx := B.exec
    have hb := B.bytes
    have hr := B.returns
    have hts := atoms_spec (ws := wyM_contains) B.pre
    have htx := fun w h => hts w (List.mem_cons_of_mem _ h)
    have hown : s.vm.findClass "ValueBenchModel" = some m.cls := findClass_of_methodNamed B.named
    have hlocks := B.notSynchronized
    subst hsz
    have hD := hD0.self (sz := s.heap.size)
    generalize hAe : va_A (xMw cT aM ad rd gd vad st []) s.heap.size = A at hD hZ ⊢
    have hA : ∀ q : Nat, s.heap.size ≤ q → A q := fun q h => by rw [← hAe]; exact Or.inr h
    have hS : va_S A s.heap s.heap [] := va_S.rf
    have hl := lv_entry ([.ref aM, xv vad c0, xv vad c1]) (n := 6) (by simp [lg_sl, xvcat, xrscat, xcI, xcL, xcR, xcN])
    rw [show lv_args 0 [.ref aM, xv vad c0, xv vad c1] = [(0, .ref aM), (1, xv vad c0), (2, xv vad c1)] from by simp [lv_args, xvcat, xrscat, xcI, xcL, xcR, xcN]] at hl
    rw [lg_entry_eq]
    generalize (lg_sl ([.ref aM, xv vad c0, xv vad c1]) ++ List.replicate (6 - (lg_sl ([.ref aM, xv vad c0, xv vad c1])).length) Slot.unset).toArray = ls at hl ⊢
    have hl : lv_has ls 6 [(0, .ref aM), (1, xv vad c0), (2, xv vad c1)] := hl
    refine xloopM (σ := Nat × Int32 × Nat × Nat × Int32 × Int32) (fun n x H locs ls => (x.1 = 1 ∧ fM_contains_b rec d st n x.1 x.2.1 x.2.2.1 x.2.2.2.1 x.2.2.2.2.1 x.2.2.2.2.2 = some out ∧ va_P D xcl (xMw cT aM ad rd gd vad st []) H ∧ va_D A (xMw cT aM ad rd gd vad st []) ∧ va_S A s.heap H locs ∧ lv_has ls 6 [(3, .int x.2.1), (0, .ref aM), (1, xv vad x.2.2.1), (2, xv vad x.2.2.2.1)]) ∨ (x.1 = 2 ∧ fM_contains_b rec d st n x.1 x.2.1 x.2.2.1 x.2.2.2.1 x.2.2.2.2.1 x.2.2.2.2.2 = some out ∧ va_P D xcl (xMw cT aM ad rd gd vad st []) H ∧ va_D A (xMw cT aM ad rd gd vad st []) ∧ va_S A s.heap H locs ∧ lv_has ls 6 [(3, .int x.2.1), (0, .ref aM), (1, xv vad x.2.2.1), (2, xv vad x.2.2.2.1)]) ∨ (x.1 = 3 ∧ fM_contains_b rec d st n x.1 x.2.1 x.2.2.1 x.2.2.2.1 x.2.2.2.2.1 x.2.2.2.2.2 = some out ∧ va_P D xcl (xMw cT aM ad rd gd vad st []) H ∧ va_D A (xMw cT aM ad rd gd vad st []) ∧ va_S A s.heap H locs ∧ lv_has ls 6 [(5, .int x.2.2.2.2.1), (4, .int x.2.2.2.2.2), (3, .int x.2.1), (0, .ref aM), (1, xv vad x.2.2.1), (2, xv vad x.2.2.2.1)])) (fun x => if x.1 = 1 then 21 else if x.1 = 2 then 71 else 142) (fun x => 0) (fun x => 0) (fun x H locs ls h => by rcases h with h | h | h; (exact absurd h.2.1 (by rw [fM_contains_b]; exact fun h => nomatch h)); (exact absurd h.2.1 (by rw [fM_contains_b]; exact fun h => nomatch h)); (exact absurd h.2.1 (by rw [fM_contains_b]; exact fun h => nomatch h))) (fun n ih x H locs ls hv => ?_) (fun key => ?_)
    · obtain ⟨lb, y3, y1, y2, y5, y4⟩ := x
      rcases hv with ⟨hj, hf, hP, hD, hS, hl⟩ | ⟨hj, hf, hP, hD, hS, hl⟩ | ⟨hj, hf, hP, hD, hS, hl⟩
      · subst hj
        have hf : fM_contains_b rec d st (n + 1) 1 y3 y1 y2 y5 y4 = some out := hf
        rw [fM_contains_b, if_pos rfl] at hf
        obtain ⟨hP, hD⟩ : xPD D xcl A (xMw cT aM ad rd gd vad st []) H := ⟨hP, hD⟩
        have hl : lv_has ls 6 [(3, .int y3), (0, .ref aM), (1, xv vad y1), (2, xv vad y2)] := hl
        refine W.eq (g2 := F0 m 21 ls []) rfl ?_
        refine lv_iload_n hx hb dM_contains_21 rfl (lv_at hl 0 rfl) ?_
        refine xm_aload_n hx hb (xvor _ _) dM_contains_22 rfl (lv_at hl 3 rfl) ?_
        obtain ⟨hg1, hf⟩ := xifn hf
        refine xm_vget (v := .int ((xpi st 3) (y2 - 1))) hx hb htx hown hK hP 3 (by decide) hg1 rfl ((hZ.1 (103, "count", "I") (List.mem_of_getElem? (i := 3) rfl)).use rfl) rfl dM_contains_23 ?_
        refine lv_iadd hx hb dM_contains_26 ?_
        refine xm_aload_n hx hb (xvor _ _) dM_contains_27 rfl (lv_at hl 2 rfl) ?_
        obtain ⟨hg2, hf⟩ := xifn hf
        refine xm_vget (v := .int ((xpi st 3) (y1 - 1))) hx hb htx hown hK hP 3 (by decide) hg2 rfl ((hZ.1 (103, "count", "I") (List.mem_of_getElem? (i := 3) rfl)).use rfl) rfl dM_contains_28 ?_
        refine lv_icmp_gt (tgt := 52) hx hb dM_contains_31 (by decide) (fun hc => ?_) (fun hc => ?_)
        · rw [if_pos hc] at hf
          refine lv_iconst (v := 0) hx hb dM_contains_52 (by decide) ?_
          obtain rfl := Option.some.inj hf
          exact W.zret (v := (0 : Int32)) hx hb hr rfl (fun t ht hW => ⟨⟨(0 : Int32), (), rfl, rfl, by rw [ht]; exact hP, va_K.moved hW.alike hK, hD⟩, hS.F ht⟩) hS.2.2 dM_contains_53
        · rw [if_neg hc] at hf
          refine lv_aload_n hx hb dM_contains_34 rfl (lv_at hl 1 rfl) ?_
          refine xm_aload_n hx hb (xvor _ _) dM_contains_35 rfl (lv_at hl 2 rfl) ?_
          refine xm_aload_n hx hb (xvor _ _) dM_contains_36 rfl (lv_at hl 3 rfl) ?_
          refine lv_iload_n hx hb dM_contains_37 rfl (lv_at hl 0 rfl) ?_
          obtain ⟨o3, hq4, hf⟩ := xbind hf
          have hFc := xm_free hD hS hA
          refine va_calli (va_runV (C := "ValueBenchModel") (As := [xv vad y1, xv vad y2, .int y3]) (rest := []) ⟨hx, hb, hml, hown, htx⟩ (gM_begins l hl9 D cT aK aV H.size n aM ad rd gd vad st y1 y2 y3 o3 hq4) ⟨callB_of 3 htx (xw_goodC kw_7_95) rfl rfl rfl (htx _ kw_1_5) (htx _ kw_7_92) ⟨by decide, by decide, by decide +kernel⟩ ⟨Nat.le_of_ble_eq_true rfl, Nat.le_of_ble_eq_true rfl⟩, (htx _ kw_7_94), (htx _ kp_M_begins)⟩ ⟨xPre_blind, va_recv hK hP (ci := 5) rfl (q0 := 0) rfl, (fun U hU hW => ⟨rfl, xPre_of hZ hS hFc hP hD hK U hU hW⟩)⟩ rfl rfl hl.1 rfl (xm_room (Nat.le_of_ble_eq_true rfl)) dM_contains_38 ⟨Nat.le_of_ble_eq_true rfl, Nat.le_of_ble_eq_true rfl⟩) hS (fun q _ h => hFc q h) hFc (fun r5 u9 t H1 locs ht hvm hr9 hB hz1 hk1 hS => ?_)
          obtain ⟨hP1, hK1, hD1⟩ := hB
          rw [ht] at hP1
          have hP : va_P D xcl (xMw cT aM ad rd gd vad st []) H1 := hP1
          have hD : va_D A (xMw cT aM ad rd gd vad st []) := hD1.weaken (fun k q _ h => hFc q.1 h)
          generalize H1 = H at hP hS ⊢
          rw [hr9]
          refine W.eq (g2 := F0 m 41 ls [.int o3]) (by first | rfl | (skip; rfl)) ?_
          refine lv_if_eq (tgt := 46) hx hb dM_contains_41 (by decide) (fun hc => ?_) (fun hc => ?_)
          · rw [if_pos hc] at hf
            refine lv_iinc (v := (y3 + 1)) (lv' := [(3, .int (y3 + 1)), (0, .ref aM), (1, xv vad y1), (2, xv vad y2)]) hx hb dM_contains_46 hl (k := 0) rfl rfl (by decide) (by simp only [List.filter, xvcat, xrscat, xcI, xcL, xcR, xcN]; rfl) (fun ls hl => ?_)
            refine lv_goto (tgt := 21) hx hb dM_contains_49 (by decide) ?_
            exact ih (1, (y3 + 1), y1, y2, 0, 0) _ _ ls (Or.inl ⟨rfl, hf, hP, hD, hS, lv_sub hl [0, 1, 2, 3] rfl⟩)
          · rw [if_neg hc] at hf
            refine lv_iconst (v := 1) hx hb dM_contains_44 (by decide) ?_
            obtain rfl := Option.some.inj hf
            exact W.zret (v := (1 : Int32)) hx hb hr rfl (fun t ht hW => ⟨⟨(1 : Int32), (), rfl, rfl, by rw [ht]; exact hP, va_K.moved hW.alike hK, hD⟩, hS.F ht⟩) hS.2.2 dM_contains_45
      · subst hj
        have hf : fM_contains_b rec d st (n + 1) 2 y3 y1 y2 y5 y4 = some out := hf
        rw [fM_contains_b, if_neg (by decide), if_pos rfl] at hf
        obtain ⟨hP, hD⟩ : xPD D xcl A (xMw cT aM ad rd gd vad st []) H := ⟨hP, hD⟩
        have hl : lv_has ls 6 [(3, .int y3), (0, .ref aM), (1, xv vad y1), (2, xv vad y2)] := hl
        refine W.eq (g2 := F0 m 71 ls []) rfl ?_
        refine lv_iload_n hx hb dM_contains_71 rfl (lv_at hl 0 rfl) ?_
        refine xm_aload_n hx hb (xvor _ _) dM_contains_72 rfl (lv_at hl 3 rfl) ?_
        obtain ⟨hg1, hf⟩ := xifn hf
        refine xm_vget (v := .int ((xpi st 3) (y2 - 1))) hx hb htx hown hK hP 3 (by decide) hg1 rfl ((hZ.1 (103, "count", "I") (List.mem_of_getElem? (i := 3) rfl)).use rfl) rfl dM_contains_73 ?_
        refine lv_icmp_ge (tgt := 194) hx hb dM_contains_76 (by decide) (fun hc => ?_) (fun hc => ?_)
        · rw [if_pos hc] at hf
          refine lv_iconst (v := 1) hx hb dM_contains_194 (by decide) ?_
          obtain rfl := Option.some.inj hf
          exact W.zret (v := (1 : Int32)) hx hb hr rfl (fun t ht hW => ⟨⟨(1 : Int32), (), rfl, rfl, by rw [ht]; exact hP, va_K.moved hW.alike hK, hD⟩, hS.F ht⟩) hS.2.2 dM_contains_195
        · rw [if_neg hc] at hf
          refine lv_iconst (v := 0) hx hb dM_contains_79 (by decide) ?_
          refine lv_istore (lv' := [(4, .int 0), (3, .int y3), (0, .ref aM), (1, xv vad y1), (2, xv vad y2)]) hx hb dM_contains_80 hl (by decide) rfl (fun ls hl => ?_)
          refine xm_aload_n hx hb (xvor _ _) dM_contains_82 rfl (lv_at hl 3 rfl) ?_
          obtain ⟨hg2, hf⟩ := xifn hf
          refine xm_vget (v := .int ((xpi st 0) (y1 - 1))) hx hb htx hown hK hP 0 (by decide) hg2 rfl ((hZ.1 (93, "kind", "I") (List.mem_of_getElem? (i := 0) rfl)).use rfl) rfl dM_contains_83 ?_
          refine lv_bipush (v := 6) hx hb dM_contains_86 (by decide) ?_
          refine lv_icmp_ne (tgt := 139) hx hb dM_contains_88 (by decide) (fun hc => ?_) (fun hc => ?_)
          · rw [if_neg hc] at hf
            refine lv_iconst (v := 0) hx hb dM_contains_139 (by decide) ?_
            refine lv_istore (lv' := [(5, .int 0), (4, .int 0), (3, .int y3), (0, .ref aM), (1, xv vad y1), (2, xv vad y2)]) hx hb dM_contains_140 hl (by decide) rfl (fun ls hl => ?_)
            exact ih (3, y3, y1, y2, (0 : Int32), (0 : Int32)) _ _ ls (Or.inr (Or.inr (⟨rfl, hf, hP, hD, hS, lv_sub hl [0, 1, 2, 3, 4, 5] rfl⟩)))
          · rw [if_pos hc] at hf
            refine lv_aload_n hx hb dM_contains_91 rfl (lv_at hl 2 rfl) ?_
            refine xm_aload_n hx hb (xvor _ _) dM_contains_92 rfl (lv_at hl 3 rfl) ?_
            refine lv_aload_n hx hb dM_contains_93 rfl (lv_at hl 2 rfl) ?_
            refine xm_aload_n hx hb (xvor _ _) dM_contains_94 rfl (lv_at hl 4 rfl) ?_
            refine lv_iload_n hx hb dM_contains_95 rfl (lv_at hl 1 rfl) ?_
            obtain ⟨o3, hq4, hf⟩ := xbind hf
            have hFc := xm_free hD hS hA
            refine va_callq (va_runV (C := "ValueBenchModel") (As := [xv vad y2, .int y3]) (rest := [xv vad y1, .ref aM]) ⟨hx, hb, hml, hown, htx⟩ (gM_name l hl9 D cT aK aV H.size n aM ad rd gd vad st y2 y3 o3 hq4) ⟨callB_of 2 htx (xw_goodC kw_6_154) rfl rfl rfl (htx _ kw_1_5) (htx _ kw_6_151) ⟨by decide, by decide, by decide +kernel⟩ ⟨Nat.le_of_ble_eq_true rfl, Nat.le_of_ble_eq_true rfl⟩, (htx _ kw_6_153), (htx _ kp_M_name)⟩ ⟨xPre_blind, va_recv hK hP (ci := 5) rfl (q0 := 0) rfl, (fun U hU hW => ⟨rfl, xPre_of hZ hS hFc hP hD hK U hU hW⟩)⟩ rfl rfl hl.1 rfl (xm_room (by simp [xvcat, xrscat, xcI, xcL, xcR, xcN])) dM_contains_96 ⟨Nat.le_of_ble_eq_true rfl, Nat.le_of_ble_eq_true rfl⟩) hS (fun q _ h => hFc q h) hFc (fun r5 u9 t H1 locs ht hvm hr9 hB hz1 hk1 hS => ?_)
            obtain ⟨hP1, hK1, hD1⟩ := hB
            rw [ht] at hP1
            have hP : va_P D xcl (xMw cT aM ad rd gd vad st []) H1 := hP1
            have hD : va_D A (xMw cT aM ad rd gd vad st []) := hD1.weaken (fun k q _ h => hFc q.1 h)
            generalize H1 = H at hP hS ⊢
            rw [hr9]
            refine W.eq (g2 := F0 m 99 ls [xv vad o3, xv vad y1, .ref aM]) (by first | rfl | (skip; rfl)) ?_
            obtain ⟨o6, hq7, hf⟩ := xbind hf
            have hFc := xm_free hD hS hA
            refine va_calli (va_runV (C := "ValueBenchModel") (As := [xv vad y1, xv vad o3]) (rest := []) ⟨hx, hb, hml, hown, htx⟩ (gM_place l hl9 D cT aK aV H.size n aM ad rd gd vad st y1 o3 o6 hq7) ⟨callB_of 2 htx (xw_goodC kw_6_178) rfl rfl rfl (htx _ kw_1_5) (htx _ kw_6_175) ⟨by decide, by decide, by decide +kernel⟩ ⟨Nat.le_of_ble_eq_true rfl, Nat.le_of_ble_eq_true rfl⟩, (htx _ kw_6_177), (htx _ kp_M_place)⟩ ⟨xPre_blind, va_recv hK hP (ci := 5) rfl (q0 := 0) rfl, (fun U hU hW => ⟨rfl, xPre_of hZ hS hFc hP hD hK U hU hW⟩)⟩ rfl rfl hl.1 rfl (xm_room (Nat.le_of_ble_eq_true rfl)) dM_contains_99 ⟨Nat.le_of_ble_eq_true rfl, Nat.le_of_ble_eq_true rfl⟩) hS (fun q _ h => hFc q h) hFc (fun r8 u9 t H1 locs ht hvm hr9 hB hz1 hk1 hS => ?_)
            obtain ⟨hP1, hK1, hD1⟩ := hB
            rw [ht] at hP1
            have hP : va_P D xcl (xMw cT aM ad rd gd vad st []) H1 := hP1
            have hD : va_D A (xMw cT aM ad rd gd vad st []) := hD1.weaken (fun k q _ h => hFc q.1 h)
            generalize H1 = H at hP hS ⊢
            rw [hr9]
            refine W.eq (g2 := F0 m 102 ls [.int o6]) (by first | rfl | (skip; rfl)) ?_
            refine lv_istore (lv' := [(5, .int o6), (4, .int 0), (3, .int y3), (0, .ref aM), (1, xv vad y1), (2, xv vad y2)]) hx hb dM_contains_102 hl (by decide) rfl (fun ls hl => ?_)
            refine lv_iload hx hb dM_contains_104 (lv_at hl 0 rfl) ?_
            refine lv_if_lt (tgt := 133) hx hb dM_contains_106 (by decide) (fun hc => ?_) (fun hc => ?_)
            · rw [if_pos hc] at hf
              refine lv_iconst (v := 0) hx hb dM_contains_133 (by decide) ?_
              refine lv_istore (lv' := [(4, .int 0), (5, .int o6), (3, .int y3), (0, .ref aM), (1, xv vad y1), (2, xv vad y2)]) hx hb dM_contains_134 hl (by decide) rfl (fun ls hl => ?_)
              refine lv_goto (tgt := 181) hx hb dM_contains_136 (by decide) ?_
              refine lv_iload hx hb dM_contains_181 (lv_at hl 0 rfl) ?_
              refine lv_if_ne (tgt := 188) hx hb dM_contains_183 (by decide) (fun h => ((by revert h; decide : False)).elim) (fun _ => ?_)
              refine lv_iconst (v := 0) hx hb dM_contains_186 (by decide) ?_
              obtain rfl := Option.some.inj hf
              exact W.zret (v := (0 : Int32)) hx hb hr rfl (fun t ht hW => ⟨⟨(0 : Int32), (), rfl, rfl, by rw [ht]; exact hP, va_K.moved hW.alike hK, hD⟩, hS.F ht⟩) hS.2.2 dM_contains_187
            · rw [if_neg hc] at hf
              refine lv_aload_n hx hb dM_contains_109 rfl (lv_at hl 3 rfl) ?_
              refine lv_aload_n hx hb dM_contains_110 rfl (lv_at hl 3 rfl) ?_
              refine xm_aload_n hx hb (xvor _ _) dM_contains_111 rfl (lv_at hl 4 rfl) ?_
              refine lv_iload hx hb dM_contains_112 (lv_at hl 0 rfl) ?_
              obtain ⟨o9, hq10, hf⟩ := xbind hf
              have hFc := xm_free hD hS hA
              refine va_callq (va_runV (C := "ValueBenchModel") (As := [xv vad y1, .int o6]) (rest := [.ref aM]) ⟨hx, hb, hml, hown, htx⟩ (gM_kid l hl9 D cT aK aV H.size n aM ad rd gd vad st y1 o6 o9 hq10) ⟨callB_of 2 htx (xw_goodC kw_6_158) rfl rfl rfl (htx _ kw_1_5) (htx _ kw_6_155) ⟨by decide, by decide, by decide +kernel⟩ ⟨Nat.le_of_ble_eq_true rfl, Nat.le_of_ble_eq_true rfl⟩, (htx _ kw_6_157), (htx _ kp_M_kid)⟩ ⟨xPre_blind, va_recv hK hP (ci := 5) rfl (q0 := 0) rfl, (fun U hU hW => ⟨rfl, xPre_of hZ hS hFc hP hD hK U hU hW⟩)⟩ rfl rfl hl.1 rfl (xm_room (Nat.le_of_ble_eq_true rfl)) dM_contains_114 ⟨Nat.le_of_ble_eq_true rfl, Nat.le_of_ble_eq_true rfl⟩) hS (fun q _ h => hFc q h) hFc (fun r11 u9 t H1 locs ht hvm hr9 hB hz1 hk1 hS => ?_)
              obtain ⟨hP1, hK1, hD1⟩ := hB
              rw [ht] at hP1
              have hP : va_P D xcl (xMw cT aM ad rd gd vad st []) H1 := hP1
              have hD : va_D A (xMw cT aM ad rd gd vad st []) := hD1.weaken (fun k q _ h => hFc q.1 h)
              generalize H1 = H at hP hS ⊢
              rw [hr9]
              refine W.eq (g2 := F0 m 117 ls [xv vad o9, .ref aM]) (by first | rfl | (skip; rfl)) ?_
              refine lv_aload_n hx hb dM_contains_117 rfl (lv_at hl 3 rfl) ?_
              refine xm_aload_n hx hb (xvor _ _) dM_contains_118 rfl (lv_at hl 5 rfl) ?_
              refine lv_iload_n hx hb dM_contains_119 rfl (lv_at hl 2 rfl) ?_
              obtain ⟨o12, hq13, hf⟩ := xbind hf
              have hFc := xm_free hD hS hA
              refine va_callq (va_runV (C := "ValueBenchModel") (As := [xv vad y2, .int y3]) (rest := [xv vad o9, .ref aM]) ⟨hx, hb, hml, hown, htx⟩ (gM_kid l hl9 D cT aK aV H.size n aM ad rd gd vad st y2 y3 o12 hq13) ⟨callB_of 2 htx (xw_goodC kw_6_158) rfl rfl rfl (htx _ kw_1_5) (htx _ kw_6_155) ⟨by decide, by decide, by decide +kernel⟩ ⟨Nat.le_of_ble_eq_true rfl, Nat.le_of_ble_eq_true rfl⟩, (htx _ kw_6_157), (htx _ kp_M_kid)⟩ ⟨xPre_blind, va_recv hK hP (ci := 5) rfl (q0 := 0) rfl, (fun U hU hW => ⟨rfl, xPre_of hZ hS hFc hP hD hK U hU hW⟩)⟩ rfl rfl hl.1 rfl (xm_room (by simp [xvcat, xrscat, xcI, xcL, xcR, xcN])) dM_contains_120 ⟨Nat.le_of_ble_eq_true rfl, Nat.le_of_ble_eq_true rfl⟩) hS (fun q _ h => hFc q h) hFc (fun r14 u9 t H1 locs ht hvm hr9 hB hz1 hk1 hS => ?_)
              obtain ⟨hP1, hK1, hD1⟩ := hB
              rw [ht] at hP1
              have hP : va_P D xcl (xMw cT aM ad rd gd vad st []) H1 := hP1
              have hD : va_D A (xMw cT aM ad rd gd vad st []) := hD1.weaken (fun k q _ h => hFc q.1 h)
              generalize H1 = H at hP hS ⊢
              rw [hr9]
              refine W.eq (g2 := F0 m 123 ls [xv vad o12, xv vad o9, .ref aM]) (by first | rfl | (skip; rfl)) ?_
              obtain ⟨o15, hq16, hf⟩ := xbind hf
              have hFc := xm_free hD hS hA
              refine va_calli (va_runV (C := "ValueBenchModel") (As := [xv vad o9, xv vad o12]) (rest := []) ⟨hx, hb, hml, hown, htx⟩ (hrec H.size aM ad rd gd vad st o9 o12 o15 hq16) ⟨callB_of 2 htx (xw_goodC kw_7_91) rfl rfl rfl (htx _ kw_1_5) (htx _ kw_7_88) ⟨by decide, by decide, by decide +kernel⟩ ⟨(by show (16 * d) + 1 ≤ 16 * (d + 1); omega), (by show 8 + (6 + 11) + (400 * d) ≤ 400 * (d + 1); omega)⟩, (htx _ kw_7_90), (htx _ kp_M_contains)⟩ ⟨xPre_blind, va_recv hK hP (ci := 5) rfl (q0 := 0) rfl, (fun U hU hW => ⟨rfl, xPre_of hZ hS hFc hP hD hK U hU hW⟩)⟩ rfl rfl hl.1 rfl (xm_room (Nat.le_of_ble_eq_true rfl)) dM_contains_123 ⟨Nat.le_of_ble_eq_true rfl, Nat.le_of_ble_eq_true rfl⟩) hS (fun q _ h => hFc q h) hFc (fun r17 u9 t H1 locs ht hvm hr9 hB hz1 hk1 hS => ?_)
              obtain ⟨hP1, hK1, hD1⟩ := hB
              rw [ht] at hP1
              have hP : va_P D xcl (xMw cT aM ad rd gd vad st []) H1 := hP1
              have hD : va_D A (xMw cT aM ad rd gd vad st []) := hD1.weaken (fun k q _ h => hFc q.1 h)
              generalize H1 = H at hP hS ⊢
              rw [hr9]
              refine W.eq (g2 := F0 m 126 ls [.int o15]) (by first | rfl | (skip; rfl)) ?_
              refine lv_if_eq (tgt := 133) hx hb dM_contains_126 (by decide) (fun hc => ?_) (fun hc => ?_)
              · rw [if_pos hc] at hf
                refine lv_iconst (v := 0) hx hb dM_contains_133 (by decide) ?_
                refine lv_istore (lv' := [(4, .int 0), (5, .int o6), (3, .int y3), (0, .ref aM), (1, xv vad y1), (2, xv vad y2)]) hx hb dM_contains_134 hl (by decide) rfl (fun ls hl => ?_)
                refine lv_goto (tgt := 181) hx hb dM_contains_136 (by decide) ?_
                refine lv_iload hx hb dM_contains_181 (lv_at hl 0 rfl) ?_
                refine lv_if_ne (tgt := 188) hx hb dM_contains_183 (by decide) (fun h => ((by revert h; decide : False)).elim) (fun _ => ?_)
                refine lv_iconst (v := 0) hx hb dM_contains_186 (by decide) ?_
                obtain rfl := Option.some.inj hf
                exact W.zret (v := (0 : Int32)) hx hb hr rfl (fun t ht hW => ⟨⟨(0 : Int32), (), rfl, rfl, by rw [ht]; exact hP, va_K.moved hW.alike hK, hD⟩, hS.F ht⟩) hS.2.2 dM_contains_187
              · rw [if_neg hc] at hf
                refine lv_iconst (v := 1) hx hb dM_contains_129 (by decide) ?_
                refine lv_goto (tgt := 134) hx hb dM_contains_130 (by decide) ?_
                refine lv_istore (lv' := [(4, .int 1), (5, .int o6), (3, .int y3), (0, .ref aM), (1, xv vad y1), (2, xv vad y2)]) hx hb dM_contains_134 hl (by decide) rfl (fun ls hl => ?_)
                refine lv_goto (tgt := 181) hx hb dM_contains_136 (by decide) ?_
                refine lv_iload hx hb dM_contains_181 (lv_at hl 0 rfl) ?_
                refine lv_if_ne (tgt := 188) hx hb dM_contains_183 (by decide) (fun _ => ?_) (fun h => ((by revert h; decide : False)).elim)
                refine lv_iinc (v := (y3 + 1)) (lv' := [(3, .int (y3 + 1)), (4, .int 1), (5, .int o6), (0, .ref aM), (1, xv vad y1), (2, xv vad y2)]) hx hb dM_contains_188 hl (k := 2) rfl rfl (by decide) (by simp only [List.filter, xvcat, xrscat, xcI, xcL, xcR, xcN]; rfl) (fun ls hl => ?_)
                refine lv_goto (tgt := 71) hx hb dM_contains_191 (by decide) ?_
                exact ih (2, (y3 + 1), y1, y2, o6, (1 : Int32)) _ _ ls (Or.inr (Or.inl ⟨rfl, hf, hP, hD, hS, lv_sub hl [0, 3, 4, 5] rfl⟩))
      · subst hj
        have hf : fM_contains_b rec d st (n + 1) 3 y3 y1 y2 y5 y4 = some out := hf
        rw [fM_contains_b, if_neg (by decide), if_neg (by decide)] at hf
        obtain ⟨hP, hD⟩ : xPD D xcl A (xMw cT aM ad rd gd vad st []) H := ⟨hP, hD⟩
        have hl : lv_has ls 6 [(5, .int y5), (4, .int y4), (3, .int y3), (0, .ref aM), (1, xv vad y1), (2, xv vad y2)] := hl
        refine W.eq (g2 := F0 m 142 ls []) rfl ?_
        refine lv_iload hx hb dM_contains_142 (lv_at hl 0 rfl) ?_
        refine xm_aload_n hx hb (xvor _ _) dM_contains_144 rfl (lv_at hl 4 rfl) ?_
        obtain ⟨hg1, hf⟩ := xifn hf
        refine xm_vget (v := .int ((xpi st 3) (y1 - 1))) hx hb htx hown hK hP 3 (by decide) hg1 rfl ((hZ.1 (103, "count", "I") (List.mem_of_getElem? (i := 3) rfl)).use rfl) rfl dM_contains_145 ?_
        refine lv_icmp_ge (tgt := 181) hx hb dM_contains_148 (by decide) (fun hc => ?_) (fun hc => ?_)
        · rw [if_pos hc] at hf
          refine lv_iload hx hb dM_contains_181 (lv_at hl 1 rfl) ?_
          refine lv_if_ne (tgt := 188) hx hb dM_contains_183 (by decide) (fun hc => ?_) (fun hc => ?_)
          · rw [if_neg hc] at hf
            refine lv_iinc (v := (y3 + 1)) (lv' := [(3, .int (y3 + 1)), (5, .int y5), (4, .int y4), (0, .ref aM), (1, xv vad y1), (2, xv vad y2)]) hx hb dM_contains_188 hl (k := 2) rfl rfl (by decide) (by simp only [List.filter, xvcat, xrscat, xcI, xcL, xcR, xcN]; rfl) (fun ls hl => ?_)
            refine lv_goto (tgt := 71) hx hb dM_contains_191 (by decide) ?_
            exact ih (2, (y3 + 1), y1, y2, y5, y4) _ _ ls (Or.inr (Or.inl ⟨rfl, hf, hP, hD, hS, lv_sub hl [0, 3, 4, 5] rfl⟩))
          · rw [if_pos hc] at hf
            refine lv_iconst (v := 0) hx hb dM_contains_186 (by decide) ?_
            obtain rfl := Option.some.inj hf
            exact W.zret (v := (0 : Int32)) hx hb hr rfl (fun t ht hW => ⟨⟨(0 : Int32), (), rfl, rfl, by rw [ht]; exact hP, va_K.moved hW.alike hK, hD⟩, hS.F ht⟩) hS.2.2 dM_contains_187
        · rw [if_neg hc] at hf
          refine lv_iload hx hb dM_contains_151 (lv_at hl 1 rfl) ?_
          refine lv_if_ne (tgt := 181) hx hb dM_contains_153 (by decide) (fun hc => ?_) (fun hc => ?_)
          · rw [if_neg hc] at hf
            refine lv_iload hx hb dM_contains_181 (lv_at hl 1 rfl) ?_
            refine lv_if_ne (tgt := 188) hx hb dM_contains_183 (by decide) (fun hc => ?_) (fun hc => ?_)
            · rw [if_neg hc] at hf
              refine lv_iinc (v := (y3 + 1)) (lv' := [(3, .int (y3 + 1)), (5, .int y5), (4, .int y4), (0, .ref aM), (1, xv vad y1), (2, xv vad y2)]) hx hb dM_contains_188 hl (k := 2) rfl rfl (by decide) (by simp only [List.filter, xvcat, xrscat, xcI, xcL, xcR, xcN]; rfl) (fun ls hl => ?_)
              refine lv_goto (tgt := 71) hx hb dM_contains_191 (by decide) ?_
              exact ih (2, (y3 + 1), y1, y2, y5, y4) _ _ ls (Or.inr (Or.inl ⟨rfl, hf, hP, hD, hS, lv_sub hl [0, 3, 4, 5] rfl⟩))
            · rw [if_pos hc] at hf
              refine lv_iconst (v := 0) hx hb dM_contains_186 (by decide) ?_
              obtain rfl := Option.some.inj hf
              exact W.zret (v := (0 : Int32)) hx hb hr rfl (fun t ht hW => ⟨⟨(0 : Int32), (), rfl, rfl, by rw [ht]; exact hP, va_K.moved hW.alike hK, hD⟩, hS.F ht⟩) hS.2.2 dM_contains_187
          · rw [if_pos hc] at hf
            refine lv_aload_n hx hb dM_contains_156 rfl (lv_at hl 3 rfl) ?_
            refine lv_aload_n hx hb dM_contains_157 rfl (lv_at hl 3 rfl) ?_
            refine xm_aload_n hx hb (xvor _ _) dM_contains_158 rfl (lv_at hl 4 rfl) ?_
            refine lv_iload hx hb dM_contains_159 (lv_at hl 0 rfl) ?_
            obtain ⟨o2, hq3, hf⟩ := xbind hf
            have hFc := xm_free hD hS hA
            refine va_callq (va_runV (C := "ValueBenchModel") (As := [xv vad y1, .int y5]) (rest := [.ref aM]) ⟨hx, hb, hml, hown, htx⟩ (gM_kid l hl9 D cT aK aV H.size n aM ad rd gd vad st y1 y5 o2 hq3) ⟨callB_of 2 htx (xw_goodC kw_6_158) rfl rfl rfl (htx _ kw_1_5) (htx _ kw_6_155) ⟨by decide, by decide, by decide +kernel⟩ ⟨Nat.le_of_ble_eq_true rfl, Nat.le_of_ble_eq_true rfl⟩, (htx _ kw_6_157), (htx _ kp_M_kid)⟩ ⟨xPre_blind, va_recv hK hP (ci := 5) rfl (q0 := 0) rfl, (fun U hU hW => ⟨rfl, xPre_of hZ hS hFc hP hD hK U hU hW⟩)⟩ rfl rfl hl.1 rfl (xm_room (Nat.le_of_ble_eq_true rfl)) dM_contains_161 ⟨Nat.le_of_ble_eq_true rfl, Nat.le_of_ble_eq_true rfl⟩) hS (fun q _ h => hFc q h) hFc (fun r4 u9 t H1 locs ht hvm hr9 hB hz1 hk1 hS => ?_)
            obtain ⟨hP1, hK1, hD1⟩ := hB
            rw [ht] at hP1
            have hP : va_P D xcl (xMw cT aM ad rd gd vad st []) H1 := hP1
            have hD : va_D A (xMw cT aM ad rd gd vad st []) := hD1.weaken (fun k q _ h => hFc q.1 h)
            generalize H1 = H at hP hS ⊢
            rw [hr9]
            refine W.eq (g2 := F0 m 164 ls [xv vad o2, .ref aM]) (by first | rfl | (skip; rfl)) ?_
            refine lv_aload_n hx hb dM_contains_164 rfl (lv_at hl 3 rfl) ?_
            refine xm_aload_n hx hb (xvor _ _) dM_contains_165 rfl (lv_at hl 5 rfl) ?_
            refine lv_iload_n hx hb dM_contains_166 rfl (lv_at hl 2 rfl) ?_
            obtain ⟨o5, hq6, hf⟩ := xbind hf
            have hFc := xm_free hD hS hA
            refine va_callq (va_runV (C := "ValueBenchModel") (As := [xv vad y2, .int y3]) (rest := [xv vad o2, .ref aM]) ⟨hx, hb, hml, hown, htx⟩ (gM_kid l hl9 D cT aK aV H.size n aM ad rd gd vad st y2 y3 o5 hq6) ⟨callB_of 2 htx (xw_goodC kw_6_158) rfl rfl rfl (htx _ kw_1_5) (htx _ kw_6_155) ⟨by decide, by decide, by decide +kernel⟩ ⟨Nat.le_of_ble_eq_true rfl, Nat.le_of_ble_eq_true rfl⟩, (htx _ kw_6_157), (htx _ kp_M_kid)⟩ ⟨xPre_blind, va_recv hK hP (ci := 5) rfl (q0 := 0) rfl, (fun U hU hW => ⟨rfl, xPre_of hZ hS hFc hP hD hK U hU hW⟩)⟩ rfl rfl hl.1 rfl (xm_room (by simp [xvcat, xrscat, xcI, xcL, xcR, xcN])) dM_contains_167 ⟨Nat.le_of_ble_eq_true rfl, Nat.le_of_ble_eq_true rfl⟩) hS (fun q _ h => hFc q h) hFc (fun r7 u9 t H1 locs ht hvm hr9 hB hz1 hk1 hS => ?_)
            obtain ⟨hP1, hK1, hD1⟩ := hB
            rw [ht] at hP1
            have hP : va_P D xcl (xMw cT aM ad rd gd vad st []) H1 := hP1
            have hD : va_D A (xMw cT aM ad rd gd vad st []) := hD1.weaken (fun k q _ h => hFc q.1 h)
            generalize H1 = H at hP hS ⊢
            rw [hr9]
            refine W.eq (g2 := F0 m 170 ls [xv vad o5, xv vad o2, .ref aM]) (by first | rfl | (skip; rfl)) ?_
            obtain ⟨o8, hq9, hf⟩ := xbind hf
            have hFc := xm_free hD hS hA
            refine va_calli (va_runV (C := "ValueBenchModel") (As := [xv vad o2, xv vad o5]) (rest := []) ⟨hx, hb, hml, hown, htx⟩ (hrec H.size aM ad rd gd vad st o2 o5 o8 hq9) ⟨callB_of 2 htx (xw_goodC kw_7_91) rfl rfl rfl (htx _ kw_1_5) (htx _ kw_7_88) ⟨by decide, by decide, by decide +kernel⟩ ⟨(by show (16 * d) + 1 ≤ 16 * (d + 1); omega), (by show 8 + (6 + 11) + (400 * d) ≤ 400 * (d + 1); omega)⟩, (htx _ kw_7_90), (htx _ kp_M_contains)⟩ ⟨xPre_blind, va_recv hK hP (ci := 5) rfl (q0 := 0) rfl, (fun U hU hW => ⟨rfl, xPre_of hZ hS hFc hP hD hK U hU hW⟩)⟩ rfl rfl hl.1 rfl (xm_room (Nat.le_of_ble_eq_true rfl)) dM_contains_170 ⟨Nat.le_of_ble_eq_true rfl, Nat.le_of_ble_eq_true rfl⟩) hS (fun q _ h => hFc q h) hFc (fun r10 u9 t H1 locs ht hvm hr9 hB hz1 hk1 hS => ?_)
            obtain ⟨hP1, hK1, hD1⟩ := hB
            rw [ht] at hP1
            have hP : va_P D xcl (xMw cT aM ad rd gd vad st []) H1 := hP1
            have hD : va_D A (xMw cT aM ad rd gd vad st []) := hD1.weaken (fun k q _ h => hFc q.1 h)
            generalize H1 = H at hP hS ⊢
            rw [hr9]
            refine W.eq (g2 := F0 m 173 ls [.int o8]) (by first | rfl | (skip; rfl)) ?_
            refine lv_istore (lv' := [(4, .int o8), (5, .int y5), (3, .int y3), (0, .ref aM), (1, xv vad y1), (2, xv vad y2)]) hx hb dM_contains_173 hl (by decide) rfl (fun ls hl => ?_)
            refine lv_iinc (v := (y5 + 1)) (lv' := [(5, .int (y5 + 1)), (4, .int o8), (3, .int y3), (0, .ref aM), (1, xv vad y1), (2, xv vad y2)]) hx hb dM_contains_175 hl (k := 1) rfl rfl (by decide) rfl (fun ls hl => ?_)
            refine lv_goto (tgt := 142) hx hb dM_contains_178 (by decide) ?_
            exact ih (3, y3, y1, y2, (y5 + 1), o8) _ _ ls (Or.inr (Or.inr (⟨rfl, hf, hP, hD, hS, lv_sub hl [0, 1, 2, 3, 4, 5] rfl⟩)))
    refine lv_aload_n hx hb dM_contains_0 rfl (lv_at hl 0 rfl) ?_
    refine xm_aload_n hx hb (xvor _ _) dM_contains_1 rfl (lv_at hl 1 rfl) ?_
    refine xm_aload_n hx hb (xvor _ _) dM_contains_2 rfl (lv_at hl 2 rfl) ?_
    obtain ⟨o1, hq2, hf⟩ := xbind hf
    have hFc := xm_free hD hS hA
    refine va_calli (va_runV (C := "ValueBenchModel") (As := [xv vad c0, xv vad c1]) (rest := []) ⟨hx, hb, hml, hown, htx⟩ (gM_alike l hl9 D cT aK aV s.heap.size n aM ad rd gd vad st c0 c1 o1 hq2) ⟨callB_of 2 htx (xw_goodC kw_7_87) rfl rfl rfl (htx _ kw_1_5) (htx _ kw_7_84) ⟨by decide, by decide, by decide +kernel⟩ ⟨Nat.le_of_ble_eq_true rfl, Nat.le_of_ble_eq_true rfl⟩, (htx _ kw_7_86), (htx _ kp_M_alike)⟩ ⟨xPre_blind, va_recv hK hP (ci := 5) rfl (q0 := 0) rfl, (fun U hU hW => ⟨rfl, xPre_of hZ hS hFc hP hD hK U hU hW⟩)⟩ rfl rfl hl.1 rfl (xm_room (Nat.le_of_ble_eq_true rfl)) dM_contains_3 ⟨Nat.le_of_ble_eq_true rfl, Nat.le_of_ble_eq_true rfl⟩) hS (fun q _ h => hFc q h) hFc (fun r3 u9 t H1 locs ht hvm hr9 hB hz1 hk1 hS => ?_)
    obtain ⟨hP1, hK1, hD1⟩ := hB
    rw [ht] at hP1
    have hP : va_P D xcl (xMw cT aM ad rd gd vad st []) H1 := hP1
    have hD : va_D A (xMw cT aM ad rd gd vad st []) := hD1.weaken (fun k q _ h => hFc q.1 h)
    generalize H1 = H at hP hS ⊢
    rw [hr9]
    refine W.eq (g2 := F0 m 6 ls [.int o1]) (by first | rfl | (skip; rfl)) ?_
    refine lv_if_ne (tgt := 11) hx hb dM_contains_6 (by decide) (fun hc => ?_) (fun hc => ?_)
    · rw [if_neg hc] at hf
      refine xm_aload_n hx hb (xvor _ _) dM_contains_11 rfl (lv_at hl 1 rfl) ?_
      obtain ⟨hg4, hf⟩ := xifn hf
      refine xm_vget (v := .int ((xpi st 0) (c0 - 1))) hx hb htx hown hK hP 0 (by decide) hg4 rfl ((hZ.1 (93, "kind", "I") (List.mem_of_getElem? (i := 0) rfl)).use rfl) rfl dM_contains_12 ?_
      refine lv_iconst (v := 4) hx hb dM_contains_15 (by decide) ?_
      refine lv_icmp_ne (tgt := 54) hx hb dM_contains_16 (by decide) (fun hc => ?_) (fun hc => ?_)
      · rw [if_neg hc] at hf
        refine xm_aload_n hx hb (xvor _ _) dM_contains_54 rfl (lv_at hl 1 rfl) ?_
        refine xm_vget (v := .int ((xpi st 0) (c0 - 1))) hx hb htx hown hK hP 0 (by decide) hg4 rfl ((hZ.1 (93, "kind", "I") (List.mem_of_getElem? (i := 0) rfl)).use rfl) rfl dM_contains_55 ?_
        refine lv_iconst (v := 5) hx hb dM_contains_58 (by decide) ?_
        refine lv_icmp_ge (tgt := 69) hx hb dM_contains_59 (by decide) (fun hc => ?_) (fun hc => ?_)
        · rw [if_pos hc] at hf
          refine lv_iconst (v := 0) hx hb dM_contains_69 (by decide) ?_
          refine lv_istore_n (lv' := [(3, .int 0), (0, .ref aM), (1, xv vad c0), (2, xv vad c1)]) hx hb dM_contains_70 rfl hl (by decide) (by simp only [List.filter, xvcat, xrscat, xcI, xcL, xcR, xcN]; rfl) (fun ls hl => ?_)
          exact key n (2, (0 : Int32), c0, c1, 0, 0) _ _ ls (Or.inr (Or.inl ⟨rfl, hf, hP, hD, hS, lv_sub hl [0, 1, 2, 3] rfl⟩))
        · rw [if_neg hc] at hf
          refine lv_aload_n hx hb dM_contains_62 rfl (lv_at hl 0 rfl) ?_
          refine xm_aload_n hx hb (xvor _ _) dM_contains_63 rfl (lv_at hl 1 rfl) ?_
          refine xm_aload_n hx hb (xvor _ _) dM_contains_64 rfl (lv_at hl 2 rfl) ?_
          obtain ⟨o5, hq6, hf⟩ := xbind hf
          have hl := lv_sub (l' := [(0, .ref aM)]) hl [0] rfl
          have hFc := xm_free hD hS hA
          refine va_calli (va_runV (C := "ValueBenchModel") (As := [xv vad c0, xv vad c1]) (rest := []) ⟨hx, hb, hml, hown, htx⟩ (gM_same1 l hl9 D cT aK aV d H.size n aM ad rd gd vad st c0 c1 o5 hq6) ⟨callB_of 2 htx (xw_goodC kw_6_174) rfl rfl rfl (htx _ kw_1_5) (htx _ kw_6_171) ⟨by decide, by decide, by decide +kernel⟩ ⟨(by show (16 * d) + 1 ≤ 16 * (d + 1); omega), (by show 8 + (5 + 11) + (400 * d) ≤ 400 * (d + 1); omega)⟩, (htx _ kw_6_173), (htx _ kp_M_same1)⟩ ⟨xPre_blind, va_recv hK hP (ci := 5) rfl (q0 := 0) rfl, (fun U hU hW => ⟨rfl, xPre_of hZ hS hFc hP hD hK U hU hW⟩)⟩ rfl rfl hl.1 rfl (xm_room (Nat.le_of_ble_eq_true rfl)) dM_contains_65 ⟨Nat.le_of_ble_eq_true rfl, Nat.le_of_ble_eq_true rfl⟩) hS (fun q _ h => hFc q h) hFc (fun r7 u9 t H1 locs ht hvm hr9 hB hz1 hk1 hS => ?_)
          obtain ⟨hP1, hK1, hD1⟩ := hB
          rw [ht] at hP1
          have hP : va_P D xcl (xMw cT aM ad rd gd vad st []) H1 := hP1
          have hD : va_D A (xMw cT aM ad rd gd vad st []) := hD1.weaken (fun k q _ h => hFc q.1 h)
          generalize H1 = H at hP hS ⊢
          rw [hr9]
          refine W.eq (g2 := F0 m 68 ls [.int o5]) (by first | rfl | (skip; rfl)) ?_
          obtain ⟨hg8, hf⟩ := xifn hf
          obtain rfl := Option.some.inj hf
          exact W.zret (v := o5) hx hb hr (xzb hg8) (fun t ht hW => ⟨⟨o5, (), rfl, rfl, by rw [ht]; exact hP, va_K.moved hW.alike hK, hD⟩, hS.F ht⟩) hS.2.2 dM_contains_68
      · rw [if_pos hc] at hf
        refine lv_iconst (v := 0) hx hb dM_contains_19 (by decide) ?_
        refine lv_istore_n (lv' := [(3, .int 0), (0, .ref aM), (1, xv vad c0), (2, xv vad c1)]) hx hb dM_contains_20 rfl hl (by decide) (by simp only [List.filter, xvcat, xrscat, xcI, xcL, xcR, xcN]; rfl) (fun ls hl => ?_)
        exact key n (1, (0 : Int32), c0, c1, 0, 0) _ _ ls (Or.inl ⟨rfl, hf, hP, hD, hS, lv_sub hl [0, 1, 2, 3] rfl⟩)
    · rw [if_pos hc] at hf
      refine lv_iconst (v := 0) hx hb dM_contains_9 (by decide) ?_
      obtain rfl := Option.some.inj hf
      exact W.zret (v := (0 : Int32)) hx hb hr rfl (fun t ht hW => ⟨⟨(0 : Int32), (), rfl, rfl, by rw [ht]; exact hP, va_K.moved hW.alike hK, hD⟩, hS.F ht⟩) hS.2.2 dM_contains_10
set_option maxHeartbeats 400000000 in
set_option maxRecDepth 100000 in
theorem gM_text (l : Launch) (hl9 : l.stackTraces = false) (D : va_G) (cT : Nat → ClassId) (aK aV : Nat → Nat) (sz n : Nat) (aM : Nat) (ad rd gd vad : Nat → Nat) (st : xS) (c0 : Nat) (out : Nat × Nat × Nat × Nat × xS) (hf : fM_text n st c0 = some out) (hkd : out.1 = 0) : xMet l yM_text wyM_text 7 out.2.1 out.2.2.1 121 D cT aK aV sz [.ref aM, xv vad c0] (xMw cT aM ad rd gd vad st []) (fun A => va_Qq (fun (r : Option Nat) (u : xU) => r = xca u.2.2 out.2.2.2.1 ∧ xE vad st out.2.2.2.2 u) (fun u t => xB D xcl cT A (xMw cT aM u.1 rd u.2.1 u.2.2 out.2.2.2.2 []) t) A) := by
  refine Met.ofW (cc := prog_13_method_56_code) (maxL := 2) (ret := (some (.object "ValueBenchModel$V"))) (by decide) rfl ?_
  intro p e s m args below meth c s₁ B hml hv
  obtain ⟨rfl, hsz, hZ, hP, hK, hD0⟩ := hv
  have hx := B.exec
  have hb := B.bytes
  have hr := B.returns
  have hts := atoms_spec (ws := wyM_text) B.pre
  have htx := fun w h => hts w (List.mem_cons_of_mem _ h)
  have hown : s.vm.findClass "ValueBenchModel" = some m.cls := findClass_of_methodNamed B.named
  have hlocks := B.notSynchronized
  subst hsz
  have hD := hD0.self (sz := s.heap.size)
  generalize hAe : va_A (xMw cT aM ad rd gd vad st []) s.heap.size = A at hD hZ ⊢
  have hA : ∀ q : Nat, s.heap.size ≤ q → A q := fun q h => by rw [← hAe]; exact Or.inr h
  have hS : va_S A s.heap s.heap [] := va_S.rf
  have hl := lv_entry ([.ref aM, xv vad c0]) (n := 2) (by simp [lg_sl, xvcat, xrscat, xcI, xcL, xcR, xcN])
  rw [show lv_args 0 [.ref aM, xv vad c0] = [(0, .ref aM), (1, xv vad c0)] from by simp [lv_args, xvcat, xrscat, xcI, xcL, xcR, xcN]] at hl
  rw [lg_entry_eq]
  generalize (lg_sl ([.ref aM, xv vad c0]) ++ List.replicate (2 - (lg_sl ([.ref aM, xv vad c0])).length) Slot.unset).toArray = ls at hl ⊢
  have hl : lv_has ls 2 [(0, .ref aM), (1, xv vad c0)] := hl
  have hE : ∀ p, p < xct st → vad p = vad p := fun _ _ => rfl
  have hN : xct st ≤ xct st := Nat.le_refl _
  unfold fM_text at hf
  refine xm_aload_n hx hb (xvor _ _) dM_text_0 rfl (lv_at hl 1 rfl) ?_
  obtain ⟨hg1, hf⟩ := xifn hf
  refine xm_vget (v := .int ((xpi st 0) (c0 - 1))) hx hb htx hown hK hP 0 (by decide) hg1 rfl ((hZ.1 (93, "kind", "I") (List.mem_of_getElem? (i := 0) rfl)).use rfl) rfl dM_text_1 ?_
  refine lv_iconst (v := 4) hx hb dM_text_4 (by decide) ?_
  refine lv_icmp_ne (tgt := 12) hx hb dM_text_5 (by decide) (fun hc => ?_) (fun hc => ?_)
  · rw [if_neg hc] at hf
    refine lv_aload_n hx hb dM_text_12 rfl (lv_at hl 0 rfl) ?_
    refine lv_iconst (v := 1) hx hb dM_text_13 (by decide) ?_
    obtain ⟨o2, hq3, hf⟩ := xbind hf
    have hl := lv_sub (l' := [(0, .ref aM)]) hl [0] rfl
    by_cases hk4 : o2.1 = 1
    · rw [if_pos hk4] at hf
      obtain ⟨hm5, hf⟩ := xmoE hf
      obtain rfl := Option.some.inj hf
      exact absurd (show (1 : Nat) = 0 from hkd) (by decide)
    rw [if_neg hk4] at hf
    exact nomatch hf
  · rw [if_pos hc] at hf
    refine xm_aload_n hx hb (xvor _ _) dM_text_8 rfl (lv_at hl 1 rfl) ?_
    refine lv_goto (tgt := 17) hx hb dM_text_9 (by decide) ?_
    obtain rfl := Option.some.inj hf
    exact W.aret (v := xv vad c0) hx hb hr (Or.inl ⟨_, rfl⟩) (xvor _ _) (fun t ht hW => ⟨⟨xca vad c0, (ad, gd, vad), rfl, ⟨rfl, hE, hN⟩, by rw [ht]; exact hP, va_K.moved hW.alike hK, hD⟩, hS.F ht⟩) hS.2.2 dM_text_17
set_option maxHeartbeats 400000000 in
set_option maxRecDepth 100000 in
theorem gM_text_1 (l : Launch) (hl9 : l.stackTraces = false) (D : va_G) (cT : Nat → ClassId) (aK aV : Nat → Nat) (sz n : Nat) (aM : Nat) (ad rd gd vad : Nat → Nat) (st : xS) (c0 : Nat) (out : Nat × Nat × Nat × Nat × xS) (hf : fM_text n st c0 = some out) (hkd : out.1 = 1) : xMetY l yM_text wyM_text 7 out.2.1 out.2.2.1 121 D cT aK aV sz [.ref aM, xv vad c0] (xMw cT aM ad rd gd vad st []) "java/lang/ArithmeticException" (fun u => xE vad st out.2.2.2.2 u) (fun A u t => xB D xcl cT A (xMw cT aM u.1 rd u.2.1 u.2.2 out.2.2.2.2 []) t) := by
  refine vx_ofW (cc := prog_13_method_56_code) (maxL := 2) (ret := (some (.object "ValueBenchModel$V"))) (by decide) rfl ?_
  intro p e s m args below meth c s₁ B hml hne hv
  obtain ⟨rfl, hsz, hZ, hP, hK, hD0⟩ := hv
  have hx := B.exec
  have hb := B.bytes
  have hr := B.returns
  have hts := atoms_spec (ws := wyM_text) B.pre
  have htx := fun w h => hts w (List.mem_cons_of_mem _ h)
  have hown : s.vm.findClass "ValueBenchModel" = some m.cls := findClass_of_methodNamed B.named
  have hlocks := B.notSynchronized
  subst hsz
  have hD := hD0.self (sz := s.heap.size)
  generalize hAe : va_A (xMw cT aM ad rd gd vad st []) s.heap.size = A at hD hZ ⊢
  have hA : ∀ q : Nat, s.heap.size ≤ q → A q := fun q h => by rw [← hAe]; exact Or.inr h
  have hS : va_S A s.heap s.heap [] := va_S.rf
  have hl := lv_entry ([.ref aM, xv vad c0]) (n := 2) (by simp [lg_sl, xvcat, xrscat, xcI, xcL, xcR, xcN])
  rw [show lv_args 0 [.ref aM, xv vad c0] = [(0, .ref aM), (1, xv vad c0)] from by simp [lv_args, xvcat, xrscat, xcI, xcL, xcR, xcN]] at hl
  rw [lg_entry_eq]
  generalize (lg_sl ([.ref aM, xv vad c0]) ++ List.replicate (2 - (lg_sl ([.ref aM, xv vad c0])).length) Slot.unset).toArray = ls at hl ⊢
  have hl : lv_has ls 2 [(0, .ref aM), (1, xv vad c0)] := hl
  have hE : ∀ p, p < xct st → vad p = vad p := fun _ _ => rfl
  have hN : xct st ≤ xct st := Nat.le_refl _
  unfold fM_text at hf
  refine xm_aload_n hx hb (xvor _ _) dM_text_0 rfl (lv_at hl 1 rfl) ?_
  obtain ⟨hg1, hf⟩ := xifn hf
  refine xm_vget (v := .int ((xpi st 0) (c0 - 1))) hx hb htx hown hK hP 0 (by decide) hg1 rfl ((hZ.1 (93, "kind", "I") (List.mem_of_getElem? (i := 0) rfl)).use rfl) rfl dM_text_1 ?_
  refine lv_iconst (v := 4) hx hb dM_text_4 (by decide) ?_
  refine lv_icmp_ne (tgt := 12) hx hb dM_text_5 (by decide) (fun hc => ?_) (fun hc => ?_)
  · rw [if_neg hc] at hf
    refine lv_aload_n hx hb dM_text_12 rfl (lv_at hl 0 rfl) ?_
    refine lv_iconst (v := 1) hx hb dM_text_13 (by decide) ?_
    obtain ⟨o2, hq3, hf⟩ := xbind hf
    have hl := lv_sub (l' := [(0, .ref aM)]) hl [0] rfl
    by_cases hk4 : o2.1 = 1
    · rw [if_pos hk4] at hf
      obtain ⟨hm5, hf⟩ := xmoE hf
      have hFc := xm_free hD hS hA
      refine xx_thr (vx_runV (C := "ValueBenchModel") (As := [.int 1]) (rest := []) ⟨hx, hb, hml, hown, htx⟩ (gM_refuse_1 l hl9 D cT aK aV s.heap.size n aM ad rd gd vad st (1 : Int32) o2 hq3 hk4) ⟨callB_of 1 htx (xw_goodC kw_6_93) rfl rfl rfl (htx _ kw_1_5) (htx _ kw_6_90) ⟨by decide, by decide, by decide +kernel⟩ ⟨Nat.le_of_ble_eq_true rfl, Nat.le_of_ble_eq_true rfl⟩, (htx _ kw_6_92), (htx _ kp_M_refuse)⟩ ⟨xPre_blind, va_recv hK hP (ci := 5) rfl (q0 := 0) rfl, (fun U hU hW => ⟨rfl, xPre_of hZ hS hFc hP hD hK U hU hW⟩)⟩ rfl rfl hl.1 rfl (xm_room (Nat.le_of_ble_eq_true rfl)) dM_text_14 ⟨hm5.1, hm5.2⟩) hS hFc (fun q _ h => hFc q h) (fun E ce q9 u9 t H1 locs ht hvm hr9 hB hz1 hk1 hS hce hcv hcl => ?_)
      obtain ⟨rfl, hP1, hK1, hD1⟩ := hB
      rw [ht] at hP1
      obtain ⟨ad7, gd8, vad9⟩ := u9
      obtain ⟨hv10, hn11⟩ := hr9
      have hP : va_P D xcl (xMw cT aM ad7 rd gd8 vad9 o2.2.2.2.2 []) H1 := hP1
      have hD : va_D A (xMw cT aM ad7 rd gd8 vad9 o2.2.2.2.2 []) := hD1.weaken (fun k q _ h => hFc q.1 h)
      generalize H1 = H at hP hS hce ⊢
      have hE9 : ∀ p, p < xct st → vad9 p = vad p := fun p h => (hv10 p (Nat.lt_of_lt_of_le h hN)).trans (hE p h)
      have hE := hE9
      have hN : xct st ≤ xct o2.2.2.2.2 := Nat.le_trans hN hn11
      obtain rfl := Option.some.inj hf
      exact vx_out (E := "java/lang/ArithmeticException") (fun x h => (hne x h).elim) hlocks hce hcv hcl (fun t ht ha => ⟨(ad7, gd8, vad9), ⟨hE, hN⟩, ⟨rfl, by rw [ht]; exact hP, va_K.moved ha hK, hD⟩, hS.F ht⟩) hS.2.2 (Nat.le_refl _) (Nat.le_refl _)
    rw [if_neg hk4] at hf
    exact nomatch hf
  · rw [if_pos hc] at hf
    refine xm_aload_n hx hb (xvor _ _) dM_text_8 rfl (lv_at hl 1 rfl) ?_
    refine lv_goto (tgt := 17) hx hb dM_text_9 (by decide) ?_
    obtain rfl := Option.some.inj hf
    exact absurd (show (0 : Nat) = 1 from hkd) (by decide)
set_option maxHeartbeats 400000000 in
set_option maxRecDepth 100000 in
theorem gM_joined (l : Launch) (hl9 : l.stackTraces = false) (D : va_G) (cT : Nat → ClassId) (aK aV : Nat → Nat) (sz d n : Nat) (aM : Nat) (ad rd gd vad : Nat → Nat) (st : xS) (c0 : Nat) (c1 : Nat) (out : Nat × Nat × Nat × Nat × xS) (hf : fM_joined d n st c0 c1 = some out) (hkd : out.1 = 0) : xMet l yM_joined wyM_joined (16 * d + 8) out.2.1 out.2.2.1 (400 * d + 142) D cT aK aV sz [.ref aM, xv vad c0, xv vad c1] (xMw cT aM ad rd gd vad st []) (fun A => va_Qq (fun (r : Option Nat) (u : xU) => r = xca u.2.2 out.2.2.2.1 ∧ xE vad st out.2.2.2.2 u) (fun u t => xB D xcl cT A (xMw cT aM u.1 rd u.2.1 u.2.2 out.2.2.2.2 []) t) A) := by
  refine Met.ofW (cc := prog_13_method_71_code) (maxL := 8) (ret := (some (.object "ValueBenchModel$V"))) (by decide) rfl ?_
  intro p e s m args below meth c s₁ B hml hv
  obtain ⟨rfl, hsz, hZ, hP, hK, hD0⟩ := hv
  have hx := B.exec
  have hb := B.bytes
  have hr := B.returns
  have hts := atoms_spec (ws := wyM_joined) B.pre
  have htx := fun w h => hts w (List.mem_cons_of_mem _ h)
  have hown : s.vm.findClass "ValueBenchModel" = some m.cls := findClass_of_methodNamed B.named
  have hlocks := B.notSynchronized
  subst hsz
  have hD := hD0.self (sz := s.heap.size)
  generalize hAe : va_A (xMw cT aM ad rd gd vad st []) s.heap.size = A at hD hZ ⊢
  have hA : ∀ q : Nat, s.heap.size ≤ q → A q := fun q h => by rw [← hAe]; exact Or.inr h
  have hS : va_S A s.heap s.heap [] := va_S.rf
  have hl := lv_entry ([.ref aM, xv vad c0, xv vad c1]) (n := 8) (by simp [lg_sl, xvcat, xrscat, xcI, xcL, xcR, xcN])
  rw [show lv_args 0 [.ref aM, xv vad c0, xv vad c1] = [(0, .ref aM), (1, xv vad c0), (2, xv vad c1)] from by simp [lv_args, xvcat, xrscat, xcI, xcL, xcR, xcN]] at hl
  rw [lg_entry_eq]
  generalize (lg_sl ([.ref aM, xv vad c0, xv vad c1]) ++ List.replicate (8 - (lg_sl ([.ref aM, xv vad c0, xv vad c1])).length) Slot.unset).toArray = ls at hl ⊢
  have hl : lv_has ls 8 [(0, .ref aM), (1, xv vad c0), (2, xv vad c1)] := hl
  have hE : ∀ p, p < xct st → vad p = vad p := fun _ _ => rfl
  have hN : xct st ≤ xct st := Nat.le_refl _
  unfold fM_joined at hf
  refine xloopM (σ := Nat × Int32 × Nat × Nat × Int32 × Int32 × Int32 × Nat × xS × Nat × Nat) (fun n x H locs ls => (∃ (adL gdL vadL : Nat → Nat), x.1 = 1 ∧ fM_joined_b d n x.1 x.2.1 x.2.2.1 x.2.2.2.1 x.2.2.2.2.1 x.2.2.2.2.2.1 x.2.2.2.2.2.2.1 x.2.2.2.2.2.2.2.1 x.2.2.2.2.2.2.2.2.1 x.2.2.2.2.2.2.2.2.2.1 x.2.2.2.2.2.2.2.2.2.2 = some out ∧ va_P D xcl (xMw cT aM adL rd gdL vadL x.2.2.2.2.2.2.2.2.1 []) H ∧ va_D A (xMw cT aM adL rd gdL vadL x.2.2.2.2.2.2.2.2.1 []) ∧ va_S A s.heap H locs ∧ lv_has ls 8 [(3, .int x.2.1), (0, .ref aM), (1, xv vadL x.2.2.1), (2, xv vadL x.2.2.2.1)] ∧ (∀ p, p < xct st → vadL p = vad p) ∧ xct st ≤ xct x.2.2.2.2.2.2.2.2.1) ∨ (∃ (adL gdL vadL : Nat → Nat), x.1 = 2 ∧ fM_joined_b d n x.1 x.2.1 x.2.2.1 x.2.2.2.1 x.2.2.2.2.1 x.2.2.2.2.2.1 x.2.2.2.2.2.2.1 x.2.2.2.2.2.2.2.1 x.2.2.2.2.2.2.2.2.1 x.2.2.2.2.2.2.2.2.2.1 x.2.2.2.2.2.2.2.2.2.2 = some out ∧ va_P D xcl (xMw cT aM adL rd gdL vadL x.2.2.2.2.2.2.2.2.1 []) H ∧ va_D A (xMw cT aM adL rd gdL vadL x.2.2.2.2.2.2.2.2.1 []) ∧ va_S A s.heap H locs ∧ lv_has ls 8 [(4, .int x.2.2.2.2.1), (3, .int x.2.1), (0, .ref aM), (1, xv vadL x.2.2.1), (2, xv vadL x.2.2.2.1)] ∧ (∀ p, p < xct st → vadL p = vad p) ∧ xct st ≤ xct x.2.2.2.2.2.2.2.2.1) ∨ (∃ (adL gdL vadL : Nat → Nat), x.1 = 3 ∧ fM_joined_b d n x.1 x.2.1 x.2.2.1 x.2.2.2.1 x.2.2.2.2.1 x.2.2.2.2.2.1 x.2.2.2.2.2.2.1 x.2.2.2.2.2.2.2.1 x.2.2.2.2.2.2.2.2.1 x.2.2.2.2.2.2.2.2.2.1 x.2.2.2.2.2.2.2.2.2.2 = some out ∧ va_P D xcl (xMw cT aM adL rd gdL vadL x.2.2.2.2.2.2.2.2.1 []) H ∧ va_D A (xMw cT aM adL rd gdL vadL x.2.2.2.2.2.2.2.2.1 []) ∧ va_S A s.heap H locs ∧ lv_has ls 8 [(7, .int x.2.2.2.2.2.1), (6, .int x.2.2.2.2.2.2.1), (5, xv vadL x.2.2.2.2.2.2.2.1), (4, .int x.2.2.2.2.1), (3, .int x.2.1), (0, .ref aM), (1, xv vadL x.2.2.1), (2, xv vadL x.2.2.2.1)] ∧ (∀ p, p < xct st → vadL p = vad p) ∧ xct st ≤ xct x.2.2.2.2.2.2.2.2.1)) (fun x => if x.1 = 1 then 14 else if x.1 = 2 then 55 else 125) (fun x => x.2.2.2.2.2.2.2.2.2.1) (fun x => x.2.2.2.2.2.2.2.2.2.2) (fun x H locs ls h => by rcases h with h | h | h; (obtain ⟨_, _, _, h⟩ := h; exact absurd h.2.1 (by rw [fM_joined_b]; exact fun h => nomatch h)); (obtain ⟨_, _, _, h⟩ := h; exact absurd h.2.1 (by rw [fM_joined_b]; exact fun h => nomatch h)); (obtain ⟨_, _, _, h⟩ := h; exact absurd h.2.1 (by rw [fM_joined_b]; exact fun h => nomatch h))) (fun n ih x H locs ls hv => ?_) (fun key => ?_)
  · obtain ⟨lb, y3, y1, y2, y4, y7, y6, y5, ws9, wc, wn⟩ := x
    rcases hv with ⟨adL, gdL, vadL, hj, hf, hP, hD, hS, hl, hE, hN⟩ | ⟨adL, gdL, vadL, hj, hf, hP, hD, hS, hl, hE, hN⟩ | ⟨adL, gdL, vadL, hj, hf, hP, hD, hS, hl, hE, hN⟩
    · subst hj
      have hf : fM_joined_b d (n + 1) 1 y3 y1 y2 y4 y7 y6 y5 ws9 wc wn = some out := hf
      rw [fM_joined_b, if_pos rfl] at hf
      obtain ⟨hP, hD⟩ : xPD D xcl A (xMw cT aM adL rd gdL vadL ws9 []) H := ⟨hP, hD⟩
      have hl : lv_has ls 8 [(3, .int y3), (0, .ref aM), (1, xv vadL y1), (2, xv vadL y2)] := hl
      refine W.eq (g2 := F0 m 14 ls []) rfl ?_
      show W p l e _ s m _ below meth c H locs wc wn _ _
      obtain ⟨hm0, hf⟩ := xmoE hf
      refine lv_iload_n hx hb dM_joined_14 rfl (lv_at hl 0 rfl) ?_
      refine xm_aload_n hx hb (xvor _ _) dM_joined_15 rfl (lv_at hl 2 rfl) ?_
      obtain ⟨hg1, hf⟩ := xifn hf
      refine xm_vget (v := .int ((xpi ws9 3) (y1 - 1))) hx hb htx hown hK hP 3 (by decide) hg1 rfl ((hZ.1 (103, "count", "I") (List.mem_of_getElem? (i := 3) rfl)).use rfl) rfl dM_joined_16 ?_
      refine lv_icmp_ge (tgt := 47) hx hb dM_joined_19 (by decide) (fun hc => ?_) (fun hc => ?_)
      · rw [if_pos hc] at hf
        refine lv_aload_n hx hb dM_joined_47 rfl (lv_at hl 1 rfl) ?_
        refine xm_get (v := .int (xsi ws9 4)) hx hb htx hown hK hP 4 (by decide) rfl (htx _ kw_5_91) rfl dM_joined_48 ?_
        refine lv_istore_n (lv' := [(3, .int (xsi ws9 4)), (0, .ref aM), (1, xv vadL y1), (2, xv vadL y2)]) hx hb dM_joined_51 rfl hl (by decide) (by simp only [List.filter, xvcat, xrscat, xcI, xcL, xcR, xcN]; rfl) (fun ls hl => ?_)
        refine lv_iconst (v := 0) hx hb dM_joined_52 (by decide) ?_
        refine lv_istore (lv' := [(4, .int 0), (3, .int (xsi ws9 4)), (0, .ref aM), (1, xv vadL y1), (2, xv vadL y2)]) hx hb dM_joined_53 hl (by decide) rfl (fun ls hl => ?_)
        exact ih (2, (xsi ws9 4), y1, y2, (0 : Int32), 0, 0, 0, ws9, wc, wn) _ _ ls (Or.inr (Or.inl ⟨adL, gdL, vadL, rfl, hf, hP, hD, hS, lv_sub hl [0, 1, 2, 3, 4] rfl, hE, hN⟩))
      · rw [if_neg hc] at hf
        refine lv_aload_n hx hb dM_joined_22 rfl (lv_at hl 1 rfl) ?_
        refine xm_aload_n hx hb (xvor _ _) dM_joined_23 rfl (lv_at hl 2 rfl) ?_
        refine lv_iload_n hx hb dM_joined_24 rfl (lv_at hl 0 rfl) ?_
        obtain ⟨o2, hq3, hf⟩ := xbind hf
        have hFc := xm_free hD hS hA
        refine va_callq (va_runV (C := "ValueBenchModel") (As := [xv vadL y1, .int y3]) (rest := []) ⟨hx, hb, hml, hown, htx⟩ (gM_kid l hl9 D cT aK aV H.size n aM adL rd gdL vadL ws9 y1 y3 o2 hq3) ⟨callB_of 2 htx (xw_goodC kw_6_158) rfl rfl rfl (htx _ kw_1_5) (htx _ kw_6_155) ⟨by decide, by decide, by decide +kernel⟩ ⟨Nat.le_of_ble_eq_true rfl, Nat.le_of_ble_eq_true rfl⟩, (htx _ kw_6_157), (htx _ kp_M_kid)⟩ ⟨xPre_blind, va_recv hK hP (ci := 5) rfl (q0 := 0) rfl, (fun U hU hW => ⟨rfl, xPre_of hZ hS hFc hP hD hK U hU hW⟩)⟩ rfl rfl hl.1 rfl (xm_room (Nat.le_of_ble_eq_true rfl)) dM_joined_25 ⟨hm0.1, hm0.2⟩) hS (fun q _ h => hFc q h) hFc (fun r4 u9 t H1 locs ht hvm hr9 hB hz1 hk1 hS => ?_)
        obtain ⟨hP1, hK1, hD1⟩ := hB
        rw [ht] at hP1
        have hP : va_P D xcl (xMw cT aM adL rd gdL vadL ws9 []) H1 := hP1
        have hD : va_D A (xMw cT aM adL rd gdL vadL ws9 []) := hD1.weaken (fun k q _ h => hFc q.1 h)
        generalize H1 = H at hP hS ⊢
        rw [hr9]
        refine W.eq (g2 := F0 m 28 ls [xv vadL o2]) (by first | rfl | (skip; rfl)) ?_
        obtain ⟨hg5, hf⟩ := xifn hf
        refine xm_vget (v := .int ((xpi ws9 0) (o2 - 1))) hx hb htx hown hK hP 0 (by decide) hg5 rfl ((hZ.1 (93, "kind", "I") (List.mem_of_getElem? (i := 0) rfl)).use rfl) rfl dM_joined_28 ?_
        refine lv_iconst (v := 4) hx hb dM_joined_31 (by decide) ?_
        refine lv_icmp_le (tgt := 41) hx hb dM_joined_32 (by decide) (fun hc => ?_) (fun hc => ?_)
        · rw [if_pos hc] at hf
          refine lv_iinc (v := (y3 + 1)) (lv' := [(3, .int (y3 + 1)), (0, .ref aM), (1, xv vadL y1), (2, xv vadL y2)]) hx hb dM_joined_41 hl (k := 0) rfl rfl (by decide) (by simp only [List.filter, xvcat, xrscat, xcI, xcL, xcR, xcN]; rfl) (fun ls hl => ?_)
          refine lv_goto (tgt := 14) hx hb dM_joined_44 (by decide) ?_
          exact ih (1, (y3 + 1), y1, y2, 0, 0, 0, 0, ws9, wc, wn) _ _ ls (Or.inl ⟨adL, gdL, vadL, rfl, hf, hP, hD, hS, lv_sub hl [0, 1, 2, 3] rfl, hE, hN⟩)
        · rw [if_neg hc] at hf
          refine lv_aload_n hx hb dM_joined_35 rfl (lv_at hl 1 rfl) ?_
          refine lv_iconst (v := 1) hx hb dM_joined_36 (by decide) ?_
          obtain ⟨o6, hq7, hf⟩ := xbind hf
          have hl := lv_sub (l' := [(3, .int y3), (0, .ref aM)]) hl [0, 1] rfl
          by_cases hk8 : o6.1 = 1
          · rw [if_pos hk8] at hf
            obtain ⟨hm9, hf⟩ := xmoE hf
            obtain rfl := Option.some.inj hf
            exact absurd (show (1 : Nat) = 0 from hkd) (by decide)
          rw [if_neg hk8] at hf
          exact nomatch hf
    · subst hj
      have hf : fM_joined_b d (n + 1) 2 y3 y1 y2 y4 y7 y6 y5 ws9 wc wn = some out := hf
      rw [fM_joined_b, if_neg (by decide), if_pos rfl] at hf
      obtain ⟨hP, hD⟩ : xPD D xcl A (xMw cT aM adL rd gdL vadL ws9 []) H := ⟨hP, hD⟩
      have hl : lv_has ls 8 [(4, .int y4), (3, .int y3), (0, .ref aM), (1, xv vadL y1), (2, xv vadL y2)] := hl
      refine W.eq (g2 := F0 m 55 ls []) rfl ?_
      show W p l e _ s m _ below meth c H locs wc wn _ _
      obtain ⟨hm0, hf⟩ := xmoE hf
      refine lv_iload hx hb dM_joined_55 (lv_at hl 0 rfl) ?_
      refine xm_aload_n hx hb (xvor _ _) dM_joined_57 rfl (lv_at hl 3 rfl) ?_
      obtain ⟨hg1, hf⟩ := xifn hf
      refine xm_vget (v := .int ((xpi ws9 3) (y1 - 1))) hx hb htx hown hK hP 3 (by decide) hg1 rfl ((hZ.1 (103, "count", "I") (List.mem_of_getElem? (i := 3) rfl)).use rfl) rfl dM_joined_58 ?_
      refine lv_icmp_ge (tgt := 179) hx hb dM_joined_61 (by decide) (fun hc => ?_) (fun hc => ?_)
      · rw [if_pos hc] at hf
        refine lv_aload_n hx hb dM_joined_179 rfl (lv_at hl 2 rfl) ?_
        refine lv_iload_n hx hb dM_joined_180 rfl (lv_at hl 1 rfl) ?_
        obtain ⟨o2, hq3, hf⟩ := xbind hf
        have hl := lv_sub (l' := [(4, .int y4), (3, .int y3), (0, .ref aM)]) hl [0, 1, 2] rfl
        by_cases hk4 : o2.1 = 0
        · rw [if_pos hk4] at hf
          obtain ⟨hm5, hf⟩ := xmoE hf
          have hFc := xm_free hD hS hA
          refine va_callq (va_runV (C := "ValueBenchModel") (As := [.int y3]) (rest := []) ⟨hx, hb, hml, hown, htx⟩ (gM_string l hl9 D cT aK aV H.size n aM adL rd gdL vadL ws9 y3 o2 hq3 hk4) ⟨callB_of 1 htx (xw_goodC kw_6_61) rfl rfl rfl (htx _ kw_1_5) (htx _ kw_6_58) ⟨by decide, by decide, by decide +kernel⟩ ⟨Nat.le_of_ble_eq_true rfl, Nat.le_of_ble_eq_true rfl⟩, (htx _ kw_6_60), (htx _ kp_M_string)⟩ ⟨xPre_blind, va_recv hK hP (ci := 5) rfl (q0 := 0) rfl, (fun U hU hW => ⟨rfl, xPre_of hZ hS hFc hP hD hK U hU hW⟩)⟩ rfl rfl hl.1 rfl (xm_room (Nat.le_of_ble_eq_true rfl)) dM_joined_181 ⟨hm5.1, hm5.2⟩) hS (fun q _ h => hFc q h) hFc (fun r6 u9 t H1 locs ht hvm hr9 hB hz1 hk1 hS => ?_)
          obtain ⟨hP1, hK1, hD1⟩ := hB
          rw [ht] at hP1
          obtain ⟨ad7, gd8, vad9⟩ := u9
          obtain ⟨hr9, hv10, hn11⟩ := hr9
          have hP : va_P D xcl (xMw cT aM ad7 rd gd8 vad9 o2.2.2.2.2 []) H1 := hP1
          have hD : va_D A (xMw cT aM ad7 rd gd8 vad9 o2.2.2.2.2 []) := hD1.weaken (fun k q _ h => hFc q.1 h)
          generalize H1 = H at hP hS ⊢
          have hE9 : ∀ p, p < xct st → vad9 p = vad p := fun p h => (hv10 p (Nat.lt_of_lt_of_le h hN)).trans (hE p h)
          have hE := hE9
          have hN : xct st ≤ xct o2.2.2.2.2 := Nat.le_trans hN hn11
          rw [hr9]
          refine W.eq (g2 := F0 m 184 ls [xv vad9 o2.2.2.2.1]) (by first | rfl | (skip; rfl)) ?_
          obtain rfl := Option.some.inj hf
          exact W.aret (v := xv vad9 o2.2.2.2.1) hx hb hr (Or.inl ⟨_, rfl⟩) (xvor _ _) (fun t ht hW => ⟨⟨xca vad9 o2.2.2.2.1, (ad7, gd8, vad9), rfl, ⟨rfl, hE, hN⟩, by rw [ht]; exact hP, va_K.moved hW.alike hK, hD⟩, hS.F ht⟩) hS.2.2 dM_joined_184
        rw [if_neg hk4] at hf
        by_cases hk12 : o2.1 = 1
        · rw [if_pos hk12] at hf
          obtain ⟨hm13, hf⟩ := xmoE hf
          obtain rfl := Option.some.inj hf
          exact absurd (show (2 : Nat) = 0 from hkd) (by decide)
        rw [if_neg hk12] at hf
        exact nomatch hf
      · rw [if_neg hc] at hf
        refine lv_aload_n hx hb dM_joined_64 rfl (lv_at hl 2 rfl) ?_
        refine xm_aload_n hx hb (xvor _ _) dM_joined_65 rfl (lv_at hl 3 rfl) ?_
        refine lv_iload hx hb dM_joined_66 (lv_at hl 0 rfl) ?_
        obtain ⟨o2, hq3, hf⟩ := xbind hf
        have hFc := xm_free hD hS hA
        refine va_callq (va_runV (C := "ValueBenchModel") (As := [xv vadL y1, .int y4]) (rest := []) ⟨hx, hb, hml, hown, htx⟩ (gM_kid l hl9 D cT aK aV H.size n aM adL rd gdL vadL ws9 y1 y4 o2 hq3) ⟨callB_of 2 htx (xw_goodC kw_6_158) rfl rfl rfl (htx _ kw_1_5) (htx _ kw_6_155) ⟨by decide, by decide, by decide +kernel⟩ ⟨Nat.le_of_ble_eq_true rfl, Nat.le_of_ble_eq_true rfl⟩, (htx _ kw_6_157), (htx _ kp_M_kid)⟩ ⟨xPre_blind, va_recv hK hP (ci := 5) rfl (q0 := 0) rfl, (fun U hU hW => ⟨rfl, xPre_of hZ hS hFc hP hD hK U hU hW⟩)⟩ rfl rfl hl.1 rfl (xm_room (Nat.le_of_ble_eq_true rfl)) dM_joined_68 ⟨hm0.1, hm0.2⟩) hS (fun q _ h => hFc q h) hFc (fun r4 u9 t H1 locs ht hvm hr9 hB hz1 hk1 hS => ?_)
        obtain ⟨hP1, hK1, hD1⟩ := hB
        rw [ht] at hP1
        have hP : va_P D xcl (xMw cT aM adL rd gdL vadL ws9 []) H1 := hP1
        have hD : va_D A (xMw cT aM adL rd gdL vadL ws9 []) := hD1.weaken (fun k q _ h => hFc q.1 h)
        generalize H1 = H at hP hS ⊢
        rw [hr9]
        refine W.eq (g2 := F0 m 71 ls [xv vadL o2]) (by first | rfl | (skip; rfl)) ?_
        refine xm_astore (lv' := [(5, xv vadL o2), (4, .int y4), (3, .int y3), (0, .ref aM), (1, xv vadL y1), (2, xv vadL y2)]) hx hb (xvor _ _) dM_joined_71 hl (by decide) rfl (fun ls hl => ?_)
        refine lv_iload hx hb dM_joined_73 (lv_at hl 1 rfl) ?_
        refine lv_if_le (tgt := 83) hx hb dM_joined_75 (by decide) (fun hc => ?_) (fun hc => ?_)
        · rw [if_pos hc] at hf
          refine xm_aload hx hb (xvor _ _) dM_joined_83 (lv_at hl 0 rfl) ?_
          obtain ⟨hg5, hf⟩ := xifn hf
          refine xm_vget (v := .int ((xpi ws9 0) (o2 - 1))) hx hb htx hown hK hP 0 (by decide) hg5 rfl ((hZ.1 (93, "kind", "I") (List.mem_of_getElem? (i := 0) rfl)).use rfl) rfl dM_joined_85 ?_
          refine lv_iconst (v := 4) hx hb dM_joined_88 (by decide) ?_
          refine lv_icmp_ne (tgt := 101) hx hb dM_joined_89 (by decide) (fun hc => ?_) (fun hc => ?_)
          · rw [if_neg hc] at hf
            refine xm_aload hx hb (xvor _ _) dM_joined_101 (lv_at hl 0 rfl) ?_
            refine xm_vget (v := .int ((xpi ws9 0) (o2 - 1))) hx hb htx hown hK hP 0 (by decide) hg5 rfl ((hZ.1 (93, "kind", "I") (List.mem_of_getElem? (i := 0) rfl)).use rfl) rfl dM_joined_103 ?_
            refine lv_if_eq (tgt := 157) hx hb dM_joined_106 (by decide) (fun hc => ?_) (fun hc => ?_)
            · rw [if_pos hc] at hf
              refine lv_aload_n hx hb dM_joined_157 rfl (lv_at hl 3 rfl) ?_
              refine xm_get (v := .int (xsi ws9 4)) hx hb htx hown hK hP 4 (by decide) rfl (htx _ kw_5_91) rfl dM_joined_158 ?_
              refine lv_iload_n hx hb dM_joined_161 rfl (lv_at hl 2 rfl) ?_
              refine lv_isub hx hb dM_joined_162 ?_
              refine lv_ldc hx hb hown (htx _ kw_6_62) dM_joined_163 ?_
              refine lv_icmp_le (tgt := 173) hx hb dM_joined_165 (by decide) (fun hc => ?_) (fun hc => ?_)
              · rw [if_pos hc] at hf
                refine lv_iinc (v := (y4 + 1)) (lv' := [(4, .int (y4 + 1)), (5, xv vadL o2), (3, .int y3), (0, .ref aM), (1, xv vadL y1), (2, xv vadL y2)]) hx hb dM_joined_173 hl (k := 1) rfl rfl (by decide) rfl (fun ls hl => ?_)
                refine lv_goto (tgt := 55) hx hb dM_joined_176 (by decide) ?_
                exact ih (2, y3, y1, y2, (y4 + 1), 0, 0, o2, ws9, wc, wn) _ _ ls (Or.inr (Or.inl ⟨adL, gdL, vadL, rfl, hf, hP, hD, hS, lv_sub hl [0, 2, 3, 4, 5] rfl, hE, hN⟩))
              · rw [if_neg hc] at hf
                refine lv_aload_n hx hb dM_joined_168 rfl (lv_at hl 3 rfl) ?_
                obtain ⟨o6, hq7, hf⟩ := xbind hf
                have hl := lv_sub (l' := [(4, .int y4), (3, .int y3), (0, .ref aM)]) hl [1, 2, 3] rfl
                by_cases hk8 : o6.1 = 1
                · rw [if_pos hk8] at hf
                  obtain ⟨hm9, hf⟩ := xmoE hf
                  obtain rfl := Option.some.inj hf
                  exact absurd (show (2 : Nat) = 0 from hkd) (by decide)
                rw [if_neg hk8] at hf
                exact nomatch hf
            · rw [if_neg hc] at hf
              refine lv_aload_n hx hb dM_joined_109 rfl (lv_at hl 3 rfl) ?_
              refine xm_get (v := .int (xsi ws9 22)) hx hb htx hown hK hP 22 (by decide) rfl (htx _ kw_5_109) rfl dM_joined_110 ?_
              refine lv_istore (lv' := [(6, .int (xsi ws9 22)), (5, xv vadL o2), (4, .int y4), (3, .int y3), (0, .ref aM), (1, xv vadL y1), (2, xv vadL y2)]) hx hb dM_joined_113 hl (by decide) (by simp only [List.filter, xvcat, xrscat, xcI, xcL, xcR, xcN]; rfl) (fun ls hl => ?_)
              refine lv_aload_n hx hb dM_joined_115 rfl (lv_at hl 4 rfl) ?_
              refine xm_aload hx hb (xvor _ _) dM_joined_116 (lv_at hl 1 rfl) ?_
              obtain ⟨o6, hq7, hf⟩ := xbind hf
              by_cases hk8 : o6.1 = 0
              · rw [if_pos hk8] at hf
                obtain ⟨hg9, hf⟩ := xifn hf
                obtain ⟨hm10, hf⟩ := xmoE hf
                have hFc := xm_free hD hS hA
                refine va_callv (va_runV (C := "ValueBenchModel") (As := [xv vadL o2]) (rest := []) ⟨hx, hb, hml, hown, htx⟩ ((gM_print1 l hl9 D cT aK aV d H.size n aM adL rd gdL vadL ws9 o2 o6 hq7).1 hk8) ⟨callB_of 1 htx (xw_goodC kw_6_128) rfl rfl rfl (htx _ kw_1_5) (htx _ kw_6_125) ⟨by decide, by decide, by decide +kernel⟩ ⟨(by show (16 * d) + 1 ≤ 16 * d + 8; omega), (by show 8 + (3 + 11) + (400 * d) ≤ 400 * d + 142; omega)⟩, (htx _ kw_6_127), (htx _ kp_M_print1)⟩ ⟨xPre_blind, va_recv hK hP (ci := 5) rfl (q0 := 0) rfl, (fun U hU hW => ⟨rfl, xPre_of hZ hS hFc hP hD hK U hU hW⟩)⟩ rfl rfl hl.1 rfl (xm_room (Nat.le_of_ble_eq_true rfl)) dM_joined_118 ⟨hm10.1, hm10.2⟩) hS (fun q _ h => hFc q h) hFc (fun u9 t H1 locs ht hvm hr9 hB hz1 hk1 hS => ?_)
                obtain ⟨hP1, hK1, hD1⟩ := hB
                rw [ht] at hP1
                obtain ⟨ad12, gd13, vad14⟩ := u9
                obtain ⟨hv15, hn16⟩ := hr9
                have hP : va_P D xcl (xMw cT aM ad12 rd gd13 vad14 o6.2.2.2 []) H1 := hP1
                have hD : va_D A (xMw cT aM ad12 rd gd13 vad14 o6.2.2.2 []) := hD1.weaken (fun k q _ h => hFc q.1 h)
                generalize H1 = H at hP hS ⊢
                have hE9 : ∀ p, p < xct st → vad14 p = vad p := fun p h => (hv15 p (Nat.lt_of_lt_of_le h hN)).trans (hE p h)
                have hE := hE9
                have hN : xct st ≤ xct o6.2.2.2 := Nat.le_trans hN hn16
                have ev17 : xv vadL o2 = xv vad14 o2 := xvE hv15 (fun h => hg5 (Or.inr h))
                have ev18 : xv vadL y1 = xv vad14 y1 := xvE hv15 (fun h => hg1 (Or.inr h))
                have ev19 : xv vadL y2 = xv vad14 y2 := xvE hv15 hg9
                have hl : lv_has ls 8 [(6, .int (xsi ws9 22)), (5, xv vad14 o2), (4, .int y4), (3, .int y3), (0, .ref aM), (1, xv vad14 y1), (2, xv vad14 y2)] := by first | exact hl | ((try (rw [← ev17])); (try (rw [← ev18])); (try (rw [← ev19])); exact hl)
                refine W.eq (g2 := F0 m 121 ls []) (by first | rfl | ((try (rw [ev17])); (try (rw [ev18])); (try (rw [ev19])); rfl)) ?_
                refine lv_iload hx hb dM_joined_121 (lv_at hl 0 rfl) ?_
                refine lv_istore (lv' := [(7, .int (xsi ws9 22)), (6, .int (xsi ws9 22)), (5, xv vad14 o2), (4, .int y4), (3, .int y3), (0, .ref aM), (1, xv vad14 y1), (2, xv vad14 y2)]) hx hb dM_joined_123 hl (by decide) rfl (fun ls hl => ?_)
                exact ih (3, y3, y1, y2, y4, (xsi ws9 22), (xsi ws9 22), o2, o6.2.2.2, (wc + o6.2.1), (wn + o6.2.2.1)) _ _ ls (Or.inr (Or.inr (⟨ad12, gd13, vad14, rfl, hf, hP, hD, hS, lv_sub hl [0, 1, 2, 3, 4, 5, 6, 7] rfl, hE, hN⟩)))
              rw [if_neg hk8] at hf
              by_cases hk20 : o6.1 = 1
              · rw [if_pos hk20] at hf
                obtain ⟨hg21, hf⟩ := xifn hf
                obtain ⟨hm22, hf⟩ := xmoE hf
                obtain rfl := Option.some.inj hf
                exact absurd (show (2 : Nat) = 0 from hkd) (by decide)
              rw [if_neg hk20] at hf
              exact nomatch hf
          · rw [if_pos hc] at hf
            refine lv_aload_n hx hb dM_joined_92 rfl (lv_at hl 3 rfl) ?_
            refine xm_aload hx hb (xvor _ _) dM_joined_93 (lv_at hl 0 rfl) ?_
            obtain ⟨o6, hq7, hf⟩ := xbind hf
            obtain ⟨hg8, hf⟩ := xifn hf
            obtain ⟨hm9, hf⟩ := xmoE hf
            have hFc := xm_free hD hS hA
            refine va_callv (va_runV (C := "ValueBenchModel") (As := [xv vadL o2]) (rest := []) ⟨hx, hb, hml, hown, htx⟩ (gM_letters l hl9 D cT aK aV H.size n aM adL rd gdL vadL ws9 o2 o6 hq7) ⟨callB_of 1 htx (xw_goodC kw_6_207) rfl rfl rfl (htx _ kw_1_5) (htx _ kw_6_204) ⟨by decide, by decide, by decide +kernel⟩ ⟨Nat.le_of_ble_eq_true rfl, Nat.le_of_ble_eq_true rfl⟩, (htx _ kw_6_206), (htx _ kp_M_letters)⟩ ⟨xPre_blind, va_recv hK hP (ci := 5) rfl (q0 := 0) rfl, (fun U hU hW => ⟨rfl, xPre_of hZ hS hFc hP hD hK U hU hW⟩)⟩ rfl rfl hl.1 rfl (xm_room (Nat.le_of_ble_eq_true rfl)) dM_joined_95 ⟨hm9.1, hm9.2⟩) hS (fun q _ h => hFc q h) hFc (fun u9 t H1 locs ht hvm hr9 hB hz1 hk1 hS => ?_)
            obtain ⟨hP1, hK1, hD1⟩ := hB
            rw [ht] at hP1
            obtain ⟨ad11, gd12, vad13⟩ := u9
            obtain ⟨hv14, hn15⟩ := hr9
            have hP : va_P D xcl (xMw cT aM ad11 rd gd12 vad13 o6.2.2 []) H1 := hP1
            have hD : va_D A (xMw cT aM ad11 rd gd12 vad13 o6.2.2 []) := hD1.weaken (fun k q _ h => hFc q.1 h)
            generalize H1 = H at hP hS ⊢
            have hE9 : ∀ p, p < xct st → vad13 p = vad p := fun p h => (hv14 p (Nat.lt_of_lt_of_le h hN)).trans (hE p h)
            have hE := hE9
            have hN : xct st ≤ xct o6.2.2 := Nat.le_trans hN hn15
            have ev16 : xv vadL o2 = xv vad13 o2 := xvE hv14 (fun h => hg5 (Or.inr h))
            have ev17 : xv vadL y1 = xv vad13 y1 := xvE hv14 (fun h => hg1 (Or.inr h))
            have ev18 : xv vadL y2 = xv vad13 y2 := xvE hv14 hg8
            have hl : lv_has ls 8 [(5, xv vad13 o2), (4, .int y4), (3, .int y3), (0, .ref aM), (1, xv vad13 y1), (2, xv vad13 y2)] := by first | exact hl | ((try (rw [← ev16])); (try (rw [← ev17])); (try (rw [← ev18])); exact hl)
            refine W.eq (g2 := F0 m 98 ls []) (by first | rfl | ((try (rw [ev16])); (try (rw [ev17])); (try (rw [ev18])); rfl)) ?_
            refine lv_goto (tgt := 157) hx hb dM_joined_98 (by decide) ?_
            refine lv_aload_n hx hb dM_joined_157 rfl (lv_at hl 3 rfl) ?_
            refine xm_get (v := .int (xsi o6.2.2 4)) hx hb htx hown hK hP 4 (by decide) rfl (htx _ kw_5_91) rfl dM_joined_158 ?_
            refine lv_iload_n hx hb dM_joined_161 rfl (lv_at hl 2 rfl) ?_
            refine lv_isub hx hb dM_joined_162 ?_
            refine lv_ldc hx hb hown (htx _ kw_6_62) dM_joined_163 ?_
            refine lv_icmp_le (tgt := 173) hx hb dM_joined_165 (by decide) (fun hc => ?_) (fun hc => ?_)
            · rw [if_pos hc] at hf
              refine lv_iinc (v := (y4 + 1)) (lv' := [(4, .int (y4 + 1)), (5, xv vad13 o2), (3, .int y3), (0, .ref aM), (1, xv vad13 y1), (2, xv vad13 y2)]) hx hb dM_joined_173 hl (k := 1) rfl rfl (by decide) rfl (fun ls hl => ?_)
              refine lv_goto (tgt := 55) hx hb dM_joined_176 (by decide) ?_
              exact ih (2, y3, y1, y2, (y4 + 1), 0, 0, o2, o6.2.2, (wc + o6.1), (wn + o6.2.1)) _ _ ls (Or.inr (Or.inl ⟨ad11, gd12, vad13, rfl, hf, hP, hD, hS, lv_sub hl [0, 2, 3, 4, 5] rfl, hE, hN⟩))
            · rw [if_neg hc] at hf
              refine lv_aload_n hx hb dM_joined_168 rfl (lv_at hl 3 rfl) ?_
              obtain ⟨o19, hq20, hf⟩ := xbind hf
              have hl := lv_sub (l' := [(4, .int y4), (3, .int y3), (0, .ref aM)]) hl [1, 2, 3] rfl
              by_cases hk21 : o19.1 = 1
              · rw [if_pos hk21] at hf
                obtain ⟨hm22, hf⟩ := xmoE hf
                obtain rfl := Option.some.inj hf
                exact absurd (show (2 : Nat) = 0 from hkd) (by decide)
              rw [if_neg hk21] at hf
              exact nomatch hf
        · rw [if_neg hc] at hf
          refine lv_aload_n hx hb dM_joined_78 rfl (lv_at hl 3 rfl) ?_
          refine xm_aload_n hx hb (xvor _ _) dM_joined_79 rfl (lv_at hl 5 rfl) ?_
          obtain ⟨o5, hq6, hf⟩ := xbind hf
          obtain ⟨hg7, hf⟩ := xifn hf
          obtain ⟨hg8, hf⟩ := xifn hf
          obtain ⟨hm9, hf⟩ := xmoE hf
          have hFc := xm_free hD hS hA
          refine va_callv (va_runV (C := "ValueBenchModel") (As := [xv vadL y2]) (rest := []) ⟨hx, hb, hml, hown, htx⟩ (gM_letters l hl9 D cT aK aV H.size n aM adL rd gdL vadL ws9 y2 o5 hq6) ⟨callB_of 1 htx (xw_goodC kw_6_207) rfl rfl rfl (htx _ kw_1_5) (htx _ kw_6_204) ⟨by decide, by decide, by decide +kernel⟩ ⟨Nat.le_of_ble_eq_true rfl, Nat.le_of_ble_eq_true rfl⟩, (htx _ kw_6_206), (htx _ kp_M_letters)⟩ ⟨xPre_blind, va_recv hK hP (ci := 5) rfl (q0 := 0) rfl, (fun U hU hW => ⟨rfl, xPre_of hZ hS hFc hP hD hK U hU hW⟩)⟩ rfl rfl hl.1 rfl (xm_room (Nat.le_of_ble_eq_true rfl)) dM_joined_80 ⟨hm9.1, hm9.2⟩) hS (fun q _ h => hFc q h) hFc (fun u9 t H1 locs ht hvm hr9 hB hz1 hk1 hS => ?_)
          obtain ⟨hP1, hK1, hD1⟩ := hB
          rw [ht] at hP1
          obtain ⟨ad11, gd12, vad13⟩ := u9
          obtain ⟨hv14, hn15⟩ := hr9
          have hP : va_P D xcl (xMw cT aM ad11 rd gd12 vad13 o5.2.2 []) H1 := hP1
          have hD : va_D A (xMw cT aM ad11 rd gd12 vad13 o5.2.2 []) := hD1.weaken (fun k q _ h => hFc q.1 h)
          generalize H1 = H at hP hS ⊢
          have hE9 : ∀ p, p < xct st → vad13 p = vad p := fun p h => (hv14 p (Nat.lt_of_lt_of_le h hN)).trans (hE p h)
          have hE := hE9
          have hN : xct st ≤ xct o5.2.2 := Nat.le_trans hN hn15
          have ev16 : xv vadL o2 = xv vad13 o2 := xvE hv14 hg7
          have ev17 : xv vadL y1 = xv vad13 y1 := xvE hv14 (fun h => hg1 (Or.inr h))
          have ev18 : xv vadL y2 = xv vad13 y2 := xvE hv14 hg8
          have hl : lv_has ls 8 [(5, xv vad13 o2), (4, .int y4), (3, .int y3), (0, .ref aM), (1, xv vad13 y1), (2, xv vad13 y2)] := by first | exact hl | ((try (rw [← ev16])); (try (rw [← ev17])); (try (rw [← ev18])); exact hl)
          refine W.eq (g2 := F0 m 83 ls []) (by first | rfl | ((try (rw [ev16])); (try (rw [ev17])); (try (rw [ev18])); rfl)) ?_
          refine xm_aload hx hb (xvor _ _) dM_joined_83 (lv_at hl 0 rfl) ?_
          obtain ⟨hg19, hf⟩ := xifn hf
          refine xm_vget (v := .int ((xpi o5.2.2 0) (o2 - 1))) hx hb htx hown hK hP 0 (by decide) hg19 rfl ((hZ.1 (93, "kind", "I") (List.mem_of_getElem? (i := 0) rfl)).use rfl) rfl dM_joined_85 ?_
          refine lv_iconst (v := 4) hx hb dM_joined_88 (by decide) ?_
          refine lv_icmp_ne (tgt := 101) hx hb dM_joined_89 (by decide) (fun hc => ?_) (fun hc => ?_)
          · rw [if_neg hc] at hf
            refine xm_aload hx hb (xvor _ _) dM_joined_101 (lv_at hl 0 rfl) ?_
            refine xm_vget (v := .int ((xpi o5.2.2 0) (o2 - 1))) hx hb htx hown hK hP 0 (by decide) hg19 rfl ((hZ.1 (93, "kind", "I") (List.mem_of_getElem? (i := 0) rfl)).use rfl) rfl dM_joined_103 ?_
            refine lv_if_eq (tgt := 157) hx hb dM_joined_106 (by decide) (fun hc => ?_) (fun hc => ?_)
            · rw [if_pos hc] at hf
              refine lv_aload_n hx hb dM_joined_157 rfl (lv_at hl 3 rfl) ?_
              refine xm_get (v := .int (xsi o5.2.2 4)) hx hb htx hown hK hP 4 (by decide) rfl (htx _ kw_5_91) rfl dM_joined_158 ?_
              refine lv_iload_n hx hb dM_joined_161 rfl (lv_at hl 2 rfl) ?_
              refine lv_isub hx hb dM_joined_162 ?_
              refine lv_ldc hx hb hown (htx _ kw_6_62) dM_joined_163 ?_
              refine lv_icmp_le (tgt := 173) hx hb dM_joined_165 (by decide) (fun hc => ?_) (fun hc => ?_)
              · rw [if_pos hc] at hf
                refine lv_iinc (v := (y4 + 1)) (lv' := [(4, .int (y4 + 1)), (5, xv vad13 o2), (3, .int y3), (0, .ref aM), (1, xv vad13 y1), (2, xv vad13 y2)]) hx hb dM_joined_173 hl (k := 1) rfl rfl (by decide) rfl (fun ls hl => ?_)
                refine lv_goto (tgt := 55) hx hb dM_joined_176 (by decide) ?_
                exact ih (2, y3, y1, y2, (y4 + 1), 0, 0, o2, o5.2.2, (wc + o5.1), (wn + o5.2.1)) _ _ ls (Or.inr (Or.inl ⟨ad11, gd12, vad13, rfl, hf, hP, hD, hS, lv_sub hl [0, 2, 3, 4, 5] rfl, hE, hN⟩))
              · rw [if_neg hc] at hf
                refine lv_aload_n hx hb dM_joined_168 rfl (lv_at hl 3 rfl) ?_
                obtain ⟨o20, hq21, hf⟩ := xbind hf
                have hl := lv_sub (l' := [(4, .int y4), (3, .int y3), (0, .ref aM)]) hl [1, 2, 3] rfl
                by_cases hk22 : o20.1 = 1
                · rw [if_pos hk22] at hf
                  obtain ⟨hm23, hf⟩ := xmoE hf
                  obtain rfl := Option.some.inj hf
                  exact absurd (show (2 : Nat) = 0 from hkd) (by decide)
                rw [if_neg hk22] at hf
                exact nomatch hf
            · rw [if_neg hc] at hf
              refine lv_aload_n hx hb dM_joined_109 rfl (lv_at hl 3 rfl) ?_
              refine xm_get (v := .int (xsi o5.2.2 22)) hx hb htx hown hK hP 22 (by decide) rfl (htx _ kw_5_109) rfl dM_joined_110 ?_
              refine lv_istore (lv' := [(6, .int (xsi o5.2.2 22)), (5, xv vad13 o2), (4, .int y4), (3, .int y3), (0, .ref aM), (1, xv vad13 y1), (2, xv vad13 y2)]) hx hb dM_joined_113 hl (by decide) (by simp only [List.filter, xvcat, xrscat, xcI, xcL, xcR, xcN]; rfl) (fun ls hl => ?_)
              refine lv_aload_n hx hb dM_joined_115 rfl (lv_at hl 4 rfl) ?_
              refine xm_aload hx hb (xvor _ _) dM_joined_116 (lv_at hl 1 rfl) ?_
              obtain ⟨o20, hq21, hf⟩ := xbind hf
              by_cases hk22 : o20.1 = 0
              · rw [if_pos hk22] at hf
                obtain ⟨hg23, hf⟩ := xifn hf
                obtain ⟨hg24, hf⟩ := xifn hf
                obtain ⟨hm25, hf⟩ := xmoE hf
                have hFc := xm_free hD hS hA
                refine va_callv (va_runV (C := "ValueBenchModel") (As := [xv vad13 o2]) (rest := []) ⟨hx, hb, hml, hown, htx⟩ ((gM_print1 l hl9 D cT aK aV d H.size n aM ad11 rd gd12 vad13 o5.2.2 o2 o20 hq21).1 hk22) ⟨callB_of 1 htx (xw_goodC kw_6_128) rfl rfl rfl (htx _ kw_1_5) (htx _ kw_6_125) ⟨by decide, by decide, by decide +kernel⟩ ⟨(by show (16 * d) + 1 ≤ 16 * d + 8; omega), (by show 8 + (3 + 11) + (400 * d) ≤ 400 * d + 142; omega)⟩, (htx _ kw_6_127), (htx _ kp_M_print1)⟩ ⟨xPre_blind, va_recv hK hP (ci := 5) rfl (q0 := 0) rfl, (fun U hU hW => ⟨rfl, xPre_of hZ hS hFc hP hD hK U hU hW⟩)⟩ rfl rfl hl.1 rfl (xm_room (Nat.le_of_ble_eq_true rfl)) dM_joined_118 ⟨hm25.1, hm25.2⟩) hS (fun q _ h => hFc q h) hFc (fun u9 t H1 locs ht hvm hr9 hB hz1 hk1 hS => ?_)
                obtain ⟨hP1, hK1, hD1⟩ := hB
                rw [ht] at hP1
                obtain ⟨ad27, gd28, vad29⟩ := u9
                obtain ⟨hv30, hn31⟩ := hr9
                have hP : va_P D xcl (xMw cT aM ad27 rd gd28 vad29 o20.2.2.2 []) H1 := hP1
                have hD : va_D A (xMw cT aM ad27 rd gd28 vad29 o20.2.2.2 []) := hD1.weaken (fun k q _ h => hFc q.1 h)
                generalize H1 = H at hP hS ⊢
                have hE9 : ∀ p, p < xct st → vad29 p = vad p := fun p h => (hv30 p (Nat.lt_of_lt_of_le h hN)).trans (hE p h)
                have hE := hE9
                have hN : xct st ≤ xct o20.2.2.2 := Nat.le_trans hN hn31
                have ev32 : xv vad13 o2 = xv vad29 o2 := xvE hv30 (fun h => hg19 (Or.inr h))
                have ev33 : xv vad13 y1 = xv vad29 y1 := xvE hv30 hg23
                have ev34 : xv vad13 y2 = xv vad29 y2 := xvE hv30 hg24
                have hl : lv_has ls 8 [(6, .int (xsi o5.2.2 22)), (5, xv vad29 o2), (4, .int y4), (3, .int y3), (0, .ref aM), (1, xv vad29 y1), (2, xv vad29 y2)] := by first | exact hl | ((try (rw [← ev32])); (try (rw [← ev33])); (try (rw [← ev34])); exact hl)
                refine W.eq (g2 := F0 m 121 ls []) (by first | rfl | ((try (rw [ev32])); (try (rw [ev33])); (try (rw [ev34])); rfl)) ?_
                refine lv_iload hx hb dM_joined_121 (lv_at hl 0 rfl) ?_
                refine lv_istore (lv' := [(7, .int (xsi o5.2.2 22)), (6, .int (xsi o5.2.2 22)), (5, xv vad29 o2), (4, .int y4), (3, .int y3), (0, .ref aM), (1, xv vad29 y1), (2, xv vad29 y2)]) hx hb dM_joined_123 hl (by decide) rfl (fun ls hl => ?_)
                exact ih (3, y3, y1, y2, y4, (xsi o5.2.2 22), (xsi o5.2.2 22), o2, o20.2.2.2, ((wc + o5.1) + o20.2.1), ((wn + o5.2.1) + o20.2.2.1)) _ _ ls (Or.inr (Or.inr (⟨ad27, gd28, vad29, rfl, hf, hP, hD, hS, lv_sub hl [0, 1, 2, 3, 4, 5, 6, 7] rfl, hE, hN⟩)))
              rw [if_neg hk22] at hf
              by_cases hk35 : o20.1 = 1
              · rw [if_pos hk35] at hf
                obtain ⟨hg36, hf⟩ := xifn hf
                obtain ⟨hg37, hf⟩ := xifn hf
                obtain ⟨hm38, hf⟩ := xmoE hf
                obtain rfl := Option.some.inj hf
                exact absurd (show (2 : Nat) = 0 from hkd) (by decide)
              rw [if_neg hk35] at hf
              exact nomatch hf
          · rw [if_pos hc] at hf
            refine lv_aload_n hx hb dM_joined_92 rfl (lv_at hl 3 rfl) ?_
            refine xm_aload hx hb (xvor _ _) dM_joined_93 (lv_at hl 0 rfl) ?_
            obtain ⟨o20, hq21, hf⟩ := xbind hf
            obtain ⟨hg22, hf⟩ := xifn hf
            obtain ⟨hg23, hf⟩ := xifn hf
            obtain ⟨hm24, hf⟩ := xmoE hf
            have hFc := xm_free hD hS hA
            refine va_callv (va_runV (C := "ValueBenchModel") (As := [xv vad13 o2]) (rest := []) ⟨hx, hb, hml, hown, htx⟩ (gM_letters l hl9 D cT aK aV H.size n aM ad11 rd gd12 vad13 o5.2.2 o2 o20 hq21) ⟨callB_of 1 htx (xw_goodC kw_6_207) rfl rfl rfl (htx _ kw_1_5) (htx _ kw_6_204) ⟨by decide, by decide, by decide +kernel⟩ ⟨Nat.le_of_ble_eq_true rfl, Nat.le_of_ble_eq_true rfl⟩, (htx _ kw_6_206), (htx _ kp_M_letters)⟩ ⟨xPre_blind, va_recv hK hP (ci := 5) rfl (q0 := 0) rfl, (fun U hU hW => ⟨rfl, xPre_of hZ hS hFc hP hD hK U hU hW⟩)⟩ rfl rfl hl.1 rfl (xm_room (Nat.le_of_ble_eq_true rfl)) dM_joined_95 ⟨hm24.1, hm24.2⟩) hS (fun q _ h => hFc q h) hFc (fun u9 t H1 locs ht hvm hr9 hB hz1 hk1 hS => ?_)
            obtain ⟨hP1, hK1, hD1⟩ := hB
            rw [ht] at hP1
            obtain ⟨ad26, gd27, vad28⟩ := u9
            obtain ⟨hv29, hn30⟩ := hr9
            have hP : va_P D xcl (xMw cT aM ad26 rd gd27 vad28 o20.2.2 []) H1 := hP1
            have hD : va_D A (xMw cT aM ad26 rd gd27 vad28 o20.2.2 []) := hD1.weaken (fun k q _ h => hFc q.1 h)
            generalize H1 = H at hP hS ⊢
            have hE9 : ∀ p, p < xct st → vad28 p = vad p := fun p h => (hv29 p (Nat.lt_of_lt_of_le h hN)).trans (hE p h)
            have hE := hE9
            have hN : xct st ≤ xct o20.2.2 := Nat.le_trans hN hn30
            have ev31 : xv vad13 o2 = xv vad28 o2 := xvE hv29 (fun h => hg19 (Or.inr h))
            have ev32 : xv vad13 y1 = xv vad28 y1 := xvE hv29 hg22
            have ev33 : xv vad13 y2 = xv vad28 y2 := xvE hv29 hg23
            have hl : lv_has ls 8 [(5, xv vad28 o2), (4, .int y4), (3, .int y3), (0, .ref aM), (1, xv vad28 y1), (2, xv vad28 y2)] := by first | exact hl | ((try (rw [← ev31])); (try (rw [← ev32])); (try (rw [← ev33])); exact hl)
            refine W.eq (g2 := F0 m 98 ls []) (by first | rfl | ((try (rw [ev31])); (try (rw [ev32])); (try (rw [ev33])); rfl)) ?_
            refine lv_goto (tgt := 157) hx hb dM_joined_98 (by decide) ?_
            refine lv_aload_n hx hb dM_joined_157 rfl (lv_at hl 3 rfl) ?_
            refine xm_get (v := .int (xsi o20.2.2 4)) hx hb htx hown hK hP 4 (by decide) rfl (htx _ kw_5_91) rfl dM_joined_158 ?_
            refine lv_iload_n hx hb dM_joined_161 rfl (lv_at hl 2 rfl) ?_
            refine lv_isub hx hb dM_joined_162 ?_
            refine lv_ldc hx hb hown (htx _ kw_6_62) dM_joined_163 ?_
            refine lv_icmp_le (tgt := 173) hx hb dM_joined_165 (by decide) (fun hc => ?_) (fun hc => ?_)
            · rw [if_pos hc] at hf
              refine lv_iinc (v := (y4 + 1)) (lv' := [(4, .int (y4 + 1)), (5, xv vad28 o2), (3, .int y3), (0, .ref aM), (1, xv vad28 y1), (2, xv vad28 y2)]) hx hb dM_joined_173 hl (k := 1) rfl rfl (by decide) rfl (fun ls hl => ?_)
              refine lv_goto (tgt := 55) hx hb dM_joined_176 (by decide) ?_
              exact ih (2, y3, y1, y2, (y4 + 1), 0, 0, o2, o20.2.2, ((wc + o5.1) + o20.1), ((wn + o5.2.1) + o20.2.1)) _ _ ls (Or.inr (Or.inl ⟨ad26, gd27, vad28, rfl, hf, hP, hD, hS, lv_sub hl [0, 2, 3, 4, 5] rfl, hE, hN⟩))
            · rw [if_neg hc] at hf
              refine lv_aload_n hx hb dM_joined_168 rfl (lv_at hl 3 rfl) ?_
              obtain ⟨o34, hq35, hf⟩ := xbind hf
              have hl := lv_sub (l' := [(4, .int y4), (3, .int y3), (0, .ref aM)]) hl [1, 2, 3] rfl
              by_cases hk36 : o34.1 = 1
              · rw [if_pos hk36] at hf
                obtain ⟨hm37, hf⟩ := xmoE hf
                obtain rfl := Option.some.inj hf
                exact absurd (show (2 : Nat) = 0 from hkd) (by decide)
              rw [if_neg hk36] at hf
              exact nomatch hf
    · subst hj
      have hf : fM_joined_b d (n + 1) 3 y3 y1 y2 y4 y7 y6 y5 ws9 wc wn = some out := hf
      rw [fM_joined_b, if_neg (by decide), if_neg (by decide)] at hf
      obtain ⟨hP, hD⟩ : xPD D xcl A (xMw cT aM adL rd gdL vadL ws9 []) H := ⟨hP, hD⟩
      have hl : lv_has ls 8 [(7, .int y7), (6, .int y6), (5, xv vadL y5), (4, .int y4), (3, .int y3), (0, .ref aM), (1, xv vadL y1), (2, xv vadL y2)] := hl
      refine W.eq (g2 := F0 m 125 ls []) rfl ?_
      show W p l e _ s m _ below meth c H locs wc wn _ _
      obtain ⟨hm0, hf⟩ := xmoE hf
      refine lv_iload hx hb dM_joined_125 (lv_at hl 0 rfl) ?_
      refine lv_aload_n hx hb dM_joined_127 rfl (lv_at hl 5 rfl) ?_
      refine xm_get (v := .int (xsi ws9 22)) hx hb htx hown hK hP 22 (by decide) rfl (htx _ kw_5_109) rfl dM_joined_128 ?_
      refine lv_icmp_ge (tgt := 151) hx hb dM_joined_131 (by decide) (fun hc => ?_) (fun hc => ?_)
      · rw [if_pos hc] at hf
        refine lv_aload_n hx hb dM_joined_151 rfl (lv_at hl 5 rfl) ?_
        refine lv_iload hx hb dM_joined_152 (lv_at hl 1 rfl) ?_
        refine xm_put (v := .int y6) (W' := (xMw cT aM adL rd gdL vadL (xsI ws9 22 y6) [])) (ty := .int) hx hb htx hown hK hP hD hS 22 (by decide) rfl (htx _ kw_5_109) rfl rfl (by decide +kernel) rfl rfl dM_joined_154 (fun H locs hP hD hS => ?_)
        refine lv_aload_n hx hb dM_joined_157 rfl (lv_at hl 5 rfl) ?_
        refine xm_get (v := .int (xsi ws9 4)) hx hb htx hown hK hP 4 (by decide) rfl (htx _ kw_5_91) rfl dM_joined_158 ?_
        refine lv_iload_n hx hb dM_joined_161 rfl (lv_at hl 4 rfl) ?_
        refine lv_isub hx hb dM_joined_162 ?_
        refine lv_ldc hx hb hown (htx _ kw_6_62) dM_joined_163 ?_
        refine lv_icmp_le (tgt := 173) hx hb dM_joined_165 (by decide) (fun hc => ?_) (fun hc => ?_)
        · rw [if_pos hc] at hf
          refine lv_iinc (v := (y4 + 1)) (lv' := [(4, .int (y4 + 1)), (7, .int y7), (6, .int y6), (5, xv vadL y5), (3, .int y3), (0, .ref aM), (1, xv vadL y1), (2, xv vadL y2)]) hx hb dM_joined_173 hl (k := 3) rfl rfl (by decide) rfl (fun ls hl => ?_)
          refine lv_goto (tgt := 55) hx hb dM_joined_176 (by decide) ?_
          exact ih (2, y3, y1, y2, (y4 + 1), y7, y6, y5, (xsI ws9 22 y6), wc, wn) _ _ ls (Or.inr (Or.inl ⟨adL, gdL, vadL, rfl, hf, hP, hD, hS, lv_sub hl [0, 4, 5, 6, 7] rfl, hE, hN⟩))
        · rw [if_neg hc] at hf
          refine lv_aload_n hx hb dM_joined_168 rfl (lv_at hl 5 rfl) ?_
          obtain ⟨o1, hq2, hf⟩ := xbind hf
          have hl := lv_sub (l' := [(7, .int y7), (6, .int y6), (4, .int y4), (3, .int y3), (0, .ref aM)]) hl [0, 1, 3, 4, 5] rfl
          by_cases hk3 : o1.1 = 1
          · rw [if_pos hk3] at hf
            obtain ⟨hm4, hf⟩ := xmoE hf
            obtain rfl := Option.some.inj hf
            exact absurd (show (2 : Nat) = 0 from hkd) (by decide)
          rw [if_neg hk3] at hf
          exact nomatch hf
      · rw [if_neg hc] at hf
        refine lv_aload_n hx hb dM_joined_134 rfl (lv_at hl 5 rfl) ?_
        refine lv_aload_n hx hb dM_joined_135 rfl (lv_at hl 5 rfl) ?_
        refine xm_get (v := .ref (adL 21)) hx hb htx hown hK hP 21 (by decide) rfl (htx _ kw_5_108) rfl dM_joined_136 ?_
        refine lv_iload hx hb dM_joined_139 (lv_at hl 0 rfl) ?_
        obtain ⟨hg1, hf⟩ := xifn hf
        refine va_bald hx hb hK hP 9 0 rfl rfl hg1 dM_joined_141 ?_
        refine W.eq (g2 := F0 m 142 ls [.int ((xba ws9 21) y7.toNatClampNeg), .ref aM]) rfl ?_
        obtain ⟨o2, hq3, hf⟩ := xbind hf
        obtain ⟨hg4, hf⟩ := xifn hf
        obtain ⟨hg5, hf⟩ := xifn hf
        obtain ⟨hg6, hf⟩ := xifn hf
        obtain ⟨hm7, hf⟩ := xmoE hf
        have hFc := xm_free hD hS hA
        refine va_callv (va_runV (C := "ValueBenchModel") (As := [.int ((xba ws9 21) y7.toNatClampNeg)]) (rest := []) ⟨hx, hb, hml, hown, htx⟩ (gM_letter l hl9 D cT aK aV H.size n aM adL rd gdL vadL ws9 ((xba ws9 21) y7.toNatClampNeg) o2 hq3) ⟨callB_of 1 htx (xw_goodC kw_6_54) rfl rfl rfl (htx _ kw_1_5) (htx _ kw_6_51) ⟨by decide, by decide, by decide +kernel⟩ ⟨Nat.le_of_ble_eq_true rfl, Nat.le_of_ble_eq_true rfl⟩, (htx _ kw_6_53), (htx _ kp_M_letter)⟩ ⟨xPre_blind, va_recv hK hP (ci := 5) rfl (q0 := 0) rfl, (fun U hU hW => ⟨rfl, xPre_of hZ hS hFc hP hD hK U hU hW⟩)⟩ rfl rfl hl.1 rfl (xm_room (Nat.le_of_ble_eq_true rfl)) dM_joined_142 ⟨hm7.1, hm7.2⟩) hS (fun q _ h => hFc q h) hFc (fun u9 t H1 locs ht hvm hr9 hB hz1 hk1 hS => ?_)
        obtain ⟨hP1, hK1, hD1⟩ := hB
        rw [ht] at hP1
        obtain ⟨ad9, gd10, vad11⟩ := u9
        obtain ⟨hv12, hn13⟩ := hr9
        have hP : va_P D xcl (xMw cT aM ad9 rd gd10 vad11 o2.2.2 []) H1 := hP1
        have hD : va_D A (xMw cT aM ad9 rd gd10 vad11 o2.2.2 []) := hD1.weaken (fun k q _ h => hFc q.1 h)
        generalize H1 = H at hP hS ⊢
        have hE9 : ∀ p, p < xct st → vad11 p = vad p := fun p h => (hv12 p (Nat.lt_of_lt_of_le h hN)).trans (hE p h)
        have hE := hE9
        have hN : xct st ≤ xct o2.2.2 := Nat.le_trans hN hn13
        have ev14 : xv vadL y5 = xv vad11 y5 := xvE hv12 hg4
        have ev15 : xv vadL y1 = xv vad11 y1 := xvE hv12 hg5
        have ev16 : xv vadL y2 = xv vad11 y2 := xvE hv12 hg6
        have hl : lv_has ls 8 [(7, .int y7), (6, .int y6), (5, xv vad11 y5), (4, .int y4), (3, .int y3), (0, .ref aM), (1, xv vad11 y1), (2, xv vad11 y2)] := by first | exact hl | ((try (rw [← ev14])); (try (rw [← ev15])); (try (rw [← ev16])); exact hl)
        refine W.eq (g2 := F0 m 145 ls []) (by first | rfl | ((try (rw [ev14])); (try (rw [ev15])); (try (rw [ev16])); rfl)) ?_
        refine lv_iinc (v := (y7 + 1)) (lv' := [(7, .int (y7 + 1)), (6, .int y6), (5, xv vad11 y5), (4, .int y4), (3, .int y3), (0, .ref aM), (1, xv vad11 y1), (2, xv vad11 y2)]) hx hb dM_joined_145 hl (k := 0) rfl rfl (by decide) rfl (fun ls hl => ?_)
        refine lv_goto (tgt := 125) hx hb dM_joined_148 (by decide) ?_
        exact ih (3, y3, y1, y2, y4, (y7 + 1), y6, y5, o2.2.2, (wc + o2.1), (wn + o2.2.1)) _ _ ls (Or.inr (Or.inr (⟨ad9, gd10, vad11, rfl, hf, hP, hD, hS, lv_sub hl [0, 1, 2, 3, 4, 5, 6, 7] rfl, hE, hN⟩)))
  refine lv_aload_n hx hb dM_joined_0 rfl (lv_at hl 0 rfl) ?_
  refine xm_aload_n hx hb (xvor _ _) dM_joined_1 rfl (lv_at hl 1 rfl) ?_
  obtain ⟨o1, hq2, hf⟩ := xbind hf
  by_cases hk3 : o1.1 = 0
  · rw [if_pos hk3] at hf
    obtain ⟨hg4, hf⟩ := xifn hf
    obtain ⟨hg5, hf⟩ := xifn hf
    obtain ⟨hm6, hf⟩ := xmoE hf
    have hFc := xm_free hD hS hA
    refine va_callq (va_runV (C := "ValueBenchModel") (As := [xv vad c0]) (rest := []) ⟨hx, hb, hml, hown, htx⟩ (gM_array l hl9 D cT aK aV s.heap.size n aM ad rd gd vad st c0 o1 hq2 hk3) ⟨callB_of 1 htx (xw_goodC kw_7_42) rfl rfl rfl (htx _ kw_1_5) (htx _ kw_7_39) ⟨by decide, by decide, by decide +kernel⟩ ⟨Nat.le_of_ble_eq_true rfl, Nat.le_of_ble_eq_true rfl⟩, (htx _ kw_7_41), (htx _ kp_M_array)⟩ ⟨xPre_blind, va_recv hK hP (ci := 5) rfl (q0 := 0) rfl, (fun U hU hW => ⟨rfl, xPre_of hZ hS hFc hP hD hK U hU hW⟩)⟩ rfl rfl hl.1 rfl (xm_room (Nat.le_of_ble_eq_true rfl)) dM_joined_2 ⟨hm6.1, hm6.2⟩) hS (fun q _ h => hFc q h) hFc (fun r7 u9 t H1 locs ht hvm hr9 hB hz1 hk1 hS => ?_)
    obtain ⟨hP1, hK1, hD1⟩ := hB
    rw [ht] at hP1
    obtain ⟨ad8, gd9, vad10⟩ := u9
    obtain ⟨hr9, hv11, hn12⟩ := hr9
    have hP : va_P D xcl (xMw cT aM ad8 rd gd9 vad10 o1.2.2.2.2 []) H1 := hP1
    have hD : va_D A (xMw cT aM ad8 rd gd9 vad10 o1.2.2.2.2 []) := hD1.weaken (fun k q _ h => hFc q.1 h)
    generalize H1 = H at hP hS ⊢
    have hE9 : ∀ p, p < xct st → vad10 p = vad p := fun p h => (hv11 p (Nat.lt_of_lt_of_le h hN)).trans (hE p h)
    have hE := hE9
    have hN : xct st ≤ xct o1.2.2.2.2 := Nat.le_trans hN hn12
    have ev13 : xv vad c0 = xv vad10 c0 := xvE hv11 hg4
    have ev14 : xv vad c1 = xv vad10 c1 := xvE hv11 hg5
    have hl : lv_has ls 8 [(0, .ref aM), (1, xv vad10 c0), (2, xv vad10 c1)] := by first | exact hl | ((try (rw [← ev13])); (try (rw [← ev14])); exact hl)
    rw [hr9]
    refine W.eq (g2 := F0 m 5 ls [xv vad10 o1.2.2.2.1]) (by first | rfl | ((try (rw [ev13])); (try (rw [ev14])); rfl)) ?_
    refine lv_pop hx hb dM_joined_5 (xvcat _ _) ?_
    refine lv_aload_n hx hb dM_joined_6 rfl (lv_at hl 0 rfl) ?_
    refine xm_aload_n hx hb (xvor _ _) dM_joined_7 rfl (lv_at hl 2 rfl) ?_
    obtain ⟨o15, hq16, hf⟩ := xbind hf
    by_cases hk17 : o15.1 = 0
    · rw [if_pos hk17] at hf
      obtain ⟨hg18, hf⟩ := xifn hf
      obtain ⟨hg19, hf⟩ := xifn hf
      obtain ⟨hm20, hf⟩ := xmoE hf
      have hFc := xm_free hD hS hA
      refine va_callq (va_runV (C := "ValueBenchModel") (As := [xv vad10 c1]) (rest := []) ⟨hx, hb, hml, hown, htx⟩ (gM_text l hl9 D cT aK aV H.size n aM ad8 rd gd9 vad10 o1.2.2.2.2 c1 o15 hq16 hk17) ⟨callB_of 1 htx (xw_goodC kw_7_54) rfl rfl rfl (htx _ kw_1_5) (htx _ kw_7_51) ⟨by decide, by decide, by decide +kernel⟩ ⟨Nat.le_of_ble_eq_true rfl, Nat.le_of_ble_eq_true rfl⟩, (htx _ kw_7_53), (htx _ kp_M_text)⟩ ⟨xPre_blind, va_recv hK hP (ci := 5) rfl (q0 := 0) rfl, (fun U hU hW => ⟨rfl, xPre_of hZ hS hFc hP hD hK U hU hW⟩)⟩ rfl rfl hl.1 rfl (xm_room (Nat.le_of_ble_eq_true rfl)) dM_joined_8 ⟨hm20.1, hm20.2⟩) hS (fun q _ h => hFc q h) hFc (fun r21 u9 t H1 locs ht hvm hr9 hB hz1 hk1 hS => ?_)
      obtain ⟨hP1, hK1, hD1⟩ := hB
      rw [ht] at hP1
      obtain ⟨ad22, gd23, vad24⟩ := u9
      obtain ⟨hr9, hv25, hn26⟩ := hr9
      have hP : va_P D xcl (xMw cT aM ad22 rd gd23 vad24 o15.2.2.2.2 []) H1 := hP1
      have hD : va_D A (xMw cT aM ad22 rd gd23 vad24 o15.2.2.2.2 []) := hD1.weaken (fun k q _ h => hFc q.1 h)
      generalize H1 = H at hP hS ⊢
      have hE9 : ∀ p, p < xct st → vad24 p = vad p := fun p h => (hv25 p (Nat.lt_of_lt_of_le h hN)).trans (hE p h)
      have hE := hE9
      have hN : xct st ≤ xct o15.2.2.2.2 := Nat.le_trans hN hn26
      have ev27 : xv vad10 c0 = xv vad24 c0 := xvE hv25 hg18
      have ev28 : xv vad10 c1 = xv vad24 c1 := xvE hv25 hg19
      have hl : lv_has ls 8 [(0, .ref aM), (1, xv vad24 c0), (2, xv vad24 c1)] := by first | exact hl | ((try (rw [← ev27])); (try (rw [← ev28])); exact hl)
      rw [hr9]
      refine W.eq (g2 := F0 m 11 ls [xv vad24 o15.2.2.2.1]) (by first | rfl | ((try (rw [ev27])); (try (rw [ev28])); rfl)) ?_
      refine lv_pop hx hb dM_joined_11 (xvcat _ _) ?_
      refine lv_iconst (v := 0) hx hb dM_joined_12 (by decide) ?_
      refine lv_istore_n (lv' := [(3, .int 0), (0, .ref aM), (1, xv vad24 c0), (2, xv vad24 c1)]) hx hb dM_joined_13 rfl hl (by decide) (by simp only [List.filter, xvcat, xrscat, xcI, xcL, xcR, xcN]; rfl) (fun ls hl => ?_)
      exact key n (1, (0 : Int32), c0, c1, 0, 0, 0, 0, o15.2.2.2.2, ((0 + o1.2.1) + o15.2.1), ((0 + o1.2.2.1) + o15.2.2.1)) _ _ ls (Or.inl ⟨ad22, gd23, vad24, rfl, hf, hP, hD, hS, lv_sub hl [0, 1, 2, 3] rfl, hE, hN⟩)
    rw [if_neg hk17] at hf
    by_cases hk29 : o15.1 = 1
    · rw [if_pos hk29] at hf
      obtain ⟨hg30, hf⟩ := xifn hf
      obtain ⟨hg31, hf⟩ := xifn hf
      obtain ⟨hm32, hf⟩ := xmoE hf
      obtain rfl := Option.some.inj hf
      exact absurd (show (1 : Nat) = 0 from hkd) (by decide)
    rw [if_neg hk29] at hf
    exact nomatch hf
  rw [if_neg hk3] at hf
  by_cases hk41 : o1.1 = 1
  · rw [if_pos hk41] at hf
    obtain ⟨hg42, hf⟩ := xifn hf
    obtain ⟨hg43, hf⟩ := xifn hf
    obtain ⟨hm44, hf⟩ := xmoE hf
    obtain rfl := Option.some.inj hf
    exact absurd (show (1 : Nat) = 0 from hkd) (by decide)
  rw [if_neg hk41] at hf
  exact nomatch hf
set_option maxHeartbeats 400000000 in
set_option maxRecDepth 100000 in
theorem gM_joined_1 (l : Launch) (hl9 : l.stackTraces = false) (D : va_G) (cT : Nat → ClassId) (aK aV : Nat → Nat) (sz d n : Nat) (aM : Nat) (ad rd gd vad : Nat → Nat) (st : xS) (c0 : Nat) (c1 : Nat) (out : Nat × Nat × Nat × Nat × xS) (hf : fM_joined d n st c0 c1 = some out) (hkd : out.1 = 1) : xMetY l yM_joined wyM_joined (16 * d + 8) out.2.1 out.2.2.1 (400 * d + 142) D cT aK aV sz [.ref aM, xv vad c0, xv vad c1] (xMw cT aM ad rd gd vad st []) "java/lang/ArithmeticException" (fun u => xE vad st out.2.2.2.2 u) (fun A u t => xB D xcl cT A (xMw cT aM u.1 rd u.2.1 u.2.2 out.2.2.2.2 []) t) := by
  refine vx_ofW (cc := prog_13_method_71_code) (maxL := 8) (ret := (some (.object "ValueBenchModel$V"))) (by decide) rfl ?_
  intro p e s m args below meth c s₁ B hml hne hv
  obtain ⟨rfl, hsz, hZ, hP, hK, hD0⟩ := hv
  have hx := B.exec
  have hb := B.bytes
  have hr := B.returns
  have hts := atoms_spec (ws := wyM_joined) B.pre
  have htx := fun w h => hts w (List.mem_cons_of_mem _ h)
  have hown : s.vm.findClass "ValueBenchModel" = some m.cls := findClass_of_methodNamed B.named
  have hlocks := B.notSynchronized
  subst hsz
  have hD := hD0.self (sz := s.heap.size)
  generalize hAe : va_A (xMw cT aM ad rd gd vad st []) s.heap.size = A at hD hZ ⊢
  have hA : ∀ q : Nat, s.heap.size ≤ q → A q := fun q h => by rw [← hAe]; exact Or.inr h
  have hS : va_S A s.heap s.heap [] := va_S.rf
  have hl := lv_entry ([.ref aM, xv vad c0, xv vad c1]) (n := 8) (by simp [lg_sl, xvcat, xrscat, xcI, xcL, xcR, xcN])
  rw [show lv_args 0 [.ref aM, xv vad c0, xv vad c1] = [(0, .ref aM), (1, xv vad c0), (2, xv vad c1)] from by simp [lv_args, xvcat, xrscat, xcI, xcL, xcR, xcN]] at hl
  rw [lg_entry_eq]
  generalize (lg_sl ([.ref aM, xv vad c0, xv vad c1]) ++ List.replicate (8 - (lg_sl ([.ref aM, xv vad c0, xv vad c1])).length) Slot.unset).toArray = ls at hl ⊢
  have hl : lv_has ls 8 [(0, .ref aM), (1, xv vad c0), (2, xv vad c1)] := hl
  have hE : ∀ p, p < xct st → vad p = vad p := fun _ _ => rfl
  have hN : xct st ≤ xct st := Nat.le_refl _
  unfold fM_joined at hf
  refine xloopM (σ := Nat × Int32 × Nat × Nat × Int32 × Int32 × Int32 × Nat × xS × Nat × Nat) (fun n x H locs ls => (∃ (adL gdL vadL : Nat → Nat), x.1 = 1 ∧ fM_joined_b d n x.1 x.2.1 x.2.2.1 x.2.2.2.1 x.2.2.2.2.1 x.2.2.2.2.2.1 x.2.2.2.2.2.2.1 x.2.2.2.2.2.2.2.1 x.2.2.2.2.2.2.2.2.1 x.2.2.2.2.2.2.2.2.2.1 x.2.2.2.2.2.2.2.2.2.2 = some out ∧ va_P D xcl (xMw cT aM adL rd gdL vadL x.2.2.2.2.2.2.2.2.1 []) H ∧ va_D A (xMw cT aM adL rd gdL vadL x.2.2.2.2.2.2.2.2.1 []) ∧ va_S A s.heap H locs ∧ lv_has ls 8 [(3, .int x.2.1), (0, .ref aM), (1, xv vadL x.2.2.1), (2, xv vadL x.2.2.2.1)] ∧ (∀ p, p < xct st → vadL p = vad p) ∧ xct st ≤ xct x.2.2.2.2.2.2.2.2.1) ∨ (∃ (adL gdL vadL : Nat → Nat), x.1 = 2 ∧ fM_joined_b d n x.1 x.2.1 x.2.2.1 x.2.2.2.1 x.2.2.2.2.1 x.2.2.2.2.2.1 x.2.2.2.2.2.2.1 x.2.2.2.2.2.2.2.1 x.2.2.2.2.2.2.2.2.1 x.2.2.2.2.2.2.2.2.2.1 x.2.2.2.2.2.2.2.2.2.2 = some out ∧ va_P D xcl (xMw cT aM adL rd gdL vadL x.2.2.2.2.2.2.2.2.1 []) H ∧ va_D A (xMw cT aM adL rd gdL vadL x.2.2.2.2.2.2.2.2.1 []) ∧ va_S A s.heap H locs ∧ lv_has ls 8 [(4, .int x.2.2.2.2.1), (3, .int x.2.1), (0, .ref aM), (1, xv vadL x.2.2.1), (2, xv vadL x.2.2.2.1)] ∧ (∀ p, p < xct st → vadL p = vad p) ∧ xct st ≤ xct x.2.2.2.2.2.2.2.2.1) ∨ (∃ (adL gdL vadL : Nat → Nat), x.1 = 3 ∧ fM_joined_b d n x.1 x.2.1 x.2.2.1 x.2.2.2.1 x.2.2.2.2.1 x.2.2.2.2.2.1 x.2.2.2.2.2.2.1 x.2.2.2.2.2.2.2.1 x.2.2.2.2.2.2.2.2.1 x.2.2.2.2.2.2.2.2.2.1 x.2.2.2.2.2.2.2.2.2.2 = some out ∧ va_P D xcl (xMw cT aM adL rd gdL vadL x.2.2.2.2.2.2.2.2.1 []) H ∧ va_D A (xMw cT aM adL rd gdL vadL x.2.2.2.2.2.2.2.2.1 []) ∧ va_S A s.heap H locs ∧ lv_has ls 8 [(7, .int x.2.2.2.2.2.1), (6, .int x.2.2.2.2.2.2.1), (5, xv vadL x.2.2.2.2.2.2.2.1), (4, .int x.2.2.2.2.1), (3, .int x.2.1), (0, .ref aM), (1, xv vadL x.2.2.1), (2, xv vadL x.2.2.2.1)] ∧ (∀ p, p < xct st → vadL p = vad p) ∧ xct st ≤ xct x.2.2.2.2.2.2.2.2.1)) (fun x => if x.1 = 1 then 14 else if x.1 = 2 then 55 else 125) (fun x => x.2.2.2.2.2.2.2.2.2.1) (fun x => x.2.2.2.2.2.2.2.2.2.2) (fun x H locs ls h => by rcases h with h | h | h; (obtain ⟨_, _, _, h⟩ := h; exact absurd h.2.1 (by rw [fM_joined_b]; exact fun h => nomatch h)); (obtain ⟨_, _, _, h⟩ := h; exact absurd h.2.1 (by rw [fM_joined_b]; exact fun h => nomatch h)); (obtain ⟨_, _, _, h⟩ := h; exact absurd h.2.1 (by rw [fM_joined_b]; exact fun h => nomatch h))) (fun n ih x H locs ls hv => ?_) (fun key => ?_)
  · obtain ⟨lb, y3, y1, y2, y4, y7, y6, y5, ws9, wc, wn⟩ := x
    rcases hv with ⟨adL, gdL, vadL, hj, hf, hP, hD, hS, hl, hE, hN⟩ | ⟨adL, gdL, vadL, hj, hf, hP, hD, hS, hl, hE, hN⟩ | ⟨adL, gdL, vadL, hj, hf, hP, hD, hS, hl, hE, hN⟩
    · subst hj
      have hf : fM_joined_b d (n + 1) 1 y3 y1 y2 y4 y7 y6 y5 ws9 wc wn = some out := hf
      rw [fM_joined_b, if_pos rfl] at hf
      obtain ⟨hP, hD⟩ : xPD D xcl A (xMw cT aM adL rd gdL vadL ws9 []) H := ⟨hP, hD⟩
      have hl : lv_has ls 8 [(3, .int y3), (0, .ref aM), (1, xv vadL y1), (2, xv vadL y2)] := hl
      refine W.eq (g2 := F0 m 14 ls []) rfl ?_
      show W p l e _ s m _ below meth c H locs wc wn _ _
      obtain ⟨hm0, hf⟩ := xmoE hf
      refine lv_iload_n hx hb dM_joined_14 rfl (lv_at hl 0 rfl) ?_
      refine xm_aload_n hx hb (xvor _ _) dM_joined_15 rfl (lv_at hl 2 rfl) ?_
      obtain ⟨hg1, hf⟩ := xifn hf
      refine xm_vget (v := .int ((xpi ws9 3) (y1 - 1))) hx hb htx hown hK hP 3 (by decide) hg1 rfl ((hZ.1 (103, "count", "I") (List.mem_of_getElem? (i := 3) rfl)).use rfl) rfl dM_joined_16 ?_
      refine lv_icmp_ge (tgt := 47) hx hb dM_joined_19 (by decide) (fun hc => ?_) (fun hc => ?_)
      · rw [if_pos hc] at hf
        refine lv_aload_n hx hb dM_joined_47 rfl (lv_at hl 1 rfl) ?_
        refine xm_get (v := .int (xsi ws9 4)) hx hb htx hown hK hP 4 (by decide) rfl (htx _ kw_5_91) rfl dM_joined_48 ?_
        refine lv_istore_n (lv' := [(3, .int (xsi ws9 4)), (0, .ref aM), (1, xv vadL y1), (2, xv vadL y2)]) hx hb dM_joined_51 rfl hl (by decide) (by simp only [List.filter, xvcat, xrscat, xcI, xcL, xcR, xcN]; rfl) (fun ls hl => ?_)
        refine lv_iconst (v := 0) hx hb dM_joined_52 (by decide) ?_
        refine lv_istore (lv' := [(4, .int 0), (3, .int (xsi ws9 4)), (0, .ref aM), (1, xv vadL y1), (2, xv vadL y2)]) hx hb dM_joined_53 hl (by decide) rfl (fun ls hl => ?_)
        exact ih (2, (xsi ws9 4), y1, y2, (0 : Int32), 0, 0, 0, ws9, wc, wn) _ _ ls (Or.inr (Or.inl ⟨adL, gdL, vadL, rfl, hf, hP, hD, hS, lv_sub hl [0, 1, 2, 3, 4] rfl, hE, hN⟩))
      · rw [if_neg hc] at hf
        refine lv_aload_n hx hb dM_joined_22 rfl (lv_at hl 1 rfl) ?_
        refine xm_aload_n hx hb (xvor _ _) dM_joined_23 rfl (lv_at hl 2 rfl) ?_
        refine lv_iload_n hx hb dM_joined_24 rfl (lv_at hl 0 rfl) ?_
        obtain ⟨o2, hq3, hf⟩ := xbind hf
        have hFc := xm_free hD hS hA
        refine va_callq (va_runV (C := "ValueBenchModel") (As := [xv vadL y1, .int y3]) (rest := []) ⟨hx, hb, hml, hown, htx⟩ (gM_kid l hl9 D cT aK aV H.size n aM adL rd gdL vadL ws9 y1 y3 o2 hq3) ⟨callB_of 2 htx (xw_goodC kw_6_158) rfl rfl rfl (htx _ kw_1_5) (htx _ kw_6_155) ⟨by decide, by decide, by decide +kernel⟩ ⟨Nat.le_of_ble_eq_true rfl, Nat.le_of_ble_eq_true rfl⟩, (htx _ kw_6_157), (htx _ kp_M_kid)⟩ ⟨xPre_blind, va_recv hK hP (ci := 5) rfl (q0 := 0) rfl, (fun U hU hW => ⟨rfl, xPre_of hZ hS hFc hP hD hK U hU hW⟩)⟩ rfl rfl hl.1 rfl (xm_room (Nat.le_of_ble_eq_true rfl)) dM_joined_25 ⟨hm0.1, hm0.2⟩) hS (fun q _ h => hFc q h) hFc (fun r4 u9 t H1 locs ht hvm hr9 hB hz1 hk1 hS => ?_)
        obtain ⟨hP1, hK1, hD1⟩ := hB
        rw [ht] at hP1
        have hP : va_P D xcl (xMw cT aM adL rd gdL vadL ws9 []) H1 := hP1
        have hD : va_D A (xMw cT aM adL rd gdL vadL ws9 []) := hD1.weaken (fun k q _ h => hFc q.1 h)
        generalize H1 = H at hP hS ⊢
        rw [hr9]
        refine W.eq (g2 := F0 m 28 ls [xv vadL o2]) (by first | rfl | (skip; rfl)) ?_
        obtain ⟨hg5, hf⟩ := xifn hf
        refine xm_vget (v := .int ((xpi ws9 0) (o2 - 1))) hx hb htx hown hK hP 0 (by decide) hg5 rfl ((hZ.1 (93, "kind", "I") (List.mem_of_getElem? (i := 0) rfl)).use rfl) rfl dM_joined_28 ?_
        refine lv_iconst (v := 4) hx hb dM_joined_31 (by decide) ?_
        refine lv_icmp_le (tgt := 41) hx hb dM_joined_32 (by decide) (fun hc => ?_) (fun hc => ?_)
        · rw [if_pos hc] at hf
          refine lv_iinc (v := (y3 + 1)) (lv' := [(3, .int (y3 + 1)), (0, .ref aM), (1, xv vadL y1), (2, xv vadL y2)]) hx hb dM_joined_41 hl (k := 0) rfl rfl (by decide) (by simp only [List.filter, xvcat, xrscat, xcI, xcL, xcR, xcN]; rfl) (fun ls hl => ?_)
          refine lv_goto (tgt := 14) hx hb dM_joined_44 (by decide) ?_
          exact ih (1, (y3 + 1), y1, y2, 0, 0, 0, 0, ws9, wc, wn) _ _ ls (Or.inl ⟨adL, gdL, vadL, rfl, hf, hP, hD, hS, lv_sub hl [0, 1, 2, 3] rfl, hE, hN⟩)
        · rw [if_neg hc] at hf
          refine lv_aload_n hx hb dM_joined_35 rfl (lv_at hl 1 rfl) ?_
          refine lv_iconst (v := 1) hx hb dM_joined_36 (by decide) ?_
          obtain ⟨o6, hq7, hf⟩ := xbind hf
          have hl := lv_sub (l' := [(3, .int y3), (0, .ref aM)]) hl [0, 1] rfl
          by_cases hk8 : o6.1 = 1
          · rw [if_pos hk8] at hf
            obtain ⟨hm9, hf⟩ := xmoE hf
            have hFc := xm_free hD hS hA
            refine xx_thr (vx_runV (C := "ValueBenchModel") (As := [.int 1]) (rest := []) ⟨hx, hb, hml, hown, htx⟩ (gM_refuse_1 l hl9 D cT aK aV H.size n aM adL rd gdL vadL ws9 (1 : Int32) o6 hq7 hk8) ⟨callB_of 1 htx (xw_goodC kw_6_93) rfl rfl rfl (htx _ kw_1_5) (htx _ kw_6_90) ⟨by decide, by decide, by decide +kernel⟩ ⟨Nat.le_of_ble_eq_true rfl, Nat.le_of_ble_eq_true rfl⟩, (htx _ kw_6_92), (htx _ kp_M_refuse)⟩ ⟨xPre_blind, va_recv hK hP (ci := 5) rfl (q0 := 0) rfl, (fun U hU hW => ⟨rfl, xPre_of hZ hS hFc hP hD hK U hU hW⟩)⟩ rfl rfl hl.1 rfl (xm_room (Nat.le_of_ble_eq_true rfl)) dM_joined_37 ⟨hm9.1, hm9.2⟩) hS hFc (fun q _ h => hFc q h) (fun E ce q9 u9 t H1 locs ht hvm hr9 hB hz1 hk1 hS hce hcv hcl => ?_)
            obtain ⟨rfl, hP1, hK1, hD1⟩ := hB
            rw [ht] at hP1
            obtain ⟨ad11, gd12, vad13⟩ := u9
            obtain ⟨hv14, hn15⟩ := hr9
            have hP : va_P D xcl (xMw cT aM ad11 rd gd12 vad13 o6.2.2.2.2 []) H1 := hP1
            have hD : va_D A (xMw cT aM ad11 rd gd12 vad13 o6.2.2.2.2 []) := hD1.weaken (fun k q _ h => hFc q.1 h)
            generalize H1 = H at hP hS hce ⊢
            have hE9 : ∀ p, p < xct st → vad13 p = vad p := fun p h => (hv14 p (Nat.lt_of_lt_of_le h hN)).trans (hE p h)
            have hE := hE9
            have hN : xct st ≤ xct o6.2.2.2.2 := Nat.le_trans hN hn15
            obtain rfl := Option.some.inj hf
            exact vx_out (E := "java/lang/ArithmeticException") (fun x h => (hne x h).elim) hlocks hce hcv hcl (fun t ht ha => ⟨(ad11, gd12, vad13), ⟨hE, hN⟩, ⟨rfl, by rw [ht]; exact hP, va_K.moved ha hK, hD⟩, hS.F ht⟩) hS.2.2 (Nat.le_refl _) (Nat.le_refl _)
          rw [if_neg hk8] at hf
          exact nomatch hf
    · subst hj
      have hf : fM_joined_b d (n + 1) 2 y3 y1 y2 y4 y7 y6 y5 ws9 wc wn = some out := hf
      rw [fM_joined_b, if_neg (by decide), if_pos rfl] at hf
      obtain ⟨hP, hD⟩ : xPD D xcl A (xMw cT aM adL rd gdL vadL ws9 []) H := ⟨hP, hD⟩
      have hl : lv_has ls 8 [(4, .int y4), (3, .int y3), (0, .ref aM), (1, xv vadL y1), (2, xv vadL y2)] := hl
      refine W.eq (g2 := F0 m 55 ls []) rfl ?_
      show W p l e _ s m _ below meth c H locs wc wn _ _
      obtain ⟨hm0, hf⟩ := xmoE hf
      refine lv_iload hx hb dM_joined_55 (lv_at hl 0 rfl) ?_
      refine xm_aload_n hx hb (xvor _ _) dM_joined_57 rfl (lv_at hl 3 rfl) ?_
      obtain ⟨hg1, hf⟩ := xifn hf
      refine xm_vget (v := .int ((xpi ws9 3) (y1 - 1))) hx hb htx hown hK hP 3 (by decide) hg1 rfl ((hZ.1 (103, "count", "I") (List.mem_of_getElem? (i := 3) rfl)).use rfl) rfl dM_joined_58 ?_
      refine lv_icmp_ge (tgt := 179) hx hb dM_joined_61 (by decide) (fun hc => ?_) (fun hc => ?_)
      · rw [if_pos hc] at hf
        refine lv_aload_n hx hb dM_joined_179 rfl (lv_at hl 2 rfl) ?_
        refine lv_iload_n hx hb dM_joined_180 rfl (lv_at hl 1 rfl) ?_
        obtain ⟨o2, hq3, hf⟩ := xbind hf
        have hl := lv_sub (l' := [(4, .int y4), (3, .int y3), (0, .ref aM)]) hl [0, 1, 2] rfl
        by_cases hk4 : o2.1 = 0
        · rw [if_pos hk4] at hf
          obtain ⟨hm5, hf⟩ := xmoE hf
          have hFc := xm_free hD hS hA
          refine va_callq (va_runV (C := "ValueBenchModel") (As := [.int y3]) (rest := []) ⟨hx, hb, hml, hown, htx⟩ (gM_string l hl9 D cT aK aV H.size n aM adL rd gdL vadL ws9 y3 o2 hq3 hk4) ⟨callB_of 1 htx (xw_goodC kw_6_61) rfl rfl rfl (htx _ kw_1_5) (htx _ kw_6_58) ⟨by decide, by decide, by decide +kernel⟩ ⟨Nat.le_of_ble_eq_true rfl, Nat.le_of_ble_eq_true rfl⟩, (htx _ kw_6_60), (htx _ kp_M_string)⟩ ⟨xPre_blind, va_recv hK hP (ci := 5) rfl (q0 := 0) rfl, (fun U hU hW => ⟨rfl, xPre_of hZ hS hFc hP hD hK U hU hW⟩)⟩ rfl rfl hl.1 rfl (xm_room (Nat.le_of_ble_eq_true rfl)) dM_joined_181 ⟨hm5.1, hm5.2⟩) hS (fun q _ h => hFc q h) hFc (fun r6 u9 t H1 locs ht hvm hr9 hB hz1 hk1 hS => ?_)
          obtain ⟨hP1, hK1, hD1⟩ := hB
          rw [ht] at hP1
          obtain ⟨ad7, gd8, vad9⟩ := u9
          obtain ⟨hr9, hv10, hn11⟩ := hr9
          have hP : va_P D xcl (xMw cT aM ad7 rd gd8 vad9 o2.2.2.2.2 []) H1 := hP1
          have hD : va_D A (xMw cT aM ad7 rd gd8 vad9 o2.2.2.2.2 []) := hD1.weaken (fun k q _ h => hFc q.1 h)
          generalize H1 = H at hP hS ⊢
          have hE9 : ∀ p, p < xct st → vad9 p = vad p := fun p h => (hv10 p (Nat.lt_of_lt_of_le h hN)).trans (hE p h)
          have hE := hE9
          have hN : xct st ≤ xct o2.2.2.2.2 := Nat.le_trans hN hn11
          rw [hr9]
          refine W.eq (g2 := F0 m 184 ls [xv vad9 o2.2.2.2.1]) (by first | rfl | (skip; rfl)) ?_
          obtain rfl := Option.some.inj hf
          exact absurd (show (0 : Nat) = 1 from hkd) (by decide)
        rw [if_neg hk4] at hf
        by_cases hk12 : o2.1 = 1
        · rw [if_pos hk12] at hf
          obtain ⟨hm13, hf⟩ := xmoE hf
          obtain rfl := Option.some.inj hf
          exact absurd (show (2 : Nat) = 1 from hkd) (by decide)
        rw [if_neg hk12] at hf
        exact nomatch hf
      · rw [if_neg hc] at hf
        refine lv_aload_n hx hb dM_joined_64 rfl (lv_at hl 2 rfl) ?_
        refine xm_aload_n hx hb (xvor _ _) dM_joined_65 rfl (lv_at hl 3 rfl) ?_
        refine lv_iload hx hb dM_joined_66 (lv_at hl 0 rfl) ?_
        obtain ⟨o2, hq3, hf⟩ := xbind hf
        have hFc := xm_free hD hS hA
        refine va_callq (va_runV (C := "ValueBenchModel") (As := [xv vadL y1, .int y4]) (rest := []) ⟨hx, hb, hml, hown, htx⟩ (gM_kid l hl9 D cT aK aV H.size n aM adL rd gdL vadL ws9 y1 y4 o2 hq3) ⟨callB_of 2 htx (xw_goodC kw_6_158) rfl rfl rfl (htx _ kw_1_5) (htx _ kw_6_155) ⟨by decide, by decide, by decide +kernel⟩ ⟨Nat.le_of_ble_eq_true rfl, Nat.le_of_ble_eq_true rfl⟩, (htx _ kw_6_157), (htx _ kp_M_kid)⟩ ⟨xPre_blind, va_recv hK hP (ci := 5) rfl (q0 := 0) rfl, (fun U hU hW => ⟨rfl, xPre_of hZ hS hFc hP hD hK U hU hW⟩)⟩ rfl rfl hl.1 rfl (xm_room (Nat.le_of_ble_eq_true rfl)) dM_joined_68 ⟨hm0.1, hm0.2⟩) hS (fun q _ h => hFc q h) hFc (fun r4 u9 t H1 locs ht hvm hr9 hB hz1 hk1 hS => ?_)
        obtain ⟨hP1, hK1, hD1⟩ := hB
        rw [ht] at hP1
        have hP : va_P D xcl (xMw cT aM adL rd gdL vadL ws9 []) H1 := hP1
        have hD : va_D A (xMw cT aM adL rd gdL vadL ws9 []) := hD1.weaken (fun k q _ h => hFc q.1 h)
        generalize H1 = H at hP hS ⊢
        rw [hr9]
        refine W.eq (g2 := F0 m 71 ls [xv vadL o2]) (by first | rfl | (skip; rfl)) ?_
        refine xm_astore (lv' := [(5, xv vadL o2), (4, .int y4), (3, .int y3), (0, .ref aM), (1, xv vadL y1), (2, xv vadL y2)]) hx hb (xvor _ _) dM_joined_71 hl (by decide) rfl (fun ls hl => ?_)
        refine lv_iload hx hb dM_joined_73 (lv_at hl 1 rfl) ?_
        refine lv_if_le (tgt := 83) hx hb dM_joined_75 (by decide) (fun hc => ?_) (fun hc => ?_)
        · rw [if_pos hc] at hf
          refine xm_aload hx hb (xvor _ _) dM_joined_83 (lv_at hl 0 rfl) ?_
          obtain ⟨hg5, hf⟩ := xifn hf
          refine xm_vget (v := .int ((xpi ws9 0) (o2 - 1))) hx hb htx hown hK hP 0 (by decide) hg5 rfl ((hZ.1 (93, "kind", "I") (List.mem_of_getElem? (i := 0) rfl)).use rfl) rfl dM_joined_85 ?_
          refine lv_iconst (v := 4) hx hb dM_joined_88 (by decide) ?_
          refine lv_icmp_ne (tgt := 101) hx hb dM_joined_89 (by decide) (fun hc => ?_) (fun hc => ?_)
          · rw [if_neg hc] at hf
            refine xm_aload hx hb (xvor _ _) dM_joined_101 (lv_at hl 0 rfl) ?_
            refine xm_vget (v := .int ((xpi ws9 0) (o2 - 1))) hx hb htx hown hK hP 0 (by decide) hg5 rfl ((hZ.1 (93, "kind", "I") (List.mem_of_getElem? (i := 0) rfl)).use rfl) rfl dM_joined_103 ?_
            refine lv_if_eq (tgt := 157) hx hb dM_joined_106 (by decide) (fun hc => ?_) (fun hc => ?_)
            · rw [if_pos hc] at hf
              refine lv_aload_n hx hb dM_joined_157 rfl (lv_at hl 3 rfl) ?_
              refine xm_get (v := .int (xsi ws9 4)) hx hb htx hown hK hP 4 (by decide) rfl (htx _ kw_5_91) rfl dM_joined_158 ?_
              refine lv_iload_n hx hb dM_joined_161 rfl (lv_at hl 2 rfl) ?_
              refine lv_isub hx hb dM_joined_162 ?_
              refine lv_ldc hx hb hown (htx _ kw_6_62) dM_joined_163 ?_
              refine lv_icmp_le (tgt := 173) hx hb dM_joined_165 (by decide) (fun hc => ?_) (fun hc => ?_)
              · rw [if_pos hc] at hf
                refine lv_iinc (v := (y4 + 1)) (lv' := [(4, .int (y4 + 1)), (5, xv vadL o2), (3, .int y3), (0, .ref aM), (1, xv vadL y1), (2, xv vadL y2)]) hx hb dM_joined_173 hl (k := 1) rfl rfl (by decide) rfl (fun ls hl => ?_)
                refine lv_goto (tgt := 55) hx hb dM_joined_176 (by decide) ?_
                exact ih (2, y3, y1, y2, (y4 + 1), 0, 0, o2, ws9, wc, wn) _ _ ls (Or.inr (Or.inl ⟨adL, gdL, vadL, rfl, hf, hP, hD, hS, lv_sub hl [0, 2, 3, 4, 5] rfl, hE, hN⟩))
              · rw [if_neg hc] at hf
                refine lv_aload_n hx hb dM_joined_168 rfl (lv_at hl 3 rfl) ?_
                obtain ⟨o6, hq7, hf⟩ := xbind hf
                have hl := lv_sub (l' := [(4, .int y4), (3, .int y3), (0, .ref aM)]) hl [1, 2, 3] rfl
                by_cases hk8 : o6.1 = 1
                · rw [if_pos hk8] at hf
                  obtain ⟨hm9, hf⟩ := xmoE hf
                  obtain rfl := Option.some.inj hf
                  exact absurd (show (2 : Nat) = 1 from hkd) (by decide)
                rw [if_neg hk8] at hf
                exact nomatch hf
            · rw [if_neg hc] at hf
              refine lv_aload_n hx hb dM_joined_109 rfl (lv_at hl 3 rfl) ?_
              refine xm_get (v := .int (xsi ws9 22)) hx hb htx hown hK hP 22 (by decide) rfl (htx _ kw_5_109) rfl dM_joined_110 ?_
              refine lv_istore (lv' := [(6, .int (xsi ws9 22)), (5, xv vadL o2), (4, .int y4), (3, .int y3), (0, .ref aM), (1, xv vadL y1), (2, xv vadL y2)]) hx hb dM_joined_113 hl (by decide) (by simp only [List.filter, xvcat, xrscat, xcI, xcL, xcR, xcN]; rfl) (fun ls hl => ?_)
              refine lv_aload_n hx hb dM_joined_115 rfl (lv_at hl 4 rfl) ?_
              refine xm_aload hx hb (xvor _ _) dM_joined_116 (lv_at hl 1 rfl) ?_
              obtain ⟨o6, hq7, hf⟩ := xbind hf
              by_cases hk8 : o6.1 = 0
              · rw [if_pos hk8] at hf
                obtain ⟨hg9, hf⟩ := xifn hf
                obtain ⟨hm10, hf⟩ := xmoE hf
                have hFc := xm_free hD hS hA
                refine va_callv (va_runV (C := "ValueBenchModel") (As := [xv vadL o2]) (rest := []) ⟨hx, hb, hml, hown, htx⟩ ((gM_print1 l hl9 D cT aK aV d H.size n aM adL rd gdL vadL ws9 o2 o6 hq7).1 hk8) ⟨callB_of 1 htx (xw_goodC kw_6_128) rfl rfl rfl (htx _ kw_1_5) (htx _ kw_6_125) ⟨by decide, by decide, by decide +kernel⟩ ⟨(by show (16 * d) + 1 ≤ 16 * d + 8; omega), (by show 8 + (3 + 11) + (400 * d) ≤ 400 * d + 142; omega)⟩, (htx _ kw_6_127), (htx _ kp_M_print1)⟩ ⟨xPre_blind, va_recv hK hP (ci := 5) rfl (q0 := 0) rfl, (fun U hU hW => ⟨rfl, xPre_of hZ hS hFc hP hD hK U hU hW⟩)⟩ rfl rfl hl.1 rfl (xm_room (Nat.le_of_ble_eq_true rfl)) dM_joined_118 ⟨hm10.1, hm10.2⟩) hS (fun q _ h => hFc q h) hFc (fun u9 t H1 locs ht hvm hr9 hB hz1 hk1 hS => ?_)
                obtain ⟨hP1, hK1, hD1⟩ := hB
                rw [ht] at hP1
                obtain ⟨ad12, gd13, vad14⟩ := u9
                obtain ⟨hv15, hn16⟩ := hr9
                have hP : va_P D xcl (xMw cT aM ad12 rd gd13 vad14 o6.2.2.2 []) H1 := hP1
                have hD : va_D A (xMw cT aM ad12 rd gd13 vad14 o6.2.2.2 []) := hD1.weaken (fun k q _ h => hFc q.1 h)
                generalize H1 = H at hP hS ⊢
                have hE9 : ∀ p, p < xct st → vad14 p = vad p := fun p h => (hv15 p (Nat.lt_of_lt_of_le h hN)).trans (hE p h)
                have hE := hE9
                have hN : xct st ≤ xct o6.2.2.2 := Nat.le_trans hN hn16
                have ev17 : xv vadL o2 = xv vad14 o2 := xvE hv15 (fun h => hg5 (Or.inr h))
                have ev18 : xv vadL y1 = xv vad14 y1 := xvE hv15 (fun h => hg1 (Or.inr h))
                have ev19 : xv vadL y2 = xv vad14 y2 := xvE hv15 hg9
                have hl : lv_has ls 8 [(6, .int (xsi ws9 22)), (5, xv vad14 o2), (4, .int y4), (3, .int y3), (0, .ref aM), (1, xv vad14 y1), (2, xv vad14 y2)] := by first | exact hl | ((try (rw [← ev17])); (try (rw [← ev18])); (try (rw [← ev19])); exact hl)
                refine W.eq (g2 := F0 m 121 ls []) (by first | rfl | ((try (rw [ev17])); (try (rw [ev18])); (try (rw [ev19])); rfl)) ?_
                refine lv_iload hx hb dM_joined_121 (lv_at hl 0 rfl) ?_
                refine lv_istore (lv' := [(7, .int (xsi ws9 22)), (6, .int (xsi ws9 22)), (5, xv vad14 o2), (4, .int y4), (3, .int y3), (0, .ref aM), (1, xv vad14 y1), (2, xv vad14 y2)]) hx hb dM_joined_123 hl (by decide) rfl (fun ls hl => ?_)
                exact ih (3, y3, y1, y2, y4, (xsi ws9 22), (xsi ws9 22), o2, o6.2.2.2, (wc + o6.2.1), (wn + o6.2.2.1)) _ _ ls (Or.inr (Or.inr (⟨ad12, gd13, vad14, rfl, hf, hP, hD, hS, lv_sub hl [0, 1, 2, 3, 4, 5, 6, 7] rfl, hE, hN⟩)))
              rw [if_neg hk8] at hf
              by_cases hk20 : o6.1 = 1
              · rw [if_pos hk20] at hf
                obtain ⟨hg21, hf⟩ := xifn hf
                obtain ⟨hm22, hf⟩ := xmoE hf
                obtain rfl := Option.some.inj hf
                exact absurd (show (2 : Nat) = 1 from hkd) (by decide)
              rw [if_neg hk20] at hf
              exact nomatch hf
          · rw [if_pos hc] at hf
            refine lv_aload_n hx hb dM_joined_92 rfl (lv_at hl 3 rfl) ?_
            refine xm_aload hx hb (xvor _ _) dM_joined_93 (lv_at hl 0 rfl) ?_
            obtain ⟨o6, hq7, hf⟩ := xbind hf
            obtain ⟨hg8, hf⟩ := xifn hf
            obtain ⟨hm9, hf⟩ := xmoE hf
            have hFc := xm_free hD hS hA
            refine va_callv (va_runV (C := "ValueBenchModel") (As := [xv vadL o2]) (rest := []) ⟨hx, hb, hml, hown, htx⟩ (gM_letters l hl9 D cT aK aV H.size n aM adL rd gdL vadL ws9 o2 o6 hq7) ⟨callB_of 1 htx (xw_goodC kw_6_207) rfl rfl rfl (htx _ kw_1_5) (htx _ kw_6_204) ⟨by decide, by decide, by decide +kernel⟩ ⟨Nat.le_of_ble_eq_true rfl, Nat.le_of_ble_eq_true rfl⟩, (htx _ kw_6_206), (htx _ kp_M_letters)⟩ ⟨xPre_blind, va_recv hK hP (ci := 5) rfl (q0 := 0) rfl, (fun U hU hW => ⟨rfl, xPre_of hZ hS hFc hP hD hK U hU hW⟩)⟩ rfl rfl hl.1 rfl (xm_room (Nat.le_of_ble_eq_true rfl)) dM_joined_95 ⟨hm9.1, hm9.2⟩) hS (fun q _ h => hFc q h) hFc (fun u9 t H1 locs ht hvm hr9 hB hz1 hk1 hS => ?_)
            obtain ⟨hP1, hK1, hD1⟩ := hB
            rw [ht] at hP1
            obtain ⟨ad11, gd12, vad13⟩ := u9
            obtain ⟨hv14, hn15⟩ := hr9
            have hP : va_P D xcl (xMw cT aM ad11 rd gd12 vad13 o6.2.2 []) H1 := hP1
            have hD : va_D A (xMw cT aM ad11 rd gd12 vad13 o6.2.2 []) := hD1.weaken (fun k q _ h => hFc q.1 h)
            generalize H1 = H at hP hS ⊢
            have hE9 : ∀ p, p < xct st → vad13 p = vad p := fun p h => (hv14 p (Nat.lt_of_lt_of_le h hN)).trans (hE p h)
            have hE := hE9
            have hN : xct st ≤ xct o6.2.2 := Nat.le_trans hN hn15
            have ev16 : xv vadL o2 = xv vad13 o2 := xvE hv14 (fun h => hg5 (Or.inr h))
            have ev17 : xv vadL y1 = xv vad13 y1 := xvE hv14 (fun h => hg1 (Or.inr h))
            have ev18 : xv vadL y2 = xv vad13 y2 := xvE hv14 hg8
            have hl : lv_has ls 8 [(5, xv vad13 o2), (4, .int y4), (3, .int y3), (0, .ref aM), (1, xv vad13 y1), (2, xv vad13 y2)] := by first | exact hl | ((try (rw [← ev16])); (try (rw [← ev17])); (try (rw [← ev18])); exact hl)
            refine W.eq (g2 := F0 m 98 ls []) (by first | rfl | ((try (rw [ev16])); (try (rw [ev17])); (try (rw [ev18])); rfl)) ?_
            refine lv_goto (tgt := 157) hx hb dM_joined_98 (by decide) ?_
            refine lv_aload_n hx hb dM_joined_157 rfl (lv_at hl 3 rfl) ?_
            refine xm_get (v := .int (xsi o6.2.2 4)) hx hb htx hown hK hP 4 (by decide) rfl (htx _ kw_5_91) rfl dM_joined_158 ?_
            refine lv_iload_n hx hb dM_joined_161 rfl (lv_at hl 2 rfl) ?_
            refine lv_isub hx hb dM_joined_162 ?_
            refine lv_ldc hx hb hown (htx _ kw_6_62) dM_joined_163 ?_
            refine lv_icmp_le (tgt := 173) hx hb dM_joined_165 (by decide) (fun hc => ?_) (fun hc => ?_)
            · rw [if_pos hc] at hf
              refine lv_iinc (v := (y4 + 1)) (lv' := [(4, .int (y4 + 1)), (5, xv vad13 o2), (3, .int y3), (0, .ref aM), (1, xv vad13 y1), (2, xv vad13 y2)]) hx hb dM_joined_173 hl (k := 1) rfl rfl (by decide) rfl (fun ls hl => ?_)
              refine lv_goto (tgt := 55) hx hb dM_joined_176 (by decide) ?_
              exact ih (2, y3, y1, y2, (y4 + 1), 0, 0, o2, o6.2.2, (wc + o6.1), (wn + o6.2.1)) _ _ ls (Or.inr (Or.inl ⟨ad11, gd12, vad13, rfl, hf, hP, hD, hS, lv_sub hl [0, 2, 3, 4, 5] rfl, hE, hN⟩))
            · rw [if_neg hc] at hf
              refine lv_aload_n hx hb dM_joined_168 rfl (lv_at hl 3 rfl) ?_
              obtain ⟨o19, hq20, hf⟩ := xbind hf
              have hl := lv_sub (l' := [(4, .int y4), (3, .int y3), (0, .ref aM)]) hl [1, 2, 3] rfl
              by_cases hk21 : o19.1 = 1
              · rw [if_pos hk21] at hf
                obtain ⟨hm22, hf⟩ := xmoE hf
                obtain rfl := Option.some.inj hf
                exact absurd (show (2 : Nat) = 1 from hkd) (by decide)
              rw [if_neg hk21] at hf
              exact nomatch hf
        · rw [if_neg hc] at hf
          refine lv_aload_n hx hb dM_joined_78 rfl (lv_at hl 3 rfl) ?_
          refine xm_aload_n hx hb (xvor _ _) dM_joined_79 rfl (lv_at hl 5 rfl) ?_
          obtain ⟨o5, hq6, hf⟩ := xbind hf
          obtain ⟨hg7, hf⟩ := xifn hf
          obtain ⟨hg8, hf⟩ := xifn hf
          obtain ⟨hm9, hf⟩ := xmoE hf
          have hFc := xm_free hD hS hA
          refine va_callv (va_runV (C := "ValueBenchModel") (As := [xv vadL y2]) (rest := []) ⟨hx, hb, hml, hown, htx⟩ (gM_letters l hl9 D cT aK aV H.size n aM adL rd gdL vadL ws9 y2 o5 hq6) ⟨callB_of 1 htx (xw_goodC kw_6_207) rfl rfl rfl (htx _ kw_1_5) (htx _ kw_6_204) ⟨by decide, by decide, by decide +kernel⟩ ⟨Nat.le_of_ble_eq_true rfl, Nat.le_of_ble_eq_true rfl⟩, (htx _ kw_6_206), (htx _ kp_M_letters)⟩ ⟨xPre_blind, va_recv hK hP (ci := 5) rfl (q0 := 0) rfl, (fun U hU hW => ⟨rfl, xPre_of hZ hS hFc hP hD hK U hU hW⟩)⟩ rfl rfl hl.1 rfl (xm_room (Nat.le_of_ble_eq_true rfl)) dM_joined_80 ⟨hm9.1, hm9.2⟩) hS (fun q _ h => hFc q h) hFc (fun u9 t H1 locs ht hvm hr9 hB hz1 hk1 hS => ?_)
          obtain ⟨hP1, hK1, hD1⟩ := hB
          rw [ht] at hP1
          obtain ⟨ad11, gd12, vad13⟩ := u9
          obtain ⟨hv14, hn15⟩ := hr9
          have hP : va_P D xcl (xMw cT aM ad11 rd gd12 vad13 o5.2.2 []) H1 := hP1
          have hD : va_D A (xMw cT aM ad11 rd gd12 vad13 o5.2.2 []) := hD1.weaken (fun k q _ h => hFc q.1 h)
          generalize H1 = H at hP hS ⊢
          have hE9 : ∀ p, p < xct st → vad13 p = vad p := fun p h => (hv14 p (Nat.lt_of_lt_of_le h hN)).trans (hE p h)
          have hE := hE9
          have hN : xct st ≤ xct o5.2.2 := Nat.le_trans hN hn15
          have ev16 : xv vadL o2 = xv vad13 o2 := xvE hv14 hg7
          have ev17 : xv vadL y1 = xv vad13 y1 := xvE hv14 (fun h => hg1 (Or.inr h))
          have ev18 : xv vadL y2 = xv vad13 y2 := xvE hv14 hg8
          have hl : lv_has ls 8 [(5, xv vad13 o2), (4, .int y4), (3, .int y3), (0, .ref aM), (1, xv vad13 y1), (2, xv vad13 y2)] := by first | exact hl | ((try (rw [← ev16])); (try (rw [← ev17])); (try (rw [← ev18])); exact hl)
          refine W.eq (g2 := F0 m 83 ls []) (by first | rfl | ((try (rw [ev16])); (try (rw [ev17])); (try (rw [ev18])); rfl)) ?_
          refine xm_aload hx hb (xvor _ _) dM_joined_83 (lv_at hl 0 rfl) ?_
          obtain ⟨hg19, hf⟩ := xifn hf
          refine xm_vget (v := .int ((xpi o5.2.2 0) (o2 - 1))) hx hb htx hown hK hP 0 (by decide) hg19 rfl ((hZ.1 (93, "kind", "I") (List.mem_of_getElem? (i := 0) rfl)).use rfl) rfl dM_joined_85 ?_
          refine lv_iconst (v := 4) hx hb dM_joined_88 (by decide) ?_
          refine lv_icmp_ne (tgt := 101) hx hb dM_joined_89 (by decide) (fun hc => ?_) (fun hc => ?_)
          · rw [if_neg hc] at hf
            refine xm_aload hx hb (xvor _ _) dM_joined_101 (lv_at hl 0 rfl) ?_
            refine xm_vget (v := .int ((xpi o5.2.2 0) (o2 - 1))) hx hb htx hown hK hP 0 (by decide) hg19 rfl ((hZ.1 (93, "kind", "I") (List.mem_of_getElem? (i := 0) rfl)).use rfl) rfl dM_joined_103 ?_
            refine lv_if_eq (tgt := 157) hx hb dM_joined_106 (by decide) (fun hc => ?_) (fun hc => ?_)
            · rw [if_pos hc] at hf
              refine lv_aload_n hx hb dM_joined_157 rfl (lv_at hl 3 rfl) ?_
              refine xm_get (v := .int (xsi o5.2.2 4)) hx hb htx hown hK hP 4 (by decide) rfl (htx _ kw_5_91) rfl dM_joined_158 ?_
              refine lv_iload_n hx hb dM_joined_161 rfl (lv_at hl 2 rfl) ?_
              refine lv_isub hx hb dM_joined_162 ?_
              refine lv_ldc hx hb hown (htx _ kw_6_62) dM_joined_163 ?_
              refine lv_icmp_le (tgt := 173) hx hb dM_joined_165 (by decide) (fun hc => ?_) (fun hc => ?_)
              · rw [if_pos hc] at hf
                refine lv_iinc (v := (y4 + 1)) (lv' := [(4, .int (y4 + 1)), (5, xv vad13 o2), (3, .int y3), (0, .ref aM), (1, xv vad13 y1), (2, xv vad13 y2)]) hx hb dM_joined_173 hl (k := 1) rfl rfl (by decide) rfl (fun ls hl => ?_)
                refine lv_goto (tgt := 55) hx hb dM_joined_176 (by decide) ?_
                exact ih (2, y3, y1, y2, (y4 + 1), 0, 0, o2, o5.2.2, (wc + o5.1), (wn + o5.2.1)) _ _ ls (Or.inr (Or.inl ⟨ad11, gd12, vad13, rfl, hf, hP, hD, hS, lv_sub hl [0, 2, 3, 4, 5] rfl, hE, hN⟩))
              · rw [if_neg hc] at hf
                refine lv_aload_n hx hb dM_joined_168 rfl (lv_at hl 3 rfl) ?_
                obtain ⟨o20, hq21, hf⟩ := xbind hf
                have hl := lv_sub (l' := [(4, .int y4), (3, .int y3), (0, .ref aM)]) hl [1, 2, 3] rfl
                by_cases hk22 : o20.1 = 1
                · rw [if_pos hk22] at hf
                  obtain ⟨hm23, hf⟩ := xmoE hf
                  obtain rfl := Option.some.inj hf
                  exact absurd (show (2 : Nat) = 1 from hkd) (by decide)
                rw [if_neg hk22] at hf
                exact nomatch hf
            · rw [if_neg hc] at hf
              refine lv_aload_n hx hb dM_joined_109 rfl (lv_at hl 3 rfl) ?_
              refine xm_get (v := .int (xsi o5.2.2 22)) hx hb htx hown hK hP 22 (by decide) rfl (htx _ kw_5_109) rfl dM_joined_110 ?_
              refine lv_istore (lv' := [(6, .int (xsi o5.2.2 22)), (5, xv vad13 o2), (4, .int y4), (3, .int y3), (0, .ref aM), (1, xv vad13 y1), (2, xv vad13 y2)]) hx hb dM_joined_113 hl (by decide) (by simp only [List.filter, xvcat, xrscat, xcI, xcL, xcR, xcN]; rfl) (fun ls hl => ?_)
              refine lv_aload_n hx hb dM_joined_115 rfl (lv_at hl 4 rfl) ?_
              refine xm_aload hx hb (xvor _ _) dM_joined_116 (lv_at hl 1 rfl) ?_
              obtain ⟨o20, hq21, hf⟩ := xbind hf
              by_cases hk22 : o20.1 = 0
              · rw [if_pos hk22] at hf
                obtain ⟨hg23, hf⟩ := xifn hf
                obtain ⟨hg24, hf⟩ := xifn hf
                obtain ⟨hm25, hf⟩ := xmoE hf
                have hFc := xm_free hD hS hA
                refine va_callv (va_runV (C := "ValueBenchModel") (As := [xv vad13 o2]) (rest := []) ⟨hx, hb, hml, hown, htx⟩ ((gM_print1 l hl9 D cT aK aV d H.size n aM ad11 rd gd12 vad13 o5.2.2 o2 o20 hq21).1 hk22) ⟨callB_of 1 htx (xw_goodC kw_6_128) rfl rfl rfl (htx _ kw_1_5) (htx _ kw_6_125) ⟨by decide, by decide, by decide +kernel⟩ ⟨(by show (16 * d) + 1 ≤ 16 * d + 8; omega), (by show 8 + (3 + 11) + (400 * d) ≤ 400 * d + 142; omega)⟩, (htx _ kw_6_127), (htx _ kp_M_print1)⟩ ⟨xPre_blind, va_recv hK hP (ci := 5) rfl (q0 := 0) rfl, (fun U hU hW => ⟨rfl, xPre_of hZ hS hFc hP hD hK U hU hW⟩)⟩ rfl rfl hl.1 rfl (xm_room (Nat.le_of_ble_eq_true rfl)) dM_joined_118 ⟨hm25.1, hm25.2⟩) hS (fun q _ h => hFc q h) hFc (fun u9 t H1 locs ht hvm hr9 hB hz1 hk1 hS => ?_)
                obtain ⟨hP1, hK1, hD1⟩ := hB
                rw [ht] at hP1
                obtain ⟨ad27, gd28, vad29⟩ := u9
                obtain ⟨hv30, hn31⟩ := hr9
                have hP : va_P D xcl (xMw cT aM ad27 rd gd28 vad29 o20.2.2.2 []) H1 := hP1
                have hD : va_D A (xMw cT aM ad27 rd gd28 vad29 o20.2.2.2 []) := hD1.weaken (fun k q _ h => hFc q.1 h)
                generalize H1 = H at hP hS ⊢
                have hE9 : ∀ p, p < xct st → vad29 p = vad p := fun p h => (hv30 p (Nat.lt_of_lt_of_le h hN)).trans (hE p h)
                have hE := hE9
                have hN : xct st ≤ xct o20.2.2.2 := Nat.le_trans hN hn31
                have ev32 : xv vad13 o2 = xv vad29 o2 := xvE hv30 (fun h => hg19 (Or.inr h))
                have ev33 : xv vad13 y1 = xv vad29 y1 := xvE hv30 hg23
                have ev34 : xv vad13 y2 = xv vad29 y2 := xvE hv30 hg24
                have hl : lv_has ls 8 [(6, .int (xsi o5.2.2 22)), (5, xv vad29 o2), (4, .int y4), (3, .int y3), (0, .ref aM), (1, xv vad29 y1), (2, xv vad29 y2)] := by first | exact hl | ((try (rw [← ev32])); (try (rw [← ev33])); (try (rw [← ev34])); exact hl)
                refine W.eq (g2 := F0 m 121 ls []) (by first | rfl | ((try (rw [ev32])); (try (rw [ev33])); (try (rw [ev34])); rfl)) ?_
                refine lv_iload hx hb dM_joined_121 (lv_at hl 0 rfl) ?_
                refine lv_istore (lv' := [(7, .int (xsi o5.2.2 22)), (6, .int (xsi o5.2.2 22)), (5, xv vad29 o2), (4, .int y4), (3, .int y3), (0, .ref aM), (1, xv vad29 y1), (2, xv vad29 y2)]) hx hb dM_joined_123 hl (by decide) rfl (fun ls hl => ?_)
                exact ih (3, y3, y1, y2, y4, (xsi o5.2.2 22), (xsi o5.2.2 22), o2, o20.2.2.2, ((wc + o5.1) + o20.2.1), ((wn + o5.2.1) + o20.2.2.1)) _ _ ls (Or.inr (Or.inr (⟨ad27, gd28, vad29, rfl, hf, hP, hD, hS, lv_sub hl [0, 1, 2, 3, 4, 5, 6, 7] rfl, hE, hN⟩)))
              rw [if_neg hk22] at hf
              by_cases hk35 : o20.1 = 1
              · rw [if_pos hk35] at hf
                obtain ⟨hg36, hf⟩ := xifn hf
                obtain ⟨hg37, hf⟩ := xifn hf
                obtain ⟨hm38, hf⟩ := xmoE hf
                obtain rfl := Option.some.inj hf
                exact absurd (show (2 : Nat) = 1 from hkd) (by decide)
              rw [if_neg hk35] at hf
              exact nomatch hf
          · rw [if_pos hc] at hf
            refine lv_aload_n hx hb dM_joined_92 rfl (lv_at hl 3 rfl) ?_
            refine xm_aload hx hb (xvor _ _) dM_joined_93 (lv_at hl 0 rfl) ?_
            obtain ⟨o20, hq21, hf⟩ := xbind hf
            obtain ⟨hg22, hf⟩ := xifn hf
            obtain ⟨hg23, hf⟩ := xifn hf
            obtain ⟨hm24, hf⟩ := xmoE hf
            have hFc := xm_free hD hS hA
            refine va_callv (va_runV (C := "ValueBenchModel") (As := [xv vad13 o2]) (rest := []) ⟨hx, hb, hml, hown, htx⟩ (gM_letters l hl9 D cT aK aV H.size n aM ad11 rd gd12 vad13 o5.2.2 o2 o20 hq21) ⟨callB_of 1 htx (xw_goodC kw_6_207) rfl rfl rfl (htx _ kw_1_5) (htx _ kw_6_204) ⟨by decide, by decide, by decide +kernel⟩ ⟨Nat.le_of_ble_eq_true rfl, Nat.le_of_ble_eq_true rfl⟩, (htx _ kw_6_206), (htx _ kp_M_letters)⟩ ⟨xPre_blind, va_recv hK hP (ci := 5) rfl (q0 := 0) rfl, (fun U hU hW => ⟨rfl, xPre_of hZ hS hFc hP hD hK U hU hW⟩)⟩ rfl rfl hl.1 rfl (xm_room (Nat.le_of_ble_eq_true rfl)) dM_joined_95 ⟨hm24.1, hm24.2⟩) hS (fun q _ h => hFc q h) hFc (fun u9 t H1 locs ht hvm hr9 hB hz1 hk1 hS => ?_)
            obtain ⟨hP1, hK1, hD1⟩ := hB
            rw [ht] at hP1
            obtain ⟨ad26, gd27, vad28⟩ := u9
            obtain ⟨hv29, hn30⟩ := hr9
            have hP : va_P D xcl (xMw cT aM ad26 rd gd27 vad28 o20.2.2 []) H1 := hP1
            have hD : va_D A (xMw cT aM ad26 rd gd27 vad28 o20.2.2 []) := hD1.weaken (fun k q _ h => hFc q.1 h)
            generalize H1 = H at hP hS ⊢
            have hE9 : ∀ p, p < xct st → vad28 p = vad p := fun p h => (hv29 p (Nat.lt_of_lt_of_le h hN)).trans (hE p h)
            have hE := hE9
            have hN : xct st ≤ xct o20.2.2 := Nat.le_trans hN hn30
            have ev31 : xv vad13 o2 = xv vad28 o2 := xvE hv29 (fun h => hg19 (Or.inr h))
            have ev32 : xv vad13 y1 = xv vad28 y1 := xvE hv29 hg22
            have ev33 : xv vad13 y2 = xv vad28 y2 := xvE hv29 hg23
            have hl : lv_has ls 8 [(5, xv vad28 o2), (4, .int y4), (3, .int y3), (0, .ref aM), (1, xv vad28 y1), (2, xv vad28 y2)] := by first | exact hl | ((try (rw [← ev31])); (try (rw [← ev32])); (try (rw [← ev33])); exact hl)
            refine W.eq (g2 := F0 m 98 ls []) (by first | rfl | ((try (rw [ev31])); (try (rw [ev32])); (try (rw [ev33])); rfl)) ?_
            refine lv_goto (tgt := 157) hx hb dM_joined_98 (by decide) ?_
            refine lv_aload_n hx hb dM_joined_157 rfl (lv_at hl 3 rfl) ?_
            refine xm_get (v := .int (xsi o20.2.2 4)) hx hb htx hown hK hP 4 (by decide) rfl (htx _ kw_5_91) rfl dM_joined_158 ?_
            refine lv_iload_n hx hb dM_joined_161 rfl (lv_at hl 2 rfl) ?_
            refine lv_isub hx hb dM_joined_162 ?_
            refine lv_ldc hx hb hown (htx _ kw_6_62) dM_joined_163 ?_
            refine lv_icmp_le (tgt := 173) hx hb dM_joined_165 (by decide) (fun hc => ?_) (fun hc => ?_)
            · rw [if_pos hc] at hf
              refine lv_iinc (v := (y4 + 1)) (lv' := [(4, .int (y4 + 1)), (5, xv vad28 o2), (3, .int y3), (0, .ref aM), (1, xv vad28 y1), (2, xv vad28 y2)]) hx hb dM_joined_173 hl (k := 1) rfl rfl (by decide) rfl (fun ls hl => ?_)
              refine lv_goto (tgt := 55) hx hb dM_joined_176 (by decide) ?_
              exact ih (2, y3, y1, y2, (y4 + 1), 0, 0, o2, o20.2.2, ((wc + o5.1) + o20.1), ((wn + o5.2.1) + o20.2.1)) _ _ ls (Or.inr (Or.inl ⟨ad26, gd27, vad28, rfl, hf, hP, hD, hS, lv_sub hl [0, 2, 3, 4, 5] rfl, hE, hN⟩))
            · rw [if_neg hc] at hf
              refine lv_aload_n hx hb dM_joined_168 rfl (lv_at hl 3 rfl) ?_
              obtain ⟨o34, hq35, hf⟩ := xbind hf
              have hl := lv_sub (l' := [(4, .int y4), (3, .int y3), (0, .ref aM)]) hl [1, 2, 3] rfl
              by_cases hk36 : o34.1 = 1
              · rw [if_pos hk36] at hf
                obtain ⟨hm37, hf⟩ := xmoE hf
                obtain rfl := Option.some.inj hf
                exact absurd (show (2 : Nat) = 1 from hkd) (by decide)
              rw [if_neg hk36] at hf
              exact nomatch hf
    · subst hj
      have hf : fM_joined_b d (n + 1) 3 y3 y1 y2 y4 y7 y6 y5 ws9 wc wn = some out := hf
      rw [fM_joined_b, if_neg (by decide), if_neg (by decide)] at hf
      obtain ⟨hP, hD⟩ : xPD D xcl A (xMw cT aM adL rd gdL vadL ws9 []) H := ⟨hP, hD⟩
      have hl : lv_has ls 8 [(7, .int y7), (6, .int y6), (5, xv vadL y5), (4, .int y4), (3, .int y3), (0, .ref aM), (1, xv vadL y1), (2, xv vadL y2)] := hl
      refine W.eq (g2 := F0 m 125 ls []) rfl ?_
      show W p l e _ s m _ below meth c H locs wc wn _ _
      obtain ⟨hm0, hf⟩ := xmoE hf
      refine lv_iload hx hb dM_joined_125 (lv_at hl 0 rfl) ?_
      refine lv_aload_n hx hb dM_joined_127 rfl (lv_at hl 5 rfl) ?_
      refine xm_get (v := .int (xsi ws9 22)) hx hb htx hown hK hP 22 (by decide) rfl (htx _ kw_5_109) rfl dM_joined_128 ?_
      refine lv_icmp_ge (tgt := 151) hx hb dM_joined_131 (by decide) (fun hc => ?_) (fun hc => ?_)
      · rw [if_pos hc] at hf
        refine lv_aload_n hx hb dM_joined_151 rfl (lv_at hl 5 rfl) ?_
        refine lv_iload hx hb dM_joined_152 (lv_at hl 1 rfl) ?_
        refine xm_put (v := .int y6) (W' := (xMw cT aM adL rd gdL vadL (xsI ws9 22 y6) [])) (ty := .int) hx hb htx hown hK hP hD hS 22 (by decide) rfl (htx _ kw_5_109) rfl rfl (by decide +kernel) rfl rfl dM_joined_154 (fun H locs hP hD hS => ?_)
        refine lv_aload_n hx hb dM_joined_157 rfl (lv_at hl 5 rfl) ?_
        refine xm_get (v := .int (xsi ws9 4)) hx hb htx hown hK hP 4 (by decide) rfl (htx _ kw_5_91) rfl dM_joined_158 ?_
        refine lv_iload_n hx hb dM_joined_161 rfl (lv_at hl 4 rfl) ?_
        refine lv_isub hx hb dM_joined_162 ?_
        refine lv_ldc hx hb hown (htx _ kw_6_62) dM_joined_163 ?_
        refine lv_icmp_le (tgt := 173) hx hb dM_joined_165 (by decide) (fun hc => ?_) (fun hc => ?_)
        · rw [if_pos hc] at hf
          refine lv_iinc (v := (y4 + 1)) (lv' := [(4, .int (y4 + 1)), (7, .int y7), (6, .int y6), (5, xv vadL y5), (3, .int y3), (0, .ref aM), (1, xv vadL y1), (2, xv vadL y2)]) hx hb dM_joined_173 hl (k := 3) rfl rfl (by decide) rfl (fun ls hl => ?_)
          refine lv_goto (tgt := 55) hx hb dM_joined_176 (by decide) ?_
          exact ih (2, y3, y1, y2, (y4 + 1), y7, y6, y5, (xsI ws9 22 y6), wc, wn) _ _ ls (Or.inr (Or.inl ⟨adL, gdL, vadL, rfl, hf, hP, hD, hS, lv_sub hl [0, 4, 5, 6, 7] rfl, hE, hN⟩))
        · rw [if_neg hc] at hf
          refine lv_aload_n hx hb dM_joined_168 rfl (lv_at hl 5 rfl) ?_
          obtain ⟨o1, hq2, hf⟩ := xbind hf
          have hl := lv_sub (l' := [(7, .int y7), (6, .int y6), (4, .int y4), (3, .int y3), (0, .ref aM)]) hl [0, 1, 3, 4, 5] rfl
          by_cases hk3 : o1.1 = 1
          · rw [if_pos hk3] at hf
            obtain ⟨hm4, hf⟩ := xmoE hf
            obtain rfl := Option.some.inj hf
            exact absurd (show (2 : Nat) = 1 from hkd) (by decide)
          rw [if_neg hk3] at hf
          exact nomatch hf
      · rw [if_neg hc] at hf
        refine lv_aload_n hx hb dM_joined_134 rfl (lv_at hl 5 rfl) ?_
        refine lv_aload_n hx hb dM_joined_135 rfl (lv_at hl 5 rfl) ?_
        refine xm_get (v := .ref (adL 21)) hx hb htx hown hK hP 21 (by decide) rfl (htx _ kw_5_108) rfl dM_joined_136 ?_
        refine lv_iload hx hb dM_joined_139 (lv_at hl 0 rfl) ?_
        obtain ⟨hg1, hf⟩ := xifn hf
        refine va_bald hx hb hK hP 9 0 rfl rfl hg1 dM_joined_141 ?_
        refine W.eq (g2 := F0 m 142 ls [.int ((xba ws9 21) y7.toNatClampNeg), .ref aM]) rfl ?_
        obtain ⟨o2, hq3, hf⟩ := xbind hf
        obtain ⟨hg4, hf⟩ := xifn hf
        obtain ⟨hg5, hf⟩ := xifn hf
        obtain ⟨hg6, hf⟩ := xifn hf
        obtain ⟨hm7, hf⟩ := xmoE hf
        have hFc := xm_free hD hS hA
        refine va_callv (va_runV (C := "ValueBenchModel") (As := [.int ((xba ws9 21) y7.toNatClampNeg)]) (rest := []) ⟨hx, hb, hml, hown, htx⟩ (gM_letter l hl9 D cT aK aV H.size n aM adL rd gdL vadL ws9 ((xba ws9 21) y7.toNatClampNeg) o2 hq3) ⟨callB_of 1 htx (xw_goodC kw_6_54) rfl rfl rfl (htx _ kw_1_5) (htx _ kw_6_51) ⟨by decide, by decide, by decide +kernel⟩ ⟨Nat.le_of_ble_eq_true rfl, Nat.le_of_ble_eq_true rfl⟩, (htx _ kw_6_53), (htx _ kp_M_letter)⟩ ⟨xPre_blind, va_recv hK hP (ci := 5) rfl (q0 := 0) rfl, (fun U hU hW => ⟨rfl, xPre_of hZ hS hFc hP hD hK U hU hW⟩)⟩ rfl rfl hl.1 rfl (xm_room (Nat.le_of_ble_eq_true rfl)) dM_joined_142 ⟨hm7.1, hm7.2⟩) hS (fun q _ h => hFc q h) hFc (fun u9 t H1 locs ht hvm hr9 hB hz1 hk1 hS => ?_)
        obtain ⟨hP1, hK1, hD1⟩ := hB
        rw [ht] at hP1
        obtain ⟨ad9, gd10, vad11⟩ := u9
        obtain ⟨hv12, hn13⟩ := hr9
        have hP : va_P D xcl (xMw cT aM ad9 rd gd10 vad11 o2.2.2 []) H1 := hP1
        have hD : va_D A (xMw cT aM ad9 rd gd10 vad11 o2.2.2 []) := hD1.weaken (fun k q _ h => hFc q.1 h)
        generalize H1 = H at hP hS ⊢
        have hE9 : ∀ p, p < xct st → vad11 p = vad p := fun p h => (hv12 p (Nat.lt_of_lt_of_le h hN)).trans (hE p h)
        have hE := hE9
        have hN : xct st ≤ xct o2.2.2 := Nat.le_trans hN hn13
        have ev14 : xv vadL y5 = xv vad11 y5 := xvE hv12 hg4
        have ev15 : xv vadL y1 = xv vad11 y1 := xvE hv12 hg5
        have ev16 : xv vadL y2 = xv vad11 y2 := xvE hv12 hg6
        have hl : lv_has ls 8 [(7, .int y7), (6, .int y6), (5, xv vad11 y5), (4, .int y4), (3, .int y3), (0, .ref aM), (1, xv vad11 y1), (2, xv vad11 y2)] := by first | exact hl | ((try (rw [← ev14])); (try (rw [← ev15])); (try (rw [← ev16])); exact hl)
        refine W.eq (g2 := F0 m 145 ls []) (by first | rfl | ((try (rw [ev14])); (try (rw [ev15])); (try (rw [ev16])); rfl)) ?_
        refine lv_iinc (v := (y7 + 1)) (lv' := [(7, .int (y7 + 1)), (6, .int y6), (5, xv vad11 y5), (4, .int y4), (3, .int y3), (0, .ref aM), (1, xv vad11 y1), (2, xv vad11 y2)]) hx hb dM_joined_145 hl (k := 0) rfl rfl (by decide) rfl (fun ls hl => ?_)
        refine lv_goto (tgt := 125) hx hb dM_joined_148 (by decide) ?_
        exact ih (3, y3, y1, y2, y4, (y7 + 1), y6, y5, o2.2.2, (wc + o2.1), (wn + o2.2.1)) _ _ ls (Or.inr (Or.inr (⟨ad9, gd10, vad11, rfl, hf, hP, hD, hS, lv_sub hl [0, 1, 2, 3, 4, 5, 6, 7] rfl, hE, hN⟩)))
  refine lv_aload_n hx hb dM_joined_0 rfl (lv_at hl 0 rfl) ?_
  refine xm_aload_n hx hb (xvor _ _) dM_joined_1 rfl (lv_at hl 1 rfl) ?_
  obtain ⟨o1, hq2, hf⟩ := xbind hf
  by_cases hk3 : o1.1 = 0
  · rw [if_pos hk3] at hf
    obtain ⟨hg4, hf⟩ := xifn hf
    obtain ⟨hg5, hf⟩ := xifn hf
    obtain ⟨hm6, hf⟩ := xmoE hf
    have hFc := xm_free hD hS hA
    refine va_callq (va_runV (C := "ValueBenchModel") (As := [xv vad c0]) (rest := []) ⟨hx, hb, hml, hown, htx⟩ (gM_array l hl9 D cT aK aV s.heap.size n aM ad rd gd vad st c0 o1 hq2 hk3) ⟨callB_of 1 htx (xw_goodC kw_7_42) rfl rfl rfl (htx _ kw_1_5) (htx _ kw_7_39) ⟨by decide, by decide, by decide +kernel⟩ ⟨Nat.le_of_ble_eq_true rfl, Nat.le_of_ble_eq_true rfl⟩, (htx _ kw_7_41), (htx _ kp_M_array)⟩ ⟨xPre_blind, va_recv hK hP (ci := 5) rfl (q0 := 0) rfl, (fun U hU hW => ⟨rfl, xPre_of hZ hS hFc hP hD hK U hU hW⟩)⟩ rfl rfl hl.1 rfl (xm_room (Nat.le_of_ble_eq_true rfl)) dM_joined_2 ⟨hm6.1, hm6.2⟩) hS (fun q _ h => hFc q h) hFc (fun r7 u9 t H1 locs ht hvm hr9 hB hz1 hk1 hS => ?_)
    obtain ⟨hP1, hK1, hD1⟩ := hB
    rw [ht] at hP1
    obtain ⟨ad8, gd9, vad10⟩ := u9
    obtain ⟨hr9, hv11, hn12⟩ := hr9
    have hP : va_P D xcl (xMw cT aM ad8 rd gd9 vad10 o1.2.2.2.2 []) H1 := hP1
    have hD : va_D A (xMw cT aM ad8 rd gd9 vad10 o1.2.2.2.2 []) := hD1.weaken (fun k q _ h => hFc q.1 h)
    generalize H1 = H at hP hS ⊢
    have hE9 : ∀ p, p < xct st → vad10 p = vad p := fun p h => (hv11 p (Nat.lt_of_lt_of_le h hN)).trans (hE p h)
    have hE := hE9
    have hN : xct st ≤ xct o1.2.2.2.2 := Nat.le_trans hN hn12
    have ev13 : xv vad c0 = xv vad10 c0 := xvE hv11 hg4
    have ev14 : xv vad c1 = xv vad10 c1 := xvE hv11 hg5
    have hl : lv_has ls 8 [(0, .ref aM), (1, xv vad10 c0), (2, xv vad10 c1)] := by first | exact hl | ((try (rw [← ev13])); (try (rw [← ev14])); exact hl)
    rw [hr9]
    refine W.eq (g2 := F0 m 5 ls [xv vad10 o1.2.2.2.1]) (by first | rfl | ((try (rw [ev13])); (try (rw [ev14])); rfl)) ?_
    refine lv_pop hx hb dM_joined_5 (xvcat _ _) ?_
    refine lv_aload_n hx hb dM_joined_6 rfl (lv_at hl 0 rfl) ?_
    refine xm_aload_n hx hb (xvor _ _) dM_joined_7 rfl (lv_at hl 2 rfl) ?_
    obtain ⟨o15, hq16, hf⟩ := xbind hf
    by_cases hk17 : o15.1 = 0
    · rw [if_pos hk17] at hf
      obtain ⟨hg18, hf⟩ := xifn hf
      obtain ⟨hg19, hf⟩ := xifn hf
      obtain ⟨hm20, hf⟩ := xmoE hf
      have hFc := xm_free hD hS hA
      refine va_callq (va_runV (C := "ValueBenchModel") (As := [xv vad10 c1]) (rest := []) ⟨hx, hb, hml, hown, htx⟩ (gM_text l hl9 D cT aK aV H.size n aM ad8 rd gd9 vad10 o1.2.2.2.2 c1 o15 hq16 hk17) ⟨callB_of 1 htx (xw_goodC kw_7_54) rfl rfl rfl (htx _ kw_1_5) (htx _ kw_7_51) ⟨by decide, by decide, by decide +kernel⟩ ⟨Nat.le_of_ble_eq_true rfl, Nat.le_of_ble_eq_true rfl⟩, (htx _ kw_7_53), (htx _ kp_M_text)⟩ ⟨xPre_blind, va_recv hK hP (ci := 5) rfl (q0 := 0) rfl, (fun U hU hW => ⟨rfl, xPre_of hZ hS hFc hP hD hK U hU hW⟩)⟩ rfl rfl hl.1 rfl (xm_room (Nat.le_of_ble_eq_true rfl)) dM_joined_8 ⟨hm20.1, hm20.2⟩) hS (fun q _ h => hFc q h) hFc (fun r21 u9 t H1 locs ht hvm hr9 hB hz1 hk1 hS => ?_)
      obtain ⟨hP1, hK1, hD1⟩ := hB
      rw [ht] at hP1
      obtain ⟨ad22, gd23, vad24⟩ := u9
      obtain ⟨hr9, hv25, hn26⟩ := hr9
      have hP : va_P D xcl (xMw cT aM ad22 rd gd23 vad24 o15.2.2.2.2 []) H1 := hP1
      have hD : va_D A (xMw cT aM ad22 rd gd23 vad24 o15.2.2.2.2 []) := hD1.weaken (fun k q _ h => hFc q.1 h)
      generalize H1 = H at hP hS ⊢
      have hE9 : ∀ p, p < xct st → vad24 p = vad p := fun p h => (hv25 p (Nat.lt_of_lt_of_le h hN)).trans (hE p h)
      have hE := hE9
      have hN : xct st ≤ xct o15.2.2.2.2 := Nat.le_trans hN hn26
      have ev27 : xv vad10 c0 = xv vad24 c0 := xvE hv25 hg18
      have ev28 : xv vad10 c1 = xv vad24 c1 := xvE hv25 hg19
      have hl : lv_has ls 8 [(0, .ref aM), (1, xv vad24 c0), (2, xv vad24 c1)] := by first | exact hl | ((try (rw [← ev27])); (try (rw [← ev28])); exact hl)
      rw [hr9]
      refine W.eq (g2 := F0 m 11 ls [xv vad24 o15.2.2.2.1]) (by first | rfl | ((try (rw [ev27])); (try (rw [ev28])); rfl)) ?_
      refine lv_pop hx hb dM_joined_11 (xvcat _ _) ?_
      refine lv_iconst (v := 0) hx hb dM_joined_12 (by decide) ?_
      refine lv_istore_n (lv' := [(3, .int 0), (0, .ref aM), (1, xv vad24 c0), (2, xv vad24 c1)]) hx hb dM_joined_13 rfl hl (by decide) (by simp only [List.filter, xvcat, xrscat, xcI, xcL, xcR, xcN]; rfl) (fun ls hl => ?_)
      exact key n (1, (0 : Int32), c0, c1, 0, 0, 0, 0, o15.2.2.2.2, ((0 + o1.2.1) + o15.2.1), ((0 + o1.2.2.1) + o15.2.2.1)) _ _ ls (Or.inl ⟨ad22, gd23, vad24, rfl, hf, hP, hD, hS, lv_sub hl [0, 1, 2, 3] rfl, hE, hN⟩)
    rw [if_neg hk17] at hf
    by_cases hk29 : o15.1 = 1
    · rw [if_pos hk29] at hf
      obtain ⟨hg30, hf⟩ := xifn hf
      obtain ⟨hg31, hf⟩ := xifn hf
      obtain ⟨hm32, hf⟩ := xmoE hf
      have hFc := xm_free hD hS hA
      refine xx_thr (vx_runV (C := "ValueBenchModel") (As := [xv vad10 c1]) (rest := []) ⟨hx, hb, hml, hown, htx⟩ (gM_text_1 l hl9 D cT aK aV H.size n aM ad8 rd gd9 vad10 o1.2.2.2.2 c1 o15 hq16 hk29) ⟨callB_of 1 htx (xw_goodC kw_7_54) rfl rfl rfl (htx _ kw_1_5) (htx _ kw_7_51) ⟨by decide, by decide, by decide +kernel⟩ ⟨Nat.le_of_ble_eq_true rfl, Nat.le_of_ble_eq_true rfl⟩, (htx _ kw_7_53), (htx _ kp_M_text)⟩ ⟨xPre_blind, va_recv hK hP (ci := 5) rfl (q0 := 0) rfl, (fun U hU hW => ⟨rfl, xPre_of hZ hS hFc hP hD hK U hU hW⟩)⟩ rfl rfl hl.1 rfl (xm_room (Nat.le_of_ble_eq_true rfl)) dM_joined_8 ⟨hm32.1, hm32.2⟩) hS hFc (fun q _ h => hFc q h) (fun E ce q9 u9 t H1 locs ht hvm hr9 hB hz1 hk1 hS hce hcv hcl => ?_)
      obtain ⟨rfl, hP1, hK1, hD1⟩ := hB
      rw [ht] at hP1
      obtain ⟨ad34, gd35, vad36⟩ := u9
      obtain ⟨hv37, hn38⟩ := hr9
      have hP : va_P D xcl (xMw cT aM ad34 rd gd35 vad36 o15.2.2.2.2 []) H1 := hP1
      have hD : va_D A (xMw cT aM ad34 rd gd35 vad36 o15.2.2.2.2 []) := hD1.weaken (fun k q _ h => hFc q.1 h)
      generalize H1 = H at hP hS hce ⊢
      have hE9 : ∀ p, p < xct st → vad36 p = vad p := fun p h => (hv37 p (Nat.lt_of_lt_of_le h hN)).trans (hE p h)
      have hE := hE9
      have hN : xct st ≤ xct o15.2.2.2.2 := Nat.le_trans hN hn38
      have ev39 : xv vad10 c0 = xv vad36 c0 := xvE hv37 hg30
      have ev40 : xv vad10 c1 = xv vad36 c1 := xvE hv37 hg31
      have hl : lv_has ls 8 [(0, .ref aM), (1, xv vad36 c0), (2, xv vad36 c1)] := by first | exact hl | ((try (rw [← ev39])); (try (rw [← ev40])); exact hl)
      obtain rfl := Option.some.inj hf
      exact vx_out (E := "java/lang/ArithmeticException") (fun x h => (hne x h).elim) hlocks hce hcv hcl (fun t ht ha => ⟨(ad34, gd35, vad36), ⟨hE, hN⟩, ⟨rfl, by rw [ht]; exact hP, va_K.moved ha hK, hD⟩, hS.F ht⟩) hS.2.2 (Nat.le_refl _) (Nat.le_refl _)
    rw [if_neg hk29] at hf
    exact nomatch hf
  rw [if_neg hk3] at hf
  by_cases hk41 : o1.1 = 1
  · rw [if_pos hk41] at hf
    obtain ⟨hg42, hf⟩ := xifn hf
    obtain ⟨hg43, hf⟩ := xifn hf
    obtain ⟨hm44, hf⟩ := xmoE hf
    have hFc := xm_free hD hS hA
    refine xx_thr (vx_runV (C := "ValueBenchModel") (As := [xv vad c0]) (rest := []) ⟨hx, hb, hml, hown, htx⟩ (gM_array_1 l hl9 D cT aK aV s.heap.size n aM ad rd gd vad st c0 o1 hq2 hk41) ⟨callB_of 1 htx (xw_goodC kw_7_42) rfl rfl rfl (htx _ kw_1_5) (htx _ kw_7_39) ⟨by decide, by decide, by decide +kernel⟩ ⟨Nat.le_of_ble_eq_true rfl, Nat.le_of_ble_eq_true rfl⟩, (htx _ kw_7_41), (htx _ kp_M_array)⟩ ⟨xPre_blind, va_recv hK hP (ci := 5) rfl (q0 := 0) rfl, (fun U hU hW => ⟨rfl, xPre_of hZ hS hFc hP hD hK U hU hW⟩)⟩ rfl rfl hl.1 rfl (xm_room (Nat.le_of_ble_eq_true rfl)) dM_joined_2 ⟨hm44.1, hm44.2⟩) hS hFc (fun q _ h => hFc q h) (fun E ce q9 u9 t H1 locs ht hvm hr9 hB hz1 hk1 hS hce hcv hcl => ?_)
    obtain ⟨rfl, hP1, hK1, hD1⟩ := hB
    rw [ht] at hP1
    obtain ⟨ad46, gd47, vad48⟩ := u9
    obtain ⟨hv49, hn50⟩ := hr9
    have hP : va_P D xcl (xMw cT aM ad46 rd gd47 vad48 o1.2.2.2.2 []) H1 := hP1
    have hD : va_D A (xMw cT aM ad46 rd gd47 vad48 o1.2.2.2.2 []) := hD1.weaken (fun k q _ h => hFc q.1 h)
    generalize H1 = H at hP hS hce ⊢
    have hE9 : ∀ p, p < xct st → vad48 p = vad p := fun p h => (hv49 p (Nat.lt_of_lt_of_le h hN)).trans (hE p h)
    have hE := hE9
    have hN : xct st ≤ xct o1.2.2.2.2 := Nat.le_trans hN hn50
    have ev51 : xv vad c0 = xv vad48 c0 := xvE hv49 hg42
    have ev52 : xv vad c1 = xv vad48 c1 := xvE hv49 hg43
    have hl : lv_has ls 8 [(0, .ref aM), (1, xv vad48 c0), (2, xv vad48 c1)] := by first | exact hl | ((try (rw [← ev51])); (try (rw [← ev52])); exact hl)
    obtain rfl := Option.some.inj hf
    exact vx_out (E := "java/lang/ArithmeticException") (fun x h => (hne x h).elim) hlocks hce hcv hcl (fun t ht ha => ⟨(ad46, gd47, vad48), ⟨hE, hN⟩, ⟨rfl, by rw [ht]; exact hP, va_K.moved ha hK, hD⟩, hS.F ht⟩) hS.2.2 (Nat.le_refl _) (Nat.le_refl _)
  rw [if_neg hk41] at hf
  exact nomatch hf
set_option maxHeartbeats 400000000 in
set_option maxRecDepth 100000 in
theorem gM_joined_2 (l : Launch) (hl9 : l.stackTraces = false) (D : va_G) (cT : Nat → ClassId) (aK aV : Nat → Nat) (sz d n : Nat) (aM : Nat) (ad rd gd vad : Nat → Nat) (st : xS) (c0 : Nat) (c1 : Nat) (out : Nat × Nat × Nat × Nat × xS) (hf : fM_joined d n st c0 c1 = some out) (hkd : out.1 = 2) : xMetY l yM_joined wyM_joined (16 * d + 8) out.2.1 out.2.2.1 (400 * d + 142) D cT aK aV sz [.ref aM, xv vad c0, xv vad c1] (xMw cT aM ad rd gd vad st []) "java/lang/IndexOutOfBoundsException" (fun u => xE vad st out.2.2.2.2 u) (fun A u t => xB D xcl cT A (xMw cT aM u.1 rd u.2.1 u.2.2 out.2.2.2.2 []) t) := by
  refine vx_ofW (cc := prog_13_method_71_code) (maxL := 8) (ret := (some (.object "ValueBenchModel$V"))) (by decide) rfl ?_
  intro p e s m args below meth c s₁ B hml hne hv
  obtain ⟨rfl, hsz, hZ, hP, hK, hD0⟩ := hv
  have hx := B.exec
  have hb := B.bytes
  have hr := B.returns
  have hts := atoms_spec (ws := wyM_joined) B.pre
  have htx := fun w h => hts w (List.mem_cons_of_mem _ h)
  have hown : s.vm.findClass "ValueBenchModel" = some m.cls := findClass_of_methodNamed B.named
  have hlocks := B.notSynchronized
  subst hsz
  have hD := hD0.self (sz := s.heap.size)
  generalize hAe : va_A (xMw cT aM ad rd gd vad st []) s.heap.size = A at hD hZ ⊢
  have hA : ∀ q : Nat, s.heap.size ≤ q → A q := fun q h => by rw [← hAe]; exact Or.inr h
  have hS : va_S A s.heap s.heap [] := va_S.rf
  have hl := lv_entry ([.ref aM, xv vad c0, xv vad c1]) (n := 8) (by simp [lg_sl, xvcat, xrscat, xcI, xcL, xcR, xcN])
  rw [show lv_args 0 [.ref aM, xv vad c0, xv vad c1] = [(0, .ref aM), (1, xv vad c0), (2, xv vad c1)] from by simp [lv_args, xvcat, xrscat, xcI, xcL, xcR, xcN]] at hl
  rw [lg_entry_eq]
  generalize (lg_sl ([.ref aM, xv vad c0, xv vad c1]) ++ List.replicate (8 - (lg_sl ([.ref aM, xv vad c0, xv vad c1])).length) Slot.unset).toArray = ls at hl ⊢
  have hl : lv_has ls 8 [(0, .ref aM), (1, xv vad c0), (2, xv vad c1)] := hl
  have hE : ∀ p, p < xct st → vad p = vad p := fun _ _ => rfl
  have hN : xct st ≤ xct st := Nat.le_refl _
  unfold fM_joined at hf
  refine xloopM (σ := Nat × Int32 × Nat × Nat × Int32 × Int32 × Int32 × Nat × xS × Nat × Nat) (fun n x H locs ls => (∃ (adL gdL vadL : Nat → Nat), x.1 = 1 ∧ fM_joined_b d n x.1 x.2.1 x.2.2.1 x.2.2.2.1 x.2.2.2.2.1 x.2.2.2.2.2.1 x.2.2.2.2.2.2.1 x.2.2.2.2.2.2.2.1 x.2.2.2.2.2.2.2.2.1 x.2.2.2.2.2.2.2.2.2.1 x.2.2.2.2.2.2.2.2.2.2 = some out ∧ va_P D xcl (xMw cT aM adL rd gdL vadL x.2.2.2.2.2.2.2.2.1 []) H ∧ va_D A (xMw cT aM adL rd gdL vadL x.2.2.2.2.2.2.2.2.1 []) ∧ va_S A s.heap H locs ∧ lv_has ls 8 [(3, .int x.2.1), (0, .ref aM), (1, xv vadL x.2.2.1), (2, xv vadL x.2.2.2.1)] ∧ (∀ p, p < xct st → vadL p = vad p) ∧ xct st ≤ xct x.2.2.2.2.2.2.2.2.1) ∨ (∃ (adL gdL vadL : Nat → Nat), x.1 = 2 ∧ fM_joined_b d n x.1 x.2.1 x.2.2.1 x.2.2.2.1 x.2.2.2.2.1 x.2.2.2.2.2.1 x.2.2.2.2.2.2.1 x.2.2.2.2.2.2.2.1 x.2.2.2.2.2.2.2.2.1 x.2.2.2.2.2.2.2.2.2.1 x.2.2.2.2.2.2.2.2.2.2 = some out ∧ va_P D xcl (xMw cT aM adL rd gdL vadL x.2.2.2.2.2.2.2.2.1 []) H ∧ va_D A (xMw cT aM adL rd gdL vadL x.2.2.2.2.2.2.2.2.1 []) ∧ va_S A s.heap H locs ∧ lv_has ls 8 [(4, .int x.2.2.2.2.1), (3, .int x.2.1), (0, .ref aM), (1, xv vadL x.2.2.1), (2, xv vadL x.2.2.2.1)] ∧ (∀ p, p < xct st → vadL p = vad p) ∧ xct st ≤ xct x.2.2.2.2.2.2.2.2.1) ∨ (∃ (adL gdL vadL : Nat → Nat), x.1 = 3 ∧ fM_joined_b d n x.1 x.2.1 x.2.2.1 x.2.2.2.1 x.2.2.2.2.1 x.2.2.2.2.2.1 x.2.2.2.2.2.2.1 x.2.2.2.2.2.2.2.1 x.2.2.2.2.2.2.2.2.1 x.2.2.2.2.2.2.2.2.2.1 x.2.2.2.2.2.2.2.2.2.2 = some out ∧ va_P D xcl (xMw cT aM adL rd gdL vadL x.2.2.2.2.2.2.2.2.1 []) H ∧ va_D A (xMw cT aM adL rd gdL vadL x.2.2.2.2.2.2.2.2.1 []) ∧ va_S A s.heap H locs ∧ lv_has ls 8 [(7, .int x.2.2.2.2.2.1), (6, .int x.2.2.2.2.2.2.1), (5, xv vadL x.2.2.2.2.2.2.2.1), (4, .int x.2.2.2.2.1), (3, .int x.2.1), (0, .ref aM), (1, xv vadL x.2.2.1), (2, xv vadL x.2.2.2.1)] ∧ (∀ p, p < xct st → vadL p = vad p) ∧ xct st ≤ xct x.2.2.2.2.2.2.2.2.1)) (fun x => if x.1 = 1 then 14 else if x.1 = 2 then 55 else 125) (fun x => x.2.2.2.2.2.2.2.2.2.1) (fun x => x.2.2.2.2.2.2.2.2.2.2) (fun x H locs ls h => by rcases h with h | h | h; (obtain ⟨_, _, _, h⟩ := h; exact absurd h.2.1 (by rw [fM_joined_b]; exact fun h => nomatch h)); (obtain ⟨_, _, _, h⟩ := h; exact absurd h.2.1 (by rw [fM_joined_b]; exact fun h => nomatch h)); (obtain ⟨_, _, _, h⟩ := h; exact absurd h.2.1 (by rw [fM_joined_b]; exact fun h => nomatch h))) (fun n ih x H locs ls hv => ?_) (fun key => ?_)
  · obtain ⟨lb, y3, y1, y2, y4, y7, y6, y5, ws9, wc, wn⟩ := x
    rcases hv with ⟨adL, gdL, vadL, hj, hf, hP, hD, hS, hl, hE, hN⟩ | ⟨adL, gdL, vadL, hj, hf, hP, hD, hS, hl, hE, hN⟩ | ⟨adL, gdL, vadL, hj, hf, hP, hD, hS, hl, hE, hN⟩
    · subst hj
      have hf : fM_joined_b d (n + 1) 1 y3 y1 y2 y4 y7 y6 y5 ws9 wc wn = some out := hf
      rw [fM_joined_b, if_pos rfl] at hf
      obtain ⟨hP, hD⟩ : xPD D xcl A (xMw cT aM adL rd gdL vadL ws9 []) H := ⟨hP, hD⟩
      have hl : lv_has ls 8 [(3, .int y3), (0, .ref aM), (1, xv vadL y1), (2, xv vadL y2)] := hl
      refine W.eq (g2 := F0 m 14 ls []) rfl ?_
      show W p l e _ s m _ below meth c H locs wc wn _ _
      obtain ⟨hm0, hf⟩ := xmoE hf
      refine lv_iload_n hx hb dM_joined_14 rfl (lv_at hl 0 rfl) ?_
      refine xm_aload_n hx hb (xvor _ _) dM_joined_15 rfl (lv_at hl 2 rfl) ?_
      obtain ⟨hg1, hf⟩ := xifn hf
      refine xm_vget (v := .int ((xpi ws9 3) (y1 - 1))) hx hb htx hown hK hP 3 (by decide) hg1 rfl ((hZ.1 (103, "count", "I") (List.mem_of_getElem? (i := 3) rfl)).use rfl) rfl dM_joined_16 ?_
      refine lv_icmp_ge (tgt := 47) hx hb dM_joined_19 (by decide) (fun hc => ?_) (fun hc => ?_)
      · rw [if_pos hc] at hf
        refine lv_aload_n hx hb dM_joined_47 rfl (lv_at hl 1 rfl) ?_
        refine xm_get (v := .int (xsi ws9 4)) hx hb htx hown hK hP 4 (by decide) rfl (htx _ kw_5_91) rfl dM_joined_48 ?_
        refine lv_istore_n (lv' := [(3, .int (xsi ws9 4)), (0, .ref aM), (1, xv vadL y1), (2, xv vadL y2)]) hx hb dM_joined_51 rfl hl (by decide) (by simp only [List.filter, xvcat, xrscat, xcI, xcL, xcR, xcN]; rfl) (fun ls hl => ?_)
        refine lv_iconst (v := 0) hx hb dM_joined_52 (by decide) ?_
        refine lv_istore (lv' := [(4, .int 0), (3, .int (xsi ws9 4)), (0, .ref aM), (1, xv vadL y1), (2, xv vadL y2)]) hx hb dM_joined_53 hl (by decide) rfl (fun ls hl => ?_)
        exact ih (2, (xsi ws9 4), y1, y2, (0 : Int32), 0, 0, 0, ws9, wc, wn) _ _ ls (Or.inr (Or.inl ⟨adL, gdL, vadL, rfl, hf, hP, hD, hS, lv_sub hl [0, 1, 2, 3, 4] rfl, hE, hN⟩))
      · rw [if_neg hc] at hf
        refine lv_aload_n hx hb dM_joined_22 rfl (lv_at hl 1 rfl) ?_
        refine xm_aload_n hx hb (xvor _ _) dM_joined_23 rfl (lv_at hl 2 rfl) ?_
        refine lv_iload_n hx hb dM_joined_24 rfl (lv_at hl 0 rfl) ?_
        obtain ⟨o2, hq3, hf⟩ := xbind hf
        have hFc := xm_free hD hS hA
        refine va_callq (va_runV (C := "ValueBenchModel") (As := [xv vadL y1, .int y3]) (rest := []) ⟨hx, hb, hml, hown, htx⟩ (gM_kid l hl9 D cT aK aV H.size n aM adL rd gdL vadL ws9 y1 y3 o2 hq3) ⟨callB_of 2 htx (xw_goodC kw_6_158) rfl rfl rfl (htx _ kw_1_5) (htx _ kw_6_155) ⟨by decide, by decide, by decide +kernel⟩ ⟨Nat.le_of_ble_eq_true rfl, Nat.le_of_ble_eq_true rfl⟩, (htx _ kw_6_157), (htx _ kp_M_kid)⟩ ⟨xPre_blind, va_recv hK hP (ci := 5) rfl (q0 := 0) rfl, (fun U hU hW => ⟨rfl, xPre_of hZ hS hFc hP hD hK U hU hW⟩)⟩ rfl rfl hl.1 rfl (xm_room (Nat.le_of_ble_eq_true rfl)) dM_joined_25 ⟨hm0.1, hm0.2⟩) hS (fun q _ h => hFc q h) hFc (fun r4 u9 t H1 locs ht hvm hr9 hB hz1 hk1 hS => ?_)
        obtain ⟨hP1, hK1, hD1⟩ := hB
        rw [ht] at hP1
        have hP : va_P D xcl (xMw cT aM adL rd gdL vadL ws9 []) H1 := hP1
        have hD : va_D A (xMw cT aM adL rd gdL vadL ws9 []) := hD1.weaken (fun k q _ h => hFc q.1 h)
        generalize H1 = H at hP hS ⊢
        rw [hr9]
        refine W.eq (g2 := F0 m 28 ls [xv vadL o2]) (by first | rfl | (skip; rfl)) ?_
        obtain ⟨hg5, hf⟩ := xifn hf
        refine xm_vget (v := .int ((xpi ws9 0) (o2 - 1))) hx hb htx hown hK hP 0 (by decide) hg5 rfl ((hZ.1 (93, "kind", "I") (List.mem_of_getElem? (i := 0) rfl)).use rfl) rfl dM_joined_28 ?_
        refine lv_iconst (v := 4) hx hb dM_joined_31 (by decide) ?_
        refine lv_icmp_le (tgt := 41) hx hb dM_joined_32 (by decide) (fun hc => ?_) (fun hc => ?_)
        · rw [if_pos hc] at hf
          refine lv_iinc (v := (y3 + 1)) (lv' := [(3, .int (y3 + 1)), (0, .ref aM), (1, xv vadL y1), (2, xv vadL y2)]) hx hb dM_joined_41 hl (k := 0) rfl rfl (by decide) (by simp only [List.filter, xvcat, xrscat, xcI, xcL, xcR, xcN]; rfl) (fun ls hl => ?_)
          refine lv_goto (tgt := 14) hx hb dM_joined_44 (by decide) ?_
          exact ih (1, (y3 + 1), y1, y2, 0, 0, 0, 0, ws9, wc, wn) _ _ ls (Or.inl ⟨adL, gdL, vadL, rfl, hf, hP, hD, hS, lv_sub hl [0, 1, 2, 3] rfl, hE, hN⟩)
        · rw [if_neg hc] at hf
          refine lv_aload_n hx hb dM_joined_35 rfl (lv_at hl 1 rfl) ?_
          refine lv_iconst (v := 1) hx hb dM_joined_36 (by decide) ?_
          obtain ⟨o6, hq7, hf⟩ := xbind hf
          have hl := lv_sub (l' := [(3, .int y3), (0, .ref aM)]) hl [0, 1] rfl
          by_cases hk8 : o6.1 = 1
          · rw [if_pos hk8] at hf
            obtain ⟨hm9, hf⟩ := xmoE hf
            obtain rfl := Option.some.inj hf
            exact absurd (show (1 : Nat) = 2 from hkd) (by decide)
          rw [if_neg hk8] at hf
          exact nomatch hf
    · subst hj
      have hf : fM_joined_b d (n + 1) 2 y3 y1 y2 y4 y7 y6 y5 ws9 wc wn = some out := hf
      rw [fM_joined_b, if_neg (by decide), if_pos rfl] at hf
      obtain ⟨hP, hD⟩ : xPD D xcl A (xMw cT aM adL rd gdL vadL ws9 []) H := ⟨hP, hD⟩
      have hl : lv_has ls 8 [(4, .int y4), (3, .int y3), (0, .ref aM), (1, xv vadL y1), (2, xv vadL y2)] := hl
      refine W.eq (g2 := F0 m 55 ls []) rfl ?_
      show W p l e _ s m _ below meth c H locs wc wn _ _
      obtain ⟨hm0, hf⟩ := xmoE hf
      refine lv_iload hx hb dM_joined_55 (lv_at hl 0 rfl) ?_
      refine xm_aload_n hx hb (xvor _ _) dM_joined_57 rfl (lv_at hl 3 rfl) ?_
      obtain ⟨hg1, hf⟩ := xifn hf
      refine xm_vget (v := .int ((xpi ws9 3) (y1 - 1))) hx hb htx hown hK hP 3 (by decide) hg1 rfl ((hZ.1 (103, "count", "I") (List.mem_of_getElem? (i := 3) rfl)).use rfl) rfl dM_joined_58 ?_
      refine lv_icmp_ge (tgt := 179) hx hb dM_joined_61 (by decide) (fun hc => ?_) (fun hc => ?_)
      · rw [if_pos hc] at hf
        refine lv_aload_n hx hb dM_joined_179 rfl (lv_at hl 2 rfl) ?_
        refine lv_iload_n hx hb dM_joined_180 rfl (lv_at hl 1 rfl) ?_
        obtain ⟨o2, hq3, hf⟩ := xbind hf
        have hl := lv_sub (l' := [(4, .int y4), (3, .int y3), (0, .ref aM)]) hl [0, 1, 2] rfl
        by_cases hk4 : o2.1 = 0
        · rw [if_pos hk4] at hf
          obtain ⟨hm5, hf⟩ := xmoE hf
          have hFc := xm_free hD hS hA
          refine va_callq (va_runV (C := "ValueBenchModel") (As := [.int y3]) (rest := []) ⟨hx, hb, hml, hown, htx⟩ (gM_string l hl9 D cT aK aV H.size n aM adL rd gdL vadL ws9 y3 o2 hq3 hk4) ⟨callB_of 1 htx (xw_goodC kw_6_61) rfl rfl rfl (htx _ kw_1_5) (htx _ kw_6_58) ⟨by decide, by decide, by decide +kernel⟩ ⟨Nat.le_of_ble_eq_true rfl, Nat.le_of_ble_eq_true rfl⟩, (htx _ kw_6_60), (htx _ kp_M_string)⟩ ⟨xPre_blind, va_recv hK hP (ci := 5) rfl (q0 := 0) rfl, (fun U hU hW => ⟨rfl, xPre_of hZ hS hFc hP hD hK U hU hW⟩)⟩ rfl rfl hl.1 rfl (xm_room (Nat.le_of_ble_eq_true rfl)) dM_joined_181 ⟨hm5.1, hm5.2⟩) hS (fun q _ h => hFc q h) hFc (fun r6 u9 t H1 locs ht hvm hr9 hB hz1 hk1 hS => ?_)
          obtain ⟨hP1, hK1, hD1⟩ := hB
          rw [ht] at hP1
          obtain ⟨ad7, gd8, vad9⟩ := u9
          obtain ⟨hr9, hv10, hn11⟩ := hr9
          have hP : va_P D xcl (xMw cT aM ad7 rd gd8 vad9 o2.2.2.2.2 []) H1 := hP1
          have hD : va_D A (xMw cT aM ad7 rd gd8 vad9 o2.2.2.2.2 []) := hD1.weaken (fun k q _ h => hFc q.1 h)
          generalize H1 = H at hP hS ⊢
          have hE9 : ∀ p, p < xct st → vad9 p = vad p := fun p h => (hv10 p (Nat.lt_of_lt_of_le h hN)).trans (hE p h)
          have hE := hE9
          have hN : xct st ≤ xct o2.2.2.2.2 := Nat.le_trans hN hn11
          rw [hr9]
          refine W.eq (g2 := F0 m 184 ls [xv vad9 o2.2.2.2.1]) (by first | rfl | (skip; rfl)) ?_
          obtain rfl := Option.some.inj hf
          exact absurd (show (0 : Nat) = 2 from hkd) (by decide)
        rw [if_neg hk4] at hf
        by_cases hk12 : o2.1 = 1
        · rw [if_pos hk12] at hf
          obtain ⟨hm13, hf⟩ := xmoE hf
          have hFc := xm_free hD hS hA
          refine xx_thr (vx_runV (C := "ValueBenchModel") (As := [.int y3]) (rest := []) ⟨hx, hb, hml, hown, htx⟩ (gM_string_1 l hl9 D cT aK aV H.size n aM adL rd gdL vadL ws9 y3 o2 hq3 hk12) ⟨callB_of 1 htx (xw_goodC kw_6_61) rfl rfl rfl (htx _ kw_1_5) (htx _ kw_6_58) ⟨by decide, by decide, by decide +kernel⟩ ⟨Nat.le_of_ble_eq_true rfl, Nat.le_of_ble_eq_true rfl⟩, (htx _ kw_6_60), (htx _ kp_M_string)⟩ ⟨xPre_blind, va_recv hK hP (ci := 5) rfl (q0 := 0) rfl, (fun U hU hW => ⟨rfl, xPre_of hZ hS hFc hP hD hK U hU hW⟩)⟩ rfl rfl hl.1 rfl (xm_room (Nat.le_of_ble_eq_true rfl)) dM_joined_181 ⟨hm13.1, hm13.2⟩) hS hFc (fun q _ h => hFc q h) (fun E ce q9 u9 t H1 locs ht hvm hr9 hB hz1 hk1 hS hce hcv hcl => ?_)
          obtain ⟨rfl, hP1, hK1, hD1⟩ := hB
          rw [ht] at hP1
          obtain ⟨ad15, gd16, vad17⟩ := u9
          obtain ⟨hv18, hn19⟩ := hr9
          have hP : va_P D xcl (xMw cT aM ad15 rd gd16 vad17 o2.2.2.2.2 []) H1 := hP1
          have hD : va_D A (xMw cT aM ad15 rd gd16 vad17 o2.2.2.2.2 []) := hD1.weaken (fun k q _ h => hFc q.1 h)
          generalize H1 = H at hP hS hce ⊢
          have hE9 : ∀ p, p < xct st → vad17 p = vad p := fun p h => (hv18 p (Nat.lt_of_lt_of_le h hN)).trans (hE p h)
          have hE := hE9
          have hN : xct st ≤ xct o2.2.2.2.2 := Nat.le_trans hN hn19
          obtain rfl := Option.some.inj hf
          exact vx_out (E := "java/lang/IndexOutOfBoundsException") (fun x h => (hne x h).elim) hlocks hce hcv hcl (fun t ht ha => ⟨(ad15, gd16, vad17), ⟨hE, hN⟩, ⟨rfl, by rw [ht]; exact hP, va_K.moved ha hK, hD⟩, hS.F ht⟩) hS.2.2 (Nat.le_refl _) (Nat.le_refl _)
        rw [if_neg hk12] at hf
        exact nomatch hf
      · rw [if_neg hc] at hf
        refine lv_aload_n hx hb dM_joined_64 rfl (lv_at hl 2 rfl) ?_
        refine xm_aload_n hx hb (xvor _ _) dM_joined_65 rfl (lv_at hl 3 rfl) ?_
        refine lv_iload hx hb dM_joined_66 (lv_at hl 0 rfl) ?_
        obtain ⟨o2, hq3, hf⟩ := xbind hf
        have hFc := xm_free hD hS hA
        refine va_callq (va_runV (C := "ValueBenchModel") (As := [xv vadL y1, .int y4]) (rest := []) ⟨hx, hb, hml, hown, htx⟩ (gM_kid l hl9 D cT aK aV H.size n aM adL rd gdL vadL ws9 y1 y4 o2 hq3) ⟨callB_of 2 htx (xw_goodC kw_6_158) rfl rfl rfl (htx _ kw_1_5) (htx _ kw_6_155) ⟨by decide, by decide, by decide +kernel⟩ ⟨Nat.le_of_ble_eq_true rfl, Nat.le_of_ble_eq_true rfl⟩, (htx _ kw_6_157), (htx _ kp_M_kid)⟩ ⟨xPre_blind, va_recv hK hP (ci := 5) rfl (q0 := 0) rfl, (fun U hU hW => ⟨rfl, xPre_of hZ hS hFc hP hD hK U hU hW⟩)⟩ rfl rfl hl.1 rfl (xm_room (Nat.le_of_ble_eq_true rfl)) dM_joined_68 ⟨hm0.1, hm0.2⟩) hS (fun q _ h => hFc q h) hFc (fun r4 u9 t H1 locs ht hvm hr9 hB hz1 hk1 hS => ?_)
        obtain ⟨hP1, hK1, hD1⟩ := hB
        rw [ht] at hP1
        have hP : va_P D xcl (xMw cT aM adL rd gdL vadL ws9 []) H1 := hP1
        have hD : va_D A (xMw cT aM adL rd gdL vadL ws9 []) := hD1.weaken (fun k q _ h => hFc q.1 h)
        generalize H1 = H at hP hS ⊢
        rw [hr9]
        refine W.eq (g2 := F0 m 71 ls [xv vadL o2]) (by first | rfl | (skip; rfl)) ?_
        refine xm_astore (lv' := [(5, xv vadL o2), (4, .int y4), (3, .int y3), (0, .ref aM), (1, xv vadL y1), (2, xv vadL y2)]) hx hb (xvor _ _) dM_joined_71 hl (by decide) rfl (fun ls hl => ?_)
        refine lv_iload hx hb dM_joined_73 (lv_at hl 1 rfl) ?_
        refine lv_if_le (tgt := 83) hx hb dM_joined_75 (by decide) (fun hc => ?_) (fun hc => ?_)
        · rw [if_pos hc] at hf
          refine xm_aload hx hb (xvor _ _) dM_joined_83 (lv_at hl 0 rfl) ?_
          obtain ⟨hg5, hf⟩ := xifn hf
          refine xm_vget (v := .int ((xpi ws9 0) (o2 - 1))) hx hb htx hown hK hP 0 (by decide) hg5 rfl ((hZ.1 (93, "kind", "I") (List.mem_of_getElem? (i := 0) rfl)).use rfl) rfl dM_joined_85 ?_
          refine lv_iconst (v := 4) hx hb dM_joined_88 (by decide) ?_
          refine lv_icmp_ne (tgt := 101) hx hb dM_joined_89 (by decide) (fun hc => ?_) (fun hc => ?_)
          · rw [if_neg hc] at hf
            refine xm_aload hx hb (xvor _ _) dM_joined_101 (lv_at hl 0 rfl) ?_
            refine xm_vget (v := .int ((xpi ws9 0) (o2 - 1))) hx hb htx hown hK hP 0 (by decide) hg5 rfl ((hZ.1 (93, "kind", "I") (List.mem_of_getElem? (i := 0) rfl)).use rfl) rfl dM_joined_103 ?_
            refine lv_if_eq (tgt := 157) hx hb dM_joined_106 (by decide) (fun hc => ?_) (fun hc => ?_)
            · rw [if_pos hc] at hf
              refine lv_aload_n hx hb dM_joined_157 rfl (lv_at hl 3 rfl) ?_
              refine xm_get (v := .int (xsi ws9 4)) hx hb htx hown hK hP 4 (by decide) rfl (htx _ kw_5_91) rfl dM_joined_158 ?_
              refine lv_iload_n hx hb dM_joined_161 rfl (lv_at hl 2 rfl) ?_
              refine lv_isub hx hb dM_joined_162 ?_
              refine lv_ldc hx hb hown (htx _ kw_6_62) dM_joined_163 ?_
              refine lv_icmp_le (tgt := 173) hx hb dM_joined_165 (by decide) (fun hc => ?_) (fun hc => ?_)
              · rw [if_pos hc] at hf
                refine lv_iinc (v := (y4 + 1)) (lv' := [(4, .int (y4 + 1)), (5, xv vadL o2), (3, .int y3), (0, .ref aM), (1, xv vadL y1), (2, xv vadL y2)]) hx hb dM_joined_173 hl (k := 1) rfl rfl (by decide) rfl (fun ls hl => ?_)
                refine lv_goto (tgt := 55) hx hb dM_joined_176 (by decide) ?_
                exact ih (2, y3, y1, y2, (y4 + 1), 0, 0, o2, ws9, wc, wn) _ _ ls (Or.inr (Or.inl ⟨adL, gdL, vadL, rfl, hf, hP, hD, hS, lv_sub hl [0, 2, 3, 4, 5] rfl, hE, hN⟩))
              · rw [if_neg hc] at hf
                refine lv_aload_n hx hb dM_joined_168 rfl (lv_at hl 3 rfl) ?_
                obtain ⟨o6, hq7, hf⟩ := xbind hf
                have hl := lv_sub (l' := [(4, .int y4), (3, .int y3), (0, .ref aM)]) hl [1, 2, 3] rfl
                by_cases hk8 : o6.1 = 1
                · rw [if_pos hk8] at hf
                  obtain ⟨hm9, hf⟩ := xmoE hf
                  have hFc := xm_free hD hS hA
                  refine xx_thr (vx_runV (C := "ValueBenchModel") (As := []) (rest := []) ⟨hx, hb, hml, hown, htx⟩ (gM_limit_1 l hl9 D cT aK aV H.size n aM adL rd gdL vadL ws9 o6 hq7 hk8) ⟨callB_of 0 htx (xw_goodC kw_6_66) rfl rfl rfl (htx _ kw_1_5) (htx _ kw_6_63) ⟨by decide, by decide, by decide +kernel⟩ ⟨Nat.le_of_ble_eq_true rfl, Nat.le_of_ble_eq_true rfl⟩, (htx _ kw_6_65), (htx _ kp_M_limit)⟩ ⟨xPre_blind, va_recv hK hP (ci := 5) rfl (q0 := 0) rfl, (fun U hU hW => ⟨rfl, xPre_of hZ hS hFc hP hD hK U hU hW⟩)⟩ rfl rfl hl.1 rfl (xm_room (Nat.le_of_ble_eq_true rfl)) dM_joined_169 ⟨hm9.1, hm9.2⟩) hS hFc (fun q _ h => hFc q h) (fun E ce q9 u9 t H1 locs ht hvm hr9 hB hz1 hk1 hS hce hcv hcl => ?_)
                  obtain ⟨rfl, hP1, hK1, hD1⟩ := hB
                  rw [ht] at hP1
                  obtain ⟨ad11, gd12, vad13⟩ := u9
                  obtain ⟨hv14, hn15⟩ := hr9
                  have hP : va_P D xcl (xMw cT aM ad11 rd gd12 vad13 ws9 []) H1 := hP1
                  have hD : va_D A (xMw cT aM ad11 rd gd12 vad13 ws9 []) := hD1.weaken (fun k q _ h => hFc q.1 h)
                  generalize H1 = H at hP hS hce ⊢
                  have hE9 : ∀ p, p < xct st → vad13 p = vad p := fun p h => (hv14 p (Nat.lt_of_lt_of_le h hN)).trans (hE p h)
                  have hE := hE9
                  have hN : xct st ≤ xct ws9 := Nat.le_trans hN hn15
                  obtain rfl := Option.some.inj hf
                  exact vx_out (E := "java/lang/IndexOutOfBoundsException") (fun x h => (hne x h).elim) hlocks hce hcv hcl (fun t ht ha => ⟨(ad11, gd12, vad13), ⟨hE, hN⟩, ⟨rfl, by rw [ht]; exact hP, va_K.moved ha hK, hD⟩, hS.F ht⟩) hS.2.2 (Nat.le_refl _) (Nat.le_refl _)
                rw [if_neg hk8] at hf
                exact nomatch hf
            · rw [if_neg hc] at hf
              refine lv_aload_n hx hb dM_joined_109 rfl (lv_at hl 3 rfl) ?_
              refine xm_get (v := .int (xsi ws9 22)) hx hb htx hown hK hP 22 (by decide) rfl (htx _ kw_5_109) rfl dM_joined_110 ?_
              refine lv_istore (lv' := [(6, .int (xsi ws9 22)), (5, xv vadL o2), (4, .int y4), (3, .int y3), (0, .ref aM), (1, xv vadL y1), (2, xv vadL y2)]) hx hb dM_joined_113 hl (by decide) (by simp only [List.filter, xvcat, xrscat, xcI, xcL, xcR, xcN]; rfl) (fun ls hl => ?_)
              refine lv_aload_n hx hb dM_joined_115 rfl (lv_at hl 4 rfl) ?_
              refine xm_aload hx hb (xvor _ _) dM_joined_116 (lv_at hl 1 rfl) ?_
              obtain ⟨o6, hq7, hf⟩ := xbind hf
              by_cases hk8 : o6.1 = 0
              · rw [if_pos hk8] at hf
                obtain ⟨hg9, hf⟩ := xifn hf
                obtain ⟨hm10, hf⟩ := xmoE hf
                have hFc := xm_free hD hS hA
                refine va_callv (va_runV (C := "ValueBenchModel") (As := [xv vadL o2]) (rest := []) ⟨hx, hb, hml, hown, htx⟩ ((gM_print1 l hl9 D cT aK aV d H.size n aM adL rd gdL vadL ws9 o2 o6 hq7).1 hk8) ⟨callB_of 1 htx (xw_goodC kw_6_128) rfl rfl rfl (htx _ kw_1_5) (htx _ kw_6_125) ⟨by decide, by decide, by decide +kernel⟩ ⟨(by show (16 * d) + 1 ≤ 16 * d + 8; omega), (by show 8 + (3 + 11) + (400 * d) ≤ 400 * d + 142; omega)⟩, (htx _ kw_6_127), (htx _ kp_M_print1)⟩ ⟨xPre_blind, va_recv hK hP (ci := 5) rfl (q0 := 0) rfl, (fun U hU hW => ⟨rfl, xPre_of hZ hS hFc hP hD hK U hU hW⟩)⟩ rfl rfl hl.1 rfl (xm_room (Nat.le_of_ble_eq_true rfl)) dM_joined_118 ⟨hm10.1, hm10.2⟩) hS (fun q _ h => hFc q h) hFc (fun u9 t H1 locs ht hvm hr9 hB hz1 hk1 hS => ?_)
                obtain ⟨hP1, hK1, hD1⟩ := hB
                rw [ht] at hP1
                obtain ⟨ad12, gd13, vad14⟩ := u9
                obtain ⟨hv15, hn16⟩ := hr9
                have hP : va_P D xcl (xMw cT aM ad12 rd gd13 vad14 o6.2.2.2 []) H1 := hP1
                have hD : va_D A (xMw cT aM ad12 rd gd13 vad14 o6.2.2.2 []) := hD1.weaken (fun k q _ h => hFc q.1 h)
                generalize H1 = H at hP hS ⊢
                have hE9 : ∀ p, p < xct st → vad14 p = vad p := fun p h => (hv15 p (Nat.lt_of_lt_of_le h hN)).trans (hE p h)
                have hE := hE9
                have hN : xct st ≤ xct o6.2.2.2 := Nat.le_trans hN hn16
                have ev17 : xv vadL o2 = xv vad14 o2 := xvE hv15 (fun h => hg5 (Or.inr h))
                have ev18 : xv vadL y1 = xv vad14 y1 := xvE hv15 (fun h => hg1 (Or.inr h))
                have ev19 : xv vadL y2 = xv vad14 y2 := xvE hv15 hg9
                have hl : lv_has ls 8 [(6, .int (xsi ws9 22)), (5, xv vad14 o2), (4, .int y4), (3, .int y3), (0, .ref aM), (1, xv vad14 y1), (2, xv vad14 y2)] := by first | exact hl | ((try (rw [← ev17])); (try (rw [← ev18])); (try (rw [← ev19])); exact hl)
                refine W.eq (g2 := F0 m 121 ls []) (by first | rfl | ((try (rw [ev17])); (try (rw [ev18])); (try (rw [ev19])); rfl)) ?_
                refine lv_iload hx hb dM_joined_121 (lv_at hl 0 rfl) ?_
                refine lv_istore (lv' := [(7, .int (xsi ws9 22)), (6, .int (xsi ws9 22)), (5, xv vad14 o2), (4, .int y4), (3, .int y3), (0, .ref aM), (1, xv vad14 y1), (2, xv vad14 y2)]) hx hb dM_joined_123 hl (by decide) rfl (fun ls hl => ?_)
                exact ih (3, y3, y1, y2, y4, (xsi ws9 22), (xsi ws9 22), o2, o6.2.2.2, (wc + o6.2.1), (wn + o6.2.2.1)) _ _ ls (Or.inr (Or.inr (⟨ad12, gd13, vad14, rfl, hf, hP, hD, hS, lv_sub hl [0, 1, 2, 3, 4, 5, 6, 7] rfl, hE, hN⟩)))
              rw [if_neg hk8] at hf
              by_cases hk20 : o6.1 = 1
              · rw [if_pos hk20] at hf
                obtain ⟨hg21, hf⟩ := xifn hf
                obtain ⟨hm22, hf⟩ := xmoE hf
                have hFc := xm_free hD hS hA
                refine xx_thr (vx_runV (C := "ValueBenchModel") (As := [xv vadL o2]) (rest := []) ⟨hx, hb, hml, hown, htx⟩ ((gM_print1 l hl9 D cT aK aV d H.size n aM adL rd gdL vadL ws9 o2 o6 hq7).2 hk20) ⟨callB_of 1 htx (xw_goodC kw_6_128) rfl rfl rfl (htx _ kw_1_5) (htx _ kw_6_125) ⟨by decide, by decide, by decide +kernel⟩ ⟨(by show (16 * d) + 1 ≤ 16 * d + 8; omega), (by show 8 + (3 + 11) + (400 * d) ≤ 400 * d + 142; omega)⟩, (htx _ kw_6_127), (htx _ kp_M_print1)⟩ ⟨xPre_blind, va_recv hK hP (ci := 5) rfl (q0 := 0) rfl, (fun U hU hW => ⟨rfl, xPre_of hZ hS hFc hP hD hK U hU hW⟩)⟩ rfl rfl hl.1 rfl (xm_room (Nat.le_of_ble_eq_true rfl)) dM_joined_118 ⟨hm22.1, hm22.2⟩) hS hFc (fun q _ h => hFc q h) (fun E ce q9 u9 t H1 locs ht hvm hr9 hB hz1 hk1 hS hce hcv hcl => ?_)
                obtain ⟨rfl, hP1, hK1, hD1⟩ := hB
                rw [ht] at hP1
                obtain ⟨ad24, gd25, vad26⟩ := u9
                obtain ⟨hv27, hn28⟩ := hr9
                have hP : va_P D xcl (xMw cT aM ad24 rd gd25 vad26 o6.2.2.2 []) H1 := hP1
                have hD : va_D A (xMw cT aM ad24 rd gd25 vad26 o6.2.2.2 []) := hD1.weaken (fun k q _ h => hFc q.1 h)
                generalize H1 = H at hP hS hce ⊢
                have hE9 : ∀ p, p < xct st → vad26 p = vad p := fun p h => (hv27 p (Nat.lt_of_lt_of_le h hN)).trans (hE p h)
                have hE := hE9
                have hN : xct st ≤ xct o6.2.2.2 := Nat.le_trans hN hn28
                have ev29 : xv vadL o2 = xv vad26 o2 := xvE hv27 (fun h => hg5 (Or.inr h))
                have ev30 : xv vadL y1 = xv vad26 y1 := xvE hv27 (fun h => hg1 (Or.inr h))
                have ev31 : xv vadL y2 = xv vad26 y2 := xvE hv27 hg21
                have hl : lv_has ls 8 [(6, .int (xsi ws9 22)), (5, xv vad26 o2), (4, .int y4), (3, .int y3), (0, .ref aM), (1, xv vad26 y1), (2, xv vad26 y2)] := by first | exact hl | ((try (rw [← ev29])); (try (rw [← ev30])); (try (rw [← ev31])); exact hl)
                obtain rfl := Option.some.inj hf
                exact vx_out (E := "java/lang/IndexOutOfBoundsException") (fun x h => (hne x h).elim) hlocks hce hcv hcl (fun t ht ha => ⟨(ad24, gd25, vad26), ⟨hE, hN⟩, ⟨rfl, by rw [ht]; exact hP, va_K.moved ha hK, hD⟩, hS.F ht⟩) hS.2.2 (Nat.le_refl _) (Nat.le_refl _)
              rw [if_neg hk20] at hf
              exact nomatch hf
          · rw [if_pos hc] at hf
            refine lv_aload_n hx hb dM_joined_92 rfl (lv_at hl 3 rfl) ?_
            refine xm_aload hx hb (xvor _ _) dM_joined_93 (lv_at hl 0 rfl) ?_
            obtain ⟨o6, hq7, hf⟩ := xbind hf
            obtain ⟨hg8, hf⟩ := xifn hf
            obtain ⟨hm9, hf⟩ := xmoE hf
            have hFc := xm_free hD hS hA
            refine va_callv (va_runV (C := "ValueBenchModel") (As := [xv vadL o2]) (rest := []) ⟨hx, hb, hml, hown, htx⟩ (gM_letters l hl9 D cT aK aV H.size n aM adL rd gdL vadL ws9 o2 o6 hq7) ⟨callB_of 1 htx (xw_goodC kw_6_207) rfl rfl rfl (htx _ kw_1_5) (htx _ kw_6_204) ⟨by decide, by decide, by decide +kernel⟩ ⟨Nat.le_of_ble_eq_true rfl, Nat.le_of_ble_eq_true rfl⟩, (htx _ kw_6_206), (htx _ kp_M_letters)⟩ ⟨xPre_blind, va_recv hK hP (ci := 5) rfl (q0 := 0) rfl, (fun U hU hW => ⟨rfl, xPre_of hZ hS hFc hP hD hK U hU hW⟩)⟩ rfl rfl hl.1 rfl (xm_room (Nat.le_of_ble_eq_true rfl)) dM_joined_95 ⟨hm9.1, hm9.2⟩) hS (fun q _ h => hFc q h) hFc (fun u9 t H1 locs ht hvm hr9 hB hz1 hk1 hS => ?_)
            obtain ⟨hP1, hK1, hD1⟩ := hB
            rw [ht] at hP1
            obtain ⟨ad11, gd12, vad13⟩ := u9
            obtain ⟨hv14, hn15⟩ := hr9
            have hP : va_P D xcl (xMw cT aM ad11 rd gd12 vad13 o6.2.2 []) H1 := hP1
            have hD : va_D A (xMw cT aM ad11 rd gd12 vad13 o6.2.2 []) := hD1.weaken (fun k q _ h => hFc q.1 h)
            generalize H1 = H at hP hS ⊢
            have hE9 : ∀ p, p < xct st → vad13 p = vad p := fun p h => (hv14 p (Nat.lt_of_lt_of_le h hN)).trans (hE p h)
            have hE := hE9
            have hN : xct st ≤ xct o6.2.2 := Nat.le_trans hN hn15
            have ev16 : xv vadL o2 = xv vad13 o2 := xvE hv14 (fun h => hg5 (Or.inr h))
            have ev17 : xv vadL y1 = xv vad13 y1 := xvE hv14 (fun h => hg1 (Or.inr h))
            have ev18 : xv vadL y2 = xv vad13 y2 := xvE hv14 hg8
            have hl : lv_has ls 8 [(5, xv vad13 o2), (4, .int y4), (3, .int y3), (0, .ref aM), (1, xv vad13 y1), (2, xv vad13 y2)] := by first | exact hl | ((try (rw [← ev16])); (try (rw [← ev17])); (try (rw [← ev18])); exact hl)
            refine W.eq (g2 := F0 m 98 ls []) (by first | rfl | ((try (rw [ev16])); (try (rw [ev17])); (try (rw [ev18])); rfl)) ?_
            refine lv_goto (tgt := 157) hx hb dM_joined_98 (by decide) ?_
            refine lv_aload_n hx hb dM_joined_157 rfl (lv_at hl 3 rfl) ?_
            refine xm_get (v := .int (xsi o6.2.2 4)) hx hb htx hown hK hP 4 (by decide) rfl (htx _ kw_5_91) rfl dM_joined_158 ?_
            refine lv_iload_n hx hb dM_joined_161 rfl (lv_at hl 2 rfl) ?_
            refine lv_isub hx hb dM_joined_162 ?_
            refine lv_ldc hx hb hown (htx _ kw_6_62) dM_joined_163 ?_
            refine lv_icmp_le (tgt := 173) hx hb dM_joined_165 (by decide) (fun hc => ?_) (fun hc => ?_)
            · rw [if_pos hc] at hf
              refine lv_iinc (v := (y4 + 1)) (lv' := [(4, .int (y4 + 1)), (5, xv vad13 o2), (3, .int y3), (0, .ref aM), (1, xv vad13 y1), (2, xv vad13 y2)]) hx hb dM_joined_173 hl (k := 1) rfl rfl (by decide) rfl (fun ls hl => ?_)
              refine lv_goto (tgt := 55) hx hb dM_joined_176 (by decide) ?_
              exact ih (2, y3, y1, y2, (y4 + 1), 0, 0, o2, o6.2.2, (wc + o6.1), (wn + o6.2.1)) _ _ ls (Or.inr (Or.inl ⟨ad11, gd12, vad13, rfl, hf, hP, hD, hS, lv_sub hl [0, 2, 3, 4, 5] rfl, hE, hN⟩))
            · rw [if_neg hc] at hf
              refine lv_aload_n hx hb dM_joined_168 rfl (lv_at hl 3 rfl) ?_
              obtain ⟨o19, hq20, hf⟩ := xbind hf
              have hl := lv_sub (l' := [(4, .int y4), (3, .int y3), (0, .ref aM)]) hl [1, 2, 3] rfl
              by_cases hk21 : o19.1 = 1
              · rw [if_pos hk21] at hf
                obtain ⟨hm22, hf⟩ := xmoE hf
                have hFc := xm_free hD hS hA
                refine xx_thr (vx_runV (C := "ValueBenchModel") (As := []) (rest := []) ⟨hx, hb, hml, hown, htx⟩ (gM_limit_1 l hl9 D cT aK aV H.size n aM ad11 rd gd12 vad13 o6.2.2 o19 hq20 hk21) ⟨callB_of 0 htx (xw_goodC kw_6_66) rfl rfl rfl (htx _ kw_1_5) (htx _ kw_6_63) ⟨by decide, by decide, by decide +kernel⟩ ⟨Nat.le_of_ble_eq_true rfl, Nat.le_of_ble_eq_true rfl⟩, (htx _ kw_6_65), (htx _ kp_M_limit)⟩ ⟨xPre_blind, va_recv hK hP (ci := 5) rfl (q0 := 0) rfl, (fun U hU hW => ⟨rfl, xPre_of hZ hS hFc hP hD hK U hU hW⟩)⟩ rfl rfl hl.1 rfl (xm_room (Nat.le_of_ble_eq_true rfl)) dM_joined_169 ⟨hm22.1, hm22.2⟩) hS hFc (fun q _ h => hFc q h) (fun E ce q9 u9 t H1 locs ht hvm hr9 hB hz1 hk1 hS hce hcv hcl => ?_)
                obtain ⟨rfl, hP1, hK1, hD1⟩ := hB
                rw [ht] at hP1
                obtain ⟨ad24, gd25, vad26⟩ := u9
                obtain ⟨hv27, hn28⟩ := hr9
                have hP : va_P D xcl (xMw cT aM ad24 rd gd25 vad26 o6.2.2 []) H1 := hP1
                have hD : va_D A (xMw cT aM ad24 rd gd25 vad26 o6.2.2 []) := hD1.weaken (fun k q _ h => hFc q.1 h)
                generalize H1 = H at hP hS hce ⊢
                have hE9 : ∀ p, p < xct st → vad26 p = vad p := fun p h => (hv27 p (Nat.lt_of_lt_of_le h hN)).trans (hE p h)
                have hE := hE9
                have hN : xct st ≤ xct o6.2.2 := Nat.le_trans hN hn28
                obtain rfl := Option.some.inj hf
                exact vx_out (E := "java/lang/IndexOutOfBoundsException") (fun x h => (hne x h).elim) hlocks hce hcv hcl (fun t ht ha => ⟨(ad24, gd25, vad26), ⟨hE, hN⟩, ⟨rfl, by rw [ht]; exact hP, va_K.moved ha hK, hD⟩, hS.F ht⟩) hS.2.2 (Nat.le_refl _) (Nat.le_refl _)
              rw [if_neg hk21] at hf
              exact nomatch hf
        · rw [if_neg hc] at hf
          refine lv_aload_n hx hb dM_joined_78 rfl (lv_at hl 3 rfl) ?_
          refine xm_aload_n hx hb (xvor _ _) dM_joined_79 rfl (lv_at hl 5 rfl) ?_
          obtain ⟨o5, hq6, hf⟩ := xbind hf
          obtain ⟨hg7, hf⟩ := xifn hf
          obtain ⟨hg8, hf⟩ := xifn hf
          obtain ⟨hm9, hf⟩ := xmoE hf
          have hFc := xm_free hD hS hA
          refine va_callv (va_runV (C := "ValueBenchModel") (As := [xv vadL y2]) (rest := []) ⟨hx, hb, hml, hown, htx⟩ (gM_letters l hl9 D cT aK aV H.size n aM adL rd gdL vadL ws9 y2 o5 hq6) ⟨callB_of 1 htx (xw_goodC kw_6_207) rfl rfl rfl (htx _ kw_1_5) (htx _ kw_6_204) ⟨by decide, by decide, by decide +kernel⟩ ⟨Nat.le_of_ble_eq_true rfl, Nat.le_of_ble_eq_true rfl⟩, (htx _ kw_6_206), (htx _ kp_M_letters)⟩ ⟨xPre_blind, va_recv hK hP (ci := 5) rfl (q0 := 0) rfl, (fun U hU hW => ⟨rfl, xPre_of hZ hS hFc hP hD hK U hU hW⟩)⟩ rfl rfl hl.1 rfl (xm_room (Nat.le_of_ble_eq_true rfl)) dM_joined_80 ⟨hm9.1, hm9.2⟩) hS (fun q _ h => hFc q h) hFc (fun u9 t H1 locs ht hvm hr9 hB hz1 hk1 hS => ?_)
          obtain ⟨hP1, hK1, hD1⟩ := hB
          rw [ht] at hP1
          obtain ⟨ad11, gd12, vad13⟩ := u9
          obtain ⟨hv14, hn15⟩ := hr9
          have hP : va_P D xcl (xMw cT aM ad11 rd gd12 vad13 o5.2.2 []) H1 := hP1
          have hD : va_D A (xMw cT aM ad11 rd gd12 vad13 o5.2.2 []) := hD1.weaken (fun k q _ h => hFc q.1 h)
          generalize H1 = H at hP hS ⊢
          have hE9 : ∀ p, p < xct st → vad13 p = vad p := fun p h => (hv14 p (Nat.lt_of_lt_of_le h hN)).trans (hE p h)
          have hE := hE9
          have hN : xct st ≤ xct o5.2.2 := Nat.le_trans hN hn15
          have ev16 : xv vadL o2 = xv vad13 o2 := xvE hv14 hg7
          have ev17 : xv vadL y1 = xv vad13 y1 := xvE hv14 (fun h => hg1 (Or.inr h))
          have ev18 : xv vadL y2 = xv vad13 y2 := xvE hv14 hg8
          have hl : lv_has ls 8 [(5, xv vad13 o2), (4, .int y4), (3, .int y3), (0, .ref aM), (1, xv vad13 y1), (2, xv vad13 y2)] := by first | exact hl | ((try (rw [← ev16])); (try (rw [← ev17])); (try (rw [← ev18])); exact hl)
          refine W.eq (g2 := F0 m 83 ls []) (by first | rfl | ((try (rw [ev16])); (try (rw [ev17])); (try (rw [ev18])); rfl)) ?_
          refine xm_aload hx hb (xvor _ _) dM_joined_83 (lv_at hl 0 rfl) ?_
          obtain ⟨hg19, hf⟩ := xifn hf
          refine xm_vget (v := .int ((xpi o5.2.2 0) (o2 - 1))) hx hb htx hown hK hP 0 (by decide) hg19 rfl ((hZ.1 (93, "kind", "I") (List.mem_of_getElem? (i := 0) rfl)).use rfl) rfl dM_joined_85 ?_
          refine lv_iconst (v := 4) hx hb dM_joined_88 (by decide) ?_
          refine lv_icmp_ne (tgt := 101) hx hb dM_joined_89 (by decide) (fun hc => ?_) (fun hc => ?_)
          · rw [if_neg hc] at hf
            refine xm_aload hx hb (xvor _ _) dM_joined_101 (lv_at hl 0 rfl) ?_
            refine xm_vget (v := .int ((xpi o5.2.2 0) (o2 - 1))) hx hb htx hown hK hP 0 (by decide) hg19 rfl ((hZ.1 (93, "kind", "I") (List.mem_of_getElem? (i := 0) rfl)).use rfl) rfl dM_joined_103 ?_
            refine lv_if_eq (tgt := 157) hx hb dM_joined_106 (by decide) (fun hc => ?_) (fun hc => ?_)
            · rw [if_pos hc] at hf
              refine lv_aload_n hx hb dM_joined_157 rfl (lv_at hl 3 rfl) ?_
              refine xm_get (v := .int (xsi o5.2.2 4)) hx hb htx hown hK hP 4 (by decide) rfl (htx _ kw_5_91) rfl dM_joined_158 ?_
              refine lv_iload_n hx hb dM_joined_161 rfl (lv_at hl 2 rfl) ?_
              refine lv_isub hx hb dM_joined_162 ?_
              refine lv_ldc hx hb hown (htx _ kw_6_62) dM_joined_163 ?_
              refine lv_icmp_le (tgt := 173) hx hb dM_joined_165 (by decide) (fun hc => ?_) (fun hc => ?_)
              · rw [if_pos hc] at hf
                refine lv_iinc (v := (y4 + 1)) (lv' := [(4, .int (y4 + 1)), (5, xv vad13 o2), (3, .int y3), (0, .ref aM), (1, xv vad13 y1), (2, xv vad13 y2)]) hx hb dM_joined_173 hl (k := 1) rfl rfl (by decide) rfl (fun ls hl => ?_)
                refine lv_goto (tgt := 55) hx hb dM_joined_176 (by decide) ?_
                exact ih (2, y3, y1, y2, (y4 + 1), 0, 0, o2, o5.2.2, (wc + o5.1), (wn + o5.2.1)) _ _ ls (Or.inr (Or.inl ⟨ad11, gd12, vad13, rfl, hf, hP, hD, hS, lv_sub hl [0, 2, 3, 4, 5] rfl, hE, hN⟩))
              · rw [if_neg hc] at hf
                refine lv_aload_n hx hb dM_joined_168 rfl (lv_at hl 3 rfl) ?_
                obtain ⟨o20, hq21, hf⟩ := xbind hf
                have hl := lv_sub (l' := [(4, .int y4), (3, .int y3), (0, .ref aM)]) hl [1, 2, 3] rfl
                by_cases hk22 : o20.1 = 1
                · rw [if_pos hk22] at hf
                  obtain ⟨hm23, hf⟩ := xmoE hf
                  have hFc := xm_free hD hS hA
                  refine xx_thr (vx_runV (C := "ValueBenchModel") (As := []) (rest := []) ⟨hx, hb, hml, hown, htx⟩ (gM_limit_1 l hl9 D cT aK aV H.size n aM ad11 rd gd12 vad13 o5.2.2 o20 hq21 hk22) ⟨callB_of 0 htx (xw_goodC kw_6_66) rfl rfl rfl (htx _ kw_1_5) (htx _ kw_6_63) ⟨by decide, by decide, by decide +kernel⟩ ⟨Nat.le_of_ble_eq_true rfl, Nat.le_of_ble_eq_true rfl⟩, (htx _ kw_6_65), (htx _ kp_M_limit)⟩ ⟨xPre_blind, va_recv hK hP (ci := 5) rfl (q0 := 0) rfl, (fun U hU hW => ⟨rfl, xPre_of hZ hS hFc hP hD hK U hU hW⟩)⟩ rfl rfl hl.1 rfl (xm_room (Nat.le_of_ble_eq_true rfl)) dM_joined_169 ⟨hm23.1, hm23.2⟩) hS hFc (fun q _ h => hFc q h) (fun E ce q9 u9 t H1 locs ht hvm hr9 hB hz1 hk1 hS hce hcv hcl => ?_)
                  obtain ⟨rfl, hP1, hK1, hD1⟩ := hB
                  rw [ht] at hP1
                  obtain ⟨ad25, gd26, vad27⟩ := u9
                  obtain ⟨hv28, hn29⟩ := hr9
                  have hP : va_P D xcl (xMw cT aM ad25 rd gd26 vad27 o5.2.2 []) H1 := hP1
                  have hD : va_D A (xMw cT aM ad25 rd gd26 vad27 o5.2.2 []) := hD1.weaken (fun k q _ h => hFc q.1 h)
                  generalize H1 = H at hP hS hce ⊢
                  have hE9 : ∀ p, p < xct st → vad27 p = vad p := fun p h => (hv28 p (Nat.lt_of_lt_of_le h hN)).trans (hE p h)
                  have hE := hE9
                  have hN : xct st ≤ xct o5.2.2 := Nat.le_trans hN hn29
                  obtain rfl := Option.some.inj hf
                  exact vx_out (E := "java/lang/IndexOutOfBoundsException") (fun x h => (hne x h).elim) hlocks hce hcv hcl (fun t ht ha => ⟨(ad25, gd26, vad27), ⟨hE, hN⟩, ⟨rfl, by rw [ht]; exact hP, va_K.moved ha hK, hD⟩, hS.F ht⟩) hS.2.2 (Nat.le_refl _) (Nat.le_refl _)
                rw [if_neg hk22] at hf
                exact nomatch hf
            · rw [if_neg hc] at hf
              refine lv_aload_n hx hb dM_joined_109 rfl (lv_at hl 3 rfl) ?_
              refine xm_get (v := .int (xsi o5.2.2 22)) hx hb htx hown hK hP 22 (by decide) rfl (htx _ kw_5_109) rfl dM_joined_110 ?_
              refine lv_istore (lv' := [(6, .int (xsi o5.2.2 22)), (5, xv vad13 o2), (4, .int y4), (3, .int y3), (0, .ref aM), (1, xv vad13 y1), (2, xv vad13 y2)]) hx hb dM_joined_113 hl (by decide) (by simp only [List.filter, xvcat, xrscat, xcI, xcL, xcR, xcN]; rfl) (fun ls hl => ?_)
              refine lv_aload_n hx hb dM_joined_115 rfl (lv_at hl 4 rfl) ?_
              refine xm_aload hx hb (xvor _ _) dM_joined_116 (lv_at hl 1 rfl) ?_
              obtain ⟨o20, hq21, hf⟩ := xbind hf
              by_cases hk22 : o20.1 = 0
              · rw [if_pos hk22] at hf
                obtain ⟨hg23, hf⟩ := xifn hf
                obtain ⟨hg24, hf⟩ := xifn hf
                obtain ⟨hm25, hf⟩ := xmoE hf
                have hFc := xm_free hD hS hA
                refine va_callv (va_runV (C := "ValueBenchModel") (As := [xv vad13 o2]) (rest := []) ⟨hx, hb, hml, hown, htx⟩ ((gM_print1 l hl9 D cT aK aV d H.size n aM ad11 rd gd12 vad13 o5.2.2 o2 o20 hq21).1 hk22) ⟨callB_of 1 htx (xw_goodC kw_6_128) rfl rfl rfl (htx _ kw_1_5) (htx _ kw_6_125) ⟨by decide, by decide, by decide +kernel⟩ ⟨(by show (16 * d) + 1 ≤ 16 * d + 8; omega), (by show 8 + (3 + 11) + (400 * d) ≤ 400 * d + 142; omega)⟩, (htx _ kw_6_127), (htx _ kp_M_print1)⟩ ⟨xPre_blind, va_recv hK hP (ci := 5) rfl (q0 := 0) rfl, (fun U hU hW => ⟨rfl, xPre_of hZ hS hFc hP hD hK U hU hW⟩)⟩ rfl rfl hl.1 rfl (xm_room (Nat.le_of_ble_eq_true rfl)) dM_joined_118 ⟨hm25.1, hm25.2⟩) hS (fun q _ h => hFc q h) hFc (fun u9 t H1 locs ht hvm hr9 hB hz1 hk1 hS => ?_)
                obtain ⟨hP1, hK1, hD1⟩ := hB
                rw [ht] at hP1
                obtain ⟨ad27, gd28, vad29⟩ := u9
                obtain ⟨hv30, hn31⟩ := hr9
                have hP : va_P D xcl (xMw cT aM ad27 rd gd28 vad29 o20.2.2.2 []) H1 := hP1
                have hD : va_D A (xMw cT aM ad27 rd gd28 vad29 o20.2.2.2 []) := hD1.weaken (fun k q _ h => hFc q.1 h)
                generalize H1 = H at hP hS ⊢
                have hE9 : ∀ p, p < xct st → vad29 p = vad p := fun p h => (hv30 p (Nat.lt_of_lt_of_le h hN)).trans (hE p h)
                have hE := hE9
                have hN : xct st ≤ xct o20.2.2.2 := Nat.le_trans hN hn31
                have ev32 : xv vad13 o2 = xv vad29 o2 := xvE hv30 (fun h => hg19 (Or.inr h))
                have ev33 : xv vad13 y1 = xv vad29 y1 := xvE hv30 hg23
                have ev34 : xv vad13 y2 = xv vad29 y2 := xvE hv30 hg24
                have hl : lv_has ls 8 [(6, .int (xsi o5.2.2 22)), (5, xv vad29 o2), (4, .int y4), (3, .int y3), (0, .ref aM), (1, xv vad29 y1), (2, xv vad29 y2)] := by first | exact hl | ((try (rw [← ev32])); (try (rw [← ev33])); (try (rw [← ev34])); exact hl)
                refine W.eq (g2 := F0 m 121 ls []) (by first | rfl | ((try (rw [ev32])); (try (rw [ev33])); (try (rw [ev34])); rfl)) ?_
                refine lv_iload hx hb dM_joined_121 (lv_at hl 0 rfl) ?_
                refine lv_istore (lv' := [(7, .int (xsi o5.2.2 22)), (6, .int (xsi o5.2.2 22)), (5, xv vad29 o2), (4, .int y4), (3, .int y3), (0, .ref aM), (1, xv vad29 y1), (2, xv vad29 y2)]) hx hb dM_joined_123 hl (by decide) rfl (fun ls hl => ?_)
                exact ih (3, y3, y1, y2, y4, (xsi o5.2.2 22), (xsi o5.2.2 22), o2, o20.2.2.2, ((wc + o5.1) + o20.2.1), ((wn + o5.2.1) + o20.2.2.1)) _ _ ls (Or.inr (Or.inr (⟨ad27, gd28, vad29, rfl, hf, hP, hD, hS, lv_sub hl [0, 1, 2, 3, 4, 5, 6, 7] rfl, hE, hN⟩)))
              rw [if_neg hk22] at hf
              by_cases hk35 : o20.1 = 1
              · rw [if_pos hk35] at hf
                obtain ⟨hg36, hf⟩ := xifn hf
                obtain ⟨hg37, hf⟩ := xifn hf
                obtain ⟨hm38, hf⟩ := xmoE hf
                have hFc := xm_free hD hS hA
                refine xx_thr (vx_runV (C := "ValueBenchModel") (As := [xv vad13 o2]) (rest := []) ⟨hx, hb, hml, hown, htx⟩ ((gM_print1 l hl9 D cT aK aV d H.size n aM ad11 rd gd12 vad13 o5.2.2 o2 o20 hq21).2 hk35) ⟨callB_of 1 htx (xw_goodC kw_6_128) rfl rfl rfl (htx _ kw_1_5) (htx _ kw_6_125) ⟨by decide, by decide, by decide +kernel⟩ ⟨(by show (16 * d) + 1 ≤ 16 * d + 8; omega), (by show 8 + (3 + 11) + (400 * d) ≤ 400 * d + 142; omega)⟩, (htx _ kw_6_127), (htx _ kp_M_print1)⟩ ⟨xPre_blind, va_recv hK hP (ci := 5) rfl (q0 := 0) rfl, (fun U hU hW => ⟨rfl, xPre_of hZ hS hFc hP hD hK U hU hW⟩)⟩ rfl rfl hl.1 rfl (xm_room (Nat.le_of_ble_eq_true rfl)) dM_joined_118 ⟨hm38.1, hm38.2⟩) hS hFc (fun q _ h => hFc q h) (fun E ce q9 u9 t H1 locs ht hvm hr9 hB hz1 hk1 hS hce hcv hcl => ?_)
                obtain ⟨rfl, hP1, hK1, hD1⟩ := hB
                rw [ht] at hP1
                obtain ⟨ad40, gd41, vad42⟩ := u9
                obtain ⟨hv43, hn44⟩ := hr9
                have hP : va_P D xcl (xMw cT aM ad40 rd gd41 vad42 o20.2.2.2 []) H1 := hP1
                have hD : va_D A (xMw cT aM ad40 rd gd41 vad42 o20.2.2.2 []) := hD1.weaken (fun k q _ h => hFc q.1 h)
                generalize H1 = H at hP hS hce ⊢
                have hE9 : ∀ p, p < xct st → vad42 p = vad p := fun p h => (hv43 p (Nat.lt_of_lt_of_le h hN)).trans (hE p h)
                have hE := hE9
                have hN : xct st ≤ xct o20.2.2.2 := Nat.le_trans hN hn44
                have ev45 : xv vad13 o2 = xv vad42 o2 := xvE hv43 (fun h => hg19 (Or.inr h))
                have ev46 : xv vad13 y1 = xv vad42 y1 := xvE hv43 hg36
                have ev47 : xv vad13 y2 = xv vad42 y2 := xvE hv43 hg37
                have hl : lv_has ls 8 [(6, .int (xsi o5.2.2 22)), (5, xv vad42 o2), (4, .int y4), (3, .int y3), (0, .ref aM), (1, xv vad42 y1), (2, xv vad42 y2)] := by first | exact hl | ((try (rw [← ev45])); (try (rw [← ev46])); (try (rw [← ev47])); exact hl)
                obtain rfl := Option.some.inj hf
                exact vx_out (E := "java/lang/IndexOutOfBoundsException") (fun x h => (hne x h).elim) hlocks hce hcv hcl (fun t ht ha => ⟨(ad40, gd41, vad42), ⟨hE, hN⟩, ⟨rfl, by rw [ht]; exact hP, va_K.moved ha hK, hD⟩, hS.F ht⟩) hS.2.2 (Nat.le_refl _) (Nat.le_refl _)
              rw [if_neg hk35] at hf
              exact nomatch hf
          · rw [if_pos hc] at hf
            refine lv_aload_n hx hb dM_joined_92 rfl (lv_at hl 3 rfl) ?_
            refine xm_aload hx hb (xvor _ _) dM_joined_93 (lv_at hl 0 rfl) ?_
            obtain ⟨o20, hq21, hf⟩ := xbind hf
            obtain ⟨hg22, hf⟩ := xifn hf
            obtain ⟨hg23, hf⟩ := xifn hf
            obtain ⟨hm24, hf⟩ := xmoE hf
            have hFc := xm_free hD hS hA
            refine va_callv (va_runV (C := "ValueBenchModel") (As := [xv vad13 o2]) (rest := []) ⟨hx, hb, hml, hown, htx⟩ (gM_letters l hl9 D cT aK aV H.size n aM ad11 rd gd12 vad13 o5.2.2 o2 o20 hq21) ⟨callB_of 1 htx (xw_goodC kw_6_207) rfl rfl rfl (htx _ kw_1_5) (htx _ kw_6_204) ⟨by decide, by decide, by decide +kernel⟩ ⟨Nat.le_of_ble_eq_true rfl, Nat.le_of_ble_eq_true rfl⟩, (htx _ kw_6_206), (htx _ kp_M_letters)⟩ ⟨xPre_blind, va_recv hK hP (ci := 5) rfl (q0 := 0) rfl, (fun U hU hW => ⟨rfl, xPre_of hZ hS hFc hP hD hK U hU hW⟩)⟩ rfl rfl hl.1 rfl (xm_room (Nat.le_of_ble_eq_true rfl)) dM_joined_95 ⟨hm24.1, hm24.2⟩) hS (fun q _ h => hFc q h) hFc (fun u9 t H1 locs ht hvm hr9 hB hz1 hk1 hS => ?_)
            obtain ⟨hP1, hK1, hD1⟩ := hB
            rw [ht] at hP1
            obtain ⟨ad26, gd27, vad28⟩ := u9
            obtain ⟨hv29, hn30⟩ := hr9
            have hP : va_P D xcl (xMw cT aM ad26 rd gd27 vad28 o20.2.2 []) H1 := hP1
            have hD : va_D A (xMw cT aM ad26 rd gd27 vad28 o20.2.2 []) := hD1.weaken (fun k q _ h => hFc q.1 h)
            generalize H1 = H at hP hS ⊢
            have hE9 : ∀ p, p < xct st → vad28 p = vad p := fun p h => (hv29 p (Nat.lt_of_lt_of_le h hN)).trans (hE p h)
            have hE := hE9
            have hN : xct st ≤ xct o20.2.2 := Nat.le_trans hN hn30
            have ev31 : xv vad13 o2 = xv vad28 o2 := xvE hv29 (fun h => hg19 (Or.inr h))
            have ev32 : xv vad13 y1 = xv vad28 y1 := xvE hv29 hg22
            have ev33 : xv vad13 y2 = xv vad28 y2 := xvE hv29 hg23
            have hl : lv_has ls 8 [(5, xv vad28 o2), (4, .int y4), (3, .int y3), (0, .ref aM), (1, xv vad28 y1), (2, xv vad28 y2)] := by first | exact hl | ((try (rw [← ev31])); (try (rw [← ev32])); (try (rw [← ev33])); exact hl)
            refine W.eq (g2 := F0 m 98 ls []) (by first | rfl | ((try (rw [ev31])); (try (rw [ev32])); (try (rw [ev33])); rfl)) ?_
            refine lv_goto (tgt := 157) hx hb dM_joined_98 (by decide) ?_
            refine lv_aload_n hx hb dM_joined_157 rfl (lv_at hl 3 rfl) ?_
            refine xm_get (v := .int (xsi o20.2.2 4)) hx hb htx hown hK hP 4 (by decide) rfl (htx _ kw_5_91) rfl dM_joined_158 ?_
            refine lv_iload_n hx hb dM_joined_161 rfl (lv_at hl 2 rfl) ?_
            refine lv_isub hx hb dM_joined_162 ?_
            refine lv_ldc hx hb hown (htx _ kw_6_62) dM_joined_163 ?_
            refine lv_icmp_le (tgt := 173) hx hb dM_joined_165 (by decide) (fun hc => ?_) (fun hc => ?_)
            · rw [if_pos hc] at hf
              refine lv_iinc (v := (y4 + 1)) (lv' := [(4, .int (y4 + 1)), (5, xv vad28 o2), (3, .int y3), (0, .ref aM), (1, xv vad28 y1), (2, xv vad28 y2)]) hx hb dM_joined_173 hl (k := 1) rfl rfl (by decide) rfl (fun ls hl => ?_)
              refine lv_goto (tgt := 55) hx hb dM_joined_176 (by decide) ?_
              exact ih (2, y3, y1, y2, (y4 + 1), 0, 0, o2, o20.2.2, ((wc + o5.1) + o20.1), ((wn + o5.2.1) + o20.2.1)) _ _ ls (Or.inr (Or.inl ⟨ad26, gd27, vad28, rfl, hf, hP, hD, hS, lv_sub hl [0, 2, 3, 4, 5] rfl, hE, hN⟩))
            · rw [if_neg hc] at hf
              refine lv_aload_n hx hb dM_joined_168 rfl (lv_at hl 3 rfl) ?_
              obtain ⟨o34, hq35, hf⟩ := xbind hf
              have hl := lv_sub (l' := [(4, .int y4), (3, .int y3), (0, .ref aM)]) hl [1, 2, 3] rfl
              by_cases hk36 : o34.1 = 1
              · rw [if_pos hk36] at hf
                obtain ⟨hm37, hf⟩ := xmoE hf
                have hFc := xm_free hD hS hA
                refine xx_thr (vx_runV (C := "ValueBenchModel") (As := []) (rest := []) ⟨hx, hb, hml, hown, htx⟩ (gM_limit_1 l hl9 D cT aK aV H.size n aM ad26 rd gd27 vad28 o20.2.2 o34 hq35 hk36) ⟨callB_of 0 htx (xw_goodC kw_6_66) rfl rfl rfl (htx _ kw_1_5) (htx _ kw_6_63) ⟨by decide, by decide, by decide +kernel⟩ ⟨Nat.le_of_ble_eq_true rfl, Nat.le_of_ble_eq_true rfl⟩, (htx _ kw_6_65), (htx _ kp_M_limit)⟩ ⟨xPre_blind, va_recv hK hP (ci := 5) rfl (q0 := 0) rfl, (fun U hU hW => ⟨rfl, xPre_of hZ hS hFc hP hD hK U hU hW⟩)⟩ rfl rfl hl.1 rfl (xm_room (Nat.le_of_ble_eq_true rfl)) dM_joined_169 ⟨hm37.1, hm37.2⟩) hS hFc (fun q _ h => hFc q h) (fun E ce q9 u9 t H1 locs ht hvm hr9 hB hz1 hk1 hS hce hcv hcl => ?_)
                obtain ⟨rfl, hP1, hK1, hD1⟩ := hB
                rw [ht] at hP1
                obtain ⟨ad39, gd40, vad41⟩ := u9
                obtain ⟨hv42, hn43⟩ := hr9
                have hP : va_P D xcl (xMw cT aM ad39 rd gd40 vad41 o20.2.2 []) H1 := hP1
                have hD : va_D A (xMw cT aM ad39 rd gd40 vad41 o20.2.2 []) := hD1.weaken (fun k q _ h => hFc q.1 h)
                generalize H1 = H at hP hS hce ⊢
                have hE9 : ∀ p, p < xct st → vad41 p = vad p := fun p h => (hv42 p (Nat.lt_of_lt_of_le h hN)).trans (hE p h)
                have hE := hE9
                have hN : xct st ≤ xct o20.2.2 := Nat.le_trans hN hn43
                obtain rfl := Option.some.inj hf
                exact vx_out (E := "java/lang/IndexOutOfBoundsException") (fun x h => (hne x h).elim) hlocks hce hcv hcl (fun t ht ha => ⟨(ad39, gd40, vad41), ⟨hE, hN⟩, ⟨rfl, by rw [ht]; exact hP, va_K.moved ha hK, hD⟩, hS.F ht⟩) hS.2.2 (Nat.le_refl _) (Nat.le_refl _)
              rw [if_neg hk36] at hf
              exact nomatch hf
    · subst hj
      have hf : fM_joined_b d (n + 1) 3 y3 y1 y2 y4 y7 y6 y5 ws9 wc wn = some out := hf
      rw [fM_joined_b, if_neg (by decide), if_neg (by decide)] at hf
      obtain ⟨hP, hD⟩ : xPD D xcl A (xMw cT aM adL rd gdL vadL ws9 []) H := ⟨hP, hD⟩
      have hl : lv_has ls 8 [(7, .int y7), (6, .int y6), (5, xv vadL y5), (4, .int y4), (3, .int y3), (0, .ref aM), (1, xv vadL y1), (2, xv vadL y2)] := hl
      refine W.eq (g2 := F0 m 125 ls []) rfl ?_
      show W p l e _ s m _ below meth c H locs wc wn _ _
      obtain ⟨hm0, hf⟩ := xmoE hf
      refine lv_iload hx hb dM_joined_125 (lv_at hl 0 rfl) ?_
      refine lv_aload_n hx hb dM_joined_127 rfl (lv_at hl 5 rfl) ?_
      refine xm_get (v := .int (xsi ws9 22)) hx hb htx hown hK hP 22 (by decide) rfl (htx _ kw_5_109) rfl dM_joined_128 ?_
      refine lv_icmp_ge (tgt := 151) hx hb dM_joined_131 (by decide) (fun hc => ?_) (fun hc => ?_)
      · rw [if_pos hc] at hf
        refine lv_aload_n hx hb dM_joined_151 rfl (lv_at hl 5 rfl) ?_
        refine lv_iload hx hb dM_joined_152 (lv_at hl 1 rfl) ?_
        refine xm_put (v := .int y6) (W' := (xMw cT aM adL rd gdL vadL (xsI ws9 22 y6) [])) (ty := .int) hx hb htx hown hK hP hD hS 22 (by decide) rfl (htx _ kw_5_109) rfl rfl (by decide +kernel) rfl rfl dM_joined_154 (fun H locs hP hD hS => ?_)
        refine lv_aload_n hx hb dM_joined_157 rfl (lv_at hl 5 rfl) ?_
        refine xm_get (v := .int (xsi ws9 4)) hx hb htx hown hK hP 4 (by decide) rfl (htx _ kw_5_91) rfl dM_joined_158 ?_
        refine lv_iload_n hx hb dM_joined_161 rfl (lv_at hl 4 rfl) ?_
        refine lv_isub hx hb dM_joined_162 ?_
        refine lv_ldc hx hb hown (htx _ kw_6_62) dM_joined_163 ?_
        refine lv_icmp_le (tgt := 173) hx hb dM_joined_165 (by decide) (fun hc => ?_) (fun hc => ?_)
        · rw [if_pos hc] at hf
          refine lv_iinc (v := (y4 + 1)) (lv' := [(4, .int (y4 + 1)), (7, .int y7), (6, .int y6), (5, xv vadL y5), (3, .int y3), (0, .ref aM), (1, xv vadL y1), (2, xv vadL y2)]) hx hb dM_joined_173 hl (k := 3) rfl rfl (by decide) rfl (fun ls hl => ?_)
          refine lv_goto (tgt := 55) hx hb dM_joined_176 (by decide) ?_
          exact ih (2, y3, y1, y2, (y4 + 1), y7, y6, y5, (xsI ws9 22 y6), wc, wn) _ _ ls (Or.inr (Or.inl ⟨adL, gdL, vadL, rfl, hf, hP, hD, hS, lv_sub hl [0, 4, 5, 6, 7] rfl, hE, hN⟩))
        · rw [if_neg hc] at hf
          refine lv_aload_n hx hb dM_joined_168 rfl (lv_at hl 5 rfl) ?_
          obtain ⟨o1, hq2, hf⟩ := xbind hf
          have hl := lv_sub (l' := [(7, .int y7), (6, .int y6), (4, .int y4), (3, .int y3), (0, .ref aM)]) hl [0, 1, 3, 4, 5] rfl
          by_cases hk3 : o1.1 = 1
          · rw [if_pos hk3] at hf
            obtain ⟨hm4, hf⟩ := xmoE hf
            have hFc := xm_free hD hS hA
            refine xx_thr (vx_runV (C := "ValueBenchModel") (As := []) (rest := []) ⟨hx, hb, hml, hown, htx⟩ (gM_limit_1 l hl9 D cT aK aV H.size n aM adL rd gdL vadL (xsI ws9 22 y6) o1 hq2 hk3) ⟨callB_of 0 htx (xw_goodC kw_6_66) rfl rfl rfl (htx _ kw_1_5) (htx _ kw_6_63) ⟨by decide, by decide, by decide +kernel⟩ ⟨Nat.le_of_ble_eq_true rfl, Nat.le_of_ble_eq_true rfl⟩, (htx _ kw_6_65), (htx _ kp_M_limit)⟩ ⟨xPre_blind, va_recv hK hP (ci := 5) rfl (q0 := 0) rfl, (fun U hU hW => ⟨rfl, xPre_of hZ hS hFc hP hD hK U hU hW⟩)⟩ rfl rfl hl.1 rfl (xm_room (Nat.le_of_ble_eq_true rfl)) dM_joined_169 ⟨hm4.1, hm4.2⟩) hS hFc (fun q _ h => hFc q h) (fun E ce q9 u9 t H1 locs ht hvm hr9 hB hz1 hk1 hS hce hcv hcl => ?_)
            obtain ⟨rfl, hP1, hK1, hD1⟩ := hB
            rw [ht] at hP1
            obtain ⟨ad6, gd7, vad8⟩ := u9
            obtain ⟨hv9, hn10⟩ := hr9
            have hP : va_P D xcl (xMw cT aM ad6 rd gd7 vad8 (xsI ws9 22 y6) []) H1 := hP1
            have hD : va_D A (xMw cT aM ad6 rd gd7 vad8 (xsI ws9 22 y6) []) := hD1.weaken (fun k q _ h => hFc q.1 h)
            generalize H1 = H at hP hS hce ⊢
            have hE9 : ∀ p, p < xct st → vad8 p = vad p := fun p h => (hv9 p (Nat.lt_of_lt_of_le h hN)).trans (hE p h)
            have hE := hE9
            have hN : xct st ≤ xct (xsI ws9 22 y6) := Nat.le_trans hN hn10
            obtain rfl := Option.some.inj hf
            exact vx_out (E := "java/lang/IndexOutOfBoundsException") (fun x h => (hne x h).elim) hlocks hce hcv hcl (fun t ht ha => ⟨(ad6, gd7, vad8), ⟨hE, hN⟩, ⟨rfl, by rw [ht]; exact hP, va_K.moved ha hK, hD⟩, hS.F ht⟩) hS.2.2 (Nat.le_refl _) (Nat.le_refl _)
          rw [if_neg hk3] at hf
          exact nomatch hf
      · rw [if_neg hc] at hf
        refine lv_aload_n hx hb dM_joined_134 rfl (lv_at hl 5 rfl) ?_
        refine lv_aload_n hx hb dM_joined_135 rfl (lv_at hl 5 rfl) ?_
        refine xm_get (v := .ref (adL 21)) hx hb htx hown hK hP 21 (by decide) rfl (htx _ kw_5_108) rfl dM_joined_136 ?_
        refine lv_iload hx hb dM_joined_139 (lv_at hl 0 rfl) ?_
        obtain ⟨hg1, hf⟩ := xifn hf
        refine va_bald hx hb hK hP 9 0 rfl rfl hg1 dM_joined_141 ?_
        refine W.eq (g2 := F0 m 142 ls [.int ((xba ws9 21) y7.toNatClampNeg), .ref aM]) rfl ?_
        obtain ⟨o2, hq3, hf⟩ := xbind hf
        obtain ⟨hg4, hf⟩ := xifn hf
        obtain ⟨hg5, hf⟩ := xifn hf
        obtain ⟨hg6, hf⟩ := xifn hf
        obtain ⟨hm7, hf⟩ := xmoE hf
        have hFc := xm_free hD hS hA
        refine va_callv (va_runV (C := "ValueBenchModel") (As := [.int ((xba ws9 21) y7.toNatClampNeg)]) (rest := []) ⟨hx, hb, hml, hown, htx⟩ (gM_letter l hl9 D cT aK aV H.size n aM adL rd gdL vadL ws9 ((xba ws9 21) y7.toNatClampNeg) o2 hq3) ⟨callB_of 1 htx (xw_goodC kw_6_54) rfl rfl rfl (htx _ kw_1_5) (htx _ kw_6_51) ⟨by decide, by decide, by decide +kernel⟩ ⟨Nat.le_of_ble_eq_true rfl, Nat.le_of_ble_eq_true rfl⟩, (htx _ kw_6_53), (htx _ kp_M_letter)⟩ ⟨xPre_blind, va_recv hK hP (ci := 5) rfl (q0 := 0) rfl, (fun U hU hW => ⟨rfl, xPre_of hZ hS hFc hP hD hK U hU hW⟩)⟩ rfl rfl hl.1 rfl (xm_room (Nat.le_of_ble_eq_true rfl)) dM_joined_142 ⟨hm7.1, hm7.2⟩) hS (fun q _ h => hFc q h) hFc (fun u9 t H1 locs ht hvm hr9 hB hz1 hk1 hS => ?_)
        obtain ⟨hP1, hK1, hD1⟩ := hB
        rw [ht] at hP1
        obtain ⟨ad9, gd10, vad11⟩ := u9
        obtain ⟨hv12, hn13⟩ := hr9
        have hP : va_P D xcl (xMw cT aM ad9 rd gd10 vad11 o2.2.2 []) H1 := hP1
        have hD : va_D A (xMw cT aM ad9 rd gd10 vad11 o2.2.2 []) := hD1.weaken (fun k q _ h => hFc q.1 h)
        generalize H1 = H at hP hS ⊢
        have hE9 : ∀ p, p < xct st → vad11 p = vad p := fun p h => (hv12 p (Nat.lt_of_lt_of_le h hN)).trans (hE p h)
        have hE := hE9
        have hN : xct st ≤ xct o2.2.2 := Nat.le_trans hN hn13
        have ev14 : xv vadL y5 = xv vad11 y5 := xvE hv12 hg4
        have ev15 : xv vadL y1 = xv vad11 y1 := xvE hv12 hg5
        have ev16 : xv vadL y2 = xv vad11 y2 := xvE hv12 hg6
        have hl : lv_has ls 8 [(7, .int y7), (6, .int y6), (5, xv vad11 y5), (4, .int y4), (3, .int y3), (0, .ref aM), (1, xv vad11 y1), (2, xv vad11 y2)] := by first | exact hl | ((try (rw [← ev14])); (try (rw [← ev15])); (try (rw [← ev16])); exact hl)
        refine W.eq (g2 := F0 m 145 ls []) (by first | rfl | ((try (rw [ev14])); (try (rw [ev15])); (try (rw [ev16])); rfl)) ?_
        refine lv_iinc (v := (y7 + 1)) (lv' := [(7, .int (y7 + 1)), (6, .int y6), (5, xv vad11 y5), (4, .int y4), (3, .int y3), (0, .ref aM), (1, xv vad11 y1), (2, xv vad11 y2)]) hx hb dM_joined_145 hl (k := 0) rfl rfl (by decide) rfl (fun ls hl => ?_)
        refine lv_goto (tgt := 125) hx hb dM_joined_148 (by decide) ?_
        exact ih (3, y3, y1, y2, y4, (y7 + 1), y6, y5, o2.2.2, (wc + o2.1), (wn + o2.2.1)) _ _ ls (Or.inr (Or.inr (⟨ad9, gd10, vad11, rfl, hf, hP, hD, hS, lv_sub hl [0, 1, 2, 3, 4, 5, 6, 7] rfl, hE, hN⟩)))
  refine lv_aload_n hx hb dM_joined_0 rfl (lv_at hl 0 rfl) ?_
  refine xm_aload_n hx hb (xvor _ _) dM_joined_1 rfl (lv_at hl 1 rfl) ?_
  obtain ⟨o1, hq2, hf⟩ := xbind hf
  by_cases hk3 : o1.1 = 0
  · rw [if_pos hk3] at hf
    obtain ⟨hg4, hf⟩ := xifn hf
    obtain ⟨hg5, hf⟩ := xifn hf
    obtain ⟨hm6, hf⟩ := xmoE hf
    have hFc := xm_free hD hS hA
    refine va_callq (va_runV (C := "ValueBenchModel") (As := [xv vad c0]) (rest := []) ⟨hx, hb, hml, hown, htx⟩ (gM_array l hl9 D cT aK aV s.heap.size n aM ad rd gd vad st c0 o1 hq2 hk3) ⟨callB_of 1 htx (xw_goodC kw_7_42) rfl rfl rfl (htx _ kw_1_5) (htx _ kw_7_39) ⟨by decide, by decide, by decide +kernel⟩ ⟨Nat.le_of_ble_eq_true rfl, Nat.le_of_ble_eq_true rfl⟩, (htx _ kw_7_41), (htx _ kp_M_array)⟩ ⟨xPre_blind, va_recv hK hP (ci := 5) rfl (q0 := 0) rfl, (fun U hU hW => ⟨rfl, xPre_of hZ hS hFc hP hD hK U hU hW⟩)⟩ rfl rfl hl.1 rfl (xm_room (Nat.le_of_ble_eq_true rfl)) dM_joined_2 ⟨hm6.1, hm6.2⟩) hS (fun q _ h => hFc q h) hFc (fun r7 u9 t H1 locs ht hvm hr9 hB hz1 hk1 hS => ?_)
    obtain ⟨hP1, hK1, hD1⟩ := hB
    rw [ht] at hP1
    obtain ⟨ad8, gd9, vad10⟩ := u9
    obtain ⟨hr9, hv11, hn12⟩ := hr9
    have hP : va_P D xcl (xMw cT aM ad8 rd gd9 vad10 o1.2.2.2.2 []) H1 := hP1
    have hD : va_D A (xMw cT aM ad8 rd gd9 vad10 o1.2.2.2.2 []) := hD1.weaken (fun k q _ h => hFc q.1 h)
    generalize H1 = H at hP hS ⊢
    have hE9 : ∀ p, p < xct st → vad10 p = vad p := fun p h => (hv11 p (Nat.lt_of_lt_of_le h hN)).trans (hE p h)
    have hE := hE9
    have hN : xct st ≤ xct o1.2.2.2.2 := Nat.le_trans hN hn12
    have ev13 : xv vad c0 = xv vad10 c0 := xvE hv11 hg4
    have ev14 : xv vad c1 = xv vad10 c1 := xvE hv11 hg5
    have hl : lv_has ls 8 [(0, .ref aM), (1, xv vad10 c0), (2, xv vad10 c1)] := by first | exact hl | ((try (rw [← ev13])); (try (rw [← ev14])); exact hl)
    rw [hr9]
    refine W.eq (g2 := F0 m 5 ls [xv vad10 o1.2.2.2.1]) (by first | rfl | ((try (rw [ev13])); (try (rw [ev14])); rfl)) ?_
    refine lv_pop hx hb dM_joined_5 (xvcat _ _) ?_
    refine lv_aload_n hx hb dM_joined_6 rfl (lv_at hl 0 rfl) ?_
    refine xm_aload_n hx hb (xvor _ _) dM_joined_7 rfl (lv_at hl 2 rfl) ?_
    obtain ⟨o15, hq16, hf⟩ := xbind hf
    by_cases hk17 : o15.1 = 0
    · rw [if_pos hk17] at hf
      obtain ⟨hg18, hf⟩ := xifn hf
      obtain ⟨hg19, hf⟩ := xifn hf
      obtain ⟨hm20, hf⟩ := xmoE hf
      have hFc := xm_free hD hS hA
      refine va_callq (va_runV (C := "ValueBenchModel") (As := [xv vad10 c1]) (rest := []) ⟨hx, hb, hml, hown, htx⟩ (gM_text l hl9 D cT aK aV H.size n aM ad8 rd gd9 vad10 o1.2.2.2.2 c1 o15 hq16 hk17) ⟨callB_of 1 htx (xw_goodC kw_7_54) rfl rfl rfl (htx _ kw_1_5) (htx _ kw_7_51) ⟨by decide, by decide, by decide +kernel⟩ ⟨Nat.le_of_ble_eq_true rfl, Nat.le_of_ble_eq_true rfl⟩, (htx _ kw_7_53), (htx _ kp_M_text)⟩ ⟨xPre_blind, va_recv hK hP (ci := 5) rfl (q0 := 0) rfl, (fun U hU hW => ⟨rfl, xPre_of hZ hS hFc hP hD hK U hU hW⟩)⟩ rfl rfl hl.1 rfl (xm_room (Nat.le_of_ble_eq_true rfl)) dM_joined_8 ⟨hm20.1, hm20.2⟩) hS (fun q _ h => hFc q h) hFc (fun r21 u9 t H1 locs ht hvm hr9 hB hz1 hk1 hS => ?_)
      obtain ⟨hP1, hK1, hD1⟩ := hB
      rw [ht] at hP1
      obtain ⟨ad22, gd23, vad24⟩ := u9
      obtain ⟨hr9, hv25, hn26⟩ := hr9
      have hP : va_P D xcl (xMw cT aM ad22 rd gd23 vad24 o15.2.2.2.2 []) H1 := hP1
      have hD : va_D A (xMw cT aM ad22 rd gd23 vad24 o15.2.2.2.2 []) := hD1.weaken (fun k q _ h => hFc q.1 h)
      generalize H1 = H at hP hS ⊢
      have hE9 : ∀ p, p < xct st → vad24 p = vad p := fun p h => (hv25 p (Nat.lt_of_lt_of_le h hN)).trans (hE p h)
      have hE := hE9
      have hN : xct st ≤ xct o15.2.2.2.2 := Nat.le_trans hN hn26
      have ev27 : xv vad10 c0 = xv vad24 c0 := xvE hv25 hg18
      have ev28 : xv vad10 c1 = xv vad24 c1 := xvE hv25 hg19
      have hl : lv_has ls 8 [(0, .ref aM), (1, xv vad24 c0), (2, xv vad24 c1)] := by first | exact hl | ((try (rw [← ev27])); (try (rw [← ev28])); exact hl)
      rw [hr9]
      refine W.eq (g2 := F0 m 11 ls [xv vad24 o15.2.2.2.1]) (by first | rfl | ((try (rw [ev27])); (try (rw [ev28])); rfl)) ?_
      refine lv_pop hx hb dM_joined_11 (xvcat _ _) ?_
      refine lv_iconst (v := 0) hx hb dM_joined_12 (by decide) ?_
      refine lv_istore_n (lv' := [(3, .int 0), (0, .ref aM), (1, xv vad24 c0), (2, xv vad24 c1)]) hx hb dM_joined_13 rfl hl (by decide) (by simp only [List.filter, xvcat, xrscat, xcI, xcL, xcR, xcN]; rfl) (fun ls hl => ?_)
      exact key n (1, (0 : Int32), c0, c1, 0, 0, 0, 0, o15.2.2.2.2, ((0 + o1.2.1) + o15.2.1), ((0 + o1.2.2.1) + o15.2.2.1)) _ _ ls (Or.inl ⟨ad22, gd23, vad24, rfl, hf, hP, hD, hS, lv_sub hl [0, 1, 2, 3] rfl, hE, hN⟩)
    rw [if_neg hk17] at hf
    by_cases hk29 : o15.1 = 1
    · rw [if_pos hk29] at hf
      obtain ⟨hg30, hf⟩ := xifn hf
      obtain ⟨hg31, hf⟩ := xifn hf
      obtain ⟨hm32, hf⟩ := xmoE hf
      obtain rfl := Option.some.inj hf
      exact absurd (show (1 : Nat) = 2 from hkd) (by decide)
    rw [if_neg hk29] at hf
    exact nomatch hf
  rw [if_neg hk3] at hf
  by_cases hk41 : o1.1 = 1
  · rw [if_pos hk41] at hf
    obtain ⟨hg42, hf⟩ := xifn hf
    obtain ⟨hg43, hf⟩ := xifn hf
    obtain ⟨hm44, hf⟩ := xmoE hf
    obtain rfl := Option.some.inj hf
    exact absurd (show (1 : Nat) = 2 from hkd) (by decide)
  rw [if_neg hk41] at hf
  exact nomatch hf
