set_option maxHeartbeats 400000000 in
set_option maxRecDepth 100000 in
theorem gM_out (l : Launch) (hl9 : l.stackTraces = false) (D : va_G) (cT : Nat → ClassId) (aK aV : Nat → Nat) (sz n : Nat) (aM : Nat) (ad rd gd vad : Nat → Nat) (st : xS) (x0 : Int32) (out : Int32) (hf : fM_out n st x0 = some out) : xMet l yM_out wyM_out 0 0 0 0 D cT aK aV sz [.ref aM, .int x0] (xMw cT aM ad rd gd vad st []) (fun A => va_Qi (fun (r : Int32) (_ : Unit) => r = out) (fun _ t => xB D xcl cT A (xMw cT aM ad rd gd vad st []) t) A) := by
  refine Met.ofW (cc := prog_13_method_77_code) (maxL := 2) (ret := (some .boolean)) (by decide) rfl ?_
  intro p e s m args below meth c s₁ B hml hv
  obtain ⟨rfl, hsz, hZ, hP, hK, hD0⟩ := hv
  have hx := B.exec
  have hb := B.bytes
  have hr := B.returns
  have hts := atoms_spec (ws := wyM_out) B.pre
  have htx := fun w h => hts w (List.mem_cons_of_mem _ h)
  have hown : s.vm.findClass "ValueBenchModel" = some m.cls := findClass_of_methodNamed B.named
  have hlocks := B.notSynchronized
  subst hsz
  have hD := hD0.self (sz := s.heap.size)
  generalize hAe : va_A (xMw cT aM ad rd gd vad st []) s.heap.size = A at hD hZ ⊢
  have hA : ∀ q : Nat, s.heap.size ≤ q → A q := fun q h => by rw [← hAe]; exact Or.inr h
  have hS : va_S A s.heap s.heap [] := va_S.rf
  have hl := lv_entry ([.ref aM, .int x0]) (n := 2) (by simp [lg_sl, xvcat, xrscat, xcI, xcL, xcR, xcN])
  rw [show lv_args 0 [.ref aM, .int x0] = [(0, .ref aM), (1, .int x0)] from by simp [lv_args, xvcat, xrscat, xcI, xcL, xcR, xcN]] at hl
  rw [lg_entry_eq]
  generalize (lg_sl ([.ref aM, .int x0]) ++ List.replicate (2 - (lg_sl ([.ref aM, .int x0])).length) Slot.unset).toArray = ls at hl ⊢
  have hl : lv_has ls 2 [(0, .ref aM), (1, .int x0)] := hl
  unfold fM_out at hf
  refine lv_iload_n hx hb dM_out_0 rfl (lv_at hl 1 rfl) ?_
  refine lv_if_lt (tgt := 10) hx hb dM_out_1 (by decide) (fun hc => ?_) (fun hc => ?_)
  · rw [if_pos hc] at hf
    refine lv_iconst (v := 1) hx hb dM_out_10 (by decide) ?_
    refine lv_goto (tgt := 15) hx hb dM_out_11 (by decide) ?_
    obtain rfl := Option.some.inj hf
    exact W.zret (v := (1 : Int32)) hx hb hr rfl (fun t ht hW => ⟨⟨(1 : Int32), (), rfl, rfl, by rw [ht]; exact hP, va_K.moved hW.alike hK, hD⟩, hS.F ht⟩) hS.2.2 dM_out_15
  · rw [if_neg hc] at hf
    refine lv_iload_n hx hb dM_out_4 rfl (lv_at hl 1 rfl) ?_
    refine lv_bipush (v := 7) hx hb dM_out_5 (by decide) ?_
    refine lv_icmp_le (tgt := 14) hx hb dM_out_7 (by decide) (fun hc => ?_) (fun hc => ?_)
    · rw [if_pos hc] at hf
      refine lv_iconst (v := 0) hx hb dM_out_14 (by decide) ?_
      obtain rfl := Option.some.inj hf
      exact W.zret (v := (0 : Int32)) hx hb hr rfl (fun t ht hW => ⟨⟨(0 : Int32), (), rfl, rfl, by rw [ht]; exact hP, va_K.moved hW.alike hK, hD⟩, hS.F ht⟩) hS.2.2 dM_out_15
    · rw [if_neg hc] at hf
      refine lv_iconst (v := 1) hx hb dM_out_10 (by decide) ?_
      refine lv_goto (tgt := 15) hx hb dM_out_11 (by decide) ?_
      obtain rfl := Option.some.inj hf
      exact W.zret (v := (1 : Int32)) hx hb hr rfl (fun t ht hW => ⟨⟨(1 : Int32), (), rfl, rfl, by rw [ht]; exact hP, va_K.moved hW.alike hK, hD⟩, hS.F ht⟩) hS.2.2 dM_out_15
set_option maxHeartbeats 400000000 in
set_option maxRecDepth 100000 in
theorem gM_peek (l : Launch) (hl9 : l.stackTraces = false) (D : va_G) (cT : Nat → ClassId) (aK aV : Nat → Nat) (sz n : Nat) (aM : Nat) (ad rd gd vad : Nat → Nat) (st : xS) (out : Int32) (hf : fM_peek n st = some out) : xMet l yM_peek wyM_peek 0 0 0 0 D cT aK aV sz [.ref aM] (xMw cT aM ad rd gd vad st []) (fun A => va_Qi (fun (r : Int32) (_ : Unit) => r = out) (fun _ t => xB D xcl cT A (xMw cT aM ad rd gd vad st []) t) A) := by
  refine Met.ofW (cc := prog_13_method_29_code) (maxL := 1) (ret := (some .int)) (by decide) rfl ?_
  intro p e s m args below meth c s₁ B hml hv
  obtain ⟨rfl, hsz, hZ, hP, hK, hD0⟩ := hv
  have hx := B.exec
  have hb := B.bytes
  have hr := B.returns
  have hts := atoms_spec (ws := wyM_peek) B.pre
  have htx := fun w h => hts w (List.mem_cons_of_mem _ h)
  have hown : s.vm.findClass "ValueBenchModel" = some m.cls := findClass_of_methodNamed B.named
  have hlocks := B.notSynchronized
  subst hsz
  have hD := hD0.self (sz := s.heap.size)
  generalize hAe : va_A (xMw cT aM ad rd gd vad st []) s.heap.size = A at hD hZ ⊢
  have hA : ∀ q : Nat, s.heap.size ≤ q → A q := fun q h => by rw [← hAe]; exact Or.inr h
  have hS : va_S A s.heap s.heap [] := va_S.rf
  have hl := lv_entry ([.ref aM]) (n := 1) (by simp [lg_sl, xvcat, xrscat, xcI, xcL, xcR, xcN])
  rw [show lv_args 0 [.ref aM] = [(0, .ref aM)] from by simp [lv_args, xvcat, xrscat, xcI, xcL, xcR, xcN]] at hl
  rw [lg_entry_eq]
  generalize (lg_sl ([.ref aM]) ++ List.replicate (1 - (lg_sl ([.ref aM])).length) Slot.unset).toArray = ls at hl ⊢
  have hl : lv_has ls 1 [(0, .ref aM)] := hl
  unfold fM_peek at hf
  refine lv_aload_n hx hb dM_peek_0 rfl (lv_at hl 0 rfl) ?_
  refine xm_get (v := .int (xsi st 16)) hx hb htx hown hK hP 16 (by decide) rfl (htx _ kw_5_103) rfl dM_peek_1 ?_
  refine lv_aload_n hx hb dM_peek_4 rfl (lv_at hl 0 rfl) ?_
  refine xm_get (v := .int (xsi st 17)) hx hb htx hown hK hP 17 (by decide) rfl (htx _ kw_5_104) rfl dM_peek_5 ?_
  refine lv_icmp_ge (tgt := 27) hx hb dM_peek_8 (by decide) (fun hc => ?_) (fun hc => ?_)
  · rw [if_pos hc] at hf
    refine lv_iconst (v := (-1)) hx hb dM_peek_27 (by decide) ?_
    obtain rfl := Option.some.inj hf
    exact W.iret (v := ((-1) : Int32)) hx hb hr (fun t ht hW => ⟨⟨((-1) : Int32), (), rfl, rfl, by rw [ht]; exact hP, va_K.moved hW.alike hK, hD⟩, hS.F ht⟩) hS.2.2 dM_peek_28
  · rw [if_neg hc] at hf
    refine lv_aload_n hx hb dM_peek_11 rfl (lv_at hl 0 rfl) ?_
    refine xm_get (v := xrs ad rd gd (xsr st)) hx hb htx hown hK hP 15 (by decide) rfl (htx _ kw_5_102) rfl dM_peek_12 ?_
    refine lv_aload_n hx hb dM_peek_15 rfl (lv_at hl 0 rfl) ?_
    refine xm_get (v := .int (xsi st 16)) hx hb htx hown hK hP 16 (by decide) rfl (htx _ kw_5_103) rfl dM_peek_16 ?_
    obtain ⟨hg1, hf⟩ := xifn hf
    obtain ⟨hg2, hf⟩ := xifn hf
    refine xm_sld (x := (xsr st)) (i := (xsi st 16)) hx hb hK hP (Decidable.not_not.mp hg1) hg2 dM_peek_19 ?_
    refine W.eq (g2 := F0 m 20 ls [.int (xrb st (xsr st) (xsi st 16).toNatClampNeg)]) rfl ?_
    refine lv_sipush (v := 255) hx hb dM_peek_20 (by decide) ?_
    refine lv_iand hx hb dM_peek_23 ?_
    refine lv_goto (tgt := 28) hx hb dM_peek_24 (by decide) ?_
    obtain rfl := Option.some.inj hf
    exact W.iret (v := ((xrb st (xsr st) (xsi st 16).toNatClampNeg) &&& (255 : Int32))) hx hb hr (fun t ht hW => ⟨⟨((xrb st (xsr st) (xsi st 16).toNatClampNeg) &&& (255 : Int32)), (), rfl, rfl, by rw [ht]; exact hP, va_K.moved hW.alike hK, hD⟩, hS.F ht⟩) hS.2.2 dM_peek_28
set_option maxHeartbeats 400000000 in
set_option maxRecDepth 100000 in
theorem gM_blanks (l : Launch) (hl9 : l.stackTraces = false) (D : va_G) (cT : Nat → ClassId) (aK aV : Nat → Nat) (sz n : Nat) (aM : Nat) (ad rd gd vad : Nat → Nat) (st : xS) (out : xS) (hf : fM_blanks n st = some out) : xMet l yM_blanks wyM_blanks 1 0 0 20 D cT aK aV sz [.ref aM] (xMw cT aM ad rd gd vad st []) (fun A => va_Qv (fun _ : Unit => xct st ≤ xct out) (fun _ t => xB D xcl cT A (xMw cT aM ad rd gd vad out []) t) A) := by
  refine Met.ofW (cc := prog_13_method_31_code) (maxL := 1) (ret := none) (by decide) rfl ?_
  intro p e s m args below meth c s₁ B hml hv
  obtain ⟨rfl, hsz, hZ, hP, hK, hD0⟩ := hv
  have hx := B.exec
  have hb := B.bytes
  have hr := B.returns
  have hts := atoms_spec (ws := wyM_blanks) B.pre
  have htx := fun w h => hts w (List.mem_cons_of_mem _ h)
  have hown : s.vm.findClass "ValueBenchModel" = some m.cls := findClass_of_methodNamed B.named
  have hlocks := B.notSynchronized
  subst hsz
  have hD := hD0.self (sz := s.heap.size)
  generalize hAe : va_A (xMw cT aM ad rd gd vad st []) s.heap.size = A at hD hZ ⊢
  have hA : ∀ q : Nat, s.heap.size ≤ q → A q := fun q h => by rw [← hAe]; exact Or.inr h
  have hS : va_S A s.heap s.heap [] := va_S.rf
  have hl := lv_entry ([.ref aM]) (n := 1) (by simp [lg_sl, xvcat, xrscat, xcI, xcL, xcR, xcN])
  rw [show lv_args 0 [.ref aM] = [(0, .ref aM)] from by simp [lv_args, xvcat, xrscat, xcI, xcL, xcR, xcN]] at hl
  rw [lg_entry_eq]
  generalize (lg_sl ([.ref aM]) ++ List.replicate (1 - (lg_sl ([.ref aM])).length) Slot.unset).toArray = ls at hl ⊢
  have hl : lv_has ls 1 [(0, .ref aM)] := hl
  have hN : xct st ≤ xct st := Nat.le_refl _
  unfold fM_blanks at hf
  refine xloopM (σ := Nat × xS) (fun n x H locs ls => (x.1 = 1 ∧ fM_blanks_b n x.1 x.2 = some out ∧ va_P D xcl (xMw cT aM ad rd gd vad x.2 []) H ∧ va_D A (xMw cT aM ad rd gd vad x.2 []) ∧ va_S A s.heap H locs ∧ lv_has ls 1 [(0, .ref aM)] ∧ xct st ≤ xct x.2)) (fun x => 0) (fun x => 0) (fun x => 0) (fun x H locs ls h => by (exact absurd h.2.1 (by rw [fM_blanks_b]; exact fun h => nomatch h))) (fun n ih x H locs ls hv => ?_) (fun key => ?_)
  · obtain ⟨lb, ws9⟩ := x
    rcases hv with ⟨hj, hf, hP, hD, hS, hl, hN⟩
    subst hj
    have hf : fM_blanks_b (n + 1) 1 ws9 = some out := hf
    rw [fM_blanks_b] at hf
    obtain ⟨hP, hD⟩ : xPD D xcl A (xMw cT aM ad rd gd vad ws9 []) H := ⟨hP, hD⟩
    have hl : lv_has ls 1 [(0, .ref aM)] := hl
    refine W.eq (g2 := F0 m 0 ls []) rfl ?_
    refine lv_aload_n hx hb dM_blanks_0 rfl (lv_at hl 0 rfl) ?_
    obtain ⟨o1, hq2, hf⟩ := xbind hf
    have hFc := xm_free hD hS hA
    refine va_calli (va_runV (C := "ValueBenchModel") (As := []) (rest := []) ⟨hx, hb, hml, hown, htx⟩ (gM_peek l hl9 D cT aK aV H.size n aM ad rd gd vad ws9 o1 hq2) ⟨callB_of 0 htx (xw_goodC kw_5_233) rfl rfl rfl (htx _ kw_1_5) (htx _ kw_5_230) ⟨by decide, by decide, by decide +kernel⟩ ⟨Nat.le_of_ble_eq_true rfl, Nat.le_of_ble_eq_true rfl⟩, (htx _ kw_5_232), (htx _ kp_M_peek)⟩ ⟨xPre_blind, va_recv hK hP (ci := 5) rfl (q0 := 0) rfl, (fun U hU hW => ⟨rfl, xPre_of hZ hS hFc hP hD hK U hU hW⟩)⟩ rfl rfl hl.1 rfl (xm_room (Nat.le_of_ble_eq_true rfl)) dM_blanks_1 ⟨Nat.le_of_ble_eq_true rfl, Nat.le_of_ble_eq_true rfl⟩) hS (fun q _ h => hFc q h) hFc (fun r3 u9 t H1 locs ht hvm hr9 hB hz1 hk1 hS => ?_)
    obtain ⟨hP1, hK1, hD1⟩ := hB
    rw [ht] at hP1
    have hP : va_P D xcl (xMw cT aM ad rd gd vad ws9 []) H1 := hP1
    have hD : va_D A (xMw cT aM ad rd gd vad ws9 []) := hD1.weaken (fun k q _ h => hFc q.1 h)
    generalize H1 = H at hP hS ⊢
    rw [hr9]
    refine W.eq (g2 := F0 m 4 ls [.int o1]) (by first | rfl | (skip; rfl)) ?_
    refine lv_bipush (v := 32) hx hb dM_blanks_4 (by decide) ?_
    refine lv_icmp_eq (tgt := 45) hx hb dM_blanks_6 (by decide) (fun hc => ?_) (fun hc => ?_)
    · rw [if_pos hc] at hf
      refine lv_aload_n hx hb dM_blanks_45 rfl (lv_at hl 0 rfl) ?_
      refine lv_dup hx hb dM_blanks_46 rfl ?_
      refine xm_get (v := .int (xsi ws9 16)) hx hb htx hown hK hP 16 (by decide) rfl (htx _ kw_5_103) rfl dM_blanks_47 ?_
      refine lv_iconst (v := 1) hx hb dM_blanks_50 (by decide) ?_
      refine lv_iadd hx hb dM_blanks_51 ?_
      refine xm_put (v := .int ((xsi ws9 16) + (1 : Int32))) (W' := (xMw cT aM ad rd gd vad (xsI ws9 16 ((xsi ws9 16) + (1 : Int32))) [])) (ty := .int) hx hb htx hown hK hP hD hS 16 (by decide) rfl (htx _ kw_5_103) rfl rfl (by decide +kernel) rfl rfl dM_blanks_52 (fun H locs hP hD hS => ?_)
      refine lv_goto (tgt := 0) hx hb dM_blanks_55 (by decide) ?_
      exact ih (1, (xsI ws9 16 ((xsi ws9 16) + (1 : Int32)))) _ _ ls (⟨rfl, hf, hP, hD, hS, lv_sub hl [0] rfl, hN⟩)
    · rw [if_neg hc] at hf
      refine lv_aload_n hx hb dM_blanks_9 rfl (lv_at hl 0 rfl) ?_
      obtain ⟨o4, hq5, hf⟩ := xbind hf
      have hFc := xm_free hD hS hA
      refine va_calli (va_runV (C := "ValueBenchModel") (As := []) (rest := []) ⟨hx, hb, hml, hown, htx⟩ (gM_peek l hl9 D cT aK aV H.size n aM ad rd gd vad ws9 o4 hq5) ⟨callB_of 0 htx (xw_goodC kw_5_233) rfl rfl rfl (htx _ kw_1_5) (htx _ kw_5_230) ⟨by decide, by decide, by decide +kernel⟩ ⟨Nat.le_of_ble_eq_true rfl, Nat.le_of_ble_eq_true rfl⟩, (htx _ kw_5_232), (htx _ kp_M_peek)⟩ ⟨xPre_blind, va_recv hK hP (ci := 5) rfl (q0 := 0) rfl, (fun U hU hW => ⟨rfl, xPre_of hZ hS hFc hP hD hK U hU hW⟩)⟩ rfl rfl hl.1 rfl (xm_room (Nat.le_of_ble_eq_true rfl)) dM_blanks_10 ⟨Nat.le_of_ble_eq_true rfl, Nat.le_of_ble_eq_true rfl⟩) hS (fun q _ h => hFc q h) hFc (fun r6 u9 t H1 locs ht hvm hr9 hB hz1 hk1 hS => ?_)
      obtain ⟨hP1, hK1, hD1⟩ := hB
      rw [ht] at hP1
      have hP : va_P D xcl (xMw cT aM ad rd gd vad ws9 []) H1 := hP1
      have hD : va_D A (xMw cT aM ad rd gd vad ws9 []) := hD1.weaken (fun k q _ h => hFc q.1 h)
      generalize H1 = H at hP hS ⊢
      rw [hr9]
      refine W.eq (g2 := F0 m 13 ls [.int o4]) (by first | rfl | (skip; rfl)) ?_
      refine lv_bipush (v := 9) hx hb dM_blanks_13 (by decide) ?_
      refine lv_icmp_lt (tgt := 58) hx hb dM_blanks_15 (by decide) (fun hc => ?_) (fun hc => ?_)
      · rw [if_pos hc] at hf
        obtain rfl := Option.some.inj hf
        exact W.vret hx hb hr (fun t ht hW => ⟨⟨(), rfl, hN, by rw [ht]; exact hP, va_K.moved hW.alike hK, hD⟩, hS.F ht⟩) hS.2.2 dM_blanks_58
      · rw [if_neg hc] at hf
        refine lv_aload_n hx hb dM_blanks_18 rfl (lv_at hl 0 rfl) ?_
        obtain ⟨o7, hq8, hf⟩ := xbind hf
        have hFc := xm_free hD hS hA
        refine va_calli (va_runV (C := "ValueBenchModel") (As := []) (rest := []) ⟨hx, hb, hml, hown, htx⟩ (gM_peek l hl9 D cT aK aV H.size n aM ad rd gd vad ws9 o7 hq8) ⟨callB_of 0 htx (xw_goodC kw_5_233) rfl rfl rfl (htx _ kw_1_5) (htx _ kw_5_230) ⟨by decide, by decide, by decide +kernel⟩ ⟨Nat.le_of_ble_eq_true rfl, Nat.le_of_ble_eq_true rfl⟩, (htx _ kw_5_232), (htx _ kp_M_peek)⟩ ⟨xPre_blind, va_recv hK hP (ci := 5) rfl (q0 := 0) rfl, (fun U hU hW => ⟨rfl, xPre_of hZ hS hFc hP hD hK U hU hW⟩)⟩ rfl rfl hl.1 rfl (xm_room (Nat.le_of_ble_eq_true rfl)) dM_blanks_19 ⟨Nat.le_of_ble_eq_true rfl, Nat.le_of_ble_eq_true rfl⟩) hS (fun q _ h => hFc q h) hFc (fun r9 u9 t H1 locs ht hvm hr9 hB hz1 hk1 hS => ?_)
        obtain ⟨hP1, hK1, hD1⟩ := hB
        rw [ht] at hP1
        have hP : va_P D xcl (xMw cT aM ad rd gd vad ws9 []) H1 := hP1
        have hD : va_D A (xMw cT aM ad rd gd vad ws9 []) := hD1.weaken (fun k q _ h => hFc q.1 h)
        generalize H1 = H at hP hS ⊢
        rw [hr9]
        refine W.eq (g2 := F0 m 22 ls [.int o7]) (by first | rfl | (skip; rfl)) ?_
        refine lv_bipush (v := 13) hx hb dM_blanks_22 (by decide) ?_
        refine lv_icmp_gt (tgt := 58) hx hb dM_blanks_24 (by decide) (fun hc => ?_) (fun hc => ?_)
        · rw [if_pos hc] at hf
          obtain rfl := Option.some.inj hf
          exact W.vret hx hb hr (fun t ht hW => ⟨⟨(), rfl, hN, by rw [ht]; exact hP, va_K.moved hW.alike hK, hD⟩, hS.F ht⟩) hS.2.2 dM_blanks_58
        · rw [if_neg hc] at hf
          refine lv_aload_n hx hb dM_blanks_27 rfl (lv_at hl 0 rfl) ?_
          obtain ⟨o10, hq11, hf⟩ := xbind hf
          have hFc := xm_free hD hS hA
          refine va_calli (va_runV (C := "ValueBenchModel") (As := []) (rest := []) ⟨hx, hb, hml, hown, htx⟩ (gM_peek l hl9 D cT aK aV H.size n aM ad rd gd vad ws9 o10 hq11) ⟨callB_of 0 htx (xw_goodC kw_5_233) rfl rfl rfl (htx _ kw_1_5) (htx _ kw_5_230) ⟨by decide, by decide, by decide +kernel⟩ ⟨Nat.le_of_ble_eq_true rfl, Nat.le_of_ble_eq_true rfl⟩, (htx _ kw_5_232), (htx _ kp_M_peek)⟩ ⟨xPre_blind, va_recv hK hP (ci := 5) rfl (q0 := 0) rfl, (fun U hU hW => ⟨rfl, xPre_of hZ hS hFc hP hD hK U hU hW⟩)⟩ rfl rfl hl.1 rfl (xm_room (Nat.le_of_ble_eq_true rfl)) dM_blanks_28 ⟨Nat.le_of_ble_eq_true rfl, Nat.le_of_ble_eq_true rfl⟩) hS (fun q _ h => hFc q h) hFc (fun r12 u9 t H1 locs ht hvm hr9 hB hz1 hk1 hS => ?_)
          obtain ⟨hP1, hK1, hD1⟩ := hB
          rw [ht] at hP1
          have hP : va_P D xcl (xMw cT aM ad rd gd vad ws9 []) H1 := hP1
          have hD : va_D A (xMw cT aM ad rd gd vad ws9 []) := hD1.weaken (fun k q _ h => hFc q.1 h)
          generalize H1 = H at hP hS ⊢
          rw [hr9]
          refine W.eq (g2 := F0 m 31 ls [.int o10]) (by first | rfl | (skip; rfl)) ?_
          refine lv_bipush (v := 11) hx hb dM_blanks_31 (by decide) ?_
          refine lv_icmp_eq (tgt := 58) hx hb dM_blanks_33 (by decide) (fun hc => ?_) (fun hc => ?_)
          · rw [if_pos hc] at hf
            obtain rfl := Option.some.inj hf
            exact W.vret hx hb hr (fun t ht hW => ⟨⟨(), rfl, hN, by rw [ht]; exact hP, va_K.moved hW.alike hK, hD⟩, hS.F ht⟩) hS.2.2 dM_blanks_58
          · rw [if_neg hc] at hf
            refine lv_aload_n hx hb dM_blanks_36 rfl (lv_at hl 0 rfl) ?_
            obtain ⟨o13, hq14, hf⟩ := xbind hf
            have hFc := xm_free hD hS hA
            refine va_calli (va_runV (C := "ValueBenchModel") (As := []) (rest := []) ⟨hx, hb, hml, hown, htx⟩ (gM_peek l hl9 D cT aK aV H.size n aM ad rd gd vad ws9 o13 hq14) ⟨callB_of 0 htx (xw_goodC kw_5_233) rfl rfl rfl (htx _ kw_1_5) (htx _ kw_5_230) ⟨by decide, by decide, by decide +kernel⟩ ⟨Nat.le_of_ble_eq_true rfl, Nat.le_of_ble_eq_true rfl⟩, (htx _ kw_5_232), (htx _ kp_M_peek)⟩ ⟨xPre_blind, va_recv hK hP (ci := 5) rfl (q0 := 0) rfl, (fun U hU hW => ⟨rfl, xPre_of hZ hS hFc hP hD hK U hU hW⟩)⟩ rfl rfl hl.1 rfl (xm_room (Nat.le_of_ble_eq_true rfl)) dM_blanks_37 ⟨Nat.le_of_ble_eq_true rfl, Nat.le_of_ble_eq_true rfl⟩) hS (fun q _ h => hFc q h) hFc (fun r15 u9 t H1 locs ht hvm hr9 hB hz1 hk1 hS => ?_)
            obtain ⟨hP1, hK1, hD1⟩ := hB
            rw [ht] at hP1
            have hP : va_P D xcl (xMw cT aM ad rd gd vad ws9 []) H1 := hP1
            have hD : va_D A (xMw cT aM ad rd gd vad ws9 []) := hD1.weaken (fun k q _ h => hFc q.1 h)
            generalize H1 = H at hP hS ⊢
            rw [hr9]
            refine W.eq (g2 := F0 m 40 ls [.int o13]) (by first | rfl | (skip; rfl)) ?_
            refine lv_bipush (v := 12) hx hb dM_blanks_40 (by decide) ?_
            refine lv_icmp_eq (tgt := 58) hx hb dM_blanks_42 (by decide) (fun hc => ?_) (fun hc => ?_)
            · rw [if_pos hc] at hf
              obtain rfl := Option.some.inj hf
              exact W.vret hx hb hr (fun t ht hW => ⟨⟨(), rfl, hN, by rw [ht]; exact hP, va_K.moved hW.alike hK, hD⟩, hS.F ht⟩) hS.2.2 dM_blanks_58
            · rw [if_neg hc] at hf
              refine lv_aload_n hx hb dM_blanks_45 rfl (lv_at hl 0 rfl) ?_
              refine lv_dup hx hb dM_blanks_46 rfl ?_
              refine xm_get (v := .int (xsi ws9 16)) hx hb htx hown hK hP 16 (by decide) rfl (htx _ kw_5_103) rfl dM_blanks_47 ?_
              refine lv_iconst (v := 1) hx hb dM_blanks_50 (by decide) ?_
              refine lv_iadd hx hb dM_blanks_51 ?_
              refine xm_put (v := .int ((xsi ws9 16) + (1 : Int32))) (W' := (xMw cT aM ad rd gd vad (xsI ws9 16 ((xsi ws9 16) + (1 : Int32))) [])) (ty := .int) hx hb htx hown hK hP hD hS 16 (by decide) rfl (htx _ kw_5_103) rfl rfl (by decide +kernel) rfl rfl dM_blanks_52 (fun H locs hP hD hS => ?_)
              refine lv_goto (tgt := 0) hx hb dM_blanks_55 (by decide) ?_
              exact ih (1, (xsI ws9 16 ((xsi ws9 16) + (1 : Int32)))) _ _ ls (⟨rfl, hf, hP, hD, hS, lv_sub hl [0] rfl, hN⟩)
  exact key n (1, st) _ _ ls (⟨rfl, hf, hP, hD, hS, lv_sub hl [0] rfl, hN⟩)
set_option maxHeartbeats 400000000 in
set_option maxRecDepth 100000 in
theorem gM_jsonNumber (l : Launch) (hl9 : l.stackTraces = false) (D : va_G) (cT : Nat → ClassId) (aK aV : Nat → Nat) (sz n : Nat) (aM : Nat) (ad rd gd vad : Nat → Nat) (st : xS) (out : Nat × Nat × Nat × Nat × xS) (hf : fM_jsonNumber n st = some out) (hkd : out.1 = 0) : xMet l yM_jsonNumber wyM_jsonNumber 8 out.2.1 out.2.2.1 144 D cT aK aV sz [.ref aM] (xMw cT aM ad rd gd vad st []) (fun A => va_Qq (fun (r : Option Nat) (u : xU) => r = xca u.2.2 out.2.2.2.1 ∧ xE vad st out.2.2.2.2 u) (fun u t => xB D xcl cT A (xMw cT aM u.1 rd u.2.1 u.2.2 out.2.2.2.2 []) t) A) := by
  refine Met.ofW (cc := prog_13_method_35_code) (maxL := 5) (ret := (some (.object "ValueBenchModel$V"))) (by decide) rfl ?_
  intro p e s m args below meth c s₁ B hml hv
  obtain ⟨rfl, hsz, hZ, hP, hK, hD0⟩ := hv
  have hx := B.exec
  have hb := B.bytes
  have hr := B.returns
  have hts := atoms_spec (ws := wyM_jsonNumber) B.pre
  have htx := fun w h => hts w (List.mem_cons_of_mem _ h)
  have hown : s.vm.findClass "ValueBenchModel" = some m.cls := findClass_of_methodNamed B.named
  have hlocks := B.notSynchronized
  subst hsz
  have hD := hD0.self (sz := s.heap.size)
  generalize hAe : va_A (xMw cT aM ad rd gd vad st []) s.heap.size = A at hD hZ ⊢
  have hA : ∀ q : Nat, s.heap.size ≤ q → A q := fun q h => by rw [← hAe]; exact Or.inr h
  have hS : va_S A s.heap s.heap [] := va_S.rf
  have hl := lv_entry ([.ref aM]) (n := 5) (by simp [lg_sl, xvcat, xrscat, xcI, xcL, xcR, xcN])
  rw [show lv_args 0 [.ref aM] = [(0, .ref aM)] from by simp [lv_args, xvcat, xrscat, xcI, xcL, xcR, xcN]] at hl
  rw [lg_entry_eq]
  generalize (lg_sl ([.ref aM]) ++ List.replicate (5 - (lg_sl ([.ref aM])).length) Slot.unset).toArray = ls at hl ⊢
  have hl : lv_has ls 5 [(0, .ref aM)] := hl
  have hE : ∀ p, p < xct st → vad p = vad p := fun _ _ => rfl
  have hN : xct st ≤ xct st := Nat.le_refl _
  unfold fM_jsonNumber at hf
  refine xloopM (σ := Nat × Int64 × Int32 × Int32 × xS × Nat × Nat) (fun n x H locs ls => (∃ (adL gdL vadL : Nat → Nat), x.1 = 1 ∧ fM_jsonNumber_b n x.1 x.2.1 x.2.2.1 x.2.2.2.1 x.2.2.2.2.1 x.2.2.2.2.2.1 x.2.2.2.2.2.2 = some out ∧ va_P D xcl (xMw cT aM adL rd gdL vadL x.2.2.2.2.1 []) H ∧ va_D A (xMw cT aM adL rd gdL vadL x.2.2.2.2.1 []) ∧ va_S A s.heap H locs ∧ lv_has ls 5 [(3, .long x.2.1), (2, .int x.2.2.1), (1, .int x.2.2.2.1), (0, .ref aM)] ∧ (∀ p, p < xct st → vadL p = vad p) ∧ xct st ≤ xct x.2.2.2.2.1)) (fun x => 76) (fun x => x.2.2.2.2.2.1) (fun x => x.2.2.2.2.2.2) (fun x H locs ls h => by (obtain ⟨_, _, _, h⟩ := h; exact absurd h.2.1 (by rw [fM_jsonNumber_b]; exact fun h => nomatch h))) (fun n ih x H locs ls hv => ?_) (fun key => ?_)
  · obtain ⟨lb, y3, y2, y1, ws9, wc, wn⟩ := x
    rcases hv with ⟨adL, gdL, vadL, hj, hf, hP, hD, hS, hl, hE, hN⟩
    subst hj
    have hf : fM_jsonNumber_b (n + 1) 1 y3 y2 y1 ws9 wc wn = some out := hf
    rw [fM_jsonNumber_b] at hf
    obtain ⟨hP, hD⟩ : xPD D xcl A (xMw cT aM adL rd gdL vadL ws9 []) H := ⟨hP, hD⟩
    have hl : lv_has ls 5 [(3, .long y3), (2, .int y2), (1, .int y1), (0, .ref aM)] := hl
    refine W.eq (g2 := F0 m 76 ls []) rfl ?_
    show W p l e _ s m _ below meth c H locs wc wn _ _
    obtain ⟨hm0, hf⟩ := xmoE hf
    refine lv_aload_n hx hb dM_jsonNumber_76 rfl (lv_at hl 3 rfl) ?_
    obtain ⟨o1, hq2, hf⟩ := xbind hf
    have hFc := xm_free hD hS hA
    refine va_calli (va_runV (C := "ValueBenchModel") (As := []) (rest := []) ⟨hx, hb, hml, hown, htx⟩ (gM_peek l hl9 D cT aK aV H.size n aM adL rd gdL vadL ws9 o1 hq2) ⟨callB_of 0 htx (xw_goodC kw_5_233) rfl rfl rfl (htx _ kw_1_5) (htx _ kw_5_230) ⟨by decide, by decide, by decide +kernel⟩ ⟨Nat.le_of_ble_eq_true rfl, Nat.le_of_ble_eq_true rfl⟩, (htx _ kw_5_232), (htx _ kp_M_peek)⟩ ⟨xPre_blind, va_recv hK hP (ci := 5) rfl (q0 := 0) rfl, (fun U hU hW => ⟨rfl, xPre_of hZ hS hFc hP hD hK U hU hW⟩)⟩ rfl rfl hl.1 rfl (xm_room (Nat.le_of_ble_eq_true rfl)) dM_jsonNumber_77 ⟨hm0.1, hm0.2⟩) hS (fun q _ h => hFc q h) hFc (fun r3 u9 t H1 locs ht hvm hr9 hB hz1 hk1 hS => ?_)
    obtain ⟨hP1, hK1, hD1⟩ := hB
    rw [ht] at hP1
    have hP : va_P D xcl (xMw cT aM adL rd gdL vadL ws9 []) H1 := hP1
    have hD : va_D A (xMw cT aM adL rd gdL vadL ws9 []) := hD1.weaken (fun k q _ h => hFc q.1 h)
    generalize H1 = H at hP hS ⊢
    rw [hr9]
    refine W.eq (g2 := F0 m 80 ls [.int o1]) (by first | rfl | (skip; rfl)) ?_
    obtain ⟨o4, hq5, hf⟩ := xbind hf
    refine va_calli (va_runS (As := [.int o1]) (rest := []) ⟨hx, hb, hml, hown, htx⟩ (gM_digit l hl9 D cT aK aV H.size n o1 o4 hq5) ⟨callB_of 1 htx (xw_goodC kw_6_73) rfl rfl rfl (htx _ kw_1_5) (htx _ kw_6_71) ⟨by decide, by decide, by decide +kernel⟩ ⟨Nat.le_of_ble_eq_true rfl, Nat.le_of_ble_eq_true rfl⟩, htx _ kw_6_72⟩ ⟨xPre_blind, (fun U hU hW => ⟨rfl, xPre_of hZ hS (xm_free0 hS hA) xm_Pnil xm_Dnil hK U hU hW⟩)⟩ rfl rfl hl.1 rfl (lv_room (Nat.le_of_ble_eq_true rfl)) dM_jsonNumber_80 ⟨(hm0.1), (hm0.2)⟩) hS (fun q _ h => xm_free0 hS hA q h) (xm_free0 hS hA) (fun r6 u9 t H1 locs ht hvm hr9 hB hz1 hk1 hS => ?_)
    replace hP := xm_keep hP hk1
    generalize H1 = H at hP hS ⊢
    rw [hr9]
    refine W.eq (g2 := F0 m 83 ls [.int o4]) (by first | rfl | rw [xv1 (Nat.succ_ne_zero _)]) ?_
    refine lv_if_eq (tgt := 121) hx hb dM_jsonNumber_83 (by decide) (fun hc => ?_) (fun hc => ?_)
    · rw [if_pos hc] at hf
      refine lv_lload_n hx hb dM_jsonNumber_121 rfl (lv_at hl 0 rfl) ?_
      refine lv_ldc2 hx hb hown (htx _ kw_6_84) dM_jsonNumber_122 ?_
      refine W.lcmp hx hb dM_jsonNumber_125 ?_
      refine lv_if_le (tgt := 134) hx hb dM_jsonNumber_126 (by decide) (fun hc => ?_) (fun hc => ?_)
      · rw [if_pos hc] at hf
        refine lv_aload_n hx hb dM_jsonNumber_134 rfl (lv_at hl 3 rfl) ?_
        refine lv_iload_n hx hb dM_jsonNumber_135 rfl (lv_at hl 1 rfl) ?_
        refine lv_if_eq (tgt := 144) hx hb dM_jsonNumber_136 (by decide) (fun hc => ?_) (fun hc => ?_)
        · rw [if_pos hc] at hf
          refine lv_lload_n hx hb dM_jsonNumber_144 rfl (lv_at hl 0 rfl) ?_
          obtain ⟨o7, hq8, hf⟩ := xbind hf
          by_cases hk9 : o7.1 = 0
          · rw [if_pos hk9] at hf
            obtain ⟨hm10, hf⟩ := xmoE hf
            have hFc := xm_free hD hS hA
            refine va_callq (va_runV (C := "ValueBenchModel") (As := [.long y3]) (rest := []) ⟨hx, hb, hml, hown, htx⟩ (gM_number l hl9 D cT aK aV H.size n aM adL rd gdL vadL ws9 y3 o7 hq8 hk9) ⟨callB_of 1 htx (xw_goodC kw_6_88) rfl rfl rfl (htx _ kw_1_5) (htx _ kw_6_85) ⟨by decide, by decide, by decide +kernel⟩ ⟨Nat.le_of_ble_eq_true rfl, Nat.le_of_ble_eq_true rfl⟩, (htx _ kw_6_87), (htx _ kp_M_number)⟩ ⟨xPre_blind, va_recv hK hP (ci := 5) rfl (q0 := 0) rfl, (fun U hU hW => ⟨rfl, xPre_of hZ hS hFc hP hD hK U hU hW⟩)⟩ rfl rfl hl.1 rfl (xm_room (Nat.le_of_ble_eq_true rfl)) dM_jsonNumber_145 ⟨hm10.1, hm10.2⟩) hS (fun q _ h => hFc q h) hFc (fun r11 u9 t H1 locs ht hvm hr9 hB hz1 hk1 hS => ?_)
            obtain ⟨hP1, hK1, hD1⟩ := hB
            rw [ht] at hP1
            obtain ⟨ad12, gd13, vad14⟩ := u9
            obtain ⟨hr9, hv15, hn16⟩ := hr9
            have hP : va_P D xcl (xMw cT aM ad12 rd gd13 vad14 o7.2.2.2.2 []) H1 := hP1
            have hD : va_D A (xMw cT aM ad12 rd gd13 vad14 o7.2.2.2.2 []) := hD1.weaken (fun k q _ h => hFc q.1 h)
            generalize H1 = H at hP hS ⊢
            have hE9 : ∀ p, p < xct st → vad14 p = vad p := fun p h => (hv15 p (Nat.lt_of_lt_of_le h hN)).trans (hE p h)
            have hE := hE9
            have hN : xct st ≤ xct o7.2.2.2.2 := Nat.le_trans hN hn16
            rw [hr9]
            refine W.eq (g2 := F0 m 148 ls [xv vad14 o7.2.2.2.1]) (by first | rfl | (skip; rfl)) ?_
            obtain rfl := Option.some.inj hf
            exact W.aret (v := xv vad14 o7.2.2.2.1) hx hb hr (Or.inl ⟨_, rfl⟩) (xvor _ _) (fun t ht hW => ⟨⟨xca vad14 o7.2.2.2.1, (ad12, gd13, vad14), rfl, ⟨rfl, hE, hN⟩, by rw [ht]; exact hP, va_K.moved hW.alike hK, hD⟩, hS.F ht⟩) hS.2.2 dM_jsonNumber_148
          rw [if_neg hk9] at hf
          by_cases hk17 : o7.1 = 1
          · rw [if_pos hk17] at hf
            obtain ⟨hm18, hf⟩ := xmoE hf
            obtain rfl := Option.some.inj hf
            exact absurd (show (1 : Nat) = 0 from hkd) (by decide)
          rw [if_neg hk17] at hf
          exact nomatch hf
        · rw [if_neg hc] at hf
          refine lv_lload_n hx hb dM_jsonNumber_139 rfl (lv_at hl 0 rfl) ?_
          refine lv_lneg hx hb dM_jsonNumber_140 ?_
          refine lv_goto (tgt := 145) hx hb dM_jsonNumber_141 (by decide) ?_
          obtain ⟨o7, hq8, hf⟩ := xbind hf
          by_cases hk9 : o7.1 = 0
          · rw [if_pos hk9] at hf
            obtain ⟨hm10, hf⟩ := xmoE hf
            have hFc := xm_free hD hS hA
            refine va_callq (va_runV (C := "ValueBenchModel") (As := [.long (-y3)]) (rest := []) ⟨hx, hb, hml, hown, htx⟩ (gM_number l hl9 D cT aK aV H.size n aM adL rd gdL vadL ws9 (-y3) o7 hq8 hk9) ⟨callB_of 1 htx (xw_goodC kw_6_88) rfl rfl rfl (htx _ kw_1_5) (htx _ kw_6_85) ⟨by decide, by decide, by decide +kernel⟩ ⟨Nat.le_of_ble_eq_true rfl, Nat.le_of_ble_eq_true rfl⟩, (htx _ kw_6_87), (htx _ kp_M_number)⟩ ⟨xPre_blind, va_recv hK hP (ci := 5) rfl (q0 := 0) rfl, (fun U hU hW => ⟨rfl, xPre_of hZ hS hFc hP hD hK U hU hW⟩)⟩ rfl rfl hl.1 rfl (xm_room (Nat.le_of_ble_eq_true rfl)) dM_jsonNumber_145 ⟨hm10.1, hm10.2⟩) hS (fun q _ h => hFc q h) hFc (fun r11 u9 t H1 locs ht hvm hr9 hB hz1 hk1 hS => ?_)
            obtain ⟨hP1, hK1, hD1⟩ := hB
            rw [ht] at hP1
            obtain ⟨ad12, gd13, vad14⟩ := u9
            obtain ⟨hr9, hv15, hn16⟩ := hr9
            have hP : va_P D xcl (xMw cT aM ad12 rd gd13 vad14 o7.2.2.2.2 []) H1 := hP1
            have hD : va_D A (xMw cT aM ad12 rd gd13 vad14 o7.2.2.2.2 []) := hD1.weaken (fun k q _ h => hFc q.1 h)
            generalize H1 = H at hP hS ⊢
            have hE9 : ∀ p, p < xct st → vad14 p = vad p := fun p h => (hv15 p (Nat.lt_of_lt_of_le h hN)).trans (hE p h)
            have hE := hE9
            have hN : xct st ≤ xct o7.2.2.2.2 := Nat.le_trans hN hn16
            rw [hr9]
            refine W.eq (g2 := F0 m 148 ls [xv vad14 o7.2.2.2.1]) (by first | rfl | (skip; rfl)) ?_
            obtain rfl := Option.some.inj hf
            exact W.aret (v := xv vad14 o7.2.2.2.1) hx hb hr (Or.inl ⟨_, rfl⟩) (xvor _ _) (fun t ht hW => ⟨⟨xca vad14 o7.2.2.2.1, (ad12, gd13, vad14), rfl, ⟨rfl, hE, hN⟩, by rw [ht]; exact hP, va_K.moved hW.alike hK, hD⟩, hS.F ht⟩) hS.2.2 dM_jsonNumber_148
          rw [if_neg hk9] at hf
          by_cases hk17 : o7.1 = 1
          · rw [if_pos hk17] at hf
            obtain ⟨hm18, hf⟩ := xmoE hf
            obtain rfl := Option.some.inj hf
            exact absurd (show (1 : Nat) = 0 from hkd) (by decide)
          rw [if_neg hk17] at hf
          exact nomatch hf
      · rw [if_neg hc] at hf
        refine lv_aload_n hx hb dM_jsonNumber_129 rfl (lv_at hl 3 rfl) ?_
        refine lv_iload_n hx hb dM_jsonNumber_130 rfl (lv_at hl 2 rfl) ?_
        obtain ⟨o7, hq8, hf⟩ := xbind hf
        by_cases hk9 : o7.1 = 1
        · rw [if_pos hk9] at hf
          obtain ⟨hm10, hf⟩ := xmoE hf
          obtain rfl := Option.some.inj hf
          exact absurd (show (2 : Nat) = 0 from hkd) (by decide)
        rw [if_neg hk9] at hf
        exact nomatch hf
    · rw [if_neg hc] at hf
      refine lv_ldc2 hx hb hown (htx _ kw_6_78) dM_jsonNumber_86 ?_
      refine lv_lload_n hx hb dM_jsonNumber_89 rfl (lv_at hl 0 rfl) ?_
      refine lv_lmul hx hb dM_jsonNumber_90 ?_
      refine lv_aload_n hx hb dM_jsonNumber_91 rfl (lv_at hl 3 rfl) ?_
      obtain ⟨o7, hq8, hf⟩ := xbind hf
      have hFc := xm_free hD hS hA
      refine va_calli (va_runV (C := "ValueBenchModel") (As := []) (rest := [.long ((10 : Int64) * y3)]) ⟨hx, hb, hml, hown, htx⟩ (gM_peek l hl9 D cT aK aV H.size n aM adL rd gdL vadL ws9 o7 hq8) ⟨callB_of 0 htx (xw_goodC kw_5_233) rfl rfl rfl (htx _ kw_1_5) (htx _ kw_5_230) ⟨by decide, by decide, by decide +kernel⟩ ⟨Nat.le_of_ble_eq_true rfl, Nat.le_of_ble_eq_true rfl⟩, (htx _ kw_5_232), (htx _ kp_M_peek)⟩ ⟨xPre_blind, va_recv hK hP (ci := 5) rfl (q0 := 0) rfl, (fun U hU hW => ⟨rfl, xPre_of hZ hS hFc hP hD hK U hU hW⟩)⟩ rfl rfl hl.1 rfl (xm_room (Nat.le_of_ble_eq_true rfl)) dM_jsonNumber_92 ⟨hm0.1, hm0.2⟩) hS (fun q _ h => hFc q h) hFc (fun r9 u9 t H1 locs ht hvm hr9 hB hz1 hk1 hS => ?_)
      obtain ⟨hP1, hK1, hD1⟩ := hB
      rw [ht] at hP1
      have hP : va_P D xcl (xMw cT aM adL rd gdL vadL ws9 []) H1 := hP1
      have hD : va_D A (xMw cT aM adL rd gdL vadL ws9 []) := hD1.weaken (fun k q _ h => hFc q.1 h)
      generalize H1 = H at hP hS ⊢
      rw [hr9]
      refine W.eq (g2 := F0 m 95 ls [.int o7, .long ((10 : Int64) * y3)]) (by first | rfl | (skip; rfl)) ?_
      refine lv_i2l hx hb dM_jsonNumber_95 rfl ?_
      refine lv_ladd hx hb dM_jsonNumber_96 ?_
      refine lv_ldc2 hx hb hown (htx _ kw_6_79) dM_jsonNumber_97 ?_
      refine lv_lsub hx hb dM_jsonNumber_100 ?_
      refine lv_ldc2 hx hb hown (htx _ kw_6_80) dM_jsonNumber_101 ?_
      refine va_mmin_long hx hb (hml.trans hl.1.symm) hown (htx _ kw_6_81) (htx _ kw_6_82) (htx _ kw_1_15) (htx _ kw_6_83) (Nat.le_of_ble_eq_true rfl) (Nat.le_of_ble_eq_true rfl) (hm0.1) (hm0.2) dM_jsonNumber_104 ?_
      refine W.eq (g2 := F0 m 107 ls [.long (if (100000000000000000 : Int64) < ((((10 : Int64) * y3) + o7.toInt64) - (48 : Int64)) then (100000000000000000 : Int64) else ((((10 : Int64) * y3) + o7.toInt64) - (48 : Int64)))]) rfl ?_
      refine lv_lstore_n (lv' := [(3, .long (if (100000000000000000 : Int64) < ((((10 : Int64) * y3) + o7.toInt64) - (48 : Int64)) then (100000000000000000 : Int64) else ((((10 : Int64) * y3) + o7.toInt64) - (48 : Int64)))), (2, .int y2), (1, .int y1), (0, .ref aM)]) hx hb dM_jsonNumber_107 rfl hl (by decide) rfl (fun ls hl => ?_)
      refine lv_aload_n hx hb dM_jsonNumber_108 rfl (lv_at hl 3 rfl) ?_
      refine lv_dup hx hb dM_jsonNumber_109 rfl ?_
      refine xm_get (v := .int (xsi ws9 16)) hx hb htx hown hK hP 16 (by decide) rfl (htx _ kw_5_103) rfl dM_jsonNumber_110 ?_
      refine lv_iconst (v := 1) hx hb dM_jsonNumber_113 (by decide) ?_
      refine lv_iadd hx hb dM_jsonNumber_114 ?_
      refine xm_put (v := .int ((xsi ws9 16) + (1 : Int32))) (W' := (xMw cT aM adL rd gdL vadL (xsI ws9 16 ((xsi ws9 16) + (1 : Int32))) [])) (ty := .int) hx hb htx hown hK hP hD hS 16 (by decide) rfl (htx _ kw_5_103) rfl rfl (by decide +kernel) rfl rfl dM_jsonNumber_115 (fun H locs hP hD hS => ?_)
      refine lv_goto (tgt := 76) hx hb dM_jsonNumber_118 (by decide) ?_
      exact ih (1, (if (100000000000000000 : Int64) < ((((10 : Int64) * y3) + o7.toInt64) - (48 : Int64)) then (100000000000000000 : Int64) else ((((10 : Int64) * y3) + o7.toInt64) - (48 : Int64))), y2, y1, (xsI ws9 16 ((xsi ws9 16) + (1 : Int32))), wc, wn) _ _ ls (⟨adL, gdL, vadL, rfl, hf, hP, hD, hS, lv_sub hl [0, 1, 2, 3] rfl, hE, hN⟩)
  refine lv_aload_n hx hb dM_jsonNumber_0 rfl (lv_at hl 0 rfl) ?_
  refine xm_get (v := .int (xsi st 16)) hx hb htx hown hK hP 16 (by decide) rfl (htx _ kw_5_103) rfl dM_jsonNumber_1 ?_
  refine lv_istore_n (lv' := [(1, .int (xsi st 16)), (0, .ref aM)]) hx hb dM_jsonNumber_4 rfl hl (by decide) rfl (fun ls hl => ?_)
  refine lv_aload_n hx hb dM_jsonNumber_5 rfl (lv_at hl 1 rfl) ?_
  obtain ⟨o1, hq2, hf⟩ := xbind hf
  have hFc := xm_free hD hS hA
  refine va_calli (va_runV (C := "ValueBenchModel") (As := []) (rest := []) ⟨hx, hb, hml, hown, htx⟩ (gM_peek l hl9 D cT aK aV s.heap.size n aM ad rd gd vad st o1 hq2) ⟨callB_of 0 htx (xw_goodC kw_5_233) rfl rfl rfl (htx _ kw_1_5) (htx _ kw_5_230) ⟨by decide, by decide, by decide +kernel⟩ ⟨Nat.le_of_ble_eq_true rfl, Nat.le_of_ble_eq_true rfl⟩, (htx _ kw_5_232), (htx _ kp_M_peek)⟩ ⟨xPre_blind, va_recv hK hP (ci := 5) rfl (q0 := 0) rfl, (fun U hU hW => ⟨rfl, xPre_of hZ hS hFc hP hD hK U hU hW⟩)⟩ rfl rfl hl.1 rfl (xm_room (Nat.le_of_ble_eq_true rfl)) dM_jsonNumber_6 ⟨Nat.zero_le _, Nat.zero_le _⟩) hS (fun q _ h => hFc q h) hFc (fun r3 u9 t H1 locs ht hvm hr9 hB hz1 hk1 hS => ?_)
  obtain ⟨hP1, hK1, hD1⟩ := hB
  rw [ht] at hP1
  have hP : va_P D xcl (xMw cT aM ad rd gd vad st []) H1 := hP1
  have hD : va_D A (xMw cT aM ad rd gd vad st []) := hD1.weaken (fun k q _ h => hFc q.1 h)
  generalize H1 = H at hP hS ⊢
  rw [hr9]
  refine W.eq (g2 := F0 m 9 ls [.int o1]) (by first | rfl | (skip; rfl)) ?_
  refine lv_bipush (v := 45) hx hb dM_jsonNumber_9 (by decide) ?_
  refine lv_icmp_ne (tgt := 18) hx hb dM_jsonNumber_11 (by decide) (fun hc => ?_) (fun hc => ?_)
  · rw [if_neg hc] at hf
    refine lv_iconst (v := 0) hx hb dM_jsonNumber_18 (by decide) ?_
    refine lv_istore_n (lv' := [(2, .int 0), (1, .int (xsi st 16)), (0, .ref aM)]) hx hb dM_jsonNumber_19 rfl hl (by decide) rfl (fun ls hl => ?_)
    refine lv_iload_n hx hb dM_jsonNumber_20 rfl (lv_at hl 0 rfl) ?_
    refine lv_if_eq (tgt := 34) hx hb dM_jsonNumber_21 (by decide) (fun _ => ?_) (fun h => ((by revert h; decide : False)).elim)
    refine lv_aload_n hx hb dM_jsonNumber_34 rfl (lv_at hl 2 rfl) ?_
    obtain ⟨o4, hq5, hf⟩ := xbind hf
    have hFc := xm_free hD hS hA
    refine va_calli (va_runV (C := "ValueBenchModel") (As := []) (rest := []) ⟨hx, hb, hml, hown, htx⟩ (gM_peek l hl9 D cT aK aV H.size n aM ad rd gd vad st o4 hq5) ⟨callB_of 0 htx (xw_goodC kw_5_233) rfl rfl rfl (htx _ kw_1_5) (htx _ kw_5_230) ⟨by decide, by decide, by decide +kernel⟩ ⟨Nat.le_of_ble_eq_true rfl, Nat.le_of_ble_eq_true rfl⟩, (htx _ kw_5_232), (htx _ kp_M_peek)⟩ ⟨xPre_blind, va_recv hK hP (ci := 5) rfl (q0 := 0) rfl, (fun U hU hW => ⟨rfl, xPre_of hZ hS hFc hP hD hK U hU hW⟩)⟩ rfl rfl hl.1 rfl (xm_room (Nat.le_of_ble_eq_true rfl)) dM_jsonNumber_35 ⟨Nat.zero_le _, Nat.zero_le _⟩) hS (fun q _ h => hFc q h) hFc (fun r6 u9 t H1 locs ht hvm hr9 hB hz1 hk1 hS => ?_)
    obtain ⟨hP1, hK1, hD1⟩ := hB
    rw [ht] at hP1
    have hP : va_P D xcl (xMw cT aM ad rd gd vad st []) H1 := hP1
    have hD : va_D A (xMw cT aM ad rd gd vad st []) := hD1.weaken (fun k q _ h => hFc q.1 h)
    generalize H1 = H at hP hS ⊢
    rw [hr9]
    refine W.eq (g2 := F0 m 38 ls [.int o4]) (by first | rfl | (skip; rfl)) ?_
    obtain ⟨o7, hq8, hf⟩ := xbind hf
    refine va_calli (va_runS (As := [.int o4]) (rest := []) ⟨hx, hb, hml, hown, htx⟩ (gM_digit l hl9 D cT aK aV H.size n o4 o7 hq8) ⟨callB_of 1 htx (xw_goodC kw_6_73) rfl rfl rfl (htx _ kw_1_5) (htx _ kw_6_71) ⟨by decide, by decide, by decide +kernel⟩ ⟨Nat.le_of_ble_eq_true rfl, Nat.le_of_ble_eq_true rfl⟩, htx _ kw_6_72⟩ ⟨xPre_blind, (fun U hU hW => ⟨rfl, xPre_of hZ hS (xm_free0 hS hA) xm_Pnil xm_Dnil hK U hU hW⟩)⟩ rfl rfl hl.1 rfl (lv_room (Nat.le_of_ble_eq_true rfl)) dM_jsonNumber_38 ⟨(Nat.zero_le _), (Nat.zero_le _)⟩) hS (fun q _ h => xm_free0 hS hA q h) (xm_free0 hS hA) (fun r9 u9 t H1 locs ht hvm hr9 hB hz1 hk1 hS => ?_)
    replace hP := xm_keep hP hk1
    generalize H1 = H at hP hS ⊢
    rw [hr9]
    refine W.eq (g2 := F0 m 41 ls [.int o7]) (by first | rfl | rw [xv1 (Nat.succ_ne_zero _)]) ?_
    refine lv_if_ne (tgt := 52) hx hb dM_jsonNumber_41 (by decide) (fun hc => ?_) (fun hc => ?_)
    · rw [if_neg hc] at hf
      refine lv_lconst (v := 0) hx hb dM_jsonNumber_52 (by decide) ?_
      refine lv_lstore_n (lv' := [(3, .long 0), (2, .int 0), (1, .int (xsi st 16)), (0, .ref aM)]) hx hb dM_jsonNumber_53 rfl hl (by decide) rfl (fun ls hl => ?_)
      refine lv_aload_n hx hb dM_jsonNumber_54 rfl (lv_at hl 3 rfl) ?_
      obtain ⟨o10, hq11, hf⟩ := xbind hf
      have hFc := xm_free hD hS hA
      refine va_calli (va_runV (C := "ValueBenchModel") (As := []) (rest := []) ⟨hx, hb, hml, hown, htx⟩ (gM_peek l hl9 D cT aK aV H.size n aM ad rd gd vad st o10 hq11) ⟨callB_of 0 htx (xw_goodC kw_5_233) rfl rfl rfl (htx _ kw_1_5) (htx _ kw_5_230) ⟨by decide, by decide, by decide +kernel⟩ ⟨Nat.le_of_ble_eq_true rfl, Nat.le_of_ble_eq_true rfl⟩, (htx _ kw_5_232), (htx _ kp_M_peek)⟩ ⟨xPre_blind, va_recv hK hP (ci := 5) rfl (q0 := 0) rfl, (fun U hU hW => ⟨rfl, xPre_of hZ hS hFc hP hD hK U hU hW⟩)⟩ rfl rfl hl.1 rfl (xm_room (Nat.le_of_ble_eq_true rfl)) dM_jsonNumber_55 ⟨Nat.zero_le _, Nat.zero_le _⟩) hS (fun q _ h => hFc q h) hFc (fun r12 u9 t H1 locs ht hvm hr9 hB hz1 hk1 hS => ?_)
      obtain ⟨hP1, hK1, hD1⟩ := hB
      rw [ht] at hP1
      have hP : va_P D xcl (xMw cT aM ad rd gd vad st []) H1 := hP1
      have hD : va_D A (xMw cT aM ad rd gd vad st []) := hD1.weaken (fun k q _ h => hFc q.1 h)
      generalize H1 = H at hP hS ⊢
      rw [hr9]
      refine W.eq (g2 := F0 m 58 ls [.int o10]) (by first | rfl | (skip; rfl)) ?_
      refine lv_bipush (v := 48) hx hb dM_jsonNumber_58 (by decide) ?_
      refine lv_icmp_ne (tgt := 76) hx hb dM_jsonNumber_60 (by decide) (fun hc => ?_) (fun hc => ?_)
      · rw [if_neg hc] at hf
        exact key n (1, (0 : Int64), (0 : Int32), (xsi st 16), st, 0, 0) _ _ ls (⟨ad, gd, vad, rfl, hf, hP, hD, hS, lv_sub hl [0, 1, 2, 3] rfl, hE, hN⟩)
      · rw [if_pos hc] at hf
        refine lv_aload_n hx hb dM_jsonNumber_63 rfl (lv_at hl 3 rfl) ?_
        refine lv_dup hx hb dM_jsonNumber_64 rfl ?_
        refine xm_get (v := .int (xsi st 16)) hx hb htx hown hK hP 16 (by decide) rfl (htx _ kw_5_103) rfl dM_jsonNumber_65 ?_
        refine lv_iconst (v := 1) hx hb dM_jsonNumber_68 (by decide) ?_
        refine lv_iadd hx hb dM_jsonNumber_69 ?_
        refine xm_put (v := .int ((xsi st 16) + (1 : Int32))) (W' := (xMw cT aM ad rd gd vad (xsI st 16 ((xsi st 16) + (1 : Int32))) [])) (ty := .int) hx hb htx hown hK hP hD hS 16 (by decide) rfl (htx _ kw_5_103) rfl rfl (by decide +kernel) rfl rfl dM_jsonNumber_70 (fun H locs hP hD hS => ?_)
        refine lv_goto (tgt := 121) hx hb dM_jsonNumber_73 (by decide) ?_
        refine lv_lload_n hx hb dM_jsonNumber_121 rfl (lv_at hl 0 rfl) ?_
        refine lv_ldc2 hx hb hown (htx _ kw_6_84) dM_jsonNumber_122 ?_
        refine W.lcmp hx hb dM_jsonNumber_125 ?_
        refine lv_if_le (tgt := 134) hx hb dM_jsonNumber_126 (by decide) (fun hc => ?_) (fun hc => ?_)
        · rw [if_pos hc] at hf
          refine lv_aload_n hx hb dM_jsonNumber_134 rfl (lv_at hl 3 rfl) ?_
          refine lv_iload_n hx hb dM_jsonNumber_135 rfl (lv_at hl 1 rfl) ?_
          refine lv_if_eq (tgt := 144) hx hb dM_jsonNumber_136 (by decide) (fun _ => ?_) (fun h => ((by revert h; decide : False)).elim)
          refine lv_lload_n hx hb dM_jsonNumber_144 rfl (lv_at hl 0 rfl) ?_
          obtain ⟨o13, hq14, hf⟩ := xbind hf
          by_cases hk15 : o13.1 = 0
          · rw [if_pos hk15] at hf
            obtain ⟨hm16, hf⟩ := xmoE hf
            have hFc := xm_free hD hS hA
            refine va_callq (va_runV (C := "ValueBenchModel") (As := [.long 0]) (rest := []) ⟨hx, hb, hml, hown, htx⟩ (gM_number l hl9 D cT aK aV H.size n aM ad rd gd vad (xsI st 16 ((xsi st 16) + (1 : Int32))) (0 : Int64) o13 hq14 hk15) ⟨callB_of 1 htx (xw_goodC kw_6_88) rfl rfl rfl (htx _ kw_1_5) (htx _ kw_6_85) ⟨by decide, by decide, by decide +kernel⟩ ⟨Nat.le_of_ble_eq_true rfl, Nat.le_of_ble_eq_true rfl⟩, (htx _ kw_6_87), (htx _ kp_M_number)⟩ ⟨xPre_blind, va_recv hK hP (ci := 5) rfl (q0 := 0) rfl, (fun U hU hW => ⟨rfl, xPre_of hZ hS hFc hP hD hK U hU hW⟩)⟩ rfl rfl hl.1 rfl (xm_room (Nat.le_of_ble_eq_true rfl)) dM_jsonNumber_145 ⟨hm16.1, hm16.2⟩) hS (fun q _ h => hFc q h) hFc (fun r17 u9 t H1 locs ht hvm hr9 hB hz1 hk1 hS => ?_)
            obtain ⟨hP1, hK1, hD1⟩ := hB
            rw [ht] at hP1
            obtain ⟨ad18, gd19, vad20⟩ := u9
            obtain ⟨hr9, hv21, hn22⟩ := hr9
            have hP : va_P D xcl (xMw cT aM ad18 rd gd19 vad20 o13.2.2.2.2 []) H1 := hP1
            have hD : va_D A (xMw cT aM ad18 rd gd19 vad20 o13.2.2.2.2 []) := hD1.weaken (fun k q _ h => hFc q.1 h)
            generalize H1 = H at hP hS ⊢
            have hE9 : ∀ p, p < xct st → vad20 p = vad p := fun p h => (hv21 p (Nat.lt_of_lt_of_le h hN)).trans (hE p h)
            have hE := hE9
            have hN : xct st ≤ xct o13.2.2.2.2 := Nat.le_trans hN hn22
            rw [hr9]
            refine W.eq (g2 := F0 m 148 ls [xv vad20 o13.2.2.2.1]) (by first | rfl | (skip; rfl)) ?_
            obtain rfl := Option.some.inj hf
            exact W.aret (v := xv vad20 o13.2.2.2.1) hx hb hr (Or.inl ⟨_, rfl⟩) (xvor _ _) (fun t ht hW => ⟨⟨xca vad20 o13.2.2.2.1, (ad18, gd19, vad20), rfl, ⟨rfl, hE, hN⟩, by rw [ht]; exact hP, va_K.moved hW.alike hK, hD⟩, hS.F ht⟩) hS.2.2 dM_jsonNumber_148
          rw [if_neg hk15] at hf
          by_cases hk23 : o13.1 = 1
          · rw [if_pos hk23] at hf
            obtain ⟨hm24, hf⟩ := xmoE hf
            obtain rfl := Option.some.inj hf
            exact absurd (show (1 : Nat) = 0 from hkd) (by decide)
          rw [if_neg hk23] at hf
          exact nomatch hf
        · rw [if_neg hc] at hf
          refine lv_aload_n hx hb dM_jsonNumber_129 rfl (lv_at hl 3 rfl) ?_
          refine lv_iload_n hx hb dM_jsonNumber_130 rfl (lv_at hl 2 rfl) ?_
          obtain ⟨o13, hq14, hf⟩ := xbind hf
          by_cases hk15 : o13.1 = 1
          · rw [if_pos hk15] at hf
            obtain ⟨hm16, hf⟩ := xmoE hf
            obtain rfl := Option.some.inj hf
            exact absurd (show (2 : Nat) = 0 from hkd) (by decide)
          rw [if_neg hk15] at hf
          exact nomatch hf
    · rw [if_pos hc] at hf
      refine lv_aload_n hx hb dM_jsonNumber_44 rfl (lv_at hl 2 rfl) ?_
      refine lv_aload_n hx hb dM_jsonNumber_45 rfl (lv_at hl 2 rfl) ?_
      refine xm_get (v := .int (xsi st 16)) hx hb htx hown hK hP 16 (by decide) rfl (htx _ kw_5_103) rfl dM_jsonNumber_46 ?_
      obtain ⟨o10, hq11, hf⟩ := xbind hf
      by_cases hk12 : o10.1 = 1
      · rw [if_pos hk12] at hf
        obtain ⟨hm13, hf⟩ := xmoE hf
        obtain rfl := Option.some.inj hf
        exact absurd (show (2 : Nat) = 0 from hkd) (by decide)
      rw [if_neg hk12] at hf
      exact nomatch hf
  · rw [if_pos hc] at hf
    refine lv_iconst (v := 1) hx hb dM_jsonNumber_14 (by decide) ?_
    refine lv_goto (tgt := 19) hx hb dM_jsonNumber_15 (by decide) ?_
    refine lv_istore_n (lv' := [(2, .int 1), (1, .int (xsi st 16)), (0, .ref aM)]) hx hb dM_jsonNumber_19 rfl hl (by decide) rfl (fun ls hl => ?_)
    refine lv_iload_n hx hb dM_jsonNumber_20 rfl (lv_at hl 0 rfl) ?_
    refine lv_if_eq (tgt := 34) hx hb dM_jsonNumber_21 (by decide) (fun h => ((by revert h; decide : False)).elim) (fun _ => ?_)
    refine lv_aload_n hx hb dM_jsonNumber_24 rfl (lv_at hl 2 rfl) ?_
    refine lv_dup hx hb dM_jsonNumber_25 rfl ?_
    refine xm_get (v := .int (xsi st 16)) hx hb htx hown hK hP 16 (by decide) rfl (htx _ kw_5_103) rfl dM_jsonNumber_26 ?_
    refine lv_iconst (v := 1) hx hb dM_jsonNumber_29 (by decide) ?_
    refine lv_iadd hx hb dM_jsonNumber_30 ?_
    refine xm_put (v := .int ((xsi st 16) + (1 : Int32))) (W' := (xMw cT aM ad rd gd vad (xsI st 16 ((xsi st 16) + (1 : Int32))) [])) (ty := .int) hx hb htx hown hK hP hD hS 16 (by decide) rfl (htx _ kw_5_103) rfl rfl (by decide +kernel) rfl rfl dM_jsonNumber_31 (fun H locs hP hD hS => ?_)
    refine lv_aload_n hx hb dM_jsonNumber_34 rfl (lv_at hl 2 rfl) ?_
    obtain ⟨o4, hq5, hf⟩ := xbind hf
    have hFc := xm_free hD hS hA
    refine va_calli (va_runV (C := "ValueBenchModel") (As := []) (rest := []) ⟨hx, hb, hml, hown, htx⟩ (gM_peek l hl9 D cT aK aV H.size n aM ad rd gd vad (xsI st 16 ((xsi st 16) + (1 : Int32))) o4 hq5) ⟨callB_of 0 htx (xw_goodC kw_5_233) rfl rfl rfl (htx _ kw_1_5) (htx _ kw_5_230) ⟨by decide, by decide, by decide +kernel⟩ ⟨Nat.le_of_ble_eq_true rfl, Nat.le_of_ble_eq_true rfl⟩, (htx _ kw_5_232), (htx _ kp_M_peek)⟩ ⟨xPre_blind, va_recv hK hP (ci := 5) rfl (q0 := 0) rfl, (fun U hU hW => ⟨rfl, xPre_of hZ hS hFc hP hD hK U hU hW⟩)⟩ rfl rfl hl.1 rfl (xm_room (Nat.le_of_ble_eq_true rfl)) dM_jsonNumber_35 ⟨Nat.zero_le _, Nat.zero_le _⟩) hS (fun q _ h => hFc q h) hFc (fun r6 u9 t H1 locs ht hvm hr9 hB hz1 hk1 hS => ?_)
    obtain ⟨hP1, hK1, hD1⟩ := hB
    rw [ht] at hP1
    have hP : va_P D xcl (xMw cT aM ad rd gd vad (xsI st 16 ((xsi st 16) + (1 : Int32))) []) H1 := hP1
    have hD : va_D A (xMw cT aM ad rd gd vad (xsI st 16 ((xsi st 16) + (1 : Int32))) []) := hD1.weaken (fun k q _ h => hFc q.1 h)
    generalize H1 = H at hP hS ⊢
    rw [hr9]
    refine W.eq (g2 := F0 m 38 ls [.int o4]) (by first | rfl | (skip; rfl)) ?_
    obtain ⟨o7, hq8, hf⟩ := xbind hf
    refine va_calli (va_runS (As := [.int o4]) (rest := []) ⟨hx, hb, hml, hown, htx⟩ (gM_digit l hl9 D cT aK aV H.size n o4 o7 hq8) ⟨callB_of 1 htx (xw_goodC kw_6_73) rfl rfl rfl (htx _ kw_1_5) (htx _ kw_6_71) ⟨by decide, by decide, by decide +kernel⟩ ⟨Nat.le_of_ble_eq_true rfl, Nat.le_of_ble_eq_true rfl⟩, htx _ kw_6_72⟩ ⟨xPre_blind, (fun U hU hW => ⟨rfl, xPre_of hZ hS (xm_free0 hS hA) xm_Pnil xm_Dnil hK U hU hW⟩)⟩ rfl rfl hl.1 rfl (lv_room (Nat.le_of_ble_eq_true rfl)) dM_jsonNumber_38 ⟨(Nat.zero_le _), (Nat.zero_le _)⟩) hS (fun q _ h => xm_free0 hS hA q h) (xm_free0 hS hA) (fun r9 u9 t H1 locs ht hvm hr9 hB hz1 hk1 hS => ?_)
    replace hP := xm_keep hP hk1
    generalize H1 = H at hP hS ⊢
    rw [hr9]
    refine W.eq (g2 := F0 m 41 ls [.int o7]) (by first | rfl | rw [xv1 (Nat.succ_ne_zero _)]) ?_
    refine lv_if_ne (tgt := 52) hx hb dM_jsonNumber_41 (by decide) (fun hc => ?_) (fun hc => ?_)
    · rw [if_neg hc] at hf
      refine lv_lconst (v := 0) hx hb dM_jsonNumber_52 (by decide) ?_
      refine lv_lstore_n (lv' := [(3, .long 0), (2, .int 1), (1, .int (xsi st 16)), (0, .ref aM)]) hx hb dM_jsonNumber_53 rfl hl (by decide) rfl (fun ls hl => ?_)
      refine lv_aload_n hx hb dM_jsonNumber_54 rfl (lv_at hl 3 rfl) ?_
      obtain ⟨o10, hq11, hf⟩ := xbind hf
      have hFc := xm_free hD hS hA
      refine va_calli (va_runV (C := "ValueBenchModel") (As := []) (rest := []) ⟨hx, hb, hml, hown, htx⟩ (gM_peek l hl9 D cT aK aV H.size n aM ad rd gd vad (xsI st 16 ((xsi st 16) + (1 : Int32))) o10 hq11) ⟨callB_of 0 htx (xw_goodC kw_5_233) rfl rfl rfl (htx _ kw_1_5) (htx _ kw_5_230) ⟨by decide, by decide, by decide +kernel⟩ ⟨Nat.le_of_ble_eq_true rfl, Nat.le_of_ble_eq_true rfl⟩, (htx _ kw_5_232), (htx _ kp_M_peek)⟩ ⟨xPre_blind, va_recv hK hP (ci := 5) rfl (q0 := 0) rfl, (fun U hU hW => ⟨rfl, xPre_of hZ hS hFc hP hD hK U hU hW⟩)⟩ rfl rfl hl.1 rfl (xm_room (Nat.le_of_ble_eq_true rfl)) dM_jsonNumber_55 ⟨Nat.zero_le _, Nat.zero_le _⟩) hS (fun q _ h => hFc q h) hFc (fun r12 u9 t H1 locs ht hvm hr9 hB hz1 hk1 hS => ?_)
      obtain ⟨hP1, hK1, hD1⟩ := hB
      rw [ht] at hP1
      have hP : va_P D xcl (xMw cT aM ad rd gd vad (xsI st 16 ((xsi st 16) + (1 : Int32))) []) H1 := hP1
      have hD : va_D A (xMw cT aM ad rd gd vad (xsI st 16 ((xsi st 16) + (1 : Int32))) []) := hD1.weaken (fun k q _ h => hFc q.1 h)
      generalize H1 = H at hP hS ⊢
      rw [hr9]
      refine W.eq (g2 := F0 m 58 ls [.int o10]) (by first | rfl | (skip; rfl)) ?_
      refine lv_bipush (v := 48) hx hb dM_jsonNumber_58 (by decide) ?_
      refine lv_icmp_ne (tgt := 76) hx hb dM_jsonNumber_60 (by decide) (fun hc => ?_) (fun hc => ?_)
      · rw [if_neg hc] at hf
        exact key n (1, (0 : Int64), (1 : Int32), (xsi st 16), (xsI st 16 ((xsi st 16) + (1 : Int32))), 0, 0) _ _ ls (⟨ad, gd, vad, rfl, hf, hP, hD, hS, lv_sub hl [0, 1, 2, 3] rfl, hE, hN⟩)
      · rw [if_pos hc] at hf
        refine lv_aload_n hx hb dM_jsonNumber_63 rfl (lv_at hl 3 rfl) ?_
        refine lv_dup hx hb dM_jsonNumber_64 rfl ?_
        refine xm_get (v := .int ((xsi st 16) + (1 : Int32))) hx hb htx hown hK hP 16 (by decide) rfl (htx _ kw_5_103) rfl dM_jsonNumber_65 ?_
        refine lv_iconst (v := 1) hx hb dM_jsonNumber_68 (by decide) ?_
        refine lv_iadd hx hb dM_jsonNumber_69 ?_
        refine xm_put (v := .int (((xsi st 16) + (1 : Int32)) + (1 : Int32))) (W' := (xMw cT aM ad rd gd vad (xsI (xsI st 16 ((xsi st 16) + (1 : Int32))) 16 (((xsi st 16) + (1 : Int32)) + (1 : Int32))) [])) (ty := .int) hx hb htx hown hK hP hD hS 16 (by decide) rfl (htx _ kw_5_103) rfl rfl (by decide +kernel) rfl rfl dM_jsonNumber_70 (fun H locs hP hD hS => ?_)
        refine lv_goto (tgt := 121) hx hb dM_jsonNumber_73 (by decide) ?_
        refine lv_lload_n hx hb dM_jsonNumber_121 rfl (lv_at hl 0 rfl) ?_
        refine lv_ldc2 hx hb hown (htx _ kw_6_84) dM_jsonNumber_122 ?_
        refine W.lcmp hx hb dM_jsonNumber_125 ?_
        refine lv_if_le (tgt := 134) hx hb dM_jsonNumber_126 (by decide) (fun hc => ?_) (fun hc => ?_)
        · rw [if_pos hc] at hf
          refine lv_aload_n hx hb dM_jsonNumber_134 rfl (lv_at hl 3 rfl) ?_
          refine lv_iload_n hx hb dM_jsonNumber_135 rfl (lv_at hl 1 rfl) ?_
          refine lv_if_eq (tgt := 144) hx hb dM_jsonNumber_136 (by decide) (fun h => ((by revert h; decide : False)).elim) (fun _ => ?_)
          refine lv_lload_n hx hb dM_jsonNumber_139 rfl (lv_at hl 0 rfl) ?_
          refine lv_lneg hx hb dM_jsonNumber_140 ?_
          refine W.eq (g2 := F0 m 141 ls [.long 0, .ref aM]) rfl ?_
          refine lv_goto (tgt := 145) hx hb dM_jsonNumber_141 (by decide) ?_
          obtain ⟨o13, hq14, hf⟩ := xbind hf
          by_cases hk15 : o13.1 = 0
          · rw [if_pos hk15] at hf
            obtain ⟨hm16, hf⟩ := xmoE hf
            have hFc := xm_free hD hS hA
            refine va_callq (va_runV (C := "ValueBenchModel") (As := [.long 0]) (rest := []) ⟨hx, hb, hml, hown, htx⟩ (gM_number l hl9 D cT aK aV H.size n aM ad rd gd vad (xsI (xsI st 16 ((xsi st 16) + (1 : Int32))) 16 (((xsi st 16) + (1 : Int32)) + (1 : Int32))) (0 : Int64) o13 hq14 hk15) ⟨callB_of 1 htx (xw_goodC kw_6_88) rfl rfl rfl (htx _ kw_1_5) (htx _ kw_6_85) ⟨by decide, by decide, by decide +kernel⟩ ⟨Nat.le_of_ble_eq_true rfl, Nat.le_of_ble_eq_true rfl⟩, (htx _ kw_6_87), (htx _ kp_M_number)⟩ ⟨xPre_blind, va_recv hK hP (ci := 5) rfl (q0 := 0) rfl, (fun U hU hW => ⟨rfl, xPre_of hZ hS hFc hP hD hK U hU hW⟩)⟩ rfl rfl hl.1 rfl (xm_room (Nat.le_of_ble_eq_true rfl)) dM_jsonNumber_145 ⟨hm16.1, hm16.2⟩) hS (fun q _ h => hFc q h) hFc (fun r17 u9 t H1 locs ht hvm hr9 hB hz1 hk1 hS => ?_)
            obtain ⟨hP1, hK1, hD1⟩ := hB
            rw [ht] at hP1
            obtain ⟨ad18, gd19, vad20⟩ := u9
            obtain ⟨hr9, hv21, hn22⟩ := hr9
            have hP : va_P D xcl (xMw cT aM ad18 rd gd19 vad20 o13.2.2.2.2 []) H1 := hP1
            have hD : va_D A (xMw cT aM ad18 rd gd19 vad20 o13.2.2.2.2 []) := hD1.weaken (fun k q _ h => hFc q.1 h)
            generalize H1 = H at hP hS ⊢
            have hE9 : ∀ p, p < xct st → vad20 p = vad p := fun p h => (hv21 p (Nat.lt_of_lt_of_le h hN)).trans (hE p h)
            have hE := hE9
            have hN : xct st ≤ xct o13.2.2.2.2 := Nat.le_trans hN hn22
            rw [hr9]
            refine W.eq (g2 := F0 m 148 ls [xv vad20 o13.2.2.2.1]) (by first | rfl | (skip; rfl)) ?_
            obtain rfl := Option.some.inj hf
            exact W.aret (v := xv vad20 o13.2.2.2.1) hx hb hr (Or.inl ⟨_, rfl⟩) (xvor _ _) (fun t ht hW => ⟨⟨xca vad20 o13.2.2.2.1, (ad18, gd19, vad20), rfl, ⟨rfl, hE, hN⟩, by rw [ht]; exact hP, va_K.moved hW.alike hK, hD⟩, hS.F ht⟩) hS.2.2 dM_jsonNumber_148
          rw [if_neg hk15] at hf
          by_cases hk23 : o13.1 = 1
          · rw [if_pos hk23] at hf
            obtain ⟨hm24, hf⟩ := xmoE hf
            obtain rfl := Option.some.inj hf
            exact absurd (show (1 : Nat) = 0 from hkd) (by decide)
          rw [if_neg hk23] at hf
          exact nomatch hf
        · rw [if_neg hc] at hf
          refine lv_aload_n hx hb dM_jsonNumber_129 rfl (lv_at hl 3 rfl) ?_
          refine lv_iload_n hx hb dM_jsonNumber_130 rfl (lv_at hl 2 rfl) ?_
          obtain ⟨o13, hq14, hf⟩ := xbind hf
          by_cases hk15 : o13.1 = 1
          · rw [if_pos hk15] at hf
            obtain ⟨hm16, hf⟩ := xmoE hf
            obtain rfl := Option.some.inj hf
            exact absurd (show (2 : Nat) = 0 from hkd) (by decide)
          rw [if_neg hk15] at hf
          exact nomatch hf
    · rw [if_pos hc] at hf
      refine lv_aload_n hx hb dM_jsonNumber_44 rfl (lv_at hl 2 rfl) ?_
      refine lv_aload_n hx hb dM_jsonNumber_45 rfl (lv_at hl 2 rfl) ?_
      refine xm_get (v := .int ((xsi st 16) + (1 : Int32))) hx hb htx hown hK hP 16 (by decide) rfl (htx _ kw_5_103) rfl dM_jsonNumber_46 ?_
      obtain ⟨o10, hq11, hf⟩ := xbind hf
      by_cases hk12 : o10.1 = 1
      · rw [if_pos hk12] at hf
        obtain ⟨hm13, hf⟩ := xmoE hf
        obtain rfl := Option.some.inj hf
        exact absurd (show (2 : Nat) = 0 from hkd) (by decide)
      rw [if_neg hk12] at hf
      exact nomatch hf
set_option maxHeartbeats 400000000 in
set_option maxRecDepth 100000 in
theorem gM_jsonNumber_1 (l : Launch) (hl9 : l.stackTraces = false) (D : va_G) (cT : Nat → ClassId) (aK aV : Nat → Nat) (sz n : Nat) (aM : Nat) (ad rd gd vad : Nat → Nat) (st : xS) (out : Nat × Nat × Nat × Nat × xS) (hf : fM_jsonNumber n st = some out) (hkd : out.1 = 1) : xMetY l yM_jsonNumber wyM_jsonNumber 8 out.2.1 out.2.2.1 144 D cT aK aV sz [.ref aM] (xMw cT aM ad rd gd vad st []) "java/lang/ArithmeticException" (fun u => xE vad st out.2.2.2.2 u) (fun A u t => xB D xcl cT A (xMw cT aM u.1 rd u.2.1 u.2.2 out.2.2.2.2 []) t) := by
  refine vx_ofW (cc := prog_13_method_35_code) (maxL := 5) (ret := (some (.object "ValueBenchModel$V"))) (by decide) rfl ?_
  intro p e s m args below meth c s₁ B hml hne hv
  obtain ⟨rfl, hsz, hZ, hP, hK, hD0⟩ := hv
  have hx := B.exec
  have hb := B.bytes
  have hr := B.returns
  have hts := atoms_spec (ws := wyM_jsonNumber) B.pre
  have htx := fun w h => hts w (List.mem_cons_of_mem _ h)
  have hown : s.vm.findClass "ValueBenchModel" = some m.cls := findClass_of_methodNamed B.named
  have hlocks := B.notSynchronized
  subst hsz
  have hD := hD0.self (sz := s.heap.size)
  generalize hAe : va_A (xMw cT aM ad rd gd vad st []) s.heap.size = A at hD hZ ⊢
  have hA : ∀ q : Nat, s.heap.size ≤ q → A q := fun q h => by rw [← hAe]; exact Or.inr h
  have hS : va_S A s.heap s.heap [] := va_S.rf
  have hl := lv_entry ([.ref aM]) (n := 5) (by simp [lg_sl, xvcat, xrscat, xcI, xcL, xcR, xcN])
  rw [show lv_args 0 [.ref aM] = [(0, .ref aM)] from by simp [lv_args, xvcat, xrscat, xcI, xcL, xcR, xcN]] at hl
  rw [lg_entry_eq]
  generalize (lg_sl ([.ref aM]) ++ List.replicate (5 - (lg_sl ([.ref aM])).length) Slot.unset).toArray = ls at hl ⊢
  have hl : lv_has ls 5 [(0, .ref aM)] := hl
  have hE : ∀ p, p < xct st → vad p = vad p := fun _ _ => rfl
  have hN : xct st ≤ xct st := Nat.le_refl _
  unfold fM_jsonNumber at hf
  refine xloopM (σ := Nat × Int64 × Int32 × Int32 × xS × Nat × Nat) (fun n x H locs ls => (∃ (adL gdL vadL : Nat → Nat), x.1 = 1 ∧ fM_jsonNumber_b n x.1 x.2.1 x.2.2.1 x.2.2.2.1 x.2.2.2.2.1 x.2.2.2.2.2.1 x.2.2.2.2.2.2 = some out ∧ va_P D xcl (xMw cT aM adL rd gdL vadL x.2.2.2.2.1 []) H ∧ va_D A (xMw cT aM adL rd gdL vadL x.2.2.2.2.1 []) ∧ va_S A s.heap H locs ∧ lv_has ls 5 [(3, .long x.2.1), (2, .int x.2.2.1), (1, .int x.2.2.2.1), (0, .ref aM)] ∧ (∀ p, p < xct st → vadL p = vad p) ∧ xct st ≤ xct x.2.2.2.2.1)) (fun x => 76) (fun x => x.2.2.2.2.2.1) (fun x => x.2.2.2.2.2.2) (fun x H locs ls h => by (obtain ⟨_, _, _, h⟩ := h; exact absurd h.2.1 (by rw [fM_jsonNumber_b]; exact fun h => nomatch h))) (fun n ih x H locs ls hv => ?_) (fun key => ?_)
  · obtain ⟨lb, y3, y2, y1, ws9, wc, wn⟩ := x
    rcases hv with ⟨adL, gdL, vadL, hj, hf, hP, hD, hS, hl, hE, hN⟩
    subst hj
    have hf : fM_jsonNumber_b (n + 1) 1 y3 y2 y1 ws9 wc wn = some out := hf
    rw [fM_jsonNumber_b] at hf
    obtain ⟨hP, hD⟩ : xPD D xcl A (xMw cT aM adL rd gdL vadL ws9 []) H := ⟨hP, hD⟩
    have hl : lv_has ls 5 [(3, .long y3), (2, .int y2), (1, .int y1), (0, .ref aM)] := hl
    refine W.eq (g2 := F0 m 76 ls []) rfl ?_
    show W p l e _ s m _ below meth c H locs wc wn _ _
    obtain ⟨hm0, hf⟩ := xmoE hf
    refine lv_aload_n hx hb dM_jsonNumber_76 rfl (lv_at hl 3 rfl) ?_
    obtain ⟨o1, hq2, hf⟩ := xbind hf
    have hFc := xm_free hD hS hA
    refine va_calli (va_runV (C := "ValueBenchModel") (As := []) (rest := []) ⟨hx, hb, hml, hown, htx⟩ (gM_peek l hl9 D cT aK aV H.size n aM adL rd gdL vadL ws9 o1 hq2) ⟨callB_of 0 htx (xw_goodC kw_5_233) rfl rfl rfl (htx _ kw_1_5) (htx _ kw_5_230) ⟨by decide, by decide, by decide +kernel⟩ ⟨Nat.le_of_ble_eq_true rfl, Nat.le_of_ble_eq_true rfl⟩, (htx _ kw_5_232), (htx _ kp_M_peek)⟩ ⟨xPre_blind, va_recv hK hP (ci := 5) rfl (q0 := 0) rfl, (fun U hU hW => ⟨rfl, xPre_of hZ hS hFc hP hD hK U hU hW⟩)⟩ rfl rfl hl.1 rfl (xm_room (Nat.le_of_ble_eq_true rfl)) dM_jsonNumber_77 ⟨hm0.1, hm0.2⟩) hS (fun q _ h => hFc q h) hFc (fun r3 u9 t H1 locs ht hvm hr9 hB hz1 hk1 hS => ?_)
    obtain ⟨hP1, hK1, hD1⟩ := hB
    rw [ht] at hP1
    have hP : va_P D xcl (xMw cT aM adL rd gdL vadL ws9 []) H1 := hP1
    have hD : va_D A (xMw cT aM adL rd gdL vadL ws9 []) := hD1.weaken (fun k q _ h => hFc q.1 h)
    generalize H1 = H at hP hS ⊢
    rw [hr9]
    refine W.eq (g2 := F0 m 80 ls [.int o1]) (by first | rfl | (skip; rfl)) ?_
    obtain ⟨o4, hq5, hf⟩ := xbind hf
    refine va_calli (va_runS (As := [.int o1]) (rest := []) ⟨hx, hb, hml, hown, htx⟩ (gM_digit l hl9 D cT aK aV H.size n o1 o4 hq5) ⟨callB_of 1 htx (xw_goodC kw_6_73) rfl rfl rfl (htx _ kw_1_5) (htx _ kw_6_71) ⟨by decide, by decide, by decide +kernel⟩ ⟨Nat.le_of_ble_eq_true rfl, Nat.le_of_ble_eq_true rfl⟩, htx _ kw_6_72⟩ ⟨xPre_blind, (fun U hU hW => ⟨rfl, xPre_of hZ hS (xm_free0 hS hA) xm_Pnil xm_Dnil hK U hU hW⟩)⟩ rfl rfl hl.1 rfl (lv_room (Nat.le_of_ble_eq_true rfl)) dM_jsonNumber_80 ⟨(hm0.1), (hm0.2)⟩) hS (fun q _ h => xm_free0 hS hA q h) (xm_free0 hS hA) (fun r6 u9 t H1 locs ht hvm hr9 hB hz1 hk1 hS => ?_)
    replace hP := xm_keep hP hk1
    generalize H1 = H at hP hS ⊢
    rw [hr9]
    refine W.eq (g2 := F0 m 83 ls [.int o4]) (by first | rfl | rw [xv1 (Nat.succ_ne_zero _)]) ?_
    refine lv_if_eq (tgt := 121) hx hb dM_jsonNumber_83 (by decide) (fun hc => ?_) (fun hc => ?_)
    · rw [if_pos hc] at hf
      refine lv_lload_n hx hb dM_jsonNumber_121 rfl (lv_at hl 0 rfl) ?_
      refine lv_ldc2 hx hb hown (htx _ kw_6_84) dM_jsonNumber_122 ?_
      refine W.lcmp hx hb dM_jsonNumber_125 ?_
      refine lv_if_le (tgt := 134) hx hb dM_jsonNumber_126 (by decide) (fun hc => ?_) (fun hc => ?_)
      · rw [if_pos hc] at hf
        refine lv_aload_n hx hb dM_jsonNumber_134 rfl (lv_at hl 3 rfl) ?_
        refine lv_iload_n hx hb dM_jsonNumber_135 rfl (lv_at hl 1 rfl) ?_
        refine lv_if_eq (tgt := 144) hx hb dM_jsonNumber_136 (by decide) (fun hc => ?_) (fun hc => ?_)
        · rw [if_pos hc] at hf
          refine lv_lload_n hx hb dM_jsonNumber_144 rfl (lv_at hl 0 rfl) ?_
          obtain ⟨o7, hq8, hf⟩ := xbind hf
          by_cases hk9 : o7.1 = 0
          · rw [if_pos hk9] at hf
            obtain ⟨hm10, hf⟩ := xmoE hf
            have hFc := xm_free hD hS hA
            refine va_callq (va_runV (C := "ValueBenchModel") (As := [.long y3]) (rest := []) ⟨hx, hb, hml, hown, htx⟩ (gM_number l hl9 D cT aK aV H.size n aM adL rd gdL vadL ws9 y3 o7 hq8 hk9) ⟨callB_of 1 htx (xw_goodC kw_6_88) rfl rfl rfl (htx _ kw_1_5) (htx _ kw_6_85) ⟨by decide, by decide, by decide +kernel⟩ ⟨Nat.le_of_ble_eq_true rfl, Nat.le_of_ble_eq_true rfl⟩, (htx _ kw_6_87), (htx _ kp_M_number)⟩ ⟨xPre_blind, va_recv hK hP (ci := 5) rfl (q0 := 0) rfl, (fun U hU hW => ⟨rfl, xPre_of hZ hS hFc hP hD hK U hU hW⟩)⟩ rfl rfl hl.1 rfl (xm_room (Nat.le_of_ble_eq_true rfl)) dM_jsonNumber_145 ⟨hm10.1, hm10.2⟩) hS (fun q _ h => hFc q h) hFc (fun r11 u9 t H1 locs ht hvm hr9 hB hz1 hk1 hS => ?_)
            obtain ⟨hP1, hK1, hD1⟩ := hB
            rw [ht] at hP1
            obtain ⟨ad12, gd13, vad14⟩ := u9
            obtain ⟨hr9, hv15, hn16⟩ := hr9
            have hP : va_P D xcl (xMw cT aM ad12 rd gd13 vad14 o7.2.2.2.2 []) H1 := hP1
            have hD : va_D A (xMw cT aM ad12 rd gd13 vad14 o7.2.2.2.2 []) := hD1.weaken (fun k q _ h => hFc q.1 h)
            generalize H1 = H at hP hS ⊢
            have hE9 : ∀ p, p < xct st → vad14 p = vad p := fun p h => (hv15 p (Nat.lt_of_lt_of_le h hN)).trans (hE p h)
            have hE := hE9
            have hN : xct st ≤ xct o7.2.2.2.2 := Nat.le_trans hN hn16
            rw [hr9]
            refine W.eq (g2 := F0 m 148 ls [xv vad14 o7.2.2.2.1]) (by first | rfl | (skip; rfl)) ?_
            obtain rfl := Option.some.inj hf
            exact absurd (show (0 : Nat) = 1 from hkd) (by decide)
          rw [if_neg hk9] at hf
          by_cases hk17 : o7.1 = 1
          · rw [if_pos hk17] at hf
            obtain ⟨hm18, hf⟩ := xmoE hf
            have hFc := xm_free hD hS hA
            refine xx_thr (vx_runV (C := "ValueBenchModel") (As := [.long y3]) (rest := []) ⟨hx, hb, hml, hown, htx⟩ (gM_number_1 l hl9 D cT aK aV H.size n aM adL rd gdL vadL ws9 y3 o7 hq8 hk17) ⟨callB_of 1 htx (xw_goodC kw_6_88) rfl rfl rfl (htx _ kw_1_5) (htx _ kw_6_85) ⟨by decide, by decide, by decide +kernel⟩ ⟨Nat.le_of_ble_eq_true rfl, Nat.le_of_ble_eq_true rfl⟩, (htx _ kw_6_87), (htx _ kp_M_number)⟩ ⟨xPre_blind, va_recv hK hP (ci := 5) rfl (q0 := 0) rfl, (fun U hU hW => ⟨rfl, xPre_of hZ hS hFc hP hD hK U hU hW⟩)⟩ rfl rfl hl.1 rfl (xm_room (Nat.le_of_ble_eq_true rfl)) dM_jsonNumber_145 ⟨hm18.1, hm18.2⟩) hS hFc (fun q _ h => hFc q h) (fun E ce q9 u9 t H1 locs ht hvm hr9 hB hz1 hk1 hS hce hcv hcl => ?_)
            obtain ⟨rfl, hP1, hK1, hD1⟩ := hB
            rw [ht] at hP1
            obtain ⟨ad20, gd21, vad22⟩ := u9
            obtain ⟨hv23, hn24⟩ := hr9
            have hP : va_P D xcl (xMw cT aM ad20 rd gd21 vad22 o7.2.2.2.2 []) H1 := hP1
            have hD : va_D A (xMw cT aM ad20 rd gd21 vad22 o7.2.2.2.2 []) := hD1.weaken (fun k q _ h => hFc q.1 h)
            generalize H1 = H at hP hS hce ⊢
            have hE9 : ∀ p, p < xct st → vad22 p = vad p := fun p h => (hv23 p (Nat.lt_of_lt_of_le h hN)).trans (hE p h)
            have hE := hE9
            have hN : xct st ≤ xct o7.2.2.2.2 := Nat.le_trans hN hn24
            obtain rfl := Option.some.inj hf
            exact vx_out (E := "java/lang/ArithmeticException") (fun x h => (hne x h).elim) hlocks hce hcv hcl (fun t ht ha => ⟨(ad20, gd21, vad22), ⟨hE, hN⟩, ⟨rfl, by rw [ht]; exact hP, va_K.moved ha hK, hD⟩, hS.F ht⟩) hS.2.2 (Nat.le_refl _) (Nat.le_refl _)
          rw [if_neg hk17] at hf
          exact nomatch hf
        · rw [if_neg hc] at hf
          refine lv_lload_n hx hb dM_jsonNumber_139 rfl (lv_at hl 0 rfl) ?_
          refine lv_lneg hx hb dM_jsonNumber_140 ?_
          refine lv_goto (tgt := 145) hx hb dM_jsonNumber_141 (by decide) ?_
          obtain ⟨o7, hq8, hf⟩ := xbind hf
          by_cases hk9 : o7.1 = 0
          · rw [if_pos hk9] at hf
            obtain ⟨hm10, hf⟩ := xmoE hf
            have hFc := xm_free hD hS hA
            refine va_callq (va_runV (C := "ValueBenchModel") (As := [.long (-y3)]) (rest := []) ⟨hx, hb, hml, hown, htx⟩ (gM_number l hl9 D cT aK aV H.size n aM adL rd gdL vadL ws9 (-y3) o7 hq8 hk9) ⟨callB_of 1 htx (xw_goodC kw_6_88) rfl rfl rfl (htx _ kw_1_5) (htx _ kw_6_85) ⟨by decide, by decide, by decide +kernel⟩ ⟨Nat.le_of_ble_eq_true rfl, Nat.le_of_ble_eq_true rfl⟩, (htx _ kw_6_87), (htx _ kp_M_number)⟩ ⟨xPre_blind, va_recv hK hP (ci := 5) rfl (q0 := 0) rfl, (fun U hU hW => ⟨rfl, xPre_of hZ hS hFc hP hD hK U hU hW⟩)⟩ rfl rfl hl.1 rfl (xm_room (Nat.le_of_ble_eq_true rfl)) dM_jsonNumber_145 ⟨hm10.1, hm10.2⟩) hS (fun q _ h => hFc q h) hFc (fun r11 u9 t H1 locs ht hvm hr9 hB hz1 hk1 hS => ?_)
            obtain ⟨hP1, hK1, hD1⟩ := hB
            rw [ht] at hP1
            obtain ⟨ad12, gd13, vad14⟩ := u9
            obtain ⟨hr9, hv15, hn16⟩ := hr9
            have hP : va_P D xcl (xMw cT aM ad12 rd gd13 vad14 o7.2.2.2.2 []) H1 := hP1
            have hD : va_D A (xMw cT aM ad12 rd gd13 vad14 o7.2.2.2.2 []) := hD1.weaken (fun k q _ h => hFc q.1 h)
            generalize H1 = H at hP hS ⊢
            have hE9 : ∀ p, p < xct st → vad14 p = vad p := fun p h => (hv15 p (Nat.lt_of_lt_of_le h hN)).trans (hE p h)
            have hE := hE9
            have hN : xct st ≤ xct o7.2.2.2.2 := Nat.le_trans hN hn16
            rw [hr9]
            refine W.eq (g2 := F0 m 148 ls [xv vad14 o7.2.2.2.1]) (by first | rfl | (skip; rfl)) ?_
            obtain rfl := Option.some.inj hf
            exact absurd (show (0 : Nat) = 1 from hkd) (by decide)
          rw [if_neg hk9] at hf
          by_cases hk17 : o7.1 = 1
          · rw [if_pos hk17] at hf
            obtain ⟨hm18, hf⟩ := xmoE hf
            have hFc := xm_free hD hS hA
            refine xx_thr (vx_runV (C := "ValueBenchModel") (As := [.long (-y3)]) (rest := []) ⟨hx, hb, hml, hown, htx⟩ (gM_number_1 l hl9 D cT aK aV H.size n aM adL rd gdL vadL ws9 (-y3) o7 hq8 hk17) ⟨callB_of 1 htx (xw_goodC kw_6_88) rfl rfl rfl (htx _ kw_1_5) (htx _ kw_6_85) ⟨by decide, by decide, by decide +kernel⟩ ⟨Nat.le_of_ble_eq_true rfl, Nat.le_of_ble_eq_true rfl⟩, (htx _ kw_6_87), (htx _ kp_M_number)⟩ ⟨xPre_blind, va_recv hK hP (ci := 5) rfl (q0 := 0) rfl, (fun U hU hW => ⟨rfl, xPre_of hZ hS hFc hP hD hK U hU hW⟩)⟩ rfl rfl hl.1 rfl (xm_room (Nat.le_of_ble_eq_true rfl)) dM_jsonNumber_145 ⟨hm18.1, hm18.2⟩) hS hFc (fun q _ h => hFc q h) (fun E ce q9 u9 t H1 locs ht hvm hr9 hB hz1 hk1 hS hce hcv hcl => ?_)
            obtain ⟨rfl, hP1, hK1, hD1⟩ := hB
            rw [ht] at hP1
            obtain ⟨ad20, gd21, vad22⟩ := u9
            obtain ⟨hv23, hn24⟩ := hr9
            have hP : va_P D xcl (xMw cT aM ad20 rd gd21 vad22 o7.2.2.2.2 []) H1 := hP1
            have hD : va_D A (xMw cT aM ad20 rd gd21 vad22 o7.2.2.2.2 []) := hD1.weaken (fun k q _ h => hFc q.1 h)
            generalize H1 = H at hP hS hce ⊢
            have hE9 : ∀ p, p < xct st → vad22 p = vad p := fun p h => (hv23 p (Nat.lt_of_lt_of_le h hN)).trans (hE p h)
            have hE := hE9
            have hN : xct st ≤ xct o7.2.2.2.2 := Nat.le_trans hN hn24
            obtain rfl := Option.some.inj hf
            exact vx_out (E := "java/lang/ArithmeticException") (fun x h => (hne x h).elim) hlocks hce hcv hcl (fun t ht ha => ⟨(ad20, gd21, vad22), ⟨hE, hN⟩, ⟨rfl, by rw [ht]; exact hP, va_K.moved ha hK, hD⟩, hS.F ht⟩) hS.2.2 (Nat.le_refl _) (Nat.le_refl _)
          rw [if_neg hk17] at hf
          exact nomatch hf
      · rw [if_neg hc] at hf
        refine lv_aload_n hx hb dM_jsonNumber_129 rfl (lv_at hl 3 rfl) ?_
        refine lv_iload_n hx hb dM_jsonNumber_130 rfl (lv_at hl 2 rfl) ?_
        obtain ⟨o7, hq8, hf⟩ := xbind hf
        by_cases hk9 : o7.1 = 1
        · rw [if_pos hk9] at hf
          obtain ⟨hm10, hf⟩ := xmoE hf
          obtain rfl := Option.some.inj hf
          exact absurd (show (2 : Nat) = 1 from hkd) (by decide)
        rw [if_neg hk9] at hf
        exact nomatch hf
    · rw [if_neg hc] at hf
      refine lv_ldc2 hx hb hown (htx _ kw_6_78) dM_jsonNumber_86 ?_
      refine lv_lload_n hx hb dM_jsonNumber_89 rfl (lv_at hl 0 rfl) ?_
      refine lv_lmul hx hb dM_jsonNumber_90 ?_
      refine lv_aload_n hx hb dM_jsonNumber_91 rfl (lv_at hl 3 rfl) ?_
      obtain ⟨o7, hq8, hf⟩ := xbind hf
      have hFc := xm_free hD hS hA
      refine va_calli (va_runV (C := "ValueBenchModel") (As := []) (rest := [.long ((10 : Int64) * y3)]) ⟨hx, hb, hml, hown, htx⟩ (gM_peek l hl9 D cT aK aV H.size n aM adL rd gdL vadL ws9 o7 hq8) ⟨callB_of 0 htx (xw_goodC kw_5_233) rfl rfl rfl (htx _ kw_1_5) (htx _ kw_5_230) ⟨by decide, by decide, by decide +kernel⟩ ⟨Nat.le_of_ble_eq_true rfl, Nat.le_of_ble_eq_true rfl⟩, (htx _ kw_5_232), (htx _ kp_M_peek)⟩ ⟨xPre_blind, va_recv hK hP (ci := 5) rfl (q0 := 0) rfl, (fun U hU hW => ⟨rfl, xPre_of hZ hS hFc hP hD hK U hU hW⟩)⟩ rfl rfl hl.1 rfl (xm_room (Nat.le_of_ble_eq_true rfl)) dM_jsonNumber_92 ⟨hm0.1, hm0.2⟩) hS (fun q _ h => hFc q h) hFc (fun r9 u9 t H1 locs ht hvm hr9 hB hz1 hk1 hS => ?_)
      obtain ⟨hP1, hK1, hD1⟩ := hB
      rw [ht] at hP1
      have hP : va_P D xcl (xMw cT aM adL rd gdL vadL ws9 []) H1 := hP1
      have hD : va_D A (xMw cT aM adL rd gdL vadL ws9 []) := hD1.weaken (fun k q _ h => hFc q.1 h)
      generalize H1 = H at hP hS ⊢
      rw [hr9]
      refine W.eq (g2 := F0 m 95 ls [.int o7, .long ((10 : Int64) * y3)]) (by first | rfl | (skip; rfl)) ?_
      refine lv_i2l hx hb dM_jsonNumber_95 rfl ?_
      refine lv_ladd hx hb dM_jsonNumber_96 ?_
      refine lv_ldc2 hx hb hown (htx _ kw_6_79) dM_jsonNumber_97 ?_
      refine lv_lsub hx hb dM_jsonNumber_100 ?_
      refine lv_ldc2 hx hb hown (htx _ kw_6_80) dM_jsonNumber_101 ?_
      refine va_mmin_long hx hb (hml.trans hl.1.symm) hown (htx _ kw_6_81) (htx _ kw_6_82) (htx _ kw_1_15) (htx _ kw_6_83) (Nat.le_of_ble_eq_true rfl) (Nat.le_of_ble_eq_true rfl) (hm0.1) (hm0.2) dM_jsonNumber_104 ?_
      refine W.eq (g2 := F0 m 107 ls [.long (if (100000000000000000 : Int64) < ((((10 : Int64) * y3) + o7.toInt64) - (48 : Int64)) then (100000000000000000 : Int64) else ((((10 : Int64) * y3) + o7.toInt64) - (48 : Int64)))]) rfl ?_
      refine lv_lstore_n (lv' := [(3, .long (if (100000000000000000 : Int64) < ((((10 : Int64) * y3) + o7.toInt64) - (48 : Int64)) then (100000000000000000 : Int64) else ((((10 : Int64) * y3) + o7.toInt64) - (48 : Int64)))), (2, .int y2), (1, .int y1), (0, .ref aM)]) hx hb dM_jsonNumber_107 rfl hl (by decide) rfl (fun ls hl => ?_)
      refine lv_aload_n hx hb dM_jsonNumber_108 rfl (lv_at hl 3 rfl) ?_
      refine lv_dup hx hb dM_jsonNumber_109 rfl ?_
      refine xm_get (v := .int (xsi ws9 16)) hx hb htx hown hK hP 16 (by decide) rfl (htx _ kw_5_103) rfl dM_jsonNumber_110 ?_
      refine lv_iconst (v := 1) hx hb dM_jsonNumber_113 (by decide) ?_
      refine lv_iadd hx hb dM_jsonNumber_114 ?_
      refine xm_put (v := .int ((xsi ws9 16) + (1 : Int32))) (W' := (xMw cT aM adL rd gdL vadL (xsI ws9 16 ((xsi ws9 16) + (1 : Int32))) [])) (ty := .int) hx hb htx hown hK hP hD hS 16 (by decide) rfl (htx _ kw_5_103) rfl rfl (by decide +kernel) rfl rfl dM_jsonNumber_115 (fun H locs hP hD hS => ?_)
      refine lv_goto (tgt := 76) hx hb dM_jsonNumber_118 (by decide) ?_
      exact ih (1, (if (100000000000000000 : Int64) < ((((10 : Int64) * y3) + o7.toInt64) - (48 : Int64)) then (100000000000000000 : Int64) else ((((10 : Int64) * y3) + o7.toInt64) - (48 : Int64))), y2, y1, (xsI ws9 16 ((xsi ws9 16) + (1 : Int32))), wc, wn) _ _ ls (⟨adL, gdL, vadL, rfl, hf, hP, hD, hS, lv_sub hl [0, 1, 2, 3] rfl, hE, hN⟩)
  refine lv_aload_n hx hb dM_jsonNumber_0 rfl (lv_at hl 0 rfl) ?_
  refine xm_get (v := .int (xsi st 16)) hx hb htx hown hK hP 16 (by decide) rfl (htx _ kw_5_103) rfl dM_jsonNumber_1 ?_
  refine lv_istore_n (lv' := [(1, .int (xsi st 16)), (0, .ref aM)]) hx hb dM_jsonNumber_4 rfl hl (by decide) rfl (fun ls hl => ?_)
  refine lv_aload_n hx hb dM_jsonNumber_5 rfl (lv_at hl 1 rfl) ?_
  obtain ⟨o1, hq2, hf⟩ := xbind hf
  have hFc := xm_free hD hS hA
  refine va_calli (va_runV (C := "ValueBenchModel") (As := []) (rest := []) ⟨hx, hb, hml, hown, htx⟩ (gM_peek l hl9 D cT aK aV s.heap.size n aM ad rd gd vad st o1 hq2) ⟨callB_of 0 htx (xw_goodC kw_5_233) rfl rfl rfl (htx _ kw_1_5) (htx _ kw_5_230) ⟨by decide, by decide, by decide +kernel⟩ ⟨Nat.le_of_ble_eq_true rfl, Nat.le_of_ble_eq_true rfl⟩, (htx _ kw_5_232), (htx _ kp_M_peek)⟩ ⟨xPre_blind, va_recv hK hP (ci := 5) rfl (q0 := 0) rfl, (fun U hU hW => ⟨rfl, xPre_of hZ hS hFc hP hD hK U hU hW⟩)⟩ rfl rfl hl.1 rfl (xm_room (Nat.le_of_ble_eq_true rfl)) dM_jsonNumber_6 ⟨Nat.zero_le _, Nat.zero_le _⟩) hS (fun q _ h => hFc q h) hFc (fun r3 u9 t H1 locs ht hvm hr9 hB hz1 hk1 hS => ?_)
  obtain ⟨hP1, hK1, hD1⟩ := hB
  rw [ht] at hP1
  have hP : va_P D xcl (xMw cT aM ad rd gd vad st []) H1 := hP1
  have hD : va_D A (xMw cT aM ad rd gd vad st []) := hD1.weaken (fun k q _ h => hFc q.1 h)
  generalize H1 = H at hP hS ⊢
  rw [hr9]
  refine W.eq (g2 := F0 m 9 ls [.int o1]) (by first | rfl | (skip; rfl)) ?_
  refine lv_bipush (v := 45) hx hb dM_jsonNumber_9 (by decide) ?_
  refine lv_icmp_ne (tgt := 18) hx hb dM_jsonNumber_11 (by decide) (fun hc => ?_) (fun hc => ?_)
  · rw [if_neg hc] at hf
    refine lv_iconst (v := 0) hx hb dM_jsonNumber_18 (by decide) ?_
    refine lv_istore_n (lv' := [(2, .int 0), (1, .int (xsi st 16)), (0, .ref aM)]) hx hb dM_jsonNumber_19 rfl hl (by decide) rfl (fun ls hl => ?_)
    refine lv_iload_n hx hb dM_jsonNumber_20 rfl (lv_at hl 0 rfl) ?_
    refine lv_if_eq (tgt := 34) hx hb dM_jsonNumber_21 (by decide) (fun _ => ?_) (fun h => ((by revert h; decide : False)).elim)
    refine lv_aload_n hx hb dM_jsonNumber_34 rfl (lv_at hl 2 rfl) ?_
    obtain ⟨o4, hq5, hf⟩ := xbind hf
    have hFc := xm_free hD hS hA
    refine va_calli (va_runV (C := "ValueBenchModel") (As := []) (rest := []) ⟨hx, hb, hml, hown, htx⟩ (gM_peek l hl9 D cT aK aV H.size n aM ad rd gd vad st o4 hq5) ⟨callB_of 0 htx (xw_goodC kw_5_233) rfl rfl rfl (htx _ kw_1_5) (htx _ kw_5_230) ⟨by decide, by decide, by decide +kernel⟩ ⟨Nat.le_of_ble_eq_true rfl, Nat.le_of_ble_eq_true rfl⟩, (htx _ kw_5_232), (htx _ kp_M_peek)⟩ ⟨xPre_blind, va_recv hK hP (ci := 5) rfl (q0 := 0) rfl, (fun U hU hW => ⟨rfl, xPre_of hZ hS hFc hP hD hK U hU hW⟩)⟩ rfl rfl hl.1 rfl (xm_room (Nat.le_of_ble_eq_true rfl)) dM_jsonNumber_35 ⟨Nat.zero_le _, Nat.zero_le _⟩) hS (fun q _ h => hFc q h) hFc (fun r6 u9 t H1 locs ht hvm hr9 hB hz1 hk1 hS => ?_)
    obtain ⟨hP1, hK1, hD1⟩ := hB
    rw [ht] at hP1
    have hP : va_P D xcl (xMw cT aM ad rd gd vad st []) H1 := hP1
    have hD : va_D A (xMw cT aM ad rd gd vad st []) := hD1.weaken (fun k q _ h => hFc q.1 h)
    generalize H1 = H at hP hS ⊢
    rw [hr9]
    refine W.eq (g2 := F0 m 38 ls [.int o4]) (by first | rfl | (skip; rfl)) ?_
    obtain ⟨o7, hq8, hf⟩ := xbind hf
    refine va_calli (va_runS (As := [.int o4]) (rest := []) ⟨hx, hb, hml, hown, htx⟩ (gM_digit l hl9 D cT aK aV H.size n o4 o7 hq8) ⟨callB_of 1 htx (xw_goodC kw_6_73) rfl rfl rfl (htx _ kw_1_5) (htx _ kw_6_71) ⟨by decide, by decide, by decide +kernel⟩ ⟨Nat.le_of_ble_eq_true rfl, Nat.le_of_ble_eq_true rfl⟩, htx _ kw_6_72⟩ ⟨xPre_blind, (fun U hU hW => ⟨rfl, xPre_of hZ hS (xm_free0 hS hA) xm_Pnil xm_Dnil hK U hU hW⟩)⟩ rfl rfl hl.1 rfl (lv_room (Nat.le_of_ble_eq_true rfl)) dM_jsonNumber_38 ⟨(Nat.zero_le _), (Nat.zero_le _)⟩) hS (fun q _ h => xm_free0 hS hA q h) (xm_free0 hS hA) (fun r9 u9 t H1 locs ht hvm hr9 hB hz1 hk1 hS => ?_)
    replace hP := xm_keep hP hk1
    generalize H1 = H at hP hS ⊢
    rw [hr9]
    refine W.eq (g2 := F0 m 41 ls [.int o7]) (by first | rfl | rw [xv1 (Nat.succ_ne_zero _)]) ?_
    refine lv_if_ne (tgt := 52) hx hb dM_jsonNumber_41 (by decide) (fun hc => ?_) (fun hc => ?_)
    · rw [if_neg hc] at hf
      refine lv_lconst (v := 0) hx hb dM_jsonNumber_52 (by decide) ?_
      refine lv_lstore_n (lv' := [(3, .long 0), (2, .int 0), (1, .int (xsi st 16)), (0, .ref aM)]) hx hb dM_jsonNumber_53 rfl hl (by decide) rfl (fun ls hl => ?_)
      refine lv_aload_n hx hb dM_jsonNumber_54 rfl (lv_at hl 3 rfl) ?_
      obtain ⟨o10, hq11, hf⟩ := xbind hf
      have hFc := xm_free hD hS hA
      refine va_calli (va_runV (C := "ValueBenchModel") (As := []) (rest := []) ⟨hx, hb, hml, hown, htx⟩ (gM_peek l hl9 D cT aK aV H.size n aM ad rd gd vad st o10 hq11) ⟨callB_of 0 htx (xw_goodC kw_5_233) rfl rfl rfl (htx _ kw_1_5) (htx _ kw_5_230) ⟨by decide, by decide, by decide +kernel⟩ ⟨Nat.le_of_ble_eq_true rfl, Nat.le_of_ble_eq_true rfl⟩, (htx _ kw_5_232), (htx _ kp_M_peek)⟩ ⟨xPre_blind, va_recv hK hP (ci := 5) rfl (q0 := 0) rfl, (fun U hU hW => ⟨rfl, xPre_of hZ hS hFc hP hD hK U hU hW⟩)⟩ rfl rfl hl.1 rfl (xm_room (Nat.le_of_ble_eq_true rfl)) dM_jsonNumber_55 ⟨Nat.zero_le _, Nat.zero_le _⟩) hS (fun q _ h => hFc q h) hFc (fun r12 u9 t H1 locs ht hvm hr9 hB hz1 hk1 hS => ?_)
      obtain ⟨hP1, hK1, hD1⟩ := hB
      rw [ht] at hP1
      have hP : va_P D xcl (xMw cT aM ad rd gd vad st []) H1 := hP1
      have hD : va_D A (xMw cT aM ad rd gd vad st []) := hD1.weaken (fun k q _ h => hFc q.1 h)
      generalize H1 = H at hP hS ⊢
      rw [hr9]
      refine W.eq (g2 := F0 m 58 ls [.int o10]) (by first | rfl | (skip; rfl)) ?_
      refine lv_bipush (v := 48) hx hb dM_jsonNumber_58 (by decide) ?_
      refine lv_icmp_ne (tgt := 76) hx hb dM_jsonNumber_60 (by decide) (fun hc => ?_) (fun hc => ?_)
      · rw [if_neg hc] at hf
        exact key n (1, (0 : Int64), (0 : Int32), (xsi st 16), st, 0, 0) _ _ ls (⟨ad, gd, vad, rfl, hf, hP, hD, hS, lv_sub hl [0, 1, 2, 3] rfl, hE, hN⟩)
      · rw [if_pos hc] at hf
        refine lv_aload_n hx hb dM_jsonNumber_63 rfl (lv_at hl 3 rfl) ?_
        refine lv_dup hx hb dM_jsonNumber_64 rfl ?_
        refine xm_get (v := .int (xsi st 16)) hx hb htx hown hK hP 16 (by decide) rfl (htx _ kw_5_103) rfl dM_jsonNumber_65 ?_
        refine lv_iconst (v := 1) hx hb dM_jsonNumber_68 (by decide) ?_
        refine lv_iadd hx hb dM_jsonNumber_69 ?_
        refine xm_put (v := .int ((xsi st 16) + (1 : Int32))) (W' := (xMw cT aM ad rd gd vad (xsI st 16 ((xsi st 16) + (1 : Int32))) [])) (ty := .int) hx hb htx hown hK hP hD hS 16 (by decide) rfl (htx _ kw_5_103) rfl rfl (by decide +kernel) rfl rfl dM_jsonNumber_70 (fun H locs hP hD hS => ?_)
        refine lv_goto (tgt := 121) hx hb dM_jsonNumber_73 (by decide) ?_
        refine lv_lload_n hx hb dM_jsonNumber_121 rfl (lv_at hl 0 rfl) ?_
        refine lv_ldc2 hx hb hown (htx _ kw_6_84) dM_jsonNumber_122 ?_
        refine W.lcmp hx hb dM_jsonNumber_125 ?_
        refine lv_if_le (tgt := 134) hx hb dM_jsonNumber_126 (by decide) (fun hc => ?_) (fun hc => ?_)
        · rw [if_pos hc] at hf
          refine lv_aload_n hx hb dM_jsonNumber_134 rfl (lv_at hl 3 rfl) ?_
          refine lv_iload_n hx hb dM_jsonNumber_135 rfl (lv_at hl 1 rfl) ?_
          refine lv_if_eq (tgt := 144) hx hb dM_jsonNumber_136 (by decide) (fun _ => ?_) (fun h => ((by revert h; decide : False)).elim)
          refine lv_lload_n hx hb dM_jsonNumber_144 rfl (lv_at hl 0 rfl) ?_
          obtain ⟨o13, hq14, hf⟩ := xbind hf
          by_cases hk15 : o13.1 = 0
          · rw [if_pos hk15] at hf
            obtain ⟨hm16, hf⟩ := xmoE hf
            have hFc := xm_free hD hS hA
            refine va_callq (va_runV (C := "ValueBenchModel") (As := [.long 0]) (rest := []) ⟨hx, hb, hml, hown, htx⟩ (gM_number l hl9 D cT aK aV H.size n aM ad rd gd vad (xsI st 16 ((xsi st 16) + (1 : Int32))) (0 : Int64) o13 hq14 hk15) ⟨callB_of 1 htx (xw_goodC kw_6_88) rfl rfl rfl (htx _ kw_1_5) (htx _ kw_6_85) ⟨by decide, by decide, by decide +kernel⟩ ⟨Nat.le_of_ble_eq_true rfl, Nat.le_of_ble_eq_true rfl⟩, (htx _ kw_6_87), (htx _ kp_M_number)⟩ ⟨xPre_blind, va_recv hK hP (ci := 5) rfl (q0 := 0) rfl, (fun U hU hW => ⟨rfl, xPre_of hZ hS hFc hP hD hK U hU hW⟩)⟩ rfl rfl hl.1 rfl (xm_room (Nat.le_of_ble_eq_true rfl)) dM_jsonNumber_145 ⟨hm16.1, hm16.2⟩) hS (fun q _ h => hFc q h) hFc (fun r17 u9 t H1 locs ht hvm hr9 hB hz1 hk1 hS => ?_)
            obtain ⟨hP1, hK1, hD1⟩ := hB
            rw [ht] at hP1
            obtain ⟨ad18, gd19, vad20⟩ := u9
            obtain ⟨hr9, hv21, hn22⟩ := hr9
            have hP : va_P D xcl (xMw cT aM ad18 rd gd19 vad20 o13.2.2.2.2 []) H1 := hP1
            have hD : va_D A (xMw cT aM ad18 rd gd19 vad20 o13.2.2.2.2 []) := hD1.weaken (fun k q _ h => hFc q.1 h)
            generalize H1 = H at hP hS ⊢
            have hE9 : ∀ p, p < xct st → vad20 p = vad p := fun p h => (hv21 p (Nat.lt_of_lt_of_le h hN)).trans (hE p h)
            have hE := hE9
            have hN : xct st ≤ xct o13.2.2.2.2 := Nat.le_trans hN hn22
            rw [hr9]
            refine W.eq (g2 := F0 m 148 ls [xv vad20 o13.2.2.2.1]) (by first | rfl | (skip; rfl)) ?_
            obtain rfl := Option.some.inj hf
            exact absurd (show (0 : Nat) = 1 from hkd) (by decide)
          rw [if_neg hk15] at hf
          by_cases hk23 : o13.1 = 1
          · rw [if_pos hk23] at hf
            obtain ⟨hm24, hf⟩ := xmoE hf
            have hFc := xm_free hD hS hA
            refine xx_thr (vx_runV (C := "ValueBenchModel") (As := [.long 0]) (rest := []) ⟨hx, hb, hml, hown, htx⟩ (gM_number_1 l hl9 D cT aK aV H.size n aM ad rd gd vad (xsI st 16 ((xsi st 16) + (1 : Int32))) (0 : Int64) o13 hq14 hk23) ⟨callB_of 1 htx (xw_goodC kw_6_88) rfl rfl rfl (htx _ kw_1_5) (htx _ kw_6_85) ⟨by decide, by decide, by decide +kernel⟩ ⟨Nat.le_of_ble_eq_true rfl, Nat.le_of_ble_eq_true rfl⟩, (htx _ kw_6_87), (htx _ kp_M_number)⟩ ⟨xPre_blind, va_recv hK hP (ci := 5) rfl (q0 := 0) rfl, (fun U hU hW => ⟨rfl, xPre_of hZ hS hFc hP hD hK U hU hW⟩)⟩ rfl rfl hl.1 rfl (xm_room (Nat.le_of_ble_eq_true rfl)) dM_jsonNumber_145 ⟨hm24.1, hm24.2⟩) hS hFc (fun q _ h => hFc q h) (fun E ce q9 u9 t H1 locs ht hvm hr9 hB hz1 hk1 hS hce hcv hcl => ?_)
            obtain ⟨rfl, hP1, hK1, hD1⟩ := hB
            rw [ht] at hP1
            obtain ⟨ad26, gd27, vad28⟩ := u9
            obtain ⟨hv29, hn30⟩ := hr9
            have hP : va_P D xcl (xMw cT aM ad26 rd gd27 vad28 o13.2.2.2.2 []) H1 := hP1
            have hD : va_D A (xMw cT aM ad26 rd gd27 vad28 o13.2.2.2.2 []) := hD1.weaken (fun k q _ h => hFc q.1 h)
            generalize H1 = H at hP hS hce ⊢
            have hE9 : ∀ p, p < xct st → vad28 p = vad p := fun p h => (hv29 p (Nat.lt_of_lt_of_le h hN)).trans (hE p h)
            have hE := hE9
            have hN : xct st ≤ xct o13.2.2.2.2 := Nat.le_trans hN hn30
            obtain rfl := Option.some.inj hf
            exact vx_out (E := "java/lang/ArithmeticException") (fun x h => (hne x h).elim) hlocks hce hcv hcl (fun t ht ha => ⟨(ad26, gd27, vad28), ⟨hE, hN⟩, ⟨rfl, by rw [ht]; exact hP, va_K.moved ha hK, hD⟩, hS.F ht⟩) hS.2.2 (Nat.le_refl _) (Nat.le_refl _)
          rw [if_neg hk23] at hf
          exact nomatch hf
        · rw [if_neg hc] at hf
          refine lv_aload_n hx hb dM_jsonNumber_129 rfl (lv_at hl 3 rfl) ?_
          refine lv_iload_n hx hb dM_jsonNumber_130 rfl (lv_at hl 2 rfl) ?_
          obtain ⟨o13, hq14, hf⟩ := xbind hf
          by_cases hk15 : o13.1 = 1
          · rw [if_pos hk15] at hf
            obtain ⟨hm16, hf⟩ := xmoE hf
            obtain rfl := Option.some.inj hf
            exact absurd (show (2 : Nat) = 1 from hkd) (by decide)
          rw [if_neg hk15] at hf
          exact nomatch hf
    · rw [if_pos hc] at hf
      refine lv_aload_n hx hb dM_jsonNumber_44 rfl (lv_at hl 2 rfl) ?_
      refine lv_aload_n hx hb dM_jsonNumber_45 rfl (lv_at hl 2 rfl) ?_
      refine xm_get (v := .int (xsi st 16)) hx hb htx hown hK hP 16 (by decide) rfl (htx _ kw_5_103) rfl dM_jsonNumber_46 ?_
      obtain ⟨o10, hq11, hf⟩ := xbind hf
      by_cases hk12 : o10.1 = 1
      · rw [if_pos hk12] at hf
        obtain ⟨hm13, hf⟩ := xmoE hf
        obtain rfl := Option.some.inj hf
        exact absurd (show (2 : Nat) = 1 from hkd) (by decide)
      rw [if_neg hk12] at hf
      exact nomatch hf
  · rw [if_pos hc] at hf
    refine lv_iconst (v := 1) hx hb dM_jsonNumber_14 (by decide) ?_
    refine lv_goto (tgt := 19) hx hb dM_jsonNumber_15 (by decide) ?_
    refine lv_istore_n (lv' := [(2, .int 1), (1, .int (xsi st 16)), (0, .ref aM)]) hx hb dM_jsonNumber_19 rfl hl (by decide) rfl (fun ls hl => ?_)
    refine lv_iload_n hx hb dM_jsonNumber_20 rfl (lv_at hl 0 rfl) ?_
    refine lv_if_eq (tgt := 34) hx hb dM_jsonNumber_21 (by decide) (fun h => ((by revert h; decide : False)).elim) (fun _ => ?_)
    refine lv_aload_n hx hb dM_jsonNumber_24 rfl (lv_at hl 2 rfl) ?_
    refine lv_dup hx hb dM_jsonNumber_25 rfl ?_
    refine xm_get (v := .int (xsi st 16)) hx hb htx hown hK hP 16 (by decide) rfl (htx _ kw_5_103) rfl dM_jsonNumber_26 ?_
    refine lv_iconst (v := 1) hx hb dM_jsonNumber_29 (by decide) ?_
    refine lv_iadd hx hb dM_jsonNumber_30 ?_
    refine xm_put (v := .int ((xsi st 16) + (1 : Int32))) (W' := (xMw cT aM ad rd gd vad (xsI st 16 ((xsi st 16) + (1 : Int32))) [])) (ty := .int) hx hb htx hown hK hP hD hS 16 (by decide) rfl (htx _ kw_5_103) rfl rfl (by decide +kernel) rfl rfl dM_jsonNumber_31 (fun H locs hP hD hS => ?_)
    refine lv_aload_n hx hb dM_jsonNumber_34 rfl (lv_at hl 2 rfl) ?_
    obtain ⟨o4, hq5, hf⟩ := xbind hf
    have hFc := xm_free hD hS hA
    refine va_calli (va_runV (C := "ValueBenchModel") (As := []) (rest := []) ⟨hx, hb, hml, hown, htx⟩ (gM_peek l hl9 D cT aK aV H.size n aM ad rd gd vad (xsI st 16 ((xsi st 16) + (1 : Int32))) o4 hq5) ⟨callB_of 0 htx (xw_goodC kw_5_233) rfl rfl rfl (htx _ kw_1_5) (htx _ kw_5_230) ⟨by decide, by decide, by decide +kernel⟩ ⟨Nat.le_of_ble_eq_true rfl, Nat.le_of_ble_eq_true rfl⟩, (htx _ kw_5_232), (htx _ kp_M_peek)⟩ ⟨xPre_blind, va_recv hK hP (ci := 5) rfl (q0 := 0) rfl, (fun U hU hW => ⟨rfl, xPre_of hZ hS hFc hP hD hK U hU hW⟩)⟩ rfl rfl hl.1 rfl (xm_room (Nat.le_of_ble_eq_true rfl)) dM_jsonNumber_35 ⟨Nat.zero_le _, Nat.zero_le _⟩) hS (fun q _ h => hFc q h) hFc (fun r6 u9 t H1 locs ht hvm hr9 hB hz1 hk1 hS => ?_)
    obtain ⟨hP1, hK1, hD1⟩ := hB
    rw [ht] at hP1
    have hP : va_P D xcl (xMw cT aM ad rd gd vad (xsI st 16 ((xsi st 16) + (1 : Int32))) []) H1 := hP1
    have hD : va_D A (xMw cT aM ad rd gd vad (xsI st 16 ((xsi st 16) + (1 : Int32))) []) := hD1.weaken (fun k q _ h => hFc q.1 h)
    generalize H1 = H at hP hS ⊢
    rw [hr9]
    refine W.eq (g2 := F0 m 38 ls [.int o4]) (by first | rfl | (skip; rfl)) ?_
    obtain ⟨o7, hq8, hf⟩ := xbind hf
    refine va_calli (va_runS (As := [.int o4]) (rest := []) ⟨hx, hb, hml, hown, htx⟩ (gM_digit l hl9 D cT aK aV H.size n o4 o7 hq8) ⟨callB_of 1 htx (xw_goodC kw_6_73) rfl rfl rfl (htx _ kw_1_5) (htx _ kw_6_71) ⟨by decide, by decide, by decide +kernel⟩ ⟨Nat.le_of_ble_eq_true rfl, Nat.le_of_ble_eq_true rfl⟩, htx _ kw_6_72⟩ ⟨xPre_blind, (fun U hU hW => ⟨rfl, xPre_of hZ hS (xm_free0 hS hA) xm_Pnil xm_Dnil hK U hU hW⟩)⟩ rfl rfl hl.1 rfl (lv_room (Nat.le_of_ble_eq_true rfl)) dM_jsonNumber_38 ⟨(Nat.zero_le _), (Nat.zero_le _)⟩) hS (fun q _ h => xm_free0 hS hA q h) (xm_free0 hS hA) (fun r9 u9 t H1 locs ht hvm hr9 hB hz1 hk1 hS => ?_)
    replace hP := xm_keep hP hk1
    generalize H1 = H at hP hS ⊢
    rw [hr9]
    refine W.eq (g2 := F0 m 41 ls [.int o7]) (by first | rfl | rw [xv1 (Nat.succ_ne_zero _)]) ?_
    refine lv_if_ne (tgt := 52) hx hb dM_jsonNumber_41 (by decide) (fun hc => ?_) (fun hc => ?_)
    · rw [if_neg hc] at hf
      refine lv_lconst (v := 0) hx hb dM_jsonNumber_52 (by decide) ?_
      refine lv_lstore_n (lv' := [(3, .long 0), (2, .int 1), (1, .int (xsi st 16)), (0, .ref aM)]) hx hb dM_jsonNumber_53 rfl hl (by decide) rfl (fun ls hl => ?_)
      refine lv_aload_n hx hb dM_jsonNumber_54 rfl (lv_at hl 3 rfl) ?_
      obtain ⟨o10, hq11, hf⟩ := xbind hf
      have hFc := xm_free hD hS hA
      refine va_calli (va_runV (C := "ValueBenchModel") (As := []) (rest := []) ⟨hx, hb, hml, hown, htx⟩ (gM_peek l hl9 D cT aK aV H.size n aM ad rd gd vad (xsI st 16 ((xsi st 16) + (1 : Int32))) o10 hq11) ⟨callB_of 0 htx (xw_goodC kw_5_233) rfl rfl rfl (htx _ kw_1_5) (htx _ kw_5_230) ⟨by decide, by decide, by decide +kernel⟩ ⟨Nat.le_of_ble_eq_true rfl, Nat.le_of_ble_eq_true rfl⟩, (htx _ kw_5_232), (htx _ kp_M_peek)⟩ ⟨xPre_blind, va_recv hK hP (ci := 5) rfl (q0 := 0) rfl, (fun U hU hW => ⟨rfl, xPre_of hZ hS hFc hP hD hK U hU hW⟩)⟩ rfl rfl hl.1 rfl (xm_room (Nat.le_of_ble_eq_true rfl)) dM_jsonNumber_55 ⟨Nat.zero_le _, Nat.zero_le _⟩) hS (fun q _ h => hFc q h) hFc (fun r12 u9 t H1 locs ht hvm hr9 hB hz1 hk1 hS => ?_)
      obtain ⟨hP1, hK1, hD1⟩ := hB
      rw [ht] at hP1
      have hP : va_P D xcl (xMw cT aM ad rd gd vad (xsI st 16 ((xsi st 16) + (1 : Int32))) []) H1 := hP1
      have hD : va_D A (xMw cT aM ad rd gd vad (xsI st 16 ((xsi st 16) + (1 : Int32))) []) := hD1.weaken (fun k q _ h => hFc q.1 h)
      generalize H1 = H at hP hS ⊢
      rw [hr9]
      refine W.eq (g2 := F0 m 58 ls [.int o10]) (by first | rfl | (skip; rfl)) ?_
      refine lv_bipush (v := 48) hx hb dM_jsonNumber_58 (by decide) ?_
      refine lv_icmp_ne (tgt := 76) hx hb dM_jsonNumber_60 (by decide) (fun hc => ?_) (fun hc => ?_)
      · rw [if_neg hc] at hf
        exact key n (1, (0 : Int64), (1 : Int32), (xsi st 16), (xsI st 16 ((xsi st 16) + (1 : Int32))), 0, 0) _ _ ls (⟨ad, gd, vad, rfl, hf, hP, hD, hS, lv_sub hl [0, 1, 2, 3] rfl, hE, hN⟩)
      · rw [if_pos hc] at hf
        refine lv_aload_n hx hb dM_jsonNumber_63 rfl (lv_at hl 3 rfl) ?_
        refine lv_dup hx hb dM_jsonNumber_64 rfl ?_
        refine xm_get (v := .int ((xsi st 16) + (1 : Int32))) hx hb htx hown hK hP 16 (by decide) rfl (htx _ kw_5_103) rfl dM_jsonNumber_65 ?_
        refine lv_iconst (v := 1) hx hb dM_jsonNumber_68 (by decide) ?_
        refine lv_iadd hx hb dM_jsonNumber_69 ?_
        refine xm_put (v := .int (((xsi st 16) + (1 : Int32)) + (1 : Int32))) (W' := (xMw cT aM ad rd gd vad (xsI (xsI st 16 ((xsi st 16) + (1 : Int32))) 16 (((xsi st 16) + (1 : Int32)) + (1 : Int32))) [])) (ty := .int) hx hb htx hown hK hP hD hS 16 (by decide) rfl (htx _ kw_5_103) rfl rfl (by decide +kernel) rfl rfl dM_jsonNumber_70 (fun H locs hP hD hS => ?_)
        refine lv_goto (tgt := 121) hx hb dM_jsonNumber_73 (by decide) ?_
        refine lv_lload_n hx hb dM_jsonNumber_121 rfl (lv_at hl 0 rfl) ?_
        refine lv_ldc2 hx hb hown (htx _ kw_6_84) dM_jsonNumber_122 ?_
        refine W.lcmp hx hb dM_jsonNumber_125 ?_
        refine lv_if_le (tgt := 134) hx hb dM_jsonNumber_126 (by decide) (fun hc => ?_) (fun hc => ?_)
        · rw [if_pos hc] at hf
          refine lv_aload_n hx hb dM_jsonNumber_134 rfl (lv_at hl 3 rfl) ?_
          refine lv_iload_n hx hb dM_jsonNumber_135 rfl (lv_at hl 1 rfl) ?_
          refine lv_if_eq (tgt := 144) hx hb dM_jsonNumber_136 (by decide) (fun h => ((by revert h; decide : False)).elim) (fun _ => ?_)
          refine lv_lload_n hx hb dM_jsonNumber_139 rfl (lv_at hl 0 rfl) ?_
          refine lv_lneg hx hb dM_jsonNumber_140 ?_
          refine W.eq (g2 := F0 m 141 ls [.long 0, .ref aM]) rfl ?_
          refine lv_goto (tgt := 145) hx hb dM_jsonNumber_141 (by decide) ?_
          obtain ⟨o13, hq14, hf⟩ := xbind hf
          by_cases hk15 : o13.1 = 0
          · rw [if_pos hk15] at hf
            obtain ⟨hm16, hf⟩ := xmoE hf
            have hFc := xm_free hD hS hA
            refine va_callq (va_runV (C := "ValueBenchModel") (As := [.long 0]) (rest := []) ⟨hx, hb, hml, hown, htx⟩ (gM_number l hl9 D cT aK aV H.size n aM ad rd gd vad (xsI (xsI st 16 ((xsi st 16) + (1 : Int32))) 16 (((xsi st 16) + (1 : Int32)) + (1 : Int32))) (0 : Int64) o13 hq14 hk15) ⟨callB_of 1 htx (xw_goodC kw_6_88) rfl rfl rfl (htx _ kw_1_5) (htx _ kw_6_85) ⟨by decide, by decide, by decide +kernel⟩ ⟨Nat.le_of_ble_eq_true rfl, Nat.le_of_ble_eq_true rfl⟩, (htx _ kw_6_87), (htx _ kp_M_number)⟩ ⟨xPre_blind, va_recv hK hP (ci := 5) rfl (q0 := 0) rfl, (fun U hU hW => ⟨rfl, xPre_of hZ hS hFc hP hD hK U hU hW⟩)⟩ rfl rfl hl.1 rfl (xm_room (Nat.le_of_ble_eq_true rfl)) dM_jsonNumber_145 ⟨hm16.1, hm16.2⟩) hS (fun q _ h => hFc q h) hFc (fun r17 u9 t H1 locs ht hvm hr9 hB hz1 hk1 hS => ?_)
            obtain ⟨hP1, hK1, hD1⟩ := hB
            rw [ht] at hP1
            obtain ⟨ad18, gd19, vad20⟩ := u9
            obtain ⟨hr9, hv21, hn22⟩ := hr9
            have hP : va_P D xcl (xMw cT aM ad18 rd gd19 vad20 o13.2.2.2.2 []) H1 := hP1
            have hD : va_D A (xMw cT aM ad18 rd gd19 vad20 o13.2.2.2.2 []) := hD1.weaken (fun k q _ h => hFc q.1 h)
            generalize H1 = H at hP hS ⊢
            have hE9 : ∀ p, p < xct st → vad20 p = vad p := fun p h => (hv21 p (Nat.lt_of_lt_of_le h hN)).trans (hE p h)
            have hE := hE9
            have hN : xct st ≤ xct o13.2.2.2.2 := Nat.le_trans hN hn22
            rw [hr9]
            refine W.eq (g2 := F0 m 148 ls [xv vad20 o13.2.2.2.1]) (by first | rfl | (skip; rfl)) ?_
            obtain rfl := Option.some.inj hf
            exact absurd (show (0 : Nat) = 1 from hkd) (by decide)
          rw [if_neg hk15] at hf
          by_cases hk23 : o13.1 = 1
          · rw [if_pos hk23] at hf
            obtain ⟨hm24, hf⟩ := xmoE hf
            have hFc := xm_free hD hS hA
            refine xx_thr (vx_runV (C := "ValueBenchModel") (As := [.long 0]) (rest := []) ⟨hx, hb, hml, hown, htx⟩ (gM_number_1 l hl9 D cT aK aV H.size n aM ad rd gd vad (xsI (xsI st 16 ((xsi st 16) + (1 : Int32))) 16 (((xsi st 16) + (1 : Int32)) + (1 : Int32))) (0 : Int64) o13 hq14 hk23) ⟨callB_of 1 htx (xw_goodC kw_6_88) rfl rfl rfl (htx _ kw_1_5) (htx _ kw_6_85) ⟨by decide, by decide, by decide +kernel⟩ ⟨Nat.le_of_ble_eq_true rfl, Nat.le_of_ble_eq_true rfl⟩, (htx _ kw_6_87), (htx _ kp_M_number)⟩ ⟨xPre_blind, va_recv hK hP (ci := 5) rfl (q0 := 0) rfl, (fun U hU hW => ⟨rfl, xPre_of hZ hS hFc hP hD hK U hU hW⟩)⟩ rfl rfl hl.1 rfl (xm_room (Nat.le_of_ble_eq_true rfl)) dM_jsonNumber_145 ⟨hm24.1, hm24.2⟩) hS hFc (fun q _ h => hFc q h) (fun E ce q9 u9 t H1 locs ht hvm hr9 hB hz1 hk1 hS hce hcv hcl => ?_)
            obtain ⟨rfl, hP1, hK1, hD1⟩ := hB
            rw [ht] at hP1
            obtain ⟨ad26, gd27, vad28⟩ := u9
            obtain ⟨hv29, hn30⟩ := hr9
            have hP : va_P D xcl (xMw cT aM ad26 rd gd27 vad28 o13.2.2.2.2 []) H1 := hP1
            have hD : va_D A (xMw cT aM ad26 rd gd27 vad28 o13.2.2.2.2 []) := hD1.weaken (fun k q _ h => hFc q.1 h)
            generalize H1 = H at hP hS hce ⊢
            have hE9 : ∀ p, p < xct st → vad28 p = vad p := fun p h => (hv29 p (Nat.lt_of_lt_of_le h hN)).trans (hE p h)
            have hE := hE9
            have hN : xct st ≤ xct o13.2.2.2.2 := Nat.le_trans hN hn30
            obtain rfl := Option.some.inj hf
            exact vx_out (E := "java/lang/ArithmeticException") (fun x h => (hne x h).elim) hlocks hce hcv hcl (fun t ht ha => ⟨(ad26, gd27, vad28), ⟨hE, hN⟩, ⟨rfl, by rw [ht]; exact hP, va_K.moved ha hK, hD⟩, hS.F ht⟩) hS.2.2 (Nat.le_refl _) (Nat.le_refl _)
          rw [if_neg hk23] at hf
          exact nomatch hf
        · rw [if_neg hc] at hf
          refine lv_aload_n hx hb dM_jsonNumber_129 rfl (lv_at hl 3 rfl) ?_
          refine lv_iload_n hx hb dM_jsonNumber_130 rfl (lv_at hl 2 rfl) ?_
          obtain ⟨o13, hq14, hf⟩ := xbind hf
          by_cases hk15 : o13.1 = 1
          · rw [if_pos hk15] at hf
            obtain ⟨hm16, hf⟩ := xmoE hf
            obtain rfl := Option.some.inj hf
            exact absurd (show (2 : Nat) = 1 from hkd) (by decide)
          rw [if_neg hk15] at hf
          exact nomatch hf
    · rw [if_pos hc] at hf
      refine lv_aload_n hx hb dM_jsonNumber_44 rfl (lv_at hl 2 rfl) ?_
      refine lv_aload_n hx hb dM_jsonNumber_45 rfl (lv_at hl 2 rfl) ?_
      refine xm_get (v := .int ((xsi st 16) + (1 : Int32))) hx hb htx hown hK hP 16 (by decide) rfl (htx _ kw_5_103) rfl dM_jsonNumber_46 ?_
      obtain ⟨o10, hq11, hf⟩ := xbind hf
      by_cases hk12 : o10.1 = 1
      · rw [if_pos hk12] at hf
        obtain ⟨hm13, hf⟩ := xmoE hf
        obtain rfl := Option.some.inj hf
        exact absurd (show (2 : Nat) = 1 from hkd) (by decide)
      rw [if_neg hk12] at hf
      exact nomatch hf
set_option maxHeartbeats 400000000 in
set_option maxRecDepth 100000 in
theorem gM_jsonNumber_2 (l : Launch) (hl9 : l.stackTraces = false) (D : va_G) (cT : Nat → ClassId) (aK aV : Nat → Nat) (sz n : Nat) (aM : Nat) (ad rd gd vad : Nat → Nat) (st : xS) (out : Nat × Nat × Nat × Nat × xS) (hf : fM_jsonNumber n st = some out) (hkd : out.1 = 2) : xMetY l yM_jsonNumber wyM_jsonNumber 8 out.2.1 out.2.2.1 144 D cT aK aV sz [.ref aM] (xMw cT aM ad rd gd vad st []) "java/lang/UnsupportedOperationException" (fun u => xE vad st out.2.2.2.2 u) (fun A u t => xB D xcl cT A (xMw cT aM u.1 rd u.2.1 u.2.2 out.2.2.2.2 []) t) := by
  refine vx_ofW (cc := prog_13_method_35_code) (maxL := 5) (ret := (some (.object "ValueBenchModel$V"))) (by decide) rfl ?_
  intro p e s m args below meth c s₁ B hml hne hv
  obtain ⟨rfl, hsz, hZ, hP, hK, hD0⟩ := hv
  have hx := B.exec
  have hb := B.bytes
  have hr := B.returns
  have hts := atoms_spec (ws := wyM_jsonNumber) B.pre
  have htx := fun w h => hts w (List.mem_cons_of_mem _ h)
  have hown : s.vm.findClass "ValueBenchModel" = some m.cls := findClass_of_methodNamed B.named
  have hlocks := B.notSynchronized
  subst hsz
  have hD := hD0.self (sz := s.heap.size)
  generalize hAe : va_A (xMw cT aM ad rd gd vad st []) s.heap.size = A at hD hZ ⊢
  have hA : ∀ q : Nat, s.heap.size ≤ q → A q := fun q h => by rw [← hAe]; exact Or.inr h
  have hS : va_S A s.heap s.heap [] := va_S.rf
  have hl := lv_entry ([.ref aM]) (n := 5) (by simp [lg_sl, xvcat, xrscat, xcI, xcL, xcR, xcN])
  rw [show lv_args 0 [.ref aM] = [(0, .ref aM)] from by simp [lv_args, xvcat, xrscat, xcI, xcL, xcR, xcN]] at hl
  rw [lg_entry_eq]
  generalize (lg_sl ([.ref aM]) ++ List.replicate (5 - (lg_sl ([.ref aM])).length) Slot.unset).toArray = ls at hl ⊢
  have hl : lv_has ls 5 [(0, .ref aM)] := hl
  have hE : ∀ p, p < xct st → vad p = vad p := fun _ _ => rfl
  have hN : xct st ≤ xct st := Nat.le_refl _
  unfold fM_jsonNumber at hf
  refine xloopM (σ := Nat × Int64 × Int32 × Int32 × xS × Nat × Nat) (fun n x H locs ls => (∃ (adL gdL vadL : Nat → Nat), x.1 = 1 ∧ fM_jsonNumber_b n x.1 x.2.1 x.2.2.1 x.2.2.2.1 x.2.2.2.2.1 x.2.2.2.2.2.1 x.2.2.2.2.2.2 = some out ∧ va_P D xcl (xMw cT aM adL rd gdL vadL x.2.2.2.2.1 []) H ∧ va_D A (xMw cT aM adL rd gdL vadL x.2.2.2.2.1 []) ∧ va_S A s.heap H locs ∧ lv_has ls 5 [(3, .long x.2.1), (2, .int x.2.2.1), (1, .int x.2.2.2.1), (0, .ref aM)] ∧ (∀ p, p < xct st → vadL p = vad p) ∧ xct st ≤ xct x.2.2.2.2.1)) (fun x => 76) (fun x => x.2.2.2.2.2.1) (fun x => x.2.2.2.2.2.2) (fun x H locs ls h => by (obtain ⟨_, _, _, h⟩ := h; exact absurd h.2.1 (by rw [fM_jsonNumber_b]; exact fun h => nomatch h))) (fun n ih x H locs ls hv => ?_) (fun key => ?_)
  · obtain ⟨lb, y3, y2, y1, ws9, wc, wn⟩ := x
    rcases hv with ⟨adL, gdL, vadL, hj, hf, hP, hD, hS, hl, hE, hN⟩
    subst hj
    have hf : fM_jsonNumber_b (n + 1) 1 y3 y2 y1 ws9 wc wn = some out := hf
    rw [fM_jsonNumber_b] at hf
    obtain ⟨hP, hD⟩ : xPD D xcl A (xMw cT aM adL rd gdL vadL ws9 []) H := ⟨hP, hD⟩
    have hl : lv_has ls 5 [(3, .long y3), (2, .int y2), (1, .int y1), (0, .ref aM)] := hl
    refine W.eq (g2 := F0 m 76 ls []) rfl ?_
    show W p l e _ s m _ below meth c H locs wc wn _ _
    obtain ⟨hm0, hf⟩ := xmoE hf
    refine lv_aload_n hx hb dM_jsonNumber_76 rfl (lv_at hl 3 rfl) ?_
    obtain ⟨o1, hq2, hf⟩ := xbind hf
    have hFc := xm_free hD hS hA
    refine va_calli (va_runV (C := "ValueBenchModel") (As := []) (rest := []) ⟨hx, hb, hml, hown, htx⟩ (gM_peek l hl9 D cT aK aV H.size n aM adL rd gdL vadL ws9 o1 hq2) ⟨callB_of 0 htx (xw_goodC kw_5_233) rfl rfl rfl (htx _ kw_1_5) (htx _ kw_5_230) ⟨by decide, by decide, by decide +kernel⟩ ⟨Nat.le_of_ble_eq_true rfl, Nat.le_of_ble_eq_true rfl⟩, (htx _ kw_5_232), (htx _ kp_M_peek)⟩ ⟨xPre_blind, va_recv hK hP (ci := 5) rfl (q0 := 0) rfl, (fun U hU hW => ⟨rfl, xPre_of hZ hS hFc hP hD hK U hU hW⟩)⟩ rfl rfl hl.1 rfl (xm_room (Nat.le_of_ble_eq_true rfl)) dM_jsonNumber_77 ⟨hm0.1, hm0.2⟩) hS (fun q _ h => hFc q h) hFc (fun r3 u9 t H1 locs ht hvm hr9 hB hz1 hk1 hS => ?_)
    obtain ⟨hP1, hK1, hD1⟩ := hB
    rw [ht] at hP1
    have hP : va_P D xcl (xMw cT aM adL rd gdL vadL ws9 []) H1 := hP1
    have hD : va_D A (xMw cT aM adL rd gdL vadL ws9 []) := hD1.weaken (fun k q _ h => hFc q.1 h)
    generalize H1 = H at hP hS ⊢
    rw [hr9]
    refine W.eq (g2 := F0 m 80 ls [.int o1]) (by first | rfl | (skip; rfl)) ?_
    obtain ⟨o4, hq5, hf⟩ := xbind hf
    refine va_calli (va_runS (As := [.int o1]) (rest := []) ⟨hx, hb, hml, hown, htx⟩ (gM_digit l hl9 D cT aK aV H.size n o1 o4 hq5) ⟨callB_of 1 htx (xw_goodC kw_6_73) rfl rfl rfl (htx _ kw_1_5) (htx _ kw_6_71) ⟨by decide, by decide, by decide +kernel⟩ ⟨Nat.le_of_ble_eq_true rfl, Nat.le_of_ble_eq_true rfl⟩, htx _ kw_6_72⟩ ⟨xPre_blind, (fun U hU hW => ⟨rfl, xPre_of hZ hS (xm_free0 hS hA) xm_Pnil xm_Dnil hK U hU hW⟩)⟩ rfl rfl hl.1 rfl (lv_room (Nat.le_of_ble_eq_true rfl)) dM_jsonNumber_80 ⟨(hm0.1), (hm0.2)⟩) hS (fun q _ h => xm_free0 hS hA q h) (xm_free0 hS hA) (fun r6 u9 t H1 locs ht hvm hr9 hB hz1 hk1 hS => ?_)
    replace hP := xm_keep hP hk1
    generalize H1 = H at hP hS ⊢
    rw [hr9]
    refine W.eq (g2 := F0 m 83 ls [.int o4]) (by first | rfl | rw [xv1 (Nat.succ_ne_zero _)]) ?_
    refine lv_if_eq (tgt := 121) hx hb dM_jsonNumber_83 (by decide) (fun hc => ?_) (fun hc => ?_)
    · rw [if_pos hc] at hf
      refine lv_lload_n hx hb dM_jsonNumber_121 rfl (lv_at hl 0 rfl) ?_
      refine lv_ldc2 hx hb hown (htx _ kw_6_84) dM_jsonNumber_122 ?_
      refine W.lcmp hx hb dM_jsonNumber_125 ?_
      refine lv_if_le (tgt := 134) hx hb dM_jsonNumber_126 (by decide) (fun hc => ?_) (fun hc => ?_)
      · rw [if_pos hc] at hf
        refine lv_aload_n hx hb dM_jsonNumber_134 rfl (lv_at hl 3 rfl) ?_
        refine lv_iload_n hx hb dM_jsonNumber_135 rfl (lv_at hl 1 rfl) ?_
        refine lv_if_eq (tgt := 144) hx hb dM_jsonNumber_136 (by decide) (fun hc => ?_) (fun hc => ?_)
        · rw [if_pos hc] at hf
          refine lv_lload_n hx hb dM_jsonNumber_144 rfl (lv_at hl 0 rfl) ?_
          obtain ⟨o7, hq8, hf⟩ := xbind hf
          by_cases hk9 : o7.1 = 0
          · rw [if_pos hk9] at hf
            obtain ⟨hm10, hf⟩ := xmoE hf
            have hFc := xm_free hD hS hA
            refine va_callq (va_runV (C := "ValueBenchModel") (As := [.long y3]) (rest := []) ⟨hx, hb, hml, hown, htx⟩ (gM_number l hl9 D cT aK aV H.size n aM adL rd gdL vadL ws9 y3 o7 hq8 hk9) ⟨callB_of 1 htx (xw_goodC kw_6_88) rfl rfl rfl (htx _ kw_1_5) (htx _ kw_6_85) ⟨by decide, by decide, by decide +kernel⟩ ⟨Nat.le_of_ble_eq_true rfl, Nat.le_of_ble_eq_true rfl⟩, (htx _ kw_6_87), (htx _ kp_M_number)⟩ ⟨xPre_blind, va_recv hK hP (ci := 5) rfl (q0 := 0) rfl, (fun U hU hW => ⟨rfl, xPre_of hZ hS hFc hP hD hK U hU hW⟩)⟩ rfl rfl hl.1 rfl (xm_room (Nat.le_of_ble_eq_true rfl)) dM_jsonNumber_145 ⟨hm10.1, hm10.2⟩) hS (fun q _ h => hFc q h) hFc (fun r11 u9 t H1 locs ht hvm hr9 hB hz1 hk1 hS => ?_)
            obtain ⟨hP1, hK1, hD1⟩ := hB
            rw [ht] at hP1
            obtain ⟨ad12, gd13, vad14⟩ := u9
            obtain ⟨hr9, hv15, hn16⟩ := hr9
            have hP : va_P D xcl (xMw cT aM ad12 rd gd13 vad14 o7.2.2.2.2 []) H1 := hP1
            have hD : va_D A (xMw cT aM ad12 rd gd13 vad14 o7.2.2.2.2 []) := hD1.weaken (fun k q _ h => hFc q.1 h)
            generalize H1 = H at hP hS ⊢
            have hE9 : ∀ p, p < xct st → vad14 p = vad p := fun p h => (hv15 p (Nat.lt_of_lt_of_le h hN)).trans (hE p h)
            have hE := hE9
            have hN : xct st ≤ xct o7.2.2.2.2 := Nat.le_trans hN hn16
            rw [hr9]
            refine W.eq (g2 := F0 m 148 ls [xv vad14 o7.2.2.2.1]) (by first | rfl | (skip; rfl)) ?_
            obtain rfl := Option.some.inj hf
            exact absurd (show (0 : Nat) = 2 from hkd) (by decide)
          rw [if_neg hk9] at hf
          by_cases hk17 : o7.1 = 1
          · rw [if_pos hk17] at hf
            obtain ⟨hm18, hf⟩ := xmoE hf
            obtain rfl := Option.some.inj hf
            exact absurd (show (1 : Nat) = 2 from hkd) (by decide)
          rw [if_neg hk17] at hf
          exact nomatch hf
        · rw [if_neg hc] at hf
          refine lv_lload_n hx hb dM_jsonNumber_139 rfl (lv_at hl 0 rfl) ?_
          refine lv_lneg hx hb dM_jsonNumber_140 ?_
          refine lv_goto (tgt := 145) hx hb dM_jsonNumber_141 (by decide) ?_
          obtain ⟨o7, hq8, hf⟩ := xbind hf
          by_cases hk9 : o7.1 = 0
          · rw [if_pos hk9] at hf
            obtain ⟨hm10, hf⟩ := xmoE hf
            have hFc := xm_free hD hS hA
            refine va_callq (va_runV (C := "ValueBenchModel") (As := [.long (-y3)]) (rest := []) ⟨hx, hb, hml, hown, htx⟩ (gM_number l hl9 D cT aK aV H.size n aM adL rd gdL vadL ws9 (-y3) o7 hq8 hk9) ⟨callB_of 1 htx (xw_goodC kw_6_88) rfl rfl rfl (htx _ kw_1_5) (htx _ kw_6_85) ⟨by decide, by decide, by decide +kernel⟩ ⟨Nat.le_of_ble_eq_true rfl, Nat.le_of_ble_eq_true rfl⟩, (htx _ kw_6_87), (htx _ kp_M_number)⟩ ⟨xPre_blind, va_recv hK hP (ci := 5) rfl (q0 := 0) rfl, (fun U hU hW => ⟨rfl, xPre_of hZ hS hFc hP hD hK U hU hW⟩)⟩ rfl rfl hl.1 rfl (xm_room (Nat.le_of_ble_eq_true rfl)) dM_jsonNumber_145 ⟨hm10.1, hm10.2⟩) hS (fun q _ h => hFc q h) hFc (fun r11 u9 t H1 locs ht hvm hr9 hB hz1 hk1 hS => ?_)
            obtain ⟨hP1, hK1, hD1⟩ := hB
            rw [ht] at hP1
            obtain ⟨ad12, gd13, vad14⟩ := u9
            obtain ⟨hr9, hv15, hn16⟩ := hr9
            have hP : va_P D xcl (xMw cT aM ad12 rd gd13 vad14 o7.2.2.2.2 []) H1 := hP1
            have hD : va_D A (xMw cT aM ad12 rd gd13 vad14 o7.2.2.2.2 []) := hD1.weaken (fun k q _ h => hFc q.1 h)
            generalize H1 = H at hP hS ⊢
            have hE9 : ∀ p, p < xct st → vad14 p = vad p := fun p h => (hv15 p (Nat.lt_of_lt_of_le h hN)).trans (hE p h)
            have hE := hE9
            have hN : xct st ≤ xct o7.2.2.2.2 := Nat.le_trans hN hn16
            rw [hr9]
            refine W.eq (g2 := F0 m 148 ls [xv vad14 o7.2.2.2.1]) (by first | rfl | (skip; rfl)) ?_
            obtain rfl := Option.some.inj hf
            exact absurd (show (0 : Nat) = 2 from hkd) (by decide)
          rw [if_neg hk9] at hf
          by_cases hk17 : o7.1 = 1
          · rw [if_pos hk17] at hf
            obtain ⟨hm18, hf⟩ := xmoE hf
            obtain rfl := Option.some.inj hf
            exact absurd (show (1 : Nat) = 2 from hkd) (by decide)
          rw [if_neg hk17] at hf
          exact nomatch hf
      · rw [if_neg hc] at hf
        refine lv_aload_n hx hb dM_jsonNumber_129 rfl (lv_at hl 3 rfl) ?_
        refine lv_iload_n hx hb dM_jsonNumber_130 rfl (lv_at hl 2 rfl) ?_
        obtain ⟨o7, hq8, hf⟩ := xbind hf
        by_cases hk9 : o7.1 = 1
        · rw [if_pos hk9] at hf
          obtain ⟨hm10, hf⟩ := xmoE hf
          have hFc := xm_free hD hS hA
          refine xx_thr (vx_runV (C := "ValueBenchModel") (As := [.int y1]) (rest := []) ⟨hx, hb, hml, hown, htx⟩ (gM_bad_1 l hl9 D cT aK aV H.size n aM adL rd gdL vadL ws9 y1 o7 hq8 hk9) ⟨callB_of 1 htx (xw_goodC kw_6_2) rfl rfl rfl (htx _ kw_1_5) (htx _ kw_5_239) ⟨by decide, by decide, by decide +kernel⟩ ⟨Nat.le_of_ble_eq_true rfl, Nat.le_of_ble_eq_true rfl⟩, (htx _ kw_6_1), (htx _ kp_M_bad)⟩ ⟨xPre_blind, va_recv hK hP (ci := 5) rfl (q0 := 0) rfl, (fun U hU hW => ⟨rfl, xPre_of hZ hS hFc hP hD hK U hU hW⟩)⟩ rfl rfl hl.1 rfl (xm_room (Nat.le_of_ble_eq_true rfl)) dM_jsonNumber_131 ⟨hm10.1, hm10.2⟩) hS hFc (fun q _ h => hFc q h) (fun E ce q9 u9 t H1 locs ht hvm hr9 hB hz1 hk1 hS hce hcv hcl => ?_)
          obtain ⟨rfl, hP1, hK1, hD1⟩ := hB
          rw [ht] at hP1
          obtain ⟨ad12, gd13, vad14⟩ := u9
          obtain ⟨hv15, hn16⟩ := hr9
          have hP : va_P D xcl (xMw cT aM ad12 rd gd13 vad14 o7.2.2.2 []) H1 := hP1
          have hD : va_D A (xMw cT aM ad12 rd gd13 vad14 o7.2.2.2 []) := hD1.weaken (fun k q _ h => hFc q.1 h)
          generalize H1 = H at hP hS hce ⊢
          have hE9 : ∀ p, p < xct st → vad14 p = vad p := fun p h => (hv15 p (Nat.lt_of_lt_of_le h hN)).trans (hE p h)
          have hE := hE9
          have hN : xct st ≤ xct o7.2.2.2 := Nat.le_trans hN hn16
          obtain rfl := Option.some.inj hf
          exact vx_out (E := "java/lang/UnsupportedOperationException") (fun x h => (hne x h).elim) hlocks hce hcv hcl (fun t ht ha => ⟨(ad12, gd13, vad14), ⟨hE, hN⟩, ⟨rfl, by rw [ht]; exact hP, va_K.moved ha hK, hD⟩, hS.F ht⟩) hS.2.2 (Nat.le_refl _) (Nat.le_refl _)
        rw [if_neg hk9] at hf
        exact nomatch hf
    · rw [if_neg hc] at hf
      refine lv_ldc2 hx hb hown (htx _ kw_6_78) dM_jsonNumber_86 ?_
      refine lv_lload_n hx hb dM_jsonNumber_89 rfl (lv_at hl 0 rfl) ?_
      refine lv_lmul hx hb dM_jsonNumber_90 ?_
      refine lv_aload_n hx hb dM_jsonNumber_91 rfl (lv_at hl 3 rfl) ?_
      obtain ⟨o7, hq8, hf⟩ := xbind hf
      have hFc := xm_free hD hS hA
      refine va_calli (va_runV (C := "ValueBenchModel") (As := []) (rest := [.long ((10 : Int64) * y3)]) ⟨hx, hb, hml, hown, htx⟩ (gM_peek l hl9 D cT aK aV H.size n aM adL rd gdL vadL ws9 o7 hq8) ⟨callB_of 0 htx (xw_goodC kw_5_233) rfl rfl rfl (htx _ kw_1_5) (htx _ kw_5_230) ⟨by decide, by decide, by decide +kernel⟩ ⟨Nat.le_of_ble_eq_true rfl, Nat.le_of_ble_eq_true rfl⟩, (htx _ kw_5_232), (htx _ kp_M_peek)⟩ ⟨xPre_blind, va_recv hK hP (ci := 5) rfl (q0 := 0) rfl, (fun U hU hW => ⟨rfl, xPre_of hZ hS hFc hP hD hK U hU hW⟩)⟩ rfl rfl hl.1 rfl (xm_room (Nat.le_of_ble_eq_true rfl)) dM_jsonNumber_92 ⟨hm0.1, hm0.2⟩) hS (fun q _ h => hFc q h) hFc (fun r9 u9 t H1 locs ht hvm hr9 hB hz1 hk1 hS => ?_)
      obtain ⟨hP1, hK1, hD1⟩ := hB
      rw [ht] at hP1
      have hP : va_P D xcl (xMw cT aM adL rd gdL vadL ws9 []) H1 := hP1
      have hD : va_D A (xMw cT aM adL rd gdL vadL ws9 []) := hD1.weaken (fun k q _ h => hFc q.1 h)
      generalize H1 = H at hP hS ⊢
      rw [hr9]
      refine W.eq (g2 := F0 m 95 ls [.int o7, .long ((10 : Int64) * y3)]) (by first | rfl | (skip; rfl)) ?_
      refine lv_i2l hx hb dM_jsonNumber_95 rfl ?_
      refine lv_ladd hx hb dM_jsonNumber_96 ?_
      refine lv_ldc2 hx hb hown (htx _ kw_6_79) dM_jsonNumber_97 ?_
      refine lv_lsub hx hb dM_jsonNumber_100 ?_
      refine lv_ldc2 hx hb hown (htx _ kw_6_80) dM_jsonNumber_101 ?_
      refine va_mmin_long hx hb (hml.trans hl.1.symm) hown (htx _ kw_6_81) (htx _ kw_6_82) (htx _ kw_1_15) (htx _ kw_6_83) (Nat.le_of_ble_eq_true rfl) (Nat.le_of_ble_eq_true rfl) (hm0.1) (hm0.2) dM_jsonNumber_104 ?_
      refine W.eq (g2 := F0 m 107 ls [.long (if (100000000000000000 : Int64) < ((((10 : Int64) * y3) + o7.toInt64) - (48 : Int64)) then (100000000000000000 : Int64) else ((((10 : Int64) * y3) + o7.toInt64) - (48 : Int64)))]) rfl ?_
      refine lv_lstore_n (lv' := [(3, .long (if (100000000000000000 : Int64) < ((((10 : Int64) * y3) + o7.toInt64) - (48 : Int64)) then (100000000000000000 : Int64) else ((((10 : Int64) * y3) + o7.toInt64) - (48 : Int64)))), (2, .int y2), (1, .int y1), (0, .ref aM)]) hx hb dM_jsonNumber_107 rfl hl (by decide) rfl (fun ls hl => ?_)
      refine lv_aload_n hx hb dM_jsonNumber_108 rfl (lv_at hl 3 rfl) ?_
      refine lv_dup hx hb dM_jsonNumber_109 rfl ?_
      refine xm_get (v := .int (xsi ws9 16)) hx hb htx hown hK hP 16 (by decide) rfl (htx _ kw_5_103) rfl dM_jsonNumber_110 ?_
      refine lv_iconst (v := 1) hx hb dM_jsonNumber_113 (by decide) ?_
      refine lv_iadd hx hb dM_jsonNumber_114 ?_
      refine xm_put (v := .int ((xsi ws9 16) + (1 : Int32))) (W' := (xMw cT aM adL rd gdL vadL (xsI ws9 16 ((xsi ws9 16) + (1 : Int32))) [])) (ty := .int) hx hb htx hown hK hP hD hS 16 (by decide) rfl (htx _ kw_5_103) rfl rfl (by decide +kernel) rfl rfl dM_jsonNumber_115 (fun H locs hP hD hS => ?_)
      refine lv_goto (tgt := 76) hx hb dM_jsonNumber_118 (by decide) ?_
      exact ih (1, (if (100000000000000000 : Int64) < ((((10 : Int64) * y3) + o7.toInt64) - (48 : Int64)) then (100000000000000000 : Int64) else ((((10 : Int64) * y3) + o7.toInt64) - (48 : Int64))), y2, y1, (xsI ws9 16 ((xsi ws9 16) + (1 : Int32))), wc, wn) _ _ ls (⟨adL, gdL, vadL, rfl, hf, hP, hD, hS, lv_sub hl [0, 1, 2, 3] rfl, hE, hN⟩)
  refine lv_aload_n hx hb dM_jsonNumber_0 rfl (lv_at hl 0 rfl) ?_
  refine xm_get (v := .int (xsi st 16)) hx hb htx hown hK hP 16 (by decide) rfl (htx _ kw_5_103) rfl dM_jsonNumber_1 ?_
  refine lv_istore_n (lv' := [(1, .int (xsi st 16)), (0, .ref aM)]) hx hb dM_jsonNumber_4 rfl hl (by decide) rfl (fun ls hl => ?_)
  refine lv_aload_n hx hb dM_jsonNumber_5 rfl (lv_at hl 1 rfl) ?_
  obtain ⟨o1, hq2, hf⟩ := xbind hf
  have hFc := xm_free hD hS hA
  refine va_calli (va_runV (C := "ValueBenchModel") (As := []) (rest := []) ⟨hx, hb, hml, hown, htx⟩ (gM_peek l hl9 D cT aK aV s.heap.size n aM ad rd gd vad st o1 hq2) ⟨callB_of 0 htx (xw_goodC kw_5_233) rfl rfl rfl (htx _ kw_1_5) (htx _ kw_5_230) ⟨by decide, by decide, by decide +kernel⟩ ⟨Nat.le_of_ble_eq_true rfl, Nat.le_of_ble_eq_true rfl⟩, (htx _ kw_5_232), (htx _ kp_M_peek)⟩ ⟨xPre_blind, va_recv hK hP (ci := 5) rfl (q0 := 0) rfl, (fun U hU hW => ⟨rfl, xPre_of hZ hS hFc hP hD hK U hU hW⟩)⟩ rfl rfl hl.1 rfl (xm_room (Nat.le_of_ble_eq_true rfl)) dM_jsonNumber_6 ⟨Nat.zero_le _, Nat.zero_le _⟩) hS (fun q _ h => hFc q h) hFc (fun r3 u9 t H1 locs ht hvm hr9 hB hz1 hk1 hS => ?_)
  obtain ⟨hP1, hK1, hD1⟩ := hB
  rw [ht] at hP1
  have hP : va_P D xcl (xMw cT aM ad rd gd vad st []) H1 := hP1
  have hD : va_D A (xMw cT aM ad rd gd vad st []) := hD1.weaken (fun k q _ h => hFc q.1 h)
  generalize H1 = H at hP hS ⊢
  rw [hr9]
  refine W.eq (g2 := F0 m 9 ls [.int o1]) (by first | rfl | (skip; rfl)) ?_
  refine lv_bipush (v := 45) hx hb dM_jsonNumber_9 (by decide) ?_
  refine lv_icmp_ne (tgt := 18) hx hb dM_jsonNumber_11 (by decide) (fun hc => ?_) (fun hc => ?_)
  · rw [if_neg hc] at hf
    refine lv_iconst (v := 0) hx hb dM_jsonNumber_18 (by decide) ?_
    refine lv_istore_n (lv' := [(2, .int 0), (1, .int (xsi st 16)), (0, .ref aM)]) hx hb dM_jsonNumber_19 rfl hl (by decide) rfl (fun ls hl => ?_)
    refine lv_iload_n hx hb dM_jsonNumber_20 rfl (lv_at hl 0 rfl) ?_
    refine lv_if_eq (tgt := 34) hx hb dM_jsonNumber_21 (by decide) (fun _ => ?_) (fun h => ((by revert h; decide : False)).elim)
    refine lv_aload_n hx hb dM_jsonNumber_34 rfl (lv_at hl 2 rfl) ?_
    obtain ⟨o4, hq5, hf⟩ := xbind hf
    have hFc := xm_free hD hS hA
    refine va_calli (va_runV (C := "ValueBenchModel") (As := []) (rest := []) ⟨hx, hb, hml, hown, htx⟩ (gM_peek l hl9 D cT aK aV H.size n aM ad rd gd vad st o4 hq5) ⟨callB_of 0 htx (xw_goodC kw_5_233) rfl rfl rfl (htx _ kw_1_5) (htx _ kw_5_230) ⟨by decide, by decide, by decide +kernel⟩ ⟨Nat.le_of_ble_eq_true rfl, Nat.le_of_ble_eq_true rfl⟩, (htx _ kw_5_232), (htx _ kp_M_peek)⟩ ⟨xPre_blind, va_recv hK hP (ci := 5) rfl (q0 := 0) rfl, (fun U hU hW => ⟨rfl, xPre_of hZ hS hFc hP hD hK U hU hW⟩)⟩ rfl rfl hl.1 rfl (xm_room (Nat.le_of_ble_eq_true rfl)) dM_jsonNumber_35 ⟨Nat.zero_le _, Nat.zero_le _⟩) hS (fun q _ h => hFc q h) hFc (fun r6 u9 t H1 locs ht hvm hr9 hB hz1 hk1 hS => ?_)
    obtain ⟨hP1, hK1, hD1⟩ := hB
    rw [ht] at hP1
    have hP : va_P D xcl (xMw cT aM ad rd gd vad st []) H1 := hP1
    have hD : va_D A (xMw cT aM ad rd gd vad st []) := hD1.weaken (fun k q _ h => hFc q.1 h)
    generalize H1 = H at hP hS ⊢
    rw [hr9]
    refine W.eq (g2 := F0 m 38 ls [.int o4]) (by first | rfl | (skip; rfl)) ?_
    obtain ⟨o7, hq8, hf⟩ := xbind hf
    refine va_calli (va_runS (As := [.int o4]) (rest := []) ⟨hx, hb, hml, hown, htx⟩ (gM_digit l hl9 D cT aK aV H.size n o4 o7 hq8) ⟨callB_of 1 htx (xw_goodC kw_6_73) rfl rfl rfl (htx _ kw_1_5) (htx _ kw_6_71) ⟨by decide, by decide, by decide +kernel⟩ ⟨Nat.le_of_ble_eq_true rfl, Nat.le_of_ble_eq_true rfl⟩, htx _ kw_6_72⟩ ⟨xPre_blind, (fun U hU hW => ⟨rfl, xPre_of hZ hS (xm_free0 hS hA) xm_Pnil xm_Dnil hK U hU hW⟩)⟩ rfl rfl hl.1 rfl (lv_room (Nat.le_of_ble_eq_true rfl)) dM_jsonNumber_38 ⟨(Nat.zero_le _), (Nat.zero_le _)⟩) hS (fun q _ h => xm_free0 hS hA q h) (xm_free0 hS hA) (fun r9 u9 t H1 locs ht hvm hr9 hB hz1 hk1 hS => ?_)
    replace hP := xm_keep hP hk1
    generalize H1 = H at hP hS ⊢
    rw [hr9]
    refine W.eq (g2 := F0 m 41 ls [.int o7]) (by first | rfl | rw [xv1 (Nat.succ_ne_zero _)]) ?_
    refine lv_if_ne (tgt := 52) hx hb dM_jsonNumber_41 (by decide) (fun hc => ?_) (fun hc => ?_)
    · rw [if_neg hc] at hf
      refine lv_lconst (v := 0) hx hb dM_jsonNumber_52 (by decide) ?_
      refine lv_lstore_n (lv' := [(3, .long 0), (2, .int 0), (1, .int (xsi st 16)), (0, .ref aM)]) hx hb dM_jsonNumber_53 rfl hl (by decide) rfl (fun ls hl => ?_)
      refine lv_aload_n hx hb dM_jsonNumber_54 rfl (lv_at hl 3 rfl) ?_
      obtain ⟨o10, hq11, hf⟩ := xbind hf
      have hFc := xm_free hD hS hA
      refine va_calli (va_runV (C := "ValueBenchModel") (As := []) (rest := []) ⟨hx, hb, hml, hown, htx⟩ (gM_peek l hl9 D cT aK aV H.size n aM ad rd gd vad st o10 hq11) ⟨callB_of 0 htx (xw_goodC kw_5_233) rfl rfl rfl (htx _ kw_1_5) (htx _ kw_5_230) ⟨by decide, by decide, by decide +kernel⟩ ⟨Nat.le_of_ble_eq_true rfl, Nat.le_of_ble_eq_true rfl⟩, (htx _ kw_5_232), (htx _ kp_M_peek)⟩ ⟨xPre_blind, va_recv hK hP (ci := 5) rfl (q0 := 0) rfl, (fun U hU hW => ⟨rfl, xPre_of hZ hS hFc hP hD hK U hU hW⟩)⟩ rfl rfl hl.1 rfl (xm_room (Nat.le_of_ble_eq_true rfl)) dM_jsonNumber_55 ⟨Nat.zero_le _, Nat.zero_le _⟩) hS (fun q _ h => hFc q h) hFc (fun r12 u9 t H1 locs ht hvm hr9 hB hz1 hk1 hS => ?_)
      obtain ⟨hP1, hK1, hD1⟩ := hB
      rw [ht] at hP1
      have hP : va_P D xcl (xMw cT aM ad rd gd vad st []) H1 := hP1
      have hD : va_D A (xMw cT aM ad rd gd vad st []) := hD1.weaken (fun k q _ h => hFc q.1 h)
      generalize H1 = H at hP hS ⊢
      rw [hr9]
      refine W.eq (g2 := F0 m 58 ls [.int o10]) (by first | rfl | (skip; rfl)) ?_
      refine lv_bipush (v := 48) hx hb dM_jsonNumber_58 (by decide) ?_
      refine lv_icmp_ne (tgt := 76) hx hb dM_jsonNumber_60 (by decide) (fun hc => ?_) (fun hc => ?_)
      · rw [if_neg hc] at hf
        exact key n (1, (0 : Int64), (0 : Int32), (xsi st 16), st, 0, 0) _ _ ls (⟨ad, gd, vad, rfl, hf, hP, hD, hS, lv_sub hl [0, 1, 2, 3] rfl, hE, hN⟩)
      · rw [if_pos hc] at hf
        refine lv_aload_n hx hb dM_jsonNumber_63 rfl (lv_at hl 3 rfl) ?_
        refine lv_dup hx hb dM_jsonNumber_64 rfl ?_
        refine xm_get (v := .int (xsi st 16)) hx hb htx hown hK hP 16 (by decide) rfl (htx _ kw_5_103) rfl dM_jsonNumber_65 ?_
        refine lv_iconst (v := 1) hx hb dM_jsonNumber_68 (by decide) ?_
        refine lv_iadd hx hb dM_jsonNumber_69 ?_
        refine xm_put (v := .int ((xsi st 16) + (1 : Int32))) (W' := (xMw cT aM ad rd gd vad (xsI st 16 ((xsi st 16) + (1 : Int32))) [])) (ty := .int) hx hb htx hown hK hP hD hS 16 (by decide) rfl (htx _ kw_5_103) rfl rfl (by decide +kernel) rfl rfl dM_jsonNumber_70 (fun H locs hP hD hS => ?_)
        refine lv_goto (tgt := 121) hx hb dM_jsonNumber_73 (by decide) ?_
        refine lv_lload_n hx hb dM_jsonNumber_121 rfl (lv_at hl 0 rfl) ?_
        refine lv_ldc2 hx hb hown (htx _ kw_6_84) dM_jsonNumber_122 ?_
        refine W.lcmp hx hb dM_jsonNumber_125 ?_
        refine lv_if_le (tgt := 134) hx hb dM_jsonNumber_126 (by decide) (fun hc => ?_) (fun hc => ?_)
        · rw [if_pos hc] at hf
          refine lv_aload_n hx hb dM_jsonNumber_134 rfl (lv_at hl 3 rfl) ?_
          refine lv_iload_n hx hb dM_jsonNumber_135 rfl (lv_at hl 1 rfl) ?_
          refine lv_if_eq (tgt := 144) hx hb dM_jsonNumber_136 (by decide) (fun _ => ?_) (fun h => ((by revert h; decide : False)).elim)
          refine lv_lload_n hx hb dM_jsonNumber_144 rfl (lv_at hl 0 rfl) ?_
          obtain ⟨o13, hq14, hf⟩ := xbind hf
          by_cases hk15 : o13.1 = 0
          · rw [if_pos hk15] at hf
            obtain ⟨hm16, hf⟩ := xmoE hf
            have hFc := xm_free hD hS hA
            refine va_callq (va_runV (C := "ValueBenchModel") (As := [.long 0]) (rest := []) ⟨hx, hb, hml, hown, htx⟩ (gM_number l hl9 D cT aK aV H.size n aM ad rd gd vad (xsI st 16 ((xsi st 16) + (1 : Int32))) (0 : Int64) o13 hq14 hk15) ⟨callB_of 1 htx (xw_goodC kw_6_88) rfl rfl rfl (htx _ kw_1_5) (htx _ kw_6_85) ⟨by decide, by decide, by decide +kernel⟩ ⟨Nat.le_of_ble_eq_true rfl, Nat.le_of_ble_eq_true rfl⟩, (htx _ kw_6_87), (htx _ kp_M_number)⟩ ⟨xPre_blind, va_recv hK hP (ci := 5) rfl (q0 := 0) rfl, (fun U hU hW => ⟨rfl, xPre_of hZ hS hFc hP hD hK U hU hW⟩)⟩ rfl rfl hl.1 rfl (xm_room (Nat.le_of_ble_eq_true rfl)) dM_jsonNumber_145 ⟨hm16.1, hm16.2⟩) hS (fun q _ h => hFc q h) hFc (fun r17 u9 t H1 locs ht hvm hr9 hB hz1 hk1 hS => ?_)
            obtain ⟨hP1, hK1, hD1⟩ := hB
            rw [ht] at hP1
            obtain ⟨ad18, gd19, vad20⟩ := u9
            obtain ⟨hr9, hv21, hn22⟩ := hr9
            have hP : va_P D xcl (xMw cT aM ad18 rd gd19 vad20 o13.2.2.2.2 []) H1 := hP1
            have hD : va_D A (xMw cT aM ad18 rd gd19 vad20 o13.2.2.2.2 []) := hD1.weaken (fun k q _ h => hFc q.1 h)
            generalize H1 = H at hP hS ⊢
            have hE9 : ∀ p, p < xct st → vad20 p = vad p := fun p h => (hv21 p (Nat.lt_of_lt_of_le h hN)).trans (hE p h)
            have hE := hE9
            have hN : xct st ≤ xct o13.2.2.2.2 := Nat.le_trans hN hn22
            rw [hr9]
            refine W.eq (g2 := F0 m 148 ls [xv vad20 o13.2.2.2.1]) (by first | rfl | (skip; rfl)) ?_
            obtain rfl := Option.some.inj hf
            exact absurd (show (0 : Nat) = 2 from hkd) (by decide)
          rw [if_neg hk15] at hf
          by_cases hk23 : o13.1 = 1
          · rw [if_pos hk23] at hf
            obtain ⟨hm24, hf⟩ := xmoE hf
            obtain rfl := Option.some.inj hf
            exact absurd (show (1 : Nat) = 2 from hkd) (by decide)
          rw [if_neg hk23] at hf
          exact nomatch hf
        · rw [if_neg hc] at hf
          refine lv_aload_n hx hb dM_jsonNumber_129 rfl (lv_at hl 3 rfl) ?_
          refine lv_iload_n hx hb dM_jsonNumber_130 rfl (lv_at hl 2 rfl) ?_
          obtain ⟨o13, hq14, hf⟩ := xbind hf
          by_cases hk15 : o13.1 = 1
          · rw [if_pos hk15] at hf
            obtain ⟨hm16, hf⟩ := xmoE hf
            have hFc := xm_free hD hS hA
            refine xx_thr (vx_runV (C := "ValueBenchModel") (As := [.int (xsi st 16)]) (rest := []) ⟨hx, hb, hml, hown, htx⟩ (gM_bad_1 l hl9 D cT aK aV H.size n aM ad rd gd vad (xsI st 16 ((xsi st 16) + (1 : Int32))) (xsi st 16) o13 hq14 hk15) ⟨callB_of 1 htx (xw_goodC kw_6_2) rfl rfl rfl (htx _ kw_1_5) (htx _ kw_5_239) ⟨by decide, by decide, by decide +kernel⟩ ⟨Nat.le_of_ble_eq_true rfl, Nat.le_of_ble_eq_true rfl⟩, (htx _ kw_6_1), (htx _ kp_M_bad)⟩ ⟨xPre_blind, va_recv hK hP (ci := 5) rfl (q0 := 0) rfl, (fun U hU hW => ⟨rfl, xPre_of hZ hS hFc hP hD hK U hU hW⟩)⟩ rfl rfl hl.1 rfl (xm_room (Nat.le_of_ble_eq_true rfl)) dM_jsonNumber_131 ⟨hm16.1, hm16.2⟩) hS hFc (fun q _ h => hFc q h) (fun E ce q9 u9 t H1 locs ht hvm hr9 hB hz1 hk1 hS hce hcv hcl => ?_)
            obtain ⟨rfl, hP1, hK1, hD1⟩ := hB
            rw [ht] at hP1
            obtain ⟨ad18, gd19, vad20⟩ := u9
            obtain ⟨hv21, hn22⟩ := hr9
            have hP : va_P D xcl (xMw cT aM ad18 rd gd19 vad20 o13.2.2.2 []) H1 := hP1
            have hD : va_D A (xMw cT aM ad18 rd gd19 vad20 o13.2.2.2 []) := hD1.weaken (fun k q _ h => hFc q.1 h)
            generalize H1 = H at hP hS hce ⊢
            have hE9 : ∀ p, p < xct st → vad20 p = vad p := fun p h => (hv21 p (Nat.lt_of_lt_of_le h hN)).trans (hE p h)
            have hE := hE9
            have hN : xct st ≤ xct o13.2.2.2 := Nat.le_trans hN hn22
            obtain rfl := Option.some.inj hf
            exact vx_out (E := "java/lang/UnsupportedOperationException") (fun x h => (hne x h).elim) hlocks hce hcv hcl (fun t ht ha => ⟨(ad18, gd19, vad20), ⟨hE, hN⟩, ⟨rfl, by rw [ht]; exact hP, va_K.moved ha hK, hD⟩, hS.F ht⟩) hS.2.2 (Nat.le_refl _) (Nat.le_refl _)
          rw [if_neg hk15] at hf
          exact nomatch hf
    · rw [if_pos hc] at hf
      refine lv_aload_n hx hb dM_jsonNumber_44 rfl (lv_at hl 2 rfl) ?_
      refine lv_aload_n hx hb dM_jsonNumber_45 rfl (lv_at hl 2 rfl) ?_
      refine xm_get (v := .int (xsi st 16)) hx hb htx hown hK hP 16 (by decide) rfl (htx _ kw_5_103) rfl dM_jsonNumber_46 ?_
      obtain ⟨o10, hq11, hf⟩ := xbind hf
      by_cases hk12 : o10.1 = 1
      · rw [if_pos hk12] at hf
        obtain ⟨hm13, hf⟩ := xmoE hf
        have hFc := xm_free hD hS hA
        refine xx_thr (vx_runV (C := "ValueBenchModel") (As := [.int (xsi st 16)]) (rest := []) ⟨hx, hb, hml, hown, htx⟩ (gM_bad_1 l hl9 D cT aK aV H.size n aM ad rd gd vad st (xsi st 16) o10 hq11 hk12) ⟨callB_of 1 htx (xw_goodC kw_6_2) rfl rfl rfl (htx _ kw_1_5) (htx _ kw_5_239) ⟨by decide, by decide, by decide +kernel⟩ ⟨Nat.le_of_ble_eq_true rfl, Nat.le_of_ble_eq_true rfl⟩, (htx _ kw_6_1), (htx _ kp_M_bad)⟩ ⟨xPre_blind, va_recv hK hP (ci := 5) rfl (q0 := 0) rfl, (fun U hU hW => ⟨rfl, xPre_of hZ hS hFc hP hD hK U hU hW⟩)⟩ rfl rfl hl.1 rfl (xm_room (Nat.le_of_ble_eq_true rfl)) dM_jsonNumber_49 ⟨hm13.1, hm13.2⟩) hS hFc (fun q _ h => hFc q h) (fun E ce q9 u9 t H1 locs ht hvm hr9 hB hz1 hk1 hS hce hcv hcl => ?_)
        obtain ⟨rfl, hP1, hK1, hD1⟩ := hB
        rw [ht] at hP1
        obtain ⟨ad15, gd16, vad17⟩ := u9
        obtain ⟨hv18, hn19⟩ := hr9
        have hP : va_P D xcl (xMw cT aM ad15 rd gd16 vad17 o10.2.2.2 []) H1 := hP1
        have hD : va_D A (xMw cT aM ad15 rd gd16 vad17 o10.2.2.2 []) := hD1.weaken (fun k q _ h => hFc q.1 h)
        generalize H1 = H at hP hS hce ⊢
        have hE9 : ∀ p, p < xct st → vad17 p = vad p := fun p h => (hv18 p (Nat.lt_of_lt_of_le h hN)).trans (hE p h)
        have hE := hE9
        have hN : xct st ≤ xct o10.2.2.2 := Nat.le_trans hN hn19
        obtain rfl := Option.some.inj hf
        exact vx_out (E := "java/lang/UnsupportedOperationException") (fun x h => (hne x h).elim) hlocks hce hcv hcl (fun t ht ha => ⟨(ad15, gd16, vad17), ⟨hE, hN⟩, ⟨rfl, by rw [ht]; exact hP, va_K.moved ha hK, hD⟩, hS.F ht⟩) hS.2.2 (Nat.le_refl _) (Nat.le_refl _)
      rw [if_neg hk12] at hf
      exact nomatch hf
  · rw [if_pos hc] at hf
    refine lv_iconst (v := 1) hx hb dM_jsonNumber_14 (by decide) ?_
    refine lv_goto (tgt := 19) hx hb dM_jsonNumber_15 (by decide) ?_
    refine lv_istore_n (lv' := [(2, .int 1), (1, .int (xsi st 16)), (0, .ref aM)]) hx hb dM_jsonNumber_19 rfl hl (by decide) rfl (fun ls hl => ?_)
    refine lv_iload_n hx hb dM_jsonNumber_20 rfl (lv_at hl 0 rfl) ?_
    refine lv_if_eq (tgt := 34) hx hb dM_jsonNumber_21 (by decide) (fun h => ((by revert h; decide : False)).elim) (fun _ => ?_)
    refine lv_aload_n hx hb dM_jsonNumber_24 rfl (lv_at hl 2 rfl) ?_
    refine lv_dup hx hb dM_jsonNumber_25 rfl ?_
    refine xm_get (v := .int (xsi st 16)) hx hb htx hown hK hP 16 (by decide) rfl (htx _ kw_5_103) rfl dM_jsonNumber_26 ?_
    refine lv_iconst (v := 1) hx hb dM_jsonNumber_29 (by decide) ?_
    refine lv_iadd hx hb dM_jsonNumber_30 ?_
    refine xm_put (v := .int ((xsi st 16) + (1 : Int32))) (W' := (xMw cT aM ad rd gd vad (xsI st 16 ((xsi st 16) + (1 : Int32))) [])) (ty := .int) hx hb htx hown hK hP hD hS 16 (by decide) rfl (htx _ kw_5_103) rfl rfl (by decide +kernel) rfl rfl dM_jsonNumber_31 (fun H locs hP hD hS => ?_)
    refine lv_aload_n hx hb dM_jsonNumber_34 rfl (lv_at hl 2 rfl) ?_
    obtain ⟨o4, hq5, hf⟩ := xbind hf
    have hFc := xm_free hD hS hA
    refine va_calli (va_runV (C := "ValueBenchModel") (As := []) (rest := []) ⟨hx, hb, hml, hown, htx⟩ (gM_peek l hl9 D cT aK aV H.size n aM ad rd gd vad (xsI st 16 ((xsi st 16) + (1 : Int32))) o4 hq5) ⟨callB_of 0 htx (xw_goodC kw_5_233) rfl rfl rfl (htx _ kw_1_5) (htx _ kw_5_230) ⟨by decide, by decide, by decide +kernel⟩ ⟨Nat.le_of_ble_eq_true rfl, Nat.le_of_ble_eq_true rfl⟩, (htx _ kw_5_232), (htx _ kp_M_peek)⟩ ⟨xPre_blind, va_recv hK hP (ci := 5) rfl (q0 := 0) rfl, (fun U hU hW => ⟨rfl, xPre_of hZ hS hFc hP hD hK U hU hW⟩)⟩ rfl rfl hl.1 rfl (xm_room (Nat.le_of_ble_eq_true rfl)) dM_jsonNumber_35 ⟨Nat.zero_le _, Nat.zero_le _⟩) hS (fun q _ h => hFc q h) hFc (fun r6 u9 t H1 locs ht hvm hr9 hB hz1 hk1 hS => ?_)
    obtain ⟨hP1, hK1, hD1⟩ := hB
    rw [ht] at hP1
    have hP : va_P D xcl (xMw cT aM ad rd gd vad (xsI st 16 ((xsi st 16) + (1 : Int32))) []) H1 := hP1
    have hD : va_D A (xMw cT aM ad rd gd vad (xsI st 16 ((xsi st 16) + (1 : Int32))) []) := hD1.weaken (fun k q _ h => hFc q.1 h)
    generalize H1 = H at hP hS ⊢
    rw [hr9]
    refine W.eq (g2 := F0 m 38 ls [.int o4]) (by first | rfl | (skip; rfl)) ?_
    obtain ⟨o7, hq8, hf⟩ := xbind hf
    refine va_calli (va_runS (As := [.int o4]) (rest := []) ⟨hx, hb, hml, hown, htx⟩ (gM_digit l hl9 D cT aK aV H.size n o4 o7 hq8) ⟨callB_of 1 htx (xw_goodC kw_6_73) rfl rfl rfl (htx _ kw_1_5) (htx _ kw_6_71) ⟨by decide, by decide, by decide +kernel⟩ ⟨Nat.le_of_ble_eq_true rfl, Nat.le_of_ble_eq_true rfl⟩, htx _ kw_6_72⟩ ⟨xPre_blind, (fun U hU hW => ⟨rfl, xPre_of hZ hS (xm_free0 hS hA) xm_Pnil xm_Dnil hK U hU hW⟩)⟩ rfl rfl hl.1 rfl (lv_room (Nat.le_of_ble_eq_true rfl)) dM_jsonNumber_38 ⟨(Nat.zero_le _), (Nat.zero_le _)⟩) hS (fun q _ h => xm_free0 hS hA q h) (xm_free0 hS hA) (fun r9 u9 t H1 locs ht hvm hr9 hB hz1 hk1 hS => ?_)
    replace hP := xm_keep hP hk1
    generalize H1 = H at hP hS ⊢
    rw [hr9]
    refine W.eq (g2 := F0 m 41 ls [.int o7]) (by first | rfl | rw [xv1 (Nat.succ_ne_zero _)]) ?_
    refine lv_if_ne (tgt := 52) hx hb dM_jsonNumber_41 (by decide) (fun hc => ?_) (fun hc => ?_)
    · rw [if_neg hc] at hf
      refine lv_lconst (v := 0) hx hb dM_jsonNumber_52 (by decide) ?_
      refine lv_lstore_n (lv' := [(3, .long 0), (2, .int 1), (1, .int (xsi st 16)), (0, .ref aM)]) hx hb dM_jsonNumber_53 rfl hl (by decide) rfl (fun ls hl => ?_)
      refine lv_aload_n hx hb dM_jsonNumber_54 rfl (lv_at hl 3 rfl) ?_
      obtain ⟨o10, hq11, hf⟩ := xbind hf
      have hFc := xm_free hD hS hA
      refine va_calli (va_runV (C := "ValueBenchModel") (As := []) (rest := []) ⟨hx, hb, hml, hown, htx⟩ (gM_peek l hl9 D cT aK aV H.size n aM ad rd gd vad (xsI st 16 ((xsi st 16) + (1 : Int32))) o10 hq11) ⟨callB_of 0 htx (xw_goodC kw_5_233) rfl rfl rfl (htx _ kw_1_5) (htx _ kw_5_230) ⟨by decide, by decide, by decide +kernel⟩ ⟨Nat.le_of_ble_eq_true rfl, Nat.le_of_ble_eq_true rfl⟩, (htx _ kw_5_232), (htx _ kp_M_peek)⟩ ⟨xPre_blind, va_recv hK hP (ci := 5) rfl (q0 := 0) rfl, (fun U hU hW => ⟨rfl, xPre_of hZ hS hFc hP hD hK U hU hW⟩)⟩ rfl rfl hl.1 rfl (xm_room (Nat.le_of_ble_eq_true rfl)) dM_jsonNumber_55 ⟨Nat.zero_le _, Nat.zero_le _⟩) hS (fun q _ h => hFc q h) hFc (fun r12 u9 t H1 locs ht hvm hr9 hB hz1 hk1 hS => ?_)
      obtain ⟨hP1, hK1, hD1⟩ := hB
      rw [ht] at hP1
      have hP : va_P D xcl (xMw cT aM ad rd gd vad (xsI st 16 ((xsi st 16) + (1 : Int32))) []) H1 := hP1
      have hD : va_D A (xMw cT aM ad rd gd vad (xsI st 16 ((xsi st 16) + (1 : Int32))) []) := hD1.weaken (fun k q _ h => hFc q.1 h)
      generalize H1 = H at hP hS ⊢
      rw [hr9]
      refine W.eq (g2 := F0 m 58 ls [.int o10]) (by first | rfl | (skip; rfl)) ?_
      refine lv_bipush (v := 48) hx hb dM_jsonNumber_58 (by decide) ?_
      refine lv_icmp_ne (tgt := 76) hx hb dM_jsonNumber_60 (by decide) (fun hc => ?_) (fun hc => ?_)
      · rw [if_neg hc] at hf
        exact key n (1, (0 : Int64), (1 : Int32), (xsi st 16), (xsI st 16 ((xsi st 16) + (1 : Int32))), 0, 0) _ _ ls (⟨ad, gd, vad, rfl, hf, hP, hD, hS, lv_sub hl [0, 1, 2, 3] rfl, hE, hN⟩)
      · rw [if_pos hc] at hf
        refine lv_aload_n hx hb dM_jsonNumber_63 rfl (lv_at hl 3 rfl) ?_
        refine lv_dup hx hb dM_jsonNumber_64 rfl ?_
        refine xm_get (v := .int ((xsi st 16) + (1 : Int32))) hx hb htx hown hK hP 16 (by decide) rfl (htx _ kw_5_103) rfl dM_jsonNumber_65 ?_
        refine lv_iconst (v := 1) hx hb dM_jsonNumber_68 (by decide) ?_
        refine lv_iadd hx hb dM_jsonNumber_69 ?_
        refine xm_put (v := .int (((xsi st 16) + (1 : Int32)) + (1 : Int32))) (W' := (xMw cT aM ad rd gd vad (xsI (xsI st 16 ((xsi st 16) + (1 : Int32))) 16 (((xsi st 16) + (1 : Int32)) + (1 : Int32))) [])) (ty := .int) hx hb htx hown hK hP hD hS 16 (by decide) rfl (htx _ kw_5_103) rfl rfl (by decide +kernel) rfl rfl dM_jsonNumber_70 (fun H locs hP hD hS => ?_)
        refine lv_goto (tgt := 121) hx hb dM_jsonNumber_73 (by decide) ?_
        refine lv_lload_n hx hb dM_jsonNumber_121 rfl (lv_at hl 0 rfl) ?_
        refine lv_ldc2 hx hb hown (htx _ kw_6_84) dM_jsonNumber_122 ?_
        refine W.lcmp hx hb dM_jsonNumber_125 ?_
        refine lv_if_le (tgt := 134) hx hb dM_jsonNumber_126 (by decide) (fun hc => ?_) (fun hc => ?_)
        · rw [if_pos hc] at hf
          refine lv_aload_n hx hb dM_jsonNumber_134 rfl (lv_at hl 3 rfl) ?_
          refine lv_iload_n hx hb dM_jsonNumber_135 rfl (lv_at hl 1 rfl) ?_
          refine lv_if_eq (tgt := 144) hx hb dM_jsonNumber_136 (by decide) (fun h => ((by revert h; decide : False)).elim) (fun _ => ?_)
          refine lv_lload_n hx hb dM_jsonNumber_139 rfl (lv_at hl 0 rfl) ?_
          refine lv_lneg hx hb dM_jsonNumber_140 ?_
          refine W.eq (g2 := F0 m 141 ls [.long 0, .ref aM]) rfl ?_
          refine lv_goto (tgt := 145) hx hb dM_jsonNumber_141 (by decide) ?_
          obtain ⟨o13, hq14, hf⟩ := xbind hf
          by_cases hk15 : o13.1 = 0
          · rw [if_pos hk15] at hf
            obtain ⟨hm16, hf⟩ := xmoE hf
            have hFc := xm_free hD hS hA
            refine va_callq (va_runV (C := "ValueBenchModel") (As := [.long 0]) (rest := []) ⟨hx, hb, hml, hown, htx⟩ (gM_number l hl9 D cT aK aV H.size n aM ad rd gd vad (xsI (xsI st 16 ((xsi st 16) + (1 : Int32))) 16 (((xsi st 16) + (1 : Int32)) + (1 : Int32))) (0 : Int64) o13 hq14 hk15) ⟨callB_of 1 htx (xw_goodC kw_6_88) rfl rfl rfl (htx _ kw_1_5) (htx _ kw_6_85) ⟨by decide, by decide, by decide +kernel⟩ ⟨Nat.le_of_ble_eq_true rfl, Nat.le_of_ble_eq_true rfl⟩, (htx _ kw_6_87), (htx _ kp_M_number)⟩ ⟨xPre_blind, va_recv hK hP (ci := 5) rfl (q0 := 0) rfl, (fun U hU hW => ⟨rfl, xPre_of hZ hS hFc hP hD hK U hU hW⟩)⟩ rfl rfl hl.1 rfl (xm_room (Nat.le_of_ble_eq_true rfl)) dM_jsonNumber_145 ⟨hm16.1, hm16.2⟩) hS (fun q _ h => hFc q h) hFc (fun r17 u9 t H1 locs ht hvm hr9 hB hz1 hk1 hS => ?_)
            obtain ⟨hP1, hK1, hD1⟩ := hB
            rw [ht] at hP1
            obtain ⟨ad18, gd19, vad20⟩ := u9
            obtain ⟨hr9, hv21, hn22⟩ := hr9
            have hP : va_P D xcl (xMw cT aM ad18 rd gd19 vad20 o13.2.2.2.2 []) H1 := hP1
            have hD : va_D A (xMw cT aM ad18 rd gd19 vad20 o13.2.2.2.2 []) := hD1.weaken (fun k q _ h => hFc q.1 h)
            generalize H1 = H at hP hS ⊢
            have hE9 : ∀ p, p < xct st → vad20 p = vad p := fun p h => (hv21 p (Nat.lt_of_lt_of_le h hN)).trans (hE p h)
            have hE := hE9
            have hN : xct st ≤ xct o13.2.2.2.2 := Nat.le_trans hN hn22
            rw [hr9]
            refine W.eq (g2 := F0 m 148 ls [xv vad20 o13.2.2.2.1]) (by first | rfl | (skip; rfl)) ?_
            obtain rfl := Option.some.inj hf
            exact absurd (show (0 : Nat) = 2 from hkd) (by decide)
          rw [if_neg hk15] at hf
          by_cases hk23 : o13.1 = 1
          · rw [if_pos hk23] at hf
            obtain ⟨hm24, hf⟩ := xmoE hf
            obtain rfl := Option.some.inj hf
            exact absurd (show (1 : Nat) = 2 from hkd) (by decide)
          rw [if_neg hk23] at hf
          exact nomatch hf
        · rw [if_neg hc] at hf
          refine lv_aload_n hx hb dM_jsonNumber_129 rfl (lv_at hl 3 rfl) ?_
          refine lv_iload_n hx hb dM_jsonNumber_130 rfl (lv_at hl 2 rfl) ?_
          obtain ⟨o13, hq14, hf⟩ := xbind hf
          by_cases hk15 : o13.1 = 1
          · rw [if_pos hk15] at hf
            obtain ⟨hm16, hf⟩ := xmoE hf
            have hFc := xm_free hD hS hA
            refine xx_thr (vx_runV (C := "ValueBenchModel") (As := [.int (xsi st 16)]) (rest := []) ⟨hx, hb, hml, hown, htx⟩ (gM_bad_1 l hl9 D cT aK aV H.size n aM ad rd gd vad (xsI (xsI st 16 ((xsi st 16) + (1 : Int32))) 16 (((xsi st 16) + (1 : Int32)) + (1 : Int32))) (xsi st 16) o13 hq14 hk15) ⟨callB_of 1 htx (xw_goodC kw_6_2) rfl rfl rfl (htx _ kw_1_5) (htx _ kw_5_239) ⟨by decide, by decide, by decide +kernel⟩ ⟨Nat.le_of_ble_eq_true rfl, Nat.le_of_ble_eq_true rfl⟩, (htx _ kw_6_1), (htx _ kp_M_bad)⟩ ⟨xPre_blind, va_recv hK hP (ci := 5) rfl (q0 := 0) rfl, (fun U hU hW => ⟨rfl, xPre_of hZ hS hFc hP hD hK U hU hW⟩)⟩ rfl rfl hl.1 rfl (xm_room (Nat.le_of_ble_eq_true rfl)) dM_jsonNumber_131 ⟨hm16.1, hm16.2⟩) hS hFc (fun q _ h => hFc q h) (fun E ce q9 u9 t H1 locs ht hvm hr9 hB hz1 hk1 hS hce hcv hcl => ?_)
            obtain ⟨rfl, hP1, hK1, hD1⟩ := hB
            rw [ht] at hP1
            obtain ⟨ad18, gd19, vad20⟩ := u9
            obtain ⟨hv21, hn22⟩ := hr9
            have hP : va_P D xcl (xMw cT aM ad18 rd gd19 vad20 o13.2.2.2 []) H1 := hP1
            have hD : va_D A (xMw cT aM ad18 rd gd19 vad20 o13.2.2.2 []) := hD1.weaken (fun k q _ h => hFc q.1 h)
            generalize H1 = H at hP hS hce ⊢
            have hE9 : ∀ p, p < xct st → vad20 p = vad p := fun p h => (hv21 p (Nat.lt_of_lt_of_le h hN)).trans (hE p h)
            have hE := hE9
            have hN : xct st ≤ xct o13.2.2.2 := Nat.le_trans hN hn22
            obtain rfl := Option.some.inj hf
            exact vx_out (E := "java/lang/UnsupportedOperationException") (fun x h => (hne x h).elim) hlocks hce hcv hcl (fun t ht ha => ⟨(ad18, gd19, vad20), ⟨hE, hN⟩, ⟨rfl, by rw [ht]; exact hP, va_K.moved ha hK, hD⟩, hS.F ht⟩) hS.2.2 (Nat.le_refl _) (Nat.le_refl _)
          rw [if_neg hk15] at hf
          exact nomatch hf
    · rw [if_pos hc] at hf
      refine lv_aload_n hx hb dM_jsonNumber_44 rfl (lv_at hl 2 rfl) ?_
      refine lv_aload_n hx hb dM_jsonNumber_45 rfl (lv_at hl 2 rfl) ?_
      refine xm_get (v := .int ((xsi st 16) + (1 : Int32))) hx hb htx hown hK hP 16 (by decide) rfl (htx _ kw_5_103) rfl dM_jsonNumber_46 ?_
      obtain ⟨o10, hq11, hf⟩ := xbind hf
      by_cases hk12 : o10.1 = 1
      · rw [if_pos hk12] at hf
        obtain ⟨hm13, hf⟩ := xmoE hf
        have hFc := xm_free hD hS hA
        refine xx_thr (vx_runV (C := "ValueBenchModel") (As := [.int ((xsi st 16) + (1 : Int32))]) (rest := []) ⟨hx, hb, hml, hown, htx⟩ (gM_bad_1 l hl9 D cT aK aV H.size n aM ad rd gd vad (xsI st 16 ((xsi st 16) + (1 : Int32))) ((xsi st 16) + (1 : Int32)) o10 hq11 hk12) ⟨callB_of 1 htx (xw_goodC kw_6_2) rfl rfl rfl (htx _ kw_1_5) (htx _ kw_5_239) ⟨by decide, by decide, by decide +kernel⟩ ⟨Nat.le_of_ble_eq_true rfl, Nat.le_of_ble_eq_true rfl⟩, (htx _ kw_6_1), (htx _ kp_M_bad)⟩ ⟨xPre_blind, va_recv hK hP (ci := 5) rfl (q0 := 0) rfl, (fun U hU hW => ⟨rfl, xPre_of hZ hS hFc hP hD hK U hU hW⟩)⟩ rfl rfl hl.1 rfl (xm_room (Nat.le_of_ble_eq_true rfl)) dM_jsonNumber_49 ⟨hm13.1, hm13.2⟩) hS hFc (fun q _ h => hFc q h) (fun E ce q9 u9 t H1 locs ht hvm hr9 hB hz1 hk1 hS hce hcv hcl => ?_)
        obtain ⟨rfl, hP1, hK1, hD1⟩ := hB
        rw [ht] at hP1
        obtain ⟨ad15, gd16, vad17⟩ := u9
        obtain ⟨hv18, hn19⟩ := hr9
        have hP : va_P D xcl (xMw cT aM ad15 rd gd16 vad17 o10.2.2.2 []) H1 := hP1
        have hD : va_D A (xMw cT aM ad15 rd gd16 vad17 o10.2.2.2 []) := hD1.weaken (fun k q _ h => hFc q.1 h)
        generalize H1 = H at hP hS hce ⊢
        have hE9 : ∀ p, p < xct st → vad17 p = vad p := fun p h => (hv18 p (Nat.lt_of_lt_of_le h hN)).trans (hE p h)
        have hE := hE9
        have hN : xct st ≤ xct o10.2.2.2 := Nat.le_trans hN hn19
        obtain rfl := Option.some.inj hf
        exact vx_out (E := "java/lang/UnsupportedOperationException") (fun x h => (hne x h).elim) hlocks hce hcv hcl (fun t ht ha => ⟨(ad15, gd16, vad17), ⟨hE, hN⟩, ⟨rfl, by rw [ht]; exact hP, va_K.moved ha hK, hD⟩, hS.F ht⟩) hS.2.2 (Nat.le_refl _) (Nat.le_refl _)
      rw [if_neg hk12] at hf
      exact nomatch hf
set_option maxHeartbeats 400000000 in
set_option maxRecDepth 100000 in
theorem gM_escaped (l : Launch) (hl9 : l.stackTraces = false) (D : va_G) (cT : Nat → ClassId) (aK aV : Nat → Nat) (sz n : Nat) (aM : Nat) (ad rd gd vad : Nat → Nat) (st : xS) (x0 : Int32) (out : Nat × Nat × Nat × xS) (hf : fM_escaped n st x0 = some out) (hkd : out.1 = 0) : xMet l yM_escaped wyM_escaped 7 out.2.1 out.2.2.1 121 D cT aK aV sz [.ref aM, .int x0] (xMw cT aM ad rd gd vad st []) (fun A => va_Qv (fun u : xU => xE vad st out.2.2.2 u) (fun u t => xB D xcl cT A (xMw cT aM u.1 rd u.2.1 u.2.2 out.2.2.2 []) t) A) := by
  refine Met.ofW (cc := prog_13_method_37_code) (maxL := 5) (ret := none) (by decide) rfl ?_
  intro p e s m args below meth c s₁ B hml hv
  obtain ⟨rfl, hsz, hZ, hP, hK, hD0⟩ := hv
  have hx := B.exec
  have hb := B.bytes
  have hr := B.returns
  have hts := atoms_spec (ws := wyM_escaped) B.pre
  have htx := fun w h => hts w (List.mem_cons_of_mem _ h)
  have hown : s.vm.findClass "ValueBenchModel" = some m.cls := findClass_of_methodNamed B.named
  have hlocks := B.notSynchronized
  subst hsz
  have hD := hD0.self (sz := s.heap.size)
  generalize hAe : va_A (xMw cT aM ad rd gd vad st []) s.heap.size = A at hD hZ ⊢
  have hA : ∀ q : Nat, s.heap.size ≤ q → A q := fun q h => by rw [← hAe]; exact Or.inr h
  have hS : va_S A s.heap s.heap [] := va_S.rf
  have hl := lv_entry ([.ref aM, .int x0]) (n := 5) (by simp [lg_sl, xvcat, xrscat, xcI, xcL, xcR, xcN])
  rw [show lv_args 0 [.ref aM, .int x0] = [(0, .ref aM), (1, .int x0)] from by simp [lv_args, xvcat, xrscat, xcI, xcL, xcR, xcN]] at hl
  rw [lg_entry_eq]
  generalize (lg_sl ([.ref aM, .int x0]) ++ List.replicate (5 - (lg_sl ([.ref aM, .int x0])).length) Slot.unset).toArray = ls at hl ⊢
  have hl : lv_has ls 5 [(0, .ref aM), (1, .int x0)] := hl
  have hE : ∀ p, p < xct st → vad p = vad p := fun _ _ => rfl
  have hN : xct st ≤ xct st := Nat.le_refl _
  unfold fM_escaped at hf
  refine xloopM (σ := Nat × Int32 × Int32 × Int32 × Int32 × xS × Nat × Nat) (fun n x H locs ls => (∃ (adL gdL vadL : Nat → Nat), x.1 = 1 ∧ fM_escaped_b n x.1 x.2.1 x.2.2.1 x.2.2.2.1 x.2.2.2.2.1 x.2.2.2.2.2.1 x.2.2.2.2.2.2.1 x.2.2.2.2.2.2.2 = some out ∧ va_P D xcl (xMw cT aM adL rd gdL vadL x.2.2.2.2.2.1 []) H ∧ va_D A (xMw cT aM adL rd gdL vadL x.2.2.2.2.2.1 []) ∧ va_S A s.heap H locs ∧ lv_has ls 5 [(4, .int x.2.1), (3, .int x.2.2.1), (2, .int x.2.2.2.1), (0, .ref aM), (1, .int x.2.2.2.2.1)] ∧ (∀ p, p < xct st → vadL p = vad p) ∧ xct st ≤ xct x.2.2.2.2.2.1)) (fun x => 171) (fun x => x.2.2.2.2.2.2.1) (fun x => x.2.2.2.2.2.2.2) (fun x H locs ls h => by (obtain ⟨_, _, _, h⟩ := h; exact absurd h.2.1 (by rw [fM_escaped_b]; exact fun h => nomatch h))) (fun n ih x H locs ls hv => ?_) (fun key => ?_)
  · obtain ⟨lb, y4, y3, y2, y1, ws9, wc, wn⟩ := x
    rcases hv with ⟨adL, gdL, vadL, hj, hf, hP, hD, hS, hl, hE, hN⟩
    subst hj
    have hf : fM_escaped_b (n + 1) 1 y4 y3 y2 y1 ws9 wc wn = some out := hf
    rw [fM_escaped_b] at hf
    obtain ⟨hP, hD⟩ : xPD D xcl A (xMw cT aM adL rd gdL vadL ws9 []) H := ⟨hP, hD⟩
    have hl : lv_has ls 5 [(4, .int y4), (3, .int y3), (2, .int y2), (0, .ref aM), (1, .int y1)] := hl
    refine W.eq (g2 := F0 m 171 ls []) rfl ?_
    show W p l e _ s m _ below meth c H locs wc wn _ _
    obtain ⟨hm0, hf⟩ := xmoE hf
    refine lv_iload hx hb dM_escaped_171 (lv_at hl 0 rfl) ?_
    refine lv_iconst (v := 4) hx hb dM_escaped_173 (by decide) ?_
    refine lv_icmp_ge (tgt := 224) hx hb dM_escaped_174 (by decide) (fun hc => ?_) (fun hc => ?_)
    · rw [if_pos hc] at hf
      refine lv_iload_n hx hb dM_escaped_224 rfl (lv_at hl 1 rfl) ?_
      refine lv_bipush (v := 127) hx hb dM_escaped_225 (by decide) ?_
      refine lv_icmp_le (tgt := 235) hx hb dM_escaped_227 (by decide) (fun hc => ?_) (fun hc => ?_)
      · rw [if_pos hc] at hf
        refine lv_aload_n hx hb dM_escaped_235 rfl (lv_at hl 3 rfl) ?_
        refine lv_iload_n hx hb dM_escaped_236 rfl (lv_at hl 1 rfl) ?_
        obtain ⟨o1, hq2, hf⟩ := xbind hf
        obtain ⟨hm3, hf⟩ := xmoE hf
        have hFc := xm_free hD hS hA
        refine va_callv (va_runV (C := "ValueBenchModel") (As := [.int y3]) (rest := []) ⟨hx, hb, hml, hown, htx⟩ (gM_letter l hl9 D cT aK aV H.size n aM adL rd gdL vadL ws9 y3 o1 hq2) ⟨callB_of 1 htx (xw_goodC kw_6_54) rfl rfl rfl (htx _ kw_1_5) (htx _ kw_6_51) ⟨by decide, by decide, by decide +kernel⟩ ⟨Nat.le_of_ble_eq_true rfl, Nat.le_of_ble_eq_true rfl⟩, (htx _ kw_6_53), (htx _ kp_M_letter)⟩ ⟨xPre_blind, va_recv hK hP (ci := 5) rfl (q0 := 0) rfl, (fun U hU hW => ⟨rfl, xPre_of hZ hS hFc hP hD hK U hU hW⟩)⟩ rfl rfl hl.1 rfl (xm_room (Nat.le_of_ble_eq_true rfl)) dM_escaped_237 ⟨hm3.1, hm3.2⟩) hS (fun q _ h => hFc q h) hFc (fun u9 t H1 locs ht hvm hr9 hB hz1 hk1 hS => ?_)
        obtain ⟨hP1, hK1, hD1⟩ := hB
        rw [ht] at hP1
        obtain ⟨ad5, gd6, vad7⟩ := u9
        obtain ⟨hv8, hn9⟩ := hr9
        have hP : va_P D xcl (xMw cT aM ad5 rd gd6 vad7 o1.2.2 []) H1 := hP1
        have hD : va_D A (xMw cT aM ad5 rd gd6 vad7 o1.2.2 []) := hD1.weaken (fun k q _ h => hFc q.1 h)
        generalize H1 = H at hP hS ⊢
        have hE9 : ∀ p, p < xct st → vad7 p = vad p := fun p h => (hv8 p (Nat.lt_of_lt_of_le h hN)).trans (hE p h)
        have hE := hE9
        have hN : xct st ≤ xct o1.2.2 := Nat.le_trans hN hn9
        refine W.eq (g2 := F0 m 240 ls []) (by first | rfl | (skip; rfl)) ?_
        obtain rfl := Option.some.inj hf
        exact W.vret hx hb hr (fun t ht hW => ⟨⟨(ad5, gd6, vad7), rfl, ⟨hE, hN⟩, by rw [ht]; exact hP, va_K.moved hW.alike hK, hD⟩, hS.F ht⟩) hS.2.2 dM_escaped_240
      · rw [if_neg hc] at hf
        refine lv_aload_n hx hb dM_escaped_230 rfl (lv_at hl 3 rfl) ?_
        refine lv_iload_n hx hb dM_escaped_231 rfl (lv_at hl 4 rfl) ?_
        obtain ⟨o1, hq2, hf⟩ := xbind hf
        by_cases hk3 : o1.1 = 1
        · rw [if_pos hk3] at hf
          obtain ⟨hm4, hf⟩ := xmoE hf
          obtain rfl := Option.some.inj hf
          exact absurd (show (1 : Nat) = 0 from hkd) (by decide)
        rw [if_neg hk3] at hf
        exact nomatch hf
    · rw [if_neg hc] at hf
      refine lv_aload_n hx hb dM_escaped_177 rfl (lv_at hl 3 rfl) ?_
      obtain ⟨o1, hq2, hf⟩ := xbind hf
      have hFc := xm_free hD hS hA
      refine va_calli (va_runV (C := "ValueBenchModel") (As := []) (rest := []) ⟨hx, hb, hml, hown, htx⟩ (gM_peek l hl9 D cT aK aV H.size n aM adL rd gdL vadL ws9 o1 hq2) ⟨callB_of 0 htx (xw_goodC kw_5_233) rfl rfl rfl (htx _ kw_1_5) (htx _ kw_5_230) ⟨by decide, by decide, by decide +kernel⟩ ⟨Nat.le_of_ble_eq_true rfl, Nat.le_of_ble_eq_true rfl⟩, (htx _ kw_5_232), (htx _ kp_M_peek)⟩ ⟨xPre_blind, va_recv hK hP (ci := 5) rfl (q0 := 0) rfl, (fun U hU hW => ⟨rfl, xPre_of hZ hS hFc hP hD hK U hU hW⟩)⟩ rfl rfl hl.1 rfl (xm_room (Nat.le_of_ble_eq_true rfl)) dM_escaped_178 ⟨hm0.1, hm0.2⟩) hS (fun q _ h => hFc q h) hFc (fun r3 u9 t H1 locs ht hvm hr9 hB hz1 hk1 hS => ?_)
      obtain ⟨hP1, hK1, hD1⟩ := hB
      rw [ht] at hP1
      have hP : va_P D xcl (xMw cT aM adL rd gdL vadL ws9 []) H1 := hP1
      have hD : va_D A (xMw cT aM adL rd gdL vadL ws9 []) := hD1.weaken (fun k q _ h => hFc q.1 h)
      generalize H1 = H at hP hS ⊢
      rw [hr9]
      refine W.eq (g2 := F0 m 181 ls [.int o1]) (by first | rfl | (skip; rfl)) ?_
      obtain ⟨o4, hq5, hf⟩ := xbind hf
      refine va_calli (va_runS (As := [.int o1]) (rest := []) ⟨hx, hb, hml, hown, htx⟩ (gM_hex l hl9 D cT aK aV H.size n o1 o4 hq5) ⟨callB_of 1 htx (xw_goodC kw_6_57) rfl rfl rfl (htx _ kw_1_5) (htx _ kw_6_55) ⟨by decide, by decide, by decide +kernel⟩ ⟨Nat.le_of_ble_eq_true rfl, Nat.le_of_ble_eq_true rfl⟩, htx _ kw_6_56⟩ ⟨xPre_blind, (fun U hU hW => ⟨rfl, xPre_of hZ hS (xm_free0 hS hA) xm_Pnil xm_Dnil hK U hU hW⟩)⟩ rfl rfl hl.1 rfl (lv_room (Nat.le_of_ble_eq_true rfl)) dM_escaped_181 ⟨(hm0.1), (hm0.2)⟩) hS (fun q _ h => xm_free0 hS hA q h) (xm_free0 hS hA) (fun r6 u9 t H1 locs ht hvm hr9 hB hz1 hk1 hS => ?_)
      replace hP := xm_keep hP hk1
      generalize H1 = H at hP hS ⊢
      rw [hr9]
      refine W.eq (g2 := F0 m 184 ls [.int o4]) (by first | rfl | rw [xv1 (Nat.succ_ne_zero _)]) ?_
      refine lv_if_ge (tgt := 195) hx hb dM_escaped_184 (by decide) (fun hc => ?_) (fun hc => ?_)
      · rw [if_pos hc] at hf
        refine lv_bipush (v := 16) hx hb dM_escaped_195 (by decide) ?_
        refine lv_iload_n hx hb dM_escaped_197 rfl (lv_at hl 1 rfl) ?_
        refine lv_imul hx hb dM_escaped_198 ?_
        refine lv_aload_n hx hb dM_escaped_199 rfl (lv_at hl 3 rfl) ?_
        obtain ⟨o7, hq8, hf⟩ := xbind hf
        have hFc := xm_free hD hS hA
        refine va_calli (va_runV (C := "ValueBenchModel") (As := []) (rest := [.int ((16 : Int32) * y3)]) ⟨hx, hb, hml, hown, htx⟩ (gM_peek l hl9 D cT aK aV H.size n aM adL rd gdL vadL ws9 o7 hq8) ⟨callB_of 0 htx (xw_goodC kw_5_233) rfl rfl rfl (htx _ kw_1_5) (htx _ kw_5_230) ⟨by decide, by decide, by decide +kernel⟩ ⟨Nat.le_of_ble_eq_true rfl, Nat.le_of_ble_eq_true rfl⟩, (htx _ kw_5_232), (htx _ kp_M_peek)⟩ ⟨xPre_blind, va_recv hK hP (ci := 5) rfl (q0 := 0) rfl, (fun U hU hW => ⟨rfl, xPre_of hZ hS hFc hP hD hK U hU hW⟩)⟩ rfl rfl hl.1 rfl (xm_room (Nat.le_of_ble_eq_true rfl)) dM_escaped_200 ⟨hm0.1, hm0.2⟩) hS (fun q _ h => hFc q h) hFc (fun r9 u9 t H1 locs ht hvm hr9 hB hz1 hk1 hS => ?_)
        obtain ⟨hP1, hK1, hD1⟩ := hB
        rw [ht] at hP1
        have hP : va_P D xcl (xMw cT aM adL rd gdL vadL ws9 []) H1 := hP1
        have hD : va_D A (xMw cT aM adL rd gdL vadL ws9 []) := hD1.weaken (fun k q _ h => hFc q.1 h)
        generalize H1 = H at hP hS ⊢
        rw [hr9]
        refine W.eq (g2 := F0 m 203 ls [.int o7, .int ((16 : Int32) * y3)]) (by first | rfl | (skip; rfl)) ?_
        obtain ⟨o10, hq11, hf⟩ := xbind hf
        refine va_calli (va_runS (As := [.int o7]) (rest := [.int ((16 : Int32) * y3)]) ⟨hx, hb, hml, hown, htx⟩ (gM_hex l hl9 D cT aK aV H.size n o7 o10 hq11) ⟨callB_of 1 htx (xw_goodC kw_6_57) rfl rfl rfl (htx _ kw_1_5) (htx _ kw_6_55) ⟨by decide, by decide, by decide +kernel⟩ ⟨Nat.le_of_ble_eq_true rfl, Nat.le_of_ble_eq_true rfl⟩, htx _ kw_6_56⟩ ⟨xPre_blind, (fun U hU hW => ⟨rfl, xPre_of hZ hS (xm_free0 hS hA) xm_Pnil xm_Dnil hK U hU hW⟩)⟩ rfl rfl hl.1 rfl (lv_room (Nat.le_of_ble_eq_true rfl)) dM_escaped_203 ⟨(hm0.1), (hm0.2)⟩) hS (fun q _ h => xm_free0 hS hA q h) (xm_free0 hS hA) (fun r12 u9 t H1 locs ht hvm hr9 hB hz1 hk1 hS => ?_)
        replace hP := xm_keep hP hk1
        generalize H1 = H at hP hS ⊢
        rw [hr9]
        refine W.eq (g2 := F0 m 206 ls [.int o10, .int ((16 : Int32) * y3)]) (by first | rfl | rw [xv1 (Nat.succ_ne_zero _)]) ?_
        refine lv_iadd hx hb dM_escaped_206 ?_
        refine lv_istore_n (lv' := [(3, .int (((16 : Int32) * y3) + o10)), (4, .int y4), (2, .int y2), (0, .ref aM), (1, .int y1)]) hx hb dM_escaped_207 rfl hl (by decide) rfl (fun ls hl => ?_)
        refine lv_aload_n hx hb dM_escaped_208 rfl (lv_at hl 3 rfl) ?_
        refine lv_dup hx hb dM_escaped_209 rfl ?_
        refine xm_get (v := .int (xsi ws9 16)) hx hb htx hown hK hP 16 (by decide) rfl (htx _ kw_5_103) rfl dM_escaped_210 ?_
        refine lv_iconst (v := 1) hx hb dM_escaped_213 (by decide) ?_
        refine lv_iadd hx hb dM_escaped_214 ?_
        refine xm_put (v := .int ((xsi ws9 16) + (1 : Int32))) (W' := (xMw cT aM adL rd gdL vadL (xsI ws9 16 ((xsi ws9 16) + (1 : Int32))) [])) (ty := .int) hx hb htx hown hK hP hD hS 16 (by decide) rfl (htx _ kw_5_103) rfl rfl (by decide +kernel) rfl rfl dM_escaped_215 (fun H locs hP hD hS => ?_)
        refine lv_iinc (v := (y4 + 1)) (lv' := [(4, .int (y4 + 1)), (3, .int (((16 : Int32) * y3) + o10)), (2, .int y2), (0, .ref aM), (1, .int y1)]) hx hb dM_escaped_218 hl (k := 1) rfl rfl (by decide) rfl (fun ls hl => ?_)
        refine lv_goto (tgt := 171) hx hb dM_escaped_221 (by decide) ?_
        exact ih (1, (y4 + 1), (((16 : Int32) * y3) + o10), y2, y1, (xsI ws9 16 ((xsi ws9 16) + (1 : Int32))), wc, wn) _ _ ls (⟨adL, gdL, vadL, rfl, hf, hP, hD, hS, lv_sub hl [0, 1, 2, 3, 4] rfl, hE, hN⟩)
      · rw [if_neg hc] at hf
        refine lv_aload_n hx hb dM_escaped_187 rfl (lv_at hl 3 rfl) ?_
        refine lv_aload_n hx hb dM_escaped_188 rfl (lv_at hl 3 rfl) ?_
        refine xm_get (v := .int (xsi ws9 16)) hx hb htx hown hK hP 16 (by decide) rfl (htx _ kw_5_103) rfl dM_escaped_189 ?_
        obtain ⟨o7, hq8, hf⟩ := xbind hf
        by_cases hk9 : o7.1 = 1
        · rw [if_pos hk9] at hf
          obtain ⟨hm10, hf⟩ := xmoE hf
          obtain rfl := Option.some.inj hf
          exact absurd (show (1 : Nat) = 0 from hkd) (by decide)
        rw [if_neg hk9] at hf
        exact nomatch hf
  refine lv_aload_n hx hb dM_escaped_0 rfl (lv_at hl 0 rfl) ?_
  obtain ⟨o1, hq2, hf⟩ := xbind hf
  have hFc := xm_free hD hS hA
  refine va_calli (va_runV (C := "ValueBenchModel") (As := []) (rest := []) ⟨hx, hb, hml, hown, htx⟩ (gM_peek l hl9 D cT aK aV s.heap.size n aM ad rd gd vad st o1 hq2) ⟨callB_of 0 htx (xw_goodC kw_5_233) rfl rfl rfl (htx _ kw_1_5) (htx _ kw_5_230) ⟨by decide, by decide, by decide +kernel⟩ ⟨Nat.le_of_ble_eq_true rfl, Nat.le_of_ble_eq_true rfl⟩, (htx _ kw_5_232), (htx _ kp_M_peek)⟩ ⟨xPre_blind, va_recv hK hP (ci := 5) rfl (q0 := 0) rfl, (fun U hU hW => ⟨rfl, xPre_of hZ hS hFc hP hD hK U hU hW⟩)⟩ rfl rfl hl.1 rfl (xm_room (Nat.le_of_ble_eq_true rfl)) dM_escaped_1 ⟨Nat.zero_le _, Nat.zero_le _⟩) hS (fun q _ h => hFc q h) hFc (fun r3 u9 t H1 locs ht hvm hr9 hB hz1 hk1 hS => ?_)
  obtain ⟨hP1, hK1, hD1⟩ := hB
  rw [ht] at hP1
  have hP : va_P D xcl (xMw cT aM ad rd gd vad st []) H1 := hP1
  have hD : va_D A (xMw cT aM ad rd gd vad st []) := hD1.weaken (fun k q _ h => hFc q.1 h)
  generalize H1 = H at hP hS ⊢
  rw [hr9]
  refine W.eq (g2 := F0 m 4 ls [.int o1]) (by first | rfl | (skip; rfl)) ?_
  refine lv_istore_n (lv' := [(2, .int o1), (0, .ref aM), (1, .int x0)]) hx hb dM_escaped_4 rfl hl (by decide) rfl (fun ls hl => ?_)
  refine lv_iload_n hx hb dM_escaped_5 rfl (lv_at hl 0 rfl) ?_
  refine lv_if_ge (tgt := 17) hx hb dM_escaped_6 (by decide) (fun hc => ?_) (fun hc => ?_)
  · rw [if_pos hc] at hf
    refine lv_aload_n hx hb dM_escaped_17 rfl (lv_at hl 1 rfl) ?_
    refine lv_dup hx hb dM_escaped_18 rfl ?_
    refine xm_get (v := .int (xsi st 16)) hx hb htx hown hK hP 16 (by decide) rfl (htx _ kw_5_103) rfl dM_escaped_19 ?_
    refine lv_iconst (v := 1) hx hb dM_escaped_22 (by decide) ?_
    refine lv_iadd hx hb dM_escaped_23 ?_
    refine xm_put (v := .int ((xsi st 16) + (1 : Int32))) (W' := (xMw cT aM ad rd gd vad (xsI st 16 ((xsi st 16) + (1 : Int32))) [])) (ty := .int) hx hb htx hown hK hP hD hS 16 (by decide) rfl (htx _ kw_5_103) rfl rfl (by decide +kernel) rfl rfl dM_escaped_24 (fun H locs hP hD hS => ?_)
    refine lv_iload_n hx hb dM_escaped_27 rfl (lv_at hl 0 rfl) ?_
    by_cases hc4 : o1 = 34
    · rw [if_pos hc4] at hf
      refine lv_lookup (off := 84) (tgt := 112) hx hb dM_escaped_28 (by decide) (by rw [hc4]; decide) (by decide) ?_
      refine lv_aload_n hx hb dM_escaped_112 rfl (lv_at hl 1 rfl) ?_
      refine lv_iload_n hx hb dM_escaped_113 rfl (lv_at hl 0 rfl) ?_
      obtain ⟨o5, hq6, hf⟩ := xbind hf
      obtain ⟨hm7, hf⟩ := xmoE hf
      have hFc := xm_free hD hS hA
      refine va_callv (va_runV (C := "ValueBenchModel") (As := [.int o1]) (rest := []) ⟨hx, hb, hml, hown, htx⟩ (gM_letter l hl9 D cT aK aV H.size n aM ad rd gd vad (xsI st 16 ((xsi st 16) + (1 : Int32))) o1 o5 hq6) ⟨callB_of 1 htx (xw_goodC kw_6_54) rfl rfl rfl (htx _ kw_1_5) (htx _ kw_6_51) ⟨by decide, by decide, by decide +kernel⟩ ⟨Nat.le_of_ble_eq_true rfl, Nat.le_of_ble_eq_true rfl⟩, (htx _ kw_6_53), (htx _ kp_M_letter)⟩ ⟨xPre_blind, va_recv hK hP (ci := 5) rfl (q0 := 0) rfl, (fun U hU hW => ⟨rfl, xPre_of hZ hS hFc hP hD hK U hU hW⟩)⟩ rfl rfl hl.1 rfl (xm_room (Nat.le_of_ble_eq_true rfl)) dM_escaped_114 ⟨hm7.1, hm7.2⟩) hS (fun q _ h => hFc q h) hFc (fun u9 t H1 locs ht hvm hr9 hB hz1 hk1 hS => ?_)
      obtain ⟨hP1, hK1, hD1⟩ := hB
      rw [ht] at hP1
      obtain ⟨ad9, gd10, vad11⟩ := u9
      obtain ⟨hv12, hn13⟩ := hr9
      have hP : va_P D xcl (xMw cT aM ad9 rd gd10 vad11 o5.2.2 []) H1 := hP1
      have hD : va_D A (xMw cT aM ad9 rd gd10 vad11 o5.2.2 []) := hD1.weaken (fun k q _ h => hFc q.1 h)
      generalize H1 = H at hP hS ⊢
      have hE9 : ∀ p, p < xct st → vad11 p = vad p := fun p h => (hv12 p (Nat.lt_of_lt_of_le h hN)).trans (hE p h)
      have hE := hE9
      have hN : xct st ≤ xct o5.2.2 := Nat.le_trans hN hn13
      refine W.eq (g2 := F0 m 117 ls []) (by first | rfl | (skip; rfl)) ?_
      obtain rfl := Option.some.inj hf
      exact W.vret hx hb hr (fun t ht hW => ⟨⟨(ad9, gd10, vad11), rfl, ⟨hE, hN⟩, by rw [ht]; exact hP, va_K.moved hW.alike hK, hD⟩, hS.F ht⟩) hS.2.2 dM_escaped_117
    rw [if_neg hc4] at hf
    by_cases hc14 : o1 = 47
    · rw [if_pos hc14] at hf
      refine lv_lookup (off := 84) (tgt := 112) hx hb dM_escaped_28 (by decide) (by rw [hc14]; decide) (by decide) ?_
      refine lv_aload_n hx hb dM_escaped_112 rfl (lv_at hl 1 rfl) ?_
      refine lv_iload_n hx hb dM_escaped_113 rfl (lv_at hl 0 rfl) ?_
      obtain ⟨o15, hq16, hf⟩ := xbind hf
      obtain ⟨hm17, hf⟩ := xmoE hf
      have hFc := xm_free hD hS hA
      refine va_callv (va_runV (C := "ValueBenchModel") (As := [.int o1]) (rest := []) ⟨hx, hb, hml, hown, htx⟩ (gM_letter l hl9 D cT aK aV H.size n aM ad rd gd vad (xsI st 16 ((xsi st 16) + (1 : Int32))) o1 o15 hq16) ⟨callB_of 1 htx (xw_goodC kw_6_54) rfl rfl rfl (htx _ kw_1_5) (htx _ kw_6_51) ⟨by decide, by decide, by decide +kernel⟩ ⟨Nat.le_of_ble_eq_true rfl, Nat.le_of_ble_eq_true rfl⟩, (htx _ kw_6_53), (htx _ kp_M_letter)⟩ ⟨xPre_blind, va_recv hK hP (ci := 5) rfl (q0 := 0) rfl, (fun U hU hW => ⟨rfl, xPre_of hZ hS hFc hP hD hK U hU hW⟩)⟩ rfl rfl hl.1 rfl (xm_room (Nat.le_of_ble_eq_true rfl)) dM_escaped_114 ⟨hm17.1, hm17.2⟩) hS (fun q _ h => hFc q h) hFc (fun u9 t H1 locs ht hvm hr9 hB hz1 hk1 hS => ?_)
      obtain ⟨hP1, hK1, hD1⟩ := hB
      rw [ht] at hP1
      obtain ⟨ad19, gd20, vad21⟩ := u9
      obtain ⟨hv22, hn23⟩ := hr9
      have hP : va_P D xcl (xMw cT aM ad19 rd gd20 vad21 o15.2.2 []) H1 := hP1
      have hD : va_D A (xMw cT aM ad19 rd gd20 vad21 o15.2.2 []) := hD1.weaken (fun k q _ h => hFc q.1 h)
      generalize H1 = H at hP hS ⊢
      have hE9 : ∀ p, p < xct st → vad21 p = vad p := fun p h => (hv22 p (Nat.lt_of_lt_of_le h hN)).trans (hE p h)
      have hE := hE9
      have hN : xct st ≤ xct o15.2.2 := Nat.le_trans hN hn23
      refine W.eq (g2 := F0 m 117 ls []) (by first | rfl | (skip; rfl)) ?_
      obtain rfl := Option.some.inj hf
      exact W.vret hx hb hr (fun t ht hW => ⟨⟨(ad19, gd20, vad21), rfl, ⟨hE, hN⟩, by rw [ht]; exact hP, va_K.moved hW.alike hK, hD⟩, hS.F ht⟩) hS.2.2 dM_escaped_117
    rw [if_neg hc14] at hf
    by_cases hc24 : o1 = 92
    · rw [if_pos hc24] at hf
      refine lv_lookup (off := 84) (tgt := 112) hx hb dM_escaped_28 (by decide) (by rw [hc24]; decide) (by decide) ?_
      refine lv_aload_n hx hb dM_escaped_112 rfl (lv_at hl 1 rfl) ?_
      refine lv_iload_n hx hb dM_escaped_113 rfl (lv_at hl 0 rfl) ?_
      obtain ⟨o25, hq26, hf⟩ := xbind hf
      obtain ⟨hm27, hf⟩ := xmoE hf
      have hFc := xm_free hD hS hA
      refine va_callv (va_runV (C := "ValueBenchModel") (As := [.int o1]) (rest := []) ⟨hx, hb, hml, hown, htx⟩ (gM_letter l hl9 D cT aK aV H.size n aM ad rd gd vad (xsI st 16 ((xsi st 16) + (1 : Int32))) o1 o25 hq26) ⟨callB_of 1 htx (xw_goodC kw_6_54) rfl rfl rfl (htx _ kw_1_5) (htx _ kw_6_51) ⟨by decide, by decide, by decide +kernel⟩ ⟨Nat.le_of_ble_eq_true rfl, Nat.le_of_ble_eq_true rfl⟩, (htx _ kw_6_53), (htx _ kp_M_letter)⟩ ⟨xPre_blind, va_recv hK hP (ci := 5) rfl (q0 := 0) rfl, (fun U hU hW => ⟨rfl, xPre_of hZ hS hFc hP hD hK U hU hW⟩)⟩ rfl rfl hl.1 rfl (xm_room (Nat.le_of_ble_eq_true rfl)) dM_escaped_114 ⟨hm27.1, hm27.2⟩) hS (fun q _ h => hFc q h) hFc (fun u9 t H1 locs ht hvm hr9 hB hz1 hk1 hS => ?_)
      obtain ⟨hP1, hK1, hD1⟩ := hB
      rw [ht] at hP1
      obtain ⟨ad29, gd30, vad31⟩ := u9
      obtain ⟨hv32, hn33⟩ := hr9
      have hP : va_P D xcl (xMw cT aM ad29 rd gd30 vad31 o25.2.2 []) H1 := hP1
      have hD : va_D A (xMw cT aM ad29 rd gd30 vad31 o25.2.2 []) := hD1.weaken (fun k q _ h => hFc q.1 h)
      generalize H1 = H at hP hS ⊢
      have hE9 : ∀ p, p < xct st → vad31 p = vad p := fun p h => (hv32 p (Nat.lt_of_lt_of_le h hN)).trans (hE p h)
      have hE := hE9
      have hN : xct st ≤ xct o25.2.2 := Nat.le_trans hN hn33
      refine W.eq (g2 := F0 m 117 ls []) (by first | rfl | (skip; rfl)) ?_
      obtain rfl := Option.some.inj hf
      exact W.vret hx hb hr (fun t ht hW => ⟨⟨(ad29, gd30, vad31), rfl, ⟨hE, hN⟩, by rw [ht]; exact hP, va_K.moved hW.alike hK, hD⟩, hS.F ht⟩) hS.2.2 dM_escaped_117
    rw [if_neg hc24] at hf
    by_cases hc34 : o1 = 98
    · rw [if_pos hc34] at hf
      refine lv_lookup (off := 90) (tgt := 118) hx hb dM_escaped_28 (by decide) (by rw [hc34]; decide) (by decide) ?_
      refine lv_aload_n hx hb dM_escaped_118 rfl (lv_at hl 1 rfl) ?_
      refine lv_bipush (v := 8) hx hb dM_escaped_119 (by decide) ?_
      obtain ⟨o35, hq36, hf⟩ := xbind hf
      obtain ⟨hm37, hf⟩ := xmoE hf
      have hFc := xm_free hD hS hA
      refine va_callv (va_runV (C := "ValueBenchModel") (As := [.int 8]) (rest := []) ⟨hx, hb, hml, hown, htx⟩ (gM_letter l hl9 D cT aK aV H.size n aM ad rd gd vad (xsI st 16 ((xsi st 16) + (1 : Int32))) (8 : Int32) o35 hq36) ⟨callB_of 1 htx (xw_goodC kw_6_54) rfl rfl rfl (htx _ kw_1_5) (htx _ kw_6_51) ⟨by decide, by decide, by decide +kernel⟩ ⟨Nat.le_of_ble_eq_true rfl, Nat.le_of_ble_eq_true rfl⟩, (htx _ kw_6_53), (htx _ kp_M_letter)⟩ ⟨xPre_blind, va_recv hK hP (ci := 5) rfl (q0 := 0) rfl, (fun U hU hW => ⟨rfl, xPre_of hZ hS hFc hP hD hK U hU hW⟩)⟩ rfl rfl hl.1 rfl (xm_room (Nat.le_of_ble_eq_true rfl)) dM_escaped_121 ⟨hm37.1, hm37.2⟩) hS (fun q _ h => hFc q h) hFc (fun u9 t H1 locs ht hvm hr9 hB hz1 hk1 hS => ?_)
      obtain ⟨hP1, hK1, hD1⟩ := hB
      rw [ht] at hP1
      obtain ⟨ad39, gd40, vad41⟩ := u9
      obtain ⟨hv42, hn43⟩ := hr9
      have hP : va_P D xcl (xMw cT aM ad39 rd gd40 vad41 o35.2.2 []) H1 := hP1
      have hD : va_D A (xMw cT aM ad39 rd gd40 vad41 o35.2.2 []) := hD1.weaken (fun k q _ h => hFc q.1 h)
      generalize H1 = H at hP hS ⊢
      have hE9 : ∀ p, p < xct st → vad41 p = vad p := fun p h => (hv42 p (Nat.lt_of_lt_of_le h hN)).trans (hE p h)
      have hE := hE9
      have hN : xct st ≤ xct o35.2.2 := Nat.le_trans hN hn43
      refine W.eq (g2 := F0 m 124 ls []) (by first | rfl | (skip; rfl)) ?_
      obtain rfl := Option.some.inj hf
      exact W.vret hx hb hr (fun t ht hW => ⟨⟨(ad39, gd40, vad41), rfl, ⟨hE, hN⟩, by rw [ht]; exact hP, va_K.moved hW.alike hK, hD⟩, hS.F ht⟩) hS.2.2 dM_escaped_124
    rw [if_neg hc34] at hf
    by_cases hc44 : o1 = 102
    · rw [if_pos hc44] at hf
      refine lv_lookup (off := 97) (tgt := 125) hx hb dM_escaped_28 (by decide) (by rw [hc44]; decide) (by decide) ?_
      refine lv_aload_n hx hb dM_escaped_125 rfl (lv_at hl 1 rfl) ?_
      refine lv_bipush (v := 12) hx hb dM_escaped_126 (by decide) ?_
      obtain ⟨o45, hq46, hf⟩ := xbind hf
      obtain ⟨hm47, hf⟩ := xmoE hf
      have hFc := xm_free hD hS hA
      refine va_callv (va_runV (C := "ValueBenchModel") (As := [.int 12]) (rest := []) ⟨hx, hb, hml, hown, htx⟩ (gM_letter l hl9 D cT aK aV H.size n aM ad rd gd vad (xsI st 16 ((xsi st 16) + (1 : Int32))) (12 : Int32) o45 hq46) ⟨callB_of 1 htx (xw_goodC kw_6_54) rfl rfl rfl (htx _ kw_1_5) (htx _ kw_6_51) ⟨by decide, by decide, by decide +kernel⟩ ⟨Nat.le_of_ble_eq_true rfl, Nat.le_of_ble_eq_true rfl⟩, (htx _ kw_6_53), (htx _ kp_M_letter)⟩ ⟨xPre_blind, va_recv hK hP (ci := 5) rfl (q0 := 0) rfl, (fun U hU hW => ⟨rfl, xPre_of hZ hS hFc hP hD hK U hU hW⟩)⟩ rfl rfl hl.1 rfl (xm_room (Nat.le_of_ble_eq_true rfl)) dM_escaped_128 ⟨hm47.1, hm47.2⟩) hS (fun q _ h => hFc q h) hFc (fun u9 t H1 locs ht hvm hr9 hB hz1 hk1 hS => ?_)
      obtain ⟨hP1, hK1, hD1⟩ := hB
      rw [ht] at hP1
      obtain ⟨ad49, gd50, vad51⟩ := u9
      obtain ⟨hv52, hn53⟩ := hr9
      have hP : va_P D xcl (xMw cT aM ad49 rd gd50 vad51 o45.2.2 []) H1 := hP1
      have hD : va_D A (xMw cT aM ad49 rd gd50 vad51 o45.2.2 []) := hD1.weaken (fun k q _ h => hFc q.1 h)
      generalize H1 = H at hP hS ⊢
      have hE9 : ∀ p, p < xct st → vad51 p = vad p := fun p h => (hv52 p (Nat.lt_of_lt_of_le h hN)).trans (hE p h)
      have hE := hE9
      have hN : xct st ≤ xct o45.2.2 := Nat.le_trans hN hn53
      refine W.eq (g2 := F0 m 131 ls []) (by first | rfl | (skip; rfl)) ?_
      obtain rfl := Option.some.inj hf
      exact W.vret hx hb hr (fun t ht hW => ⟨⟨(ad49, gd50, vad51), rfl, ⟨hE, hN⟩, by rw [ht]; exact hP, va_K.moved hW.alike hK, hD⟩, hS.F ht⟩) hS.2.2 dM_escaped_131
    rw [if_neg hc44] at hf
    by_cases hc54 : o1 = 110
    · rw [if_pos hc54] at hf
      refine lv_lookup (off := 104) (tgt := 132) hx hb dM_escaped_28 (by decide) (by rw [hc54]; decide) (by decide) ?_
      refine lv_aload_n hx hb dM_escaped_132 rfl (lv_at hl 1 rfl) ?_
      refine lv_bipush (v := 10) hx hb dM_escaped_133 (by decide) ?_
      obtain ⟨o55, hq56, hf⟩ := xbind hf
      obtain ⟨hm57, hf⟩ := xmoE hf
      have hFc := xm_free hD hS hA
      refine va_callv (va_runV (C := "ValueBenchModel") (As := [.int 10]) (rest := []) ⟨hx, hb, hml, hown, htx⟩ (gM_letter l hl9 D cT aK aV H.size n aM ad rd gd vad (xsI st 16 ((xsi st 16) + (1 : Int32))) (10 : Int32) o55 hq56) ⟨callB_of 1 htx (xw_goodC kw_6_54) rfl rfl rfl (htx _ kw_1_5) (htx _ kw_6_51) ⟨by decide, by decide, by decide +kernel⟩ ⟨Nat.le_of_ble_eq_true rfl, Nat.le_of_ble_eq_true rfl⟩, (htx _ kw_6_53), (htx _ kp_M_letter)⟩ ⟨xPre_blind, va_recv hK hP (ci := 5) rfl (q0 := 0) rfl, (fun U hU hW => ⟨rfl, xPre_of hZ hS hFc hP hD hK U hU hW⟩)⟩ rfl rfl hl.1 rfl (xm_room (Nat.le_of_ble_eq_true rfl)) dM_escaped_135 ⟨hm57.1, hm57.2⟩) hS (fun q _ h => hFc q h) hFc (fun u9 t H1 locs ht hvm hr9 hB hz1 hk1 hS => ?_)
      obtain ⟨hP1, hK1, hD1⟩ := hB
      rw [ht] at hP1
      obtain ⟨ad59, gd60, vad61⟩ := u9
      obtain ⟨hv62, hn63⟩ := hr9
      have hP : va_P D xcl (xMw cT aM ad59 rd gd60 vad61 o55.2.2 []) H1 := hP1
      have hD : va_D A (xMw cT aM ad59 rd gd60 vad61 o55.2.2 []) := hD1.weaken (fun k q _ h => hFc q.1 h)
      generalize H1 = H at hP hS ⊢
      have hE9 : ∀ p, p < xct st → vad61 p = vad p := fun p h => (hv62 p (Nat.lt_of_lt_of_le h hN)).trans (hE p h)
      have hE := hE9
      have hN : xct st ≤ xct o55.2.2 := Nat.le_trans hN hn63
      refine W.eq (g2 := F0 m 138 ls []) (by first | rfl | (skip; rfl)) ?_
      obtain rfl := Option.some.inj hf
      exact W.vret hx hb hr (fun t ht hW => ⟨⟨(ad59, gd60, vad61), rfl, ⟨hE, hN⟩, by rw [ht]; exact hP, va_K.moved hW.alike hK, hD⟩, hS.F ht⟩) hS.2.2 dM_escaped_138
    rw [if_neg hc54] at hf
    by_cases hc64 : o1 = 114
    · rw [if_pos hc64] at hf
      refine lv_lookup (off := 111) (tgt := 139) hx hb dM_escaped_28 (by decide) (by rw [hc64]; decide) (by decide) ?_
      refine lv_aload_n hx hb dM_escaped_139 rfl (lv_at hl 1 rfl) ?_
      refine lv_bipush (v := 13) hx hb dM_escaped_140 (by decide) ?_
      obtain ⟨o65, hq66, hf⟩ := xbind hf
      obtain ⟨hm67, hf⟩ := xmoE hf
      have hFc := xm_free hD hS hA
      refine va_callv (va_runV (C := "ValueBenchModel") (As := [.int 13]) (rest := []) ⟨hx, hb, hml, hown, htx⟩ (gM_letter l hl9 D cT aK aV H.size n aM ad rd gd vad (xsI st 16 ((xsi st 16) + (1 : Int32))) (13 : Int32) o65 hq66) ⟨callB_of 1 htx (xw_goodC kw_6_54) rfl rfl rfl (htx _ kw_1_5) (htx _ kw_6_51) ⟨by decide, by decide, by decide +kernel⟩ ⟨Nat.le_of_ble_eq_true rfl, Nat.le_of_ble_eq_true rfl⟩, (htx _ kw_6_53), (htx _ kp_M_letter)⟩ ⟨xPre_blind, va_recv hK hP (ci := 5) rfl (q0 := 0) rfl, (fun U hU hW => ⟨rfl, xPre_of hZ hS hFc hP hD hK U hU hW⟩)⟩ rfl rfl hl.1 rfl (xm_room (Nat.le_of_ble_eq_true rfl)) dM_escaped_142 ⟨hm67.1, hm67.2⟩) hS (fun q _ h => hFc q h) hFc (fun u9 t H1 locs ht hvm hr9 hB hz1 hk1 hS => ?_)
      obtain ⟨hP1, hK1, hD1⟩ := hB
      rw [ht] at hP1
      obtain ⟨ad69, gd70, vad71⟩ := u9
      obtain ⟨hv72, hn73⟩ := hr9
      have hP : va_P D xcl (xMw cT aM ad69 rd gd70 vad71 o65.2.2 []) H1 := hP1
      have hD : va_D A (xMw cT aM ad69 rd gd70 vad71 o65.2.2 []) := hD1.weaken (fun k q _ h => hFc q.1 h)
      generalize H1 = H at hP hS ⊢
      have hE9 : ∀ p, p < xct st → vad71 p = vad p := fun p h => (hv72 p (Nat.lt_of_lt_of_le h hN)).trans (hE p h)
      have hE := hE9
      have hN : xct st ≤ xct o65.2.2 := Nat.le_trans hN hn73
      refine W.eq (g2 := F0 m 145 ls []) (by first | rfl | (skip; rfl)) ?_
      obtain rfl := Option.some.inj hf
      exact W.vret hx hb hr (fun t ht hW => ⟨⟨(ad69, gd70, vad71), rfl, ⟨hE, hN⟩, by rw [ht]; exact hP, va_K.moved hW.alike hK, hD⟩, hS.F ht⟩) hS.2.2 dM_escaped_145
    rw [if_neg hc64] at hf
    by_cases hc74 : o1 = 116
    · rw [if_pos hc74] at hf
      refine lv_lookup (off := 118) (tgt := 146) hx hb dM_escaped_28 (by decide) (by rw [hc74]; decide) (by decide) ?_
      refine lv_aload_n hx hb dM_escaped_146 rfl (lv_at hl 1 rfl) ?_
      refine lv_bipush (v := 9) hx hb dM_escaped_147 (by decide) ?_
      obtain ⟨o75, hq76, hf⟩ := xbind hf
      obtain ⟨hm77, hf⟩ := xmoE hf
      have hFc := xm_free hD hS hA
      refine va_callv (va_runV (C := "ValueBenchModel") (As := [.int 9]) (rest := []) ⟨hx, hb, hml, hown, htx⟩ (gM_letter l hl9 D cT aK aV H.size n aM ad rd gd vad (xsI st 16 ((xsi st 16) + (1 : Int32))) (9 : Int32) o75 hq76) ⟨callB_of 1 htx (xw_goodC kw_6_54) rfl rfl rfl (htx _ kw_1_5) (htx _ kw_6_51) ⟨by decide, by decide, by decide +kernel⟩ ⟨Nat.le_of_ble_eq_true rfl, Nat.le_of_ble_eq_true rfl⟩, (htx _ kw_6_53), (htx _ kp_M_letter)⟩ ⟨xPre_blind, va_recv hK hP (ci := 5) rfl (q0 := 0) rfl, (fun U hU hW => ⟨rfl, xPre_of hZ hS hFc hP hD hK U hU hW⟩)⟩ rfl rfl hl.1 rfl (xm_room (Nat.le_of_ble_eq_true rfl)) dM_escaped_149 ⟨hm77.1, hm77.2⟩) hS (fun q _ h => hFc q h) hFc (fun u9 t H1 locs ht hvm hr9 hB hz1 hk1 hS => ?_)
      obtain ⟨hP1, hK1, hD1⟩ := hB
      rw [ht] at hP1
      obtain ⟨ad79, gd80, vad81⟩ := u9
      obtain ⟨hv82, hn83⟩ := hr9
      have hP : va_P D xcl (xMw cT aM ad79 rd gd80 vad81 o75.2.2 []) H1 := hP1
      have hD : va_D A (xMw cT aM ad79 rd gd80 vad81 o75.2.2 []) := hD1.weaken (fun k q _ h => hFc q.1 h)
      generalize H1 = H at hP hS ⊢
      have hE9 : ∀ p, p < xct st → vad81 p = vad p := fun p h => (hv82 p (Nat.lt_of_lt_of_le h hN)).trans (hE p h)
      have hE := hE9
      have hN : xct st ≤ xct o75.2.2 := Nat.le_trans hN hn83
      refine W.eq (g2 := F0 m 152 ls []) (by first | rfl | (skip; rfl)) ?_
      obtain rfl := Option.some.inj hf
      exact W.vret hx hb hr (fun t ht hW => ⟨⟨(ad79, gd80, vad81), rfl, ⟨hE, hN⟩, by rw [ht]; exact hP, va_K.moved hW.alike hK, hD⟩, hS.F ht⟩) hS.2.2 dM_escaped_152
    rw [if_neg hc74] at hf
    by_cases hc84 : o1 = 117
    · rw [if_pos hc84] at hf
      refine lv_lookup (off := 125) (tgt := 153) hx hb dM_escaped_28 (by decide) (by rw [hc84]; decide) (by decide) ?_
      refine lv_goto (tgt := 166) hx hb dM_escaped_153 (by decide) ?_
      refine lv_iconst (v := 0) hx hb dM_escaped_166 (by decide) ?_
      refine lv_istore_n (lv' := [(3, .int 0), (2, .int o1), (0, .ref aM), (1, .int x0)]) hx hb dM_escaped_167 rfl hl (by decide) rfl (fun ls hl => ?_)
      refine lv_iconst (v := 0) hx hb dM_escaped_168 (by decide) ?_
      refine lv_istore (lv' := [(4, .int 0), (3, .int 0), (2, .int o1), (0, .ref aM), (1, .int x0)]) hx hb dM_escaped_169 hl (by decide) rfl (fun ls hl => ?_)
      exact key n (1, (0 : Int32), (0 : Int32), o1, x0, (xsI st 16 ((xsi st 16) + (1 : Int32))), 0, 0) _ _ ls (⟨ad, gd, vad, rfl, hf, hP, hD, hS, lv_sub hl [0, 1, 2, 3, 4] rfl, hE, hN⟩)
    rw [if_neg hc84] at hf
    refine lv_lookup (off := 128) (tgt := 156) hx hb dM_escaped_28 (by decide) (by have e0 : o1.toInt ≠ 34 := xsw hc4 (by decide); have e1 : o1.toInt ≠ 47 := xsw hc14 (by decide); have e2 : o1.toInt ≠ 92 := xsw hc24 (by decide); have e3 : o1.toInt ≠ 98 := xsw hc34 (by decide); have e4 : o1.toInt ≠ 102 := xsw hc44 (by decide); have e5 : o1.toInt ≠ 110 := xsw hc54 (by decide); have e6 : o1.toInt ≠ 114 := xsw hc64 (by decide); have e7 : o1.toInt ≠ 116 := xsw hc74 (by decide); have e8 : o1.toInt ≠ 117 := xsw hc84 (by decide); simp [Op.lookupswitch.offset, e0, Ne.symm e0, e1, Ne.symm e1, e2, Ne.symm e2, e3, Ne.symm e3, e4, Ne.symm e4, e5, Ne.symm e5, e6, Ne.symm e6, e7, Ne.symm e7, e8, Ne.symm e8]) (by decide) ?_
    refine lv_aload_n hx hb dM_escaped_156 rfl (lv_at hl 1 rfl) ?_
    refine lv_aload_n hx hb dM_escaped_157 rfl (lv_at hl 1 rfl) ?_
    refine xm_get (v := .int ((xsi st 16) + (1 : Int32))) hx hb htx hown hK hP 16 (by decide) rfl (htx _ kw_5_103) rfl dM_escaped_158 ?_
    refine lv_iconst (v := 1) hx hb dM_escaped_161 (by decide) ?_
    refine lv_isub hx hb dM_escaped_162 ?_
    obtain ⟨o85, hq86, hf⟩ := xbind hf
    by_cases hk87 : o85.1 = 1
    · rw [if_pos hk87] at hf
      obtain ⟨hm88, hf⟩ := xmoE hf
      obtain rfl := Option.some.inj hf
      exact absurd (show (1 : Nat) = 0 from hkd) (by decide)
    rw [if_neg hk87] at hf
    exact nomatch hf
  · rw [if_neg hc] at hf
    refine lv_aload_n hx hb dM_escaped_9 rfl (lv_at hl 1 rfl) ?_
    refine lv_aload_n hx hb dM_escaped_10 rfl (lv_at hl 1 rfl) ?_
    refine xm_get (v := .int (xsi st 16)) hx hb htx hown hK hP 16 (by decide) rfl (htx _ kw_5_103) rfl dM_escaped_11 ?_
    obtain ⟨o4, hq5, hf⟩ := xbind hf
    by_cases hk6 : o4.1 = 1
    · rw [if_pos hk6] at hf
      obtain ⟨hm7, hf⟩ := xmoE hf
      obtain rfl := Option.some.inj hf
      exact absurd (show (1 : Nat) = 0 from hkd) (by decide)
    rw [if_neg hk6] at hf
    exact nomatch hf
set_option maxHeartbeats 400000000 in
set_option maxRecDepth 100000 in
theorem gM_escaped_1 (l : Launch) (hl9 : l.stackTraces = false) (D : va_G) (cT : Nat → ClassId) (aK aV : Nat → Nat) (sz n : Nat) (aM : Nat) (ad rd gd vad : Nat → Nat) (st : xS) (x0 : Int32) (out : Nat × Nat × Nat × xS) (hf : fM_escaped n st x0 = some out) (hkd : out.1 = 1) : xMetY l yM_escaped wyM_escaped 7 out.2.1 out.2.2.1 121 D cT aK aV sz [.ref aM, .int x0] (xMw cT aM ad rd gd vad st []) "java/lang/UnsupportedOperationException" (fun u => xE vad st out.2.2.2 u) (fun A u t => xB D xcl cT A (xMw cT aM u.1 rd u.2.1 u.2.2 out.2.2.2 []) t) := by
  refine vx_ofW (cc := prog_13_method_37_code) (maxL := 5) (ret := none) (by decide) rfl ?_
  intro p e s m args below meth c s₁ B hml hne hv
  obtain ⟨rfl, hsz, hZ, hP, hK, hD0⟩ := hv
  have hx := B.exec
  have hb := B.bytes
  have hr := B.returns
  have hts := atoms_spec (ws := wyM_escaped) B.pre
  have htx := fun w h => hts w (List.mem_cons_of_mem _ h)
  have hown : s.vm.findClass "ValueBenchModel" = some m.cls := findClass_of_methodNamed B.named
  have hlocks := B.notSynchronized
  subst hsz
  have hD := hD0.self (sz := s.heap.size)
  generalize hAe : va_A (xMw cT aM ad rd gd vad st []) s.heap.size = A at hD hZ ⊢
  have hA : ∀ q : Nat, s.heap.size ≤ q → A q := fun q h => by rw [← hAe]; exact Or.inr h
  have hS : va_S A s.heap s.heap [] := va_S.rf
  have hl := lv_entry ([.ref aM, .int x0]) (n := 5) (by simp [lg_sl, xvcat, xrscat, xcI, xcL, xcR, xcN])
  rw [show lv_args 0 [.ref aM, .int x0] = [(0, .ref aM), (1, .int x0)] from by simp [lv_args, xvcat, xrscat, xcI, xcL, xcR, xcN]] at hl
  rw [lg_entry_eq]
  generalize (lg_sl ([.ref aM, .int x0]) ++ List.replicate (5 - (lg_sl ([.ref aM, .int x0])).length) Slot.unset).toArray = ls at hl ⊢
  have hl : lv_has ls 5 [(0, .ref aM), (1, .int x0)] := hl
  have hE : ∀ p, p < xct st → vad p = vad p := fun _ _ => rfl
  have hN : xct st ≤ xct st := Nat.le_refl _
  unfold fM_escaped at hf
  refine xloopM (σ := Nat × Int32 × Int32 × Int32 × Int32 × xS × Nat × Nat) (fun n x H locs ls => (∃ (adL gdL vadL : Nat → Nat), x.1 = 1 ∧ fM_escaped_b n x.1 x.2.1 x.2.2.1 x.2.2.2.1 x.2.2.2.2.1 x.2.2.2.2.2.1 x.2.2.2.2.2.2.1 x.2.2.2.2.2.2.2 = some out ∧ va_P D xcl (xMw cT aM adL rd gdL vadL x.2.2.2.2.2.1 []) H ∧ va_D A (xMw cT aM adL rd gdL vadL x.2.2.2.2.2.1 []) ∧ va_S A s.heap H locs ∧ lv_has ls 5 [(4, .int x.2.1), (3, .int x.2.2.1), (2, .int x.2.2.2.1), (0, .ref aM), (1, .int x.2.2.2.2.1)] ∧ (∀ p, p < xct st → vadL p = vad p) ∧ xct st ≤ xct x.2.2.2.2.2.1)) (fun x => 171) (fun x => x.2.2.2.2.2.2.1) (fun x => x.2.2.2.2.2.2.2) (fun x H locs ls h => by (obtain ⟨_, _, _, h⟩ := h; exact absurd h.2.1 (by rw [fM_escaped_b]; exact fun h => nomatch h))) (fun n ih x H locs ls hv => ?_) (fun key => ?_)
  · obtain ⟨lb, y4, y3, y2, y1, ws9, wc, wn⟩ := x
    rcases hv with ⟨adL, gdL, vadL, hj, hf, hP, hD, hS, hl, hE, hN⟩
    subst hj
    have hf : fM_escaped_b (n + 1) 1 y4 y3 y2 y1 ws9 wc wn = some out := hf
    rw [fM_escaped_b] at hf
    obtain ⟨hP, hD⟩ : xPD D xcl A (xMw cT aM adL rd gdL vadL ws9 []) H := ⟨hP, hD⟩
    have hl : lv_has ls 5 [(4, .int y4), (3, .int y3), (2, .int y2), (0, .ref aM), (1, .int y1)] := hl
    refine W.eq (g2 := F0 m 171 ls []) rfl ?_
    show W p l e _ s m _ below meth c H locs wc wn _ _
    obtain ⟨hm0, hf⟩ := xmoE hf
    refine lv_iload hx hb dM_escaped_171 (lv_at hl 0 rfl) ?_
    refine lv_iconst (v := 4) hx hb dM_escaped_173 (by decide) ?_
    refine lv_icmp_ge (tgt := 224) hx hb dM_escaped_174 (by decide) (fun hc => ?_) (fun hc => ?_)
    · rw [if_pos hc] at hf
      refine lv_iload_n hx hb dM_escaped_224 rfl (lv_at hl 1 rfl) ?_
      refine lv_bipush (v := 127) hx hb dM_escaped_225 (by decide) ?_
      refine lv_icmp_le (tgt := 235) hx hb dM_escaped_227 (by decide) (fun hc => ?_) (fun hc => ?_)
      · rw [if_pos hc] at hf
        refine lv_aload_n hx hb dM_escaped_235 rfl (lv_at hl 3 rfl) ?_
        refine lv_iload_n hx hb dM_escaped_236 rfl (lv_at hl 1 rfl) ?_
        obtain ⟨o1, hq2, hf⟩ := xbind hf
        obtain ⟨hm3, hf⟩ := xmoE hf
        have hFc := xm_free hD hS hA
        refine va_callv (va_runV (C := "ValueBenchModel") (As := [.int y3]) (rest := []) ⟨hx, hb, hml, hown, htx⟩ (gM_letter l hl9 D cT aK aV H.size n aM adL rd gdL vadL ws9 y3 o1 hq2) ⟨callB_of 1 htx (xw_goodC kw_6_54) rfl rfl rfl (htx _ kw_1_5) (htx _ kw_6_51) ⟨by decide, by decide, by decide +kernel⟩ ⟨Nat.le_of_ble_eq_true rfl, Nat.le_of_ble_eq_true rfl⟩, (htx _ kw_6_53), (htx _ kp_M_letter)⟩ ⟨xPre_blind, va_recv hK hP (ci := 5) rfl (q0 := 0) rfl, (fun U hU hW => ⟨rfl, xPre_of hZ hS hFc hP hD hK U hU hW⟩)⟩ rfl rfl hl.1 rfl (xm_room (Nat.le_of_ble_eq_true rfl)) dM_escaped_237 ⟨hm3.1, hm3.2⟩) hS (fun q _ h => hFc q h) hFc (fun u9 t H1 locs ht hvm hr9 hB hz1 hk1 hS => ?_)
        obtain ⟨hP1, hK1, hD1⟩ := hB
        rw [ht] at hP1
        obtain ⟨ad5, gd6, vad7⟩ := u9
        obtain ⟨hv8, hn9⟩ := hr9
        have hP : va_P D xcl (xMw cT aM ad5 rd gd6 vad7 o1.2.2 []) H1 := hP1
        have hD : va_D A (xMw cT aM ad5 rd gd6 vad7 o1.2.2 []) := hD1.weaken (fun k q _ h => hFc q.1 h)
        generalize H1 = H at hP hS ⊢
        have hE9 : ∀ p, p < xct st → vad7 p = vad p := fun p h => (hv8 p (Nat.lt_of_lt_of_le h hN)).trans (hE p h)
        have hE := hE9
        have hN : xct st ≤ xct o1.2.2 := Nat.le_trans hN hn9
        refine W.eq (g2 := F0 m 240 ls []) (by first | rfl | (skip; rfl)) ?_
        obtain rfl := Option.some.inj hf
        exact absurd (show (0 : Nat) = 1 from hkd) (by decide)
      · rw [if_neg hc] at hf
        refine lv_aload_n hx hb dM_escaped_230 rfl (lv_at hl 3 rfl) ?_
        refine lv_iload_n hx hb dM_escaped_231 rfl (lv_at hl 4 rfl) ?_
        obtain ⟨o1, hq2, hf⟩ := xbind hf
        by_cases hk3 : o1.1 = 1
        · rw [if_pos hk3] at hf
          obtain ⟨hm4, hf⟩ := xmoE hf
          have hFc := xm_free hD hS hA
          refine xx_thr (vx_runV (C := "ValueBenchModel") (As := [.int y1]) (rest := []) ⟨hx, hb, hml, hown, htx⟩ (gM_bad_1 l hl9 D cT aK aV H.size n aM adL rd gdL vadL ws9 y1 o1 hq2 hk3) ⟨callB_of 1 htx (xw_goodC kw_6_2) rfl rfl rfl (htx _ kw_1_5) (htx _ kw_5_239) ⟨by decide, by decide, by decide +kernel⟩ ⟨Nat.le_of_ble_eq_true rfl, Nat.le_of_ble_eq_true rfl⟩, (htx _ kw_6_1), (htx _ kp_M_bad)⟩ ⟨xPre_blind, va_recv hK hP (ci := 5) rfl (q0 := 0) rfl, (fun U hU hW => ⟨rfl, xPre_of hZ hS hFc hP hD hK U hU hW⟩)⟩ rfl rfl hl.1 rfl (xm_room (Nat.le_of_ble_eq_true rfl)) dM_escaped_232 ⟨hm4.1, hm4.2⟩) hS hFc (fun q _ h => hFc q h) (fun E ce q9 u9 t H1 locs ht hvm hr9 hB hz1 hk1 hS hce hcv hcl => ?_)
          obtain ⟨rfl, hP1, hK1, hD1⟩ := hB
          rw [ht] at hP1
          obtain ⟨ad6, gd7, vad8⟩ := u9
          obtain ⟨hv9, hn10⟩ := hr9
          have hP : va_P D xcl (xMw cT aM ad6 rd gd7 vad8 o1.2.2.2 []) H1 := hP1
          have hD : va_D A (xMw cT aM ad6 rd gd7 vad8 o1.2.2.2 []) := hD1.weaken (fun k q _ h => hFc q.1 h)
          generalize H1 = H at hP hS hce ⊢
          have hE9 : ∀ p, p < xct st → vad8 p = vad p := fun p h => (hv9 p (Nat.lt_of_lt_of_le h hN)).trans (hE p h)
          have hE := hE9
          have hN : xct st ≤ xct o1.2.2.2 := Nat.le_trans hN hn10
          obtain rfl := Option.some.inj hf
          exact vx_out (E := "java/lang/UnsupportedOperationException") (fun x h => (hne x h).elim) hlocks hce hcv hcl (fun t ht ha => ⟨(ad6, gd7, vad8), ⟨hE, hN⟩, ⟨rfl, by rw [ht]; exact hP, va_K.moved ha hK, hD⟩, hS.F ht⟩) hS.2.2 (Nat.le_refl _) (Nat.le_refl _)
        rw [if_neg hk3] at hf
        exact nomatch hf
    · rw [if_neg hc] at hf
      refine lv_aload_n hx hb dM_escaped_177 rfl (lv_at hl 3 rfl) ?_
      obtain ⟨o1, hq2, hf⟩ := xbind hf
      have hFc := xm_free hD hS hA
      refine va_calli (va_runV (C := "ValueBenchModel") (As := []) (rest := []) ⟨hx, hb, hml, hown, htx⟩ (gM_peek l hl9 D cT aK aV H.size n aM adL rd gdL vadL ws9 o1 hq2) ⟨callB_of 0 htx (xw_goodC kw_5_233) rfl rfl rfl (htx _ kw_1_5) (htx _ kw_5_230) ⟨by decide, by decide, by decide +kernel⟩ ⟨Nat.le_of_ble_eq_true rfl, Nat.le_of_ble_eq_true rfl⟩, (htx _ kw_5_232), (htx _ kp_M_peek)⟩ ⟨xPre_blind, va_recv hK hP (ci := 5) rfl (q0 := 0) rfl, (fun U hU hW => ⟨rfl, xPre_of hZ hS hFc hP hD hK U hU hW⟩)⟩ rfl rfl hl.1 rfl (xm_room (Nat.le_of_ble_eq_true rfl)) dM_escaped_178 ⟨hm0.1, hm0.2⟩) hS (fun q _ h => hFc q h) hFc (fun r3 u9 t H1 locs ht hvm hr9 hB hz1 hk1 hS => ?_)
      obtain ⟨hP1, hK1, hD1⟩ := hB
      rw [ht] at hP1
      have hP : va_P D xcl (xMw cT aM adL rd gdL vadL ws9 []) H1 := hP1
      have hD : va_D A (xMw cT aM adL rd gdL vadL ws9 []) := hD1.weaken (fun k q _ h => hFc q.1 h)
      generalize H1 = H at hP hS ⊢
      rw [hr9]
      refine W.eq (g2 := F0 m 181 ls [.int o1]) (by first | rfl | (skip; rfl)) ?_
      obtain ⟨o4, hq5, hf⟩ := xbind hf
      refine va_calli (va_runS (As := [.int o1]) (rest := []) ⟨hx, hb, hml, hown, htx⟩ (gM_hex l hl9 D cT aK aV H.size n o1 o4 hq5) ⟨callB_of 1 htx (xw_goodC kw_6_57) rfl rfl rfl (htx _ kw_1_5) (htx _ kw_6_55) ⟨by decide, by decide, by decide +kernel⟩ ⟨Nat.le_of_ble_eq_true rfl, Nat.le_of_ble_eq_true rfl⟩, htx _ kw_6_56⟩ ⟨xPre_blind, (fun U hU hW => ⟨rfl, xPre_of hZ hS (xm_free0 hS hA) xm_Pnil xm_Dnil hK U hU hW⟩)⟩ rfl rfl hl.1 rfl (lv_room (Nat.le_of_ble_eq_true rfl)) dM_escaped_181 ⟨(hm0.1), (hm0.2)⟩) hS (fun q _ h => xm_free0 hS hA q h) (xm_free0 hS hA) (fun r6 u9 t H1 locs ht hvm hr9 hB hz1 hk1 hS => ?_)
      replace hP := xm_keep hP hk1
      generalize H1 = H at hP hS ⊢
      rw [hr9]
      refine W.eq (g2 := F0 m 184 ls [.int o4]) (by first | rfl | rw [xv1 (Nat.succ_ne_zero _)]) ?_
      refine lv_if_ge (tgt := 195) hx hb dM_escaped_184 (by decide) (fun hc => ?_) (fun hc => ?_)
      · rw [if_pos hc] at hf
        refine lv_bipush (v := 16) hx hb dM_escaped_195 (by decide) ?_
        refine lv_iload_n hx hb dM_escaped_197 rfl (lv_at hl 1 rfl) ?_
        refine lv_imul hx hb dM_escaped_198 ?_
        refine lv_aload_n hx hb dM_escaped_199 rfl (lv_at hl 3 rfl) ?_
        obtain ⟨o7, hq8, hf⟩ := xbind hf
        have hFc := xm_free hD hS hA
        refine va_calli (va_runV (C := "ValueBenchModel") (As := []) (rest := [.int ((16 : Int32) * y3)]) ⟨hx, hb, hml, hown, htx⟩ (gM_peek l hl9 D cT aK aV H.size n aM adL rd gdL vadL ws9 o7 hq8) ⟨callB_of 0 htx (xw_goodC kw_5_233) rfl rfl rfl (htx _ kw_1_5) (htx _ kw_5_230) ⟨by decide, by decide, by decide +kernel⟩ ⟨Nat.le_of_ble_eq_true rfl, Nat.le_of_ble_eq_true rfl⟩, (htx _ kw_5_232), (htx _ kp_M_peek)⟩ ⟨xPre_blind, va_recv hK hP (ci := 5) rfl (q0 := 0) rfl, (fun U hU hW => ⟨rfl, xPre_of hZ hS hFc hP hD hK U hU hW⟩)⟩ rfl rfl hl.1 rfl (xm_room (Nat.le_of_ble_eq_true rfl)) dM_escaped_200 ⟨hm0.1, hm0.2⟩) hS (fun q _ h => hFc q h) hFc (fun r9 u9 t H1 locs ht hvm hr9 hB hz1 hk1 hS => ?_)
        obtain ⟨hP1, hK1, hD1⟩ := hB
        rw [ht] at hP1
        have hP : va_P D xcl (xMw cT aM adL rd gdL vadL ws9 []) H1 := hP1
        have hD : va_D A (xMw cT aM adL rd gdL vadL ws9 []) := hD1.weaken (fun k q _ h => hFc q.1 h)
        generalize H1 = H at hP hS ⊢
        rw [hr9]
        refine W.eq (g2 := F0 m 203 ls [.int o7, .int ((16 : Int32) * y3)]) (by first | rfl | (skip; rfl)) ?_
        obtain ⟨o10, hq11, hf⟩ := xbind hf
        refine va_calli (va_runS (As := [.int o7]) (rest := [.int ((16 : Int32) * y3)]) ⟨hx, hb, hml, hown, htx⟩ (gM_hex l hl9 D cT aK aV H.size n o7 o10 hq11) ⟨callB_of 1 htx (xw_goodC kw_6_57) rfl rfl rfl (htx _ kw_1_5) (htx _ kw_6_55) ⟨by decide, by decide, by decide +kernel⟩ ⟨Nat.le_of_ble_eq_true rfl, Nat.le_of_ble_eq_true rfl⟩, htx _ kw_6_56⟩ ⟨xPre_blind, (fun U hU hW => ⟨rfl, xPre_of hZ hS (xm_free0 hS hA) xm_Pnil xm_Dnil hK U hU hW⟩)⟩ rfl rfl hl.1 rfl (lv_room (Nat.le_of_ble_eq_true rfl)) dM_escaped_203 ⟨(hm0.1), (hm0.2)⟩) hS (fun q _ h => xm_free0 hS hA q h) (xm_free0 hS hA) (fun r12 u9 t H1 locs ht hvm hr9 hB hz1 hk1 hS => ?_)
        replace hP := xm_keep hP hk1
        generalize H1 = H at hP hS ⊢
        rw [hr9]
        refine W.eq (g2 := F0 m 206 ls [.int o10, .int ((16 : Int32) * y3)]) (by first | rfl | rw [xv1 (Nat.succ_ne_zero _)]) ?_
        refine lv_iadd hx hb dM_escaped_206 ?_
        refine lv_istore_n (lv' := [(3, .int (((16 : Int32) * y3) + o10)), (4, .int y4), (2, .int y2), (0, .ref aM), (1, .int y1)]) hx hb dM_escaped_207 rfl hl (by decide) rfl (fun ls hl => ?_)
        refine lv_aload_n hx hb dM_escaped_208 rfl (lv_at hl 3 rfl) ?_
        refine lv_dup hx hb dM_escaped_209 rfl ?_
        refine xm_get (v := .int (xsi ws9 16)) hx hb htx hown hK hP 16 (by decide) rfl (htx _ kw_5_103) rfl dM_escaped_210 ?_
        refine lv_iconst (v := 1) hx hb dM_escaped_213 (by decide) ?_
        refine lv_iadd hx hb dM_escaped_214 ?_
        refine xm_put (v := .int ((xsi ws9 16) + (1 : Int32))) (W' := (xMw cT aM adL rd gdL vadL (xsI ws9 16 ((xsi ws9 16) + (1 : Int32))) [])) (ty := .int) hx hb htx hown hK hP hD hS 16 (by decide) rfl (htx _ kw_5_103) rfl rfl (by decide +kernel) rfl rfl dM_escaped_215 (fun H locs hP hD hS => ?_)
        refine lv_iinc (v := (y4 + 1)) (lv' := [(4, .int (y4 + 1)), (3, .int (((16 : Int32) * y3) + o10)), (2, .int y2), (0, .ref aM), (1, .int y1)]) hx hb dM_escaped_218 hl (k := 1) rfl rfl (by decide) rfl (fun ls hl => ?_)
        refine lv_goto (tgt := 171) hx hb dM_escaped_221 (by decide) ?_
        exact ih (1, (y4 + 1), (((16 : Int32) * y3) + o10), y2, y1, (xsI ws9 16 ((xsi ws9 16) + (1 : Int32))), wc, wn) _ _ ls (⟨adL, gdL, vadL, rfl, hf, hP, hD, hS, lv_sub hl [0, 1, 2, 3, 4] rfl, hE, hN⟩)
      · rw [if_neg hc] at hf
        refine lv_aload_n hx hb dM_escaped_187 rfl (lv_at hl 3 rfl) ?_
        refine lv_aload_n hx hb dM_escaped_188 rfl (lv_at hl 3 rfl) ?_
        refine xm_get (v := .int (xsi ws9 16)) hx hb htx hown hK hP 16 (by decide) rfl (htx _ kw_5_103) rfl dM_escaped_189 ?_
        obtain ⟨o7, hq8, hf⟩ := xbind hf
        by_cases hk9 : o7.1 = 1
        · rw [if_pos hk9] at hf
          obtain ⟨hm10, hf⟩ := xmoE hf
          have hFc := xm_free hD hS hA
          refine xx_thr (vx_runV (C := "ValueBenchModel") (As := [.int (xsi ws9 16)]) (rest := []) ⟨hx, hb, hml, hown, htx⟩ (gM_bad_1 l hl9 D cT aK aV H.size n aM adL rd gdL vadL ws9 (xsi ws9 16) o7 hq8 hk9) ⟨callB_of 1 htx (xw_goodC kw_6_2) rfl rfl rfl (htx _ kw_1_5) (htx _ kw_5_239) ⟨by decide, by decide, by decide +kernel⟩ ⟨Nat.le_of_ble_eq_true rfl, Nat.le_of_ble_eq_true rfl⟩, (htx _ kw_6_1), (htx _ kp_M_bad)⟩ ⟨xPre_blind, va_recv hK hP (ci := 5) rfl (q0 := 0) rfl, (fun U hU hW => ⟨rfl, xPre_of hZ hS hFc hP hD hK U hU hW⟩)⟩ rfl rfl hl.1 rfl (xm_room (Nat.le_of_ble_eq_true rfl)) dM_escaped_192 ⟨hm10.1, hm10.2⟩) hS hFc (fun q _ h => hFc q h) (fun E ce q9 u9 t H1 locs ht hvm hr9 hB hz1 hk1 hS hce hcv hcl => ?_)
          obtain ⟨rfl, hP1, hK1, hD1⟩ := hB
          rw [ht] at hP1
          obtain ⟨ad12, gd13, vad14⟩ := u9
          obtain ⟨hv15, hn16⟩ := hr9
          have hP : va_P D xcl (xMw cT aM ad12 rd gd13 vad14 o7.2.2.2 []) H1 := hP1
          have hD : va_D A (xMw cT aM ad12 rd gd13 vad14 o7.2.2.2 []) := hD1.weaken (fun k q _ h => hFc q.1 h)
          generalize H1 = H at hP hS hce ⊢
          have hE9 : ∀ p, p < xct st → vad14 p = vad p := fun p h => (hv15 p (Nat.lt_of_lt_of_le h hN)).trans (hE p h)
          have hE := hE9
          have hN : xct st ≤ xct o7.2.2.2 := Nat.le_trans hN hn16
          obtain rfl := Option.some.inj hf
          exact vx_out (E := "java/lang/UnsupportedOperationException") (fun x h => (hne x h).elim) hlocks hce hcv hcl (fun t ht ha => ⟨(ad12, gd13, vad14), ⟨hE, hN⟩, ⟨rfl, by rw [ht]; exact hP, va_K.moved ha hK, hD⟩, hS.F ht⟩) hS.2.2 (Nat.le_refl _) (Nat.le_refl _)
        rw [if_neg hk9] at hf
        exact nomatch hf
  refine lv_aload_n hx hb dM_escaped_0 rfl (lv_at hl 0 rfl) ?_
  obtain ⟨o1, hq2, hf⟩ := xbind hf
  have hFc := xm_free hD hS hA
  refine va_calli (va_runV (C := "ValueBenchModel") (As := []) (rest := []) ⟨hx, hb, hml, hown, htx⟩ (gM_peek l hl9 D cT aK aV s.heap.size n aM ad rd gd vad st o1 hq2) ⟨callB_of 0 htx (xw_goodC kw_5_233) rfl rfl rfl (htx _ kw_1_5) (htx _ kw_5_230) ⟨by decide, by decide, by decide +kernel⟩ ⟨Nat.le_of_ble_eq_true rfl, Nat.le_of_ble_eq_true rfl⟩, (htx _ kw_5_232), (htx _ kp_M_peek)⟩ ⟨xPre_blind, va_recv hK hP (ci := 5) rfl (q0 := 0) rfl, (fun U hU hW => ⟨rfl, xPre_of hZ hS hFc hP hD hK U hU hW⟩)⟩ rfl rfl hl.1 rfl (xm_room (Nat.le_of_ble_eq_true rfl)) dM_escaped_1 ⟨Nat.zero_le _, Nat.zero_le _⟩) hS (fun q _ h => hFc q h) hFc (fun r3 u9 t H1 locs ht hvm hr9 hB hz1 hk1 hS => ?_)
  obtain ⟨hP1, hK1, hD1⟩ := hB
  rw [ht] at hP1
  have hP : va_P D xcl (xMw cT aM ad rd gd vad st []) H1 := hP1
  have hD : va_D A (xMw cT aM ad rd gd vad st []) := hD1.weaken (fun k q _ h => hFc q.1 h)
  generalize H1 = H at hP hS ⊢
  rw [hr9]
  refine W.eq (g2 := F0 m 4 ls [.int o1]) (by first | rfl | (skip; rfl)) ?_
  refine lv_istore_n (lv' := [(2, .int o1), (0, .ref aM), (1, .int x0)]) hx hb dM_escaped_4 rfl hl (by decide) rfl (fun ls hl => ?_)
  refine lv_iload_n hx hb dM_escaped_5 rfl (lv_at hl 0 rfl) ?_
  refine lv_if_ge (tgt := 17) hx hb dM_escaped_6 (by decide) (fun hc => ?_) (fun hc => ?_)
  · rw [if_pos hc] at hf
    refine lv_aload_n hx hb dM_escaped_17 rfl (lv_at hl 1 rfl) ?_
    refine lv_dup hx hb dM_escaped_18 rfl ?_
    refine xm_get (v := .int (xsi st 16)) hx hb htx hown hK hP 16 (by decide) rfl (htx _ kw_5_103) rfl dM_escaped_19 ?_
    refine lv_iconst (v := 1) hx hb dM_escaped_22 (by decide) ?_
    refine lv_iadd hx hb dM_escaped_23 ?_
    refine xm_put (v := .int ((xsi st 16) + (1 : Int32))) (W' := (xMw cT aM ad rd gd vad (xsI st 16 ((xsi st 16) + (1 : Int32))) [])) (ty := .int) hx hb htx hown hK hP hD hS 16 (by decide) rfl (htx _ kw_5_103) rfl rfl (by decide +kernel) rfl rfl dM_escaped_24 (fun H locs hP hD hS => ?_)
    refine lv_iload_n hx hb dM_escaped_27 rfl (lv_at hl 0 rfl) ?_
    by_cases hc4 : o1 = 34
    · rw [if_pos hc4] at hf
      refine lv_lookup (off := 84) (tgt := 112) hx hb dM_escaped_28 (by decide) (by rw [hc4]; decide) (by decide) ?_
      refine lv_aload_n hx hb dM_escaped_112 rfl (lv_at hl 1 rfl) ?_
      refine lv_iload_n hx hb dM_escaped_113 rfl (lv_at hl 0 rfl) ?_
      obtain ⟨o5, hq6, hf⟩ := xbind hf
      obtain ⟨hm7, hf⟩ := xmoE hf
      have hFc := xm_free hD hS hA
      refine va_callv (va_runV (C := "ValueBenchModel") (As := [.int o1]) (rest := []) ⟨hx, hb, hml, hown, htx⟩ (gM_letter l hl9 D cT aK aV H.size n aM ad rd gd vad (xsI st 16 ((xsi st 16) + (1 : Int32))) o1 o5 hq6) ⟨callB_of 1 htx (xw_goodC kw_6_54) rfl rfl rfl (htx _ kw_1_5) (htx _ kw_6_51) ⟨by decide, by decide, by decide +kernel⟩ ⟨Nat.le_of_ble_eq_true rfl, Nat.le_of_ble_eq_true rfl⟩, (htx _ kw_6_53), (htx _ kp_M_letter)⟩ ⟨xPre_blind, va_recv hK hP (ci := 5) rfl (q0 := 0) rfl, (fun U hU hW => ⟨rfl, xPre_of hZ hS hFc hP hD hK U hU hW⟩)⟩ rfl rfl hl.1 rfl (xm_room (Nat.le_of_ble_eq_true rfl)) dM_escaped_114 ⟨hm7.1, hm7.2⟩) hS (fun q _ h => hFc q h) hFc (fun u9 t H1 locs ht hvm hr9 hB hz1 hk1 hS => ?_)
      obtain ⟨hP1, hK1, hD1⟩ := hB
      rw [ht] at hP1
      obtain ⟨ad9, gd10, vad11⟩ := u9
      obtain ⟨hv12, hn13⟩ := hr9
      have hP : va_P D xcl (xMw cT aM ad9 rd gd10 vad11 o5.2.2 []) H1 := hP1
      have hD : va_D A (xMw cT aM ad9 rd gd10 vad11 o5.2.2 []) := hD1.weaken (fun k q _ h => hFc q.1 h)
      generalize H1 = H at hP hS ⊢
      have hE9 : ∀ p, p < xct st → vad11 p = vad p := fun p h => (hv12 p (Nat.lt_of_lt_of_le h hN)).trans (hE p h)
      have hE := hE9
      have hN : xct st ≤ xct o5.2.2 := Nat.le_trans hN hn13
      refine W.eq (g2 := F0 m 117 ls []) (by first | rfl | (skip; rfl)) ?_
      obtain rfl := Option.some.inj hf
      exact absurd (show (0 : Nat) = 1 from hkd) (by decide)
    rw [if_neg hc4] at hf
    by_cases hc14 : o1 = 47
    · rw [if_pos hc14] at hf
      refine lv_lookup (off := 84) (tgt := 112) hx hb dM_escaped_28 (by decide) (by rw [hc14]; decide) (by decide) ?_
      refine lv_aload_n hx hb dM_escaped_112 rfl (lv_at hl 1 rfl) ?_
      refine lv_iload_n hx hb dM_escaped_113 rfl (lv_at hl 0 rfl) ?_
      obtain ⟨o15, hq16, hf⟩ := xbind hf
      obtain ⟨hm17, hf⟩ := xmoE hf
      have hFc := xm_free hD hS hA
      refine va_callv (va_runV (C := "ValueBenchModel") (As := [.int o1]) (rest := []) ⟨hx, hb, hml, hown, htx⟩ (gM_letter l hl9 D cT aK aV H.size n aM ad rd gd vad (xsI st 16 ((xsi st 16) + (1 : Int32))) o1 o15 hq16) ⟨callB_of 1 htx (xw_goodC kw_6_54) rfl rfl rfl (htx _ kw_1_5) (htx _ kw_6_51) ⟨by decide, by decide, by decide +kernel⟩ ⟨Nat.le_of_ble_eq_true rfl, Nat.le_of_ble_eq_true rfl⟩, (htx _ kw_6_53), (htx _ kp_M_letter)⟩ ⟨xPre_blind, va_recv hK hP (ci := 5) rfl (q0 := 0) rfl, (fun U hU hW => ⟨rfl, xPre_of hZ hS hFc hP hD hK U hU hW⟩)⟩ rfl rfl hl.1 rfl (xm_room (Nat.le_of_ble_eq_true rfl)) dM_escaped_114 ⟨hm17.1, hm17.2⟩) hS (fun q _ h => hFc q h) hFc (fun u9 t H1 locs ht hvm hr9 hB hz1 hk1 hS => ?_)
      obtain ⟨hP1, hK1, hD1⟩ := hB
      rw [ht] at hP1
      obtain ⟨ad19, gd20, vad21⟩ := u9
      obtain ⟨hv22, hn23⟩ := hr9
      have hP : va_P D xcl (xMw cT aM ad19 rd gd20 vad21 o15.2.2 []) H1 := hP1
      have hD : va_D A (xMw cT aM ad19 rd gd20 vad21 o15.2.2 []) := hD1.weaken (fun k q _ h => hFc q.1 h)
      generalize H1 = H at hP hS ⊢
      have hE9 : ∀ p, p < xct st → vad21 p = vad p := fun p h => (hv22 p (Nat.lt_of_lt_of_le h hN)).trans (hE p h)
      have hE := hE9
      have hN : xct st ≤ xct o15.2.2 := Nat.le_trans hN hn23
      refine W.eq (g2 := F0 m 117 ls []) (by first | rfl | (skip; rfl)) ?_
      obtain rfl := Option.some.inj hf
      exact absurd (show (0 : Nat) = 1 from hkd) (by decide)
    rw [if_neg hc14] at hf
    by_cases hc24 : o1 = 92
    · rw [if_pos hc24] at hf
      refine lv_lookup (off := 84) (tgt := 112) hx hb dM_escaped_28 (by decide) (by rw [hc24]; decide) (by decide) ?_
      refine lv_aload_n hx hb dM_escaped_112 rfl (lv_at hl 1 rfl) ?_
      refine lv_iload_n hx hb dM_escaped_113 rfl (lv_at hl 0 rfl) ?_
      obtain ⟨o25, hq26, hf⟩ := xbind hf
      obtain ⟨hm27, hf⟩ := xmoE hf
      have hFc := xm_free hD hS hA
      refine va_callv (va_runV (C := "ValueBenchModel") (As := [.int o1]) (rest := []) ⟨hx, hb, hml, hown, htx⟩ (gM_letter l hl9 D cT aK aV H.size n aM ad rd gd vad (xsI st 16 ((xsi st 16) + (1 : Int32))) o1 o25 hq26) ⟨callB_of 1 htx (xw_goodC kw_6_54) rfl rfl rfl (htx _ kw_1_5) (htx _ kw_6_51) ⟨by decide, by decide, by decide +kernel⟩ ⟨Nat.le_of_ble_eq_true rfl, Nat.le_of_ble_eq_true rfl⟩, (htx _ kw_6_53), (htx _ kp_M_letter)⟩ ⟨xPre_blind, va_recv hK hP (ci := 5) rfl (q0 := 0) rfl, (fun U hU hW => ⟨rfl, xPre_of hZ hS hFc hP hD hK U hU hW⟩)⟩ rfl rfl hl.1 rfl (xm_room (Nat.le_of_ble_eq_true rfl)) dM_escaped_114 ⟨hm27.1, hm27.2⟩) hS (fun q _ h => hFc q h) hFc (fun u9 t H1 locs ht hvm hr9 hB hz1 hk1 hS => ?_)
      obtain ⟨hP1, hK1, hD1⟩ := hB
      rw [ht] at hP1
      obtain ⟨ad29, gd30, vad31⟩ := u9
      obtain ⟨hv32, hn33⟩ := hr9
      have hP : va_P D xcl (xMw cT aM ad29 rd gd30 vad31 o25.2.2 []) H1 := hP1
      have hD : va_D A (xMw cT aM ad29 rd gd30 vad31 o25.2.2 []) := hD1.weaken (fun k q _ h => hFc q.1 h)
      generalize H1 = H at hP hS ⊢
      have hE9 : ∀ p, p < xct st → vad31 p = vad p := fun p h => (hv32 p (Nat.lt_of_lt_of_le h hN)).trans (hE p h)
      have hE := hE9
      have hN : xct st ≤ xct o25.2.2 := Nat.le_trans hN hn33
      refine W.eq (g2 := F0 m 117 ls []) (by first | rfl | (skip; rfl)) ?_
      obtain rfl := Option.some.inj hf
      exact absurd (show (0 : Nat) = 1 from hkd) (by decide)
    rw [if_neg hc24] at hf
    by_cases hc34 : o1 = 98
    · rw [if_pos hc34] at hf
      refine lv_lookup (off := 90) (tgt := 118) hx hb dM_escaped_28 (by decide) (by rw [hc34]; decide) (by decide) ?_
      refine lv_aload_n hx hb dM_escaped_118 rfl (lv_at hl 1 rfl) ?_
      refine lv_bipush (v := 8) hx hb dM_escaped_119 (by decide) ?_
      obtain ⟨o35, hq36, hf⟩ := xbind hf
      obtain ⟨hm37, hf⟩ := xmoE hf
      have hFc := xm_free hD hS hA
      refine va_callv (va_runV (C := "ValueBenchModel") (As := [.int 8]) (rest := []) ⟨hx, hb, hml, hown, htx⟩ (gM_letter l hl9 D cT aK aV H.size n aM ad rd gd vad (xsI st 16 ((xsi st 16) + (1 : Int32))) (8 : Int32) o35 hq36) ⟨callB_of 1 htx (xw_goodC kw_6_54) rfl rfl rfl (htx _ kw_1_5) (htx _ kw_6_51) ⟨by decide, by decide, by decide +kernel⟩ ⟨Nat.le_of_ble_eq_true rfl, Nat.le_of_ble_eq_true rfl⟩, (htx _ kw_6_53), (htx _ kp_M_letter)⟩ ⟨xPre_blind, va_recv hK hP (ci := 5) rfl (q0 := 0) rfl, (fun U hU hW => ⟨rfl, xPre_of hZ hS hFc hP hD hK U hU hW⟩)⟩ rfl rfl hl.1 rfl (xm_room (Nat.le_of_ble_eq_true rfl)) dM_escaped_121 ⟨hm37.1, hm37.2⟩) hS (fun q _ h => hFc q h) hFc (fun u9 t H1 locs ht hvm hr9 hB hz1 hk1 hS => ?_)
      obtain ⟨hP1, hK1, hD1⟩ := hB
      rw [ht] at hP1
      obtain ⟨ad39, gd40, vad41⟩ := u9
      obtain ⟨hv42, hn43⟩ := hr9
      have hP : va_P D xcl (xMw cT aM ad39 rd gd40 vad41 o35.2.2 []) H1 := hP1
      have hD : va_D A (xMw cT aM ad39 rd gd40 vad41 o35.2.2 []) := hD1.weaken (fun k q _ h => hFc q.1 h)
      generalize H1 = H at hP hS ⊢
      have hE9 : ∀ p, p < xct st → vad41 p = vad p := fun p h => (hv42 p (Nat.lt_of_lt_of_le h hN)).trans (hE p h)
      have hE := hE9
      have hN : xct st ≤ xct o35.2.2 := Nat.le_trans hN hn43
      refine W.eq (g2 := F0 m 124 ls []) (by first | rfl | (skip; rfl)) ?_
      obtain rfl := Option.some.inj hf
      exact absurd (show (0 : Nat) = 1 from hkd) (by decide)
    rw [if_neg hc34] at hf
    by_cases hc44 : o1 = 102
    · rw [if_pos hc44] at hf
      refine lv_lookup (off := 97) (tgt := 125) hx hb dM_escaped_28 (by decide) (by rw [hc44]; decide) (by decide) ?_
      refine lv_aload_n hx hb dM_escaped_125 rfl (lv_at hl 1 rfl) ?_
      refine lv_bipush (v := 12) hx hb dM_escaped_126 (by decide) ?_
      obtain ⟨o45, hq46, hf⟩ := xbind hf
      obtain ⟨hm47, hf⟩ := xmoE hf
      have hFc := xm_free hD hS hA
      refine va_callv (va_runV (C := "ValueBenchModel") (As := [.int 12]) (rest := []) ⟨hx, hb, hml, hown, htx⟩ (gM_letter l hl9 D cT aK aV H.size n aM ad rd gd vad (xsI st 16 ((xsi st 16) + (1 : Int32))) (12 : Int32) o45 hq46) ⟨callB_of 1 htx (xw_goodC kw_6_54) rfl rfl rfl (htx _ kw_1_5) (htx _ kw_6_51) ⟨by decide, by decide, by decide +kernel⟩ ⟨Nat.le_of_ble_eq_true rfl, Nat.le_of_ble_eq_true rfl⟩, (htx _ kw_6_53), (htx _ kp_M_letter)⟩ ⟨xPre_blind, va_recv hK hP (ci := 5) rfl (q0 := 0) rfl, (fun U hU hW => ⟨rfl, xPre_of hZ hS hFc hP hD hK U hU hW⟩)⟩ rfl rfl hl.1 rfl (xm_room (Nat.le_of_ble_eq_true rfl)) dM_escaped_128 ⟨hm47.1, hm47.2⟩) hS (fun q _ h => hFc q h) hFc (fun u9 t H1 locs ht hvm hr9 hB hz1 hk1 hS => ?_)
      obtain ⟨hP1, hK1, hD1⟩ := hB
      rw [ht] at hP1
      obtain ⟨ad49, gd50, vad51⟩ := u9
      obtain ⟨hv52, hn53⟩ := hr9
      have hP : va_P D xcl (xMw cT aM ad49 rd gd50 vad51 o45.2.2 []) H1 := hP1
      have hD : va_D A (xMw cT aM ad49 rd gd50 vad51 o45.2.2 []) := hD1.weaken (fun k q _ h => hFc q.1 h)
      generalize H1 = H at hP hS ⊢
      have hE9 : ∀ p, p < xct st → vad51 p = vad p := fun p h => (hv52 p (Nat.lt_of_lt_of_le h hN)).trans (hE p h)
      have hE := hE9
      have hN : xct st ≤ xct o45.2.2 := Nat.le_trans hN hn53
      refine W.eq (g2 := F0 m 131 ls []) (by first | rfl | (skip; rfl)) ?_
      obtain rfl := Option.some.inj hf
      exact absurd (show (0 : Nat) = 1 from hkd) (by decide)
    rw [if_neg hc44] at hf
    by_cases hc54 : o1 = 110
    · rw [if_pos hc54] at hf
      refine lv_lookup (off := 104) (tgt := 132) hx hb dM_escaped_28 (by decide) (by rw [hc54]; decide) (by decide) ?_
      refine lv_aload_n hx hb dM_escaped_132 rfl (lv_at hl 1 rfl) ?_
      refine lv_bipush (v := 10) hx hb dM_escaped_133 (by decide) ?_
      obtain ⟨o55, hq56, hf⟩ := xbind hf
      obtain ⟨hm57, hf⟩ := xmoE hf
      have hFc := xm_free hD hS hA
      refine va_callv (va_runV (C := "ValueBenchModel") (As := [.int 10]) (rest := []) ⟨hx, hb, hml, hown, htx⟩ (gM_letter l hl9 D cT aK aV H.size n aM ad rd gd vad (xsI st 16 ((xsi st 16) + (1 : Int32))) (10 : Int32) o55 hq56) ⟨callB_of 1 htx (xw_goodC kw_6_54) rfl rfl rfl (htx _ kw_1_5) (htx _ kw_6_51) ⟨by decide, by decide, by decide +kernel⟩ ⟨Nat.le_of_ble_eq_true rfl, Nat.le_of_ble_eq_true rfl⟩, (htx _ kw_6_53), (htx _ kp_M_letter)⟩ ⟨xPre_blind, va_recv hK hP (ci := 5) rfl (q0 := 0) rfl, (fun U hU hW => ⟨rfl, xPre_of hZ hS hFc hP hD hK U hU hW⟩)⟩ rfl rfl hl.1 rfl (xm_room (Nat.le_of_ble_eq_true rfl)) dM_escaped_135 ⟨hm57.1, hm57.2⟩) hS (fun q _ h => hFc q h) hFc (fun u9 t H1 locs ht hvm hr9 hB hz1 hk1 hS => ?_)
      obtain ⟨hP1, hK1, hD1⟩ := hB
      rw [ht] at hP1
      obtain ⟨ad59, gd60, vad61⟩ := u9
      obtain ⟨hv62, hn63⟩ := hr9
      have hP : va_P D xcl (xMw cT aM ad59 rd gd60 vad61 o55.2.2 []) H1 := hP1
      have hD : va_D A (xMw cT aM ad59 rd gd60 vad61 o55.2.2 []) := hD1.weaken (fun k q _ h => hFc q.1 h)
      generalize H1 = H at hP hS ⊢
      have hE9 : ∀ p, p < xct st → vad61 p = vad p := fun p h => (hv62 p (Nat.lt_of_lt_of_le h hN)).trans (hE p h)
      have hE := hE9
      have hN : xct st ≤ xct o55.2.2 := Nat.le_trans hN hn63
      refine W.eq (g2 := F0 m 138 ls []) (by first | rfl | (skip; rfl)) ?_
      obtain rfl := Option.some.inj hf
      exact absurd (show (0 : Nat) = 1 from hkd) (by decide)
    rw [if_neg hc54] at hf
    by_cases hc64 : o1 = 114
    · rw [if_pos hc64] at hf
      refine lv_lookup (off := 111) (tgt := 139) hx hb dM_escaped_28 (by decide) (by rw [hc64]; decide) (by decide) ?_
      refine lv_aload_n hx hb dM_escaped_139 rfl (lv_at hl 1 rfl) ?_
      refine lv_bipush (v := 13) hx hb dM_escaped_140 (by decide) ?_
      obtain ⟨o65, hq66, hf⟩ := xbind hf
      obtain ⟨hm67, hf⟩ := xmoE hf
      have hFc := xm_free hD hS hA
      refine va_callv (va_runV (C := "ValueBenchModel") (As := [.int 13]) (rest := []) ⟨hx, hb, hml, hown, htx⟩ (gM_letter l hl9 D cT aK aV H.size n aM ad rd gd vad (xsI st 16 ((xsi st 16) + (1 : Int32))) (13 : Int32) o65 hq66) ⟨callB_of 1 htx (xw_goodC kw_6_54) rfl rfl rfl (htx _ kw_1_5) (htx _ kw_6_51) ⟨by decide, by decide, by decide +kernel⟩ ⟨Nat.le_of_ble_eq_true rfl, Nat.le_of_ble_eq_true rfl⟩, (htx _ kw_6_53), (htx _ kp_M_letter)⟩ ⟨xPre_blind, va_recv hK hP (ci := 5) rfl (q0 := 0) rfl, (fun U hU hW => ⟨rfl, xPre_of hZ hS hFc hP hD hK U hU hW⟩)⟩ rfl rfl hl.1 rfl (xm_room (Nat.le_of_ble_eq_true rfl)) dM_escaped_142 ⟨hm67.1, hm67.2⟩) hS (fun q _ h => hFc q h) hFc (fun u9 t H1 locs ht hvm hr9 hB hz1 hk1 hS => ?_)
      obtain ⟨hP1, hK1, hD1⟩ := hB
      rw [ht] at hP1
      obtain ⟨ad69, gd70, vad71⟩ := u9
      obtain ⟨hv72, hn73⟩ := hr9
      have hP : va_P D xcl (xMw cT aM ad69 rd gd70 vad71 o65.2.2 []) H1 := hP1
      have hD : va_D A (xMw cT aM ad69 rd gd70 vad71 o65.2.2 []) := hD1.weaken (fun k q _ h => hFc q.1 h)
      generalize H1 = H at hP hS ⊢
      have hE9 : ∀ p, p < xct st → vad71 p = vad p := fun p h => (hv72 p (Nat.lt_of_lt_of_le h hN)).trans (hE p h)
      have hE := hE9
      have hN : xct st ≤ xct o65.2.2 := Nat.le_trans hN hn73
      refine W.eq (g2 := F0 m 145 ls []) (by first | rfl | (skip; rfl)) ?_
      obtain rfl := Option.some.inj hf
      exact absurd (show (0 : Nat) = 1 from hkd) (by decide)
    rw [if_neg hc64] at hf
    by_cases hc74 : o1 = 116
    · rw [if_pos hc74] at hf
      refine lv_lookup (off := 118) (tgt := 146) hx hb dM_escaped_28 (by decide) (by rw [hc74]; decide) (by decide) ?_
      refine lv_aload_n hx hb dM_escaped_146 rfl (lv_at hl 1 rfl) ?_
      refine lv_bipush (v := 9) hx hb dM_escaped_147 (by decide) ?_
      obtain ⟨o75, hq76, hf⟩ := xbind hf
      obtain ⟨hm77, hf⟩ := xmoE hf
      have hFc := xm_free hD hS hA
      refine va_callv (va_runV (C := "ValueBenchModel") (As := [.int 9]) (rest := []) ⟨hx, hb, hml, hown, htx⟩ (gM_letter l hl9 D cT aK aV H.size n aM ad rd gd vad (xsI st 16 ((xsi st 16) + (1 : Int32))) (9 : Int32) o75 hq76) ⟨callB_of 1 htx (xw_goodC kw_6_54) rfl rfl rfl (htx _ kw_1_5) (htx _ kw_6_51) ⟨by decide, by decide, by decide +kernel⟩ ⟨Nat.le_of_ble_eq_true rfl, Nat.le_of_ble_eq_true rfl⟩, (htx _ kw_6_53), (htx _ kp_M_letter)⟩ ⟨xPre_blind, va_recv hK hP (ci := 5) rfl (q0 := 0) rfl, (fun U hU hW => ⟨rfl, xPre_of hZ hS hFc hP hD hK U hU hW⟩)⟩ rfl rfl hl.1 rfl (xm_room (Nat.le_of_ble_eq_true rfl)) dM_escaped_149 ⟨hm77.1, hm77.2⟩) hS (fun q _ h => hFc q h) hFc (fun u9 t H1 locs ht hvm hr9 hB hz1 hk1 hS => ?_)
      obtain ⟨hP1, hK1, hD1⟩ := hB
      rw [ht] at hP1
      obtain ⟨ad79, gd80, vad81⟩ := u9
      obtain ⟨hv82, hn83⟩ := hr9
      have hP : va_P D xcl (xMw cT aM ad79 rd gd80 vad81 o75.2.2 []) H1 := hP1
      have hD : va_D A (xMw cT aM ad79 rd gd80 vad81 o75.2.2 []) := hD1.weaken (fun k q _ h => hFc q.1 h)
      generalize H1 = H at hP hS ⊢
      have hE9 : ∀ p, p < xct st → vad81 p = vad p := fun p h => (hv82 p (Nat.lt_of_lt_of_le h hN)).trans (hE p h)
      have hE := hE9
      have hN : xct st ≤ xct o75.2.2 := Nat.le_trans hN hn83
      refine W.eq (g2 := F0 m 152 ls []) (by first | rfl | (skip; rfl)) ?_
      obtain rfl := Option.some.inj hf
      exact absurd (show (0 : Nat) = 1 from hkd) (by decide)
    rw [if_neg hc74] at hf
    by_cases hc84 : o1 = 117
    · rw [if_pos hc84] at hf
      refine lv_lookup (off := 125) (tgt := 153) hx hb dM_escaped_28 (by decide) (by rw [hc84]; decide) (by decide) ?_
      refine lv_goto (tgt := 166) hx hb dM_escaped_153 (by decide) ?_
      refine lv_iconst (v := 0) hx hb dM_escaped_166 (by decide) ?_
      refine lv_istore_n (lv' := [(3, .int 0), (2, .int o1), (0, .ref aM), (1, .int x0)]) hx hb dM_escaped_167 rfl hl (by decide) rfl (fun ls hl => ?_)
      refine lv_iconst (v := 0) hx hb dM_escaped_168 (by decide) ?_
      refine lv_istore (lv' := [(4, .int 0), (3, .int 0), (2, .int o1), (0, .ref aM), (1, .int x0)]) hx hb dM_escaped_169 hl (by decide) rfl (fun ls hl => ?_)
      exact key n (1, (0 : Int32), (0 : Int32), o1, x0, (xsI st 16 ((xsi st 16) + (1 : Int32))), 0, 0) _ _ ls (⟨ad, gd, vad, rfl, hf, hP, hD, hS, lv_sub hl [0, 1, 2, 3, 4] rfl, hE, hN⟩)
    rw [if_neg hc84] at hf
    refine lv_lookup (off := 128) (tgt := 156) hx hb dM_escaped_28 (by decide) (by have e0 : o1.toInt ≠ 34 := xsw hc4 (by decide); have e1 : o1.toInt ≠ 47 := xsw hc14 (by decide); have e2 : o1.toInt ≠ 92 := xsw hc24 (by decide); have e3 : o1.toInt ≠ 98 := xsw hc34 (by decide); have e4 : o1.toInt ≠ 102 := xsw hc44 (by decide); have e5 : o1.toInt ≠ 110 := xsw hc54 (by decide); have e6 : o1.toInt ≠ 114 := xsw hc64 (by decide); have e7 : o1.toInt ≠ 116 := xsw hc74 (by decide); have e8 : o1.toInt ≠ 117 := xsw hc84 (by decide); simp [Op.lookupswitch.offset, e0, Ne.symm e0, e1, Ne.symm e1, e2, Ne.symm e2, e3, Ne.symm e3, e4, Ne.symm e4, e5, Ne.symm e5, e6, Ne.symm e6, e7, Ne.symm e7, e8, Ne.symm e8]) (by decide) ?_
    refine lv_aload_n hx hb dM_escaped_156 rfl (lv_at hl 1 rfl) ?_
    refine lv_aload_n hx hb dM_escaped_157 rfl (lv_at hl 1 rfl) ?_
    refine xm_get (v := .int ((xsi st 16) + (1 : Int32))) hx hb htx hown hK hP 16 (by decide) rfl (htx _ kw_5_103) rfl dM_escaped_158 ?_
    refine lv_iconst (v := 1) hx hb dM_escaped_161 (by decide) ?_
    refine lv_isub hx hb dM_escaped_162 ?_
    obtain ⟨o85, hq86, hf⟩ := xbind hf
    by_cases hk87 : o85.1 = 1
    · rw [if_pos hk87] at hf
      obtain ⟨hm88, hf⟩ := xmoE hf
      have hFc := xm_free hD hS hA
      refine xx_thr (vx_runV (C := "ValueBenchModel") (As := [.int (((xsi st 16) + (1 : Int32)) - (1 : Int32))]) (rest := []) ⟨hx, hb, hml, hown, htx⟩ (gM_bad_1 l hl9 D cT aK aV H.size n aM ad rd gd vad (xsI st 16 ((xsi st 16) + (1 : Int32))) (((xsi st 16) + (1 : Int32)) - (1 : Int32)) o85 hq86 hk87) ⟨callB_of 1 htx (xw_goodC kw_6_2) rfl rfl rfl (htx _ kw_1_5) (htx _ kw_5_239) ⟨by decide, by decide, by decide +kernel⟩ ⟨Nat.le_of_ble_eq_true rfl, Nat.le_of_ble_eq_true rfl⟩, (htx _ kw_6_1), (htx _ kp_M_bad)⟩ ⟨xPre_blind, va_recv hK hP (ci := 5) rfl (q0 := 0) rfl, (fun U hU hW => ⟨rfl, xPre_of hZ hS hFc hP hD hK U hU hW⟩)⟩ rfl rfl hl.1 rfl (xm_room (Nat.le_of_ble_eq_true rfl)) dM_escaped_163 ⟨hm88.1, hm88.2⟩) hS hFc (fun q _ h => hFc q h) (fun E ce q9 u9 t H1 locs ht hvm hr9 hB hz1 hk1 hS hce hcv hcl => ?_)
      obtain ⟨rfl, hP1, hK1, hD1⟩ := hB
      rw [ht] at hP1
      obtain ⟨ad90, gd91, vad92⟩ := u9
      obtain ⟨hv93, hn94⟩ := hr9
      have hP : va_P D xcl (xMw cT aM ad90 rd gd91 vad92 o85.2.2.2 []) H1 := hP1
      have hD : va_D A (xMw cT aM ad90 rd gd91 vad92 o85.2.2.2 []) := hD1.weaken (fun k q _ h => hFc q.1 h)
      generalize H1 = H at hP hS hce ⊢
      have hE9 : ∀ p, p < xct st → vad92 p = vad p := fun p h => (hv93 p (Nat.lt_of_lt_of_le h hN)).trans (hE p h)
      have hE := hE9
      have hN : xct st ≤ xct o85.2.2.2 := Nat.le_trans hN hn94
      obtain rfl := Option.some.inj hf
      exact vx_out (E := "java/lang/UnsupportedOperationException") (fun x h => (hne x h).elim) hlocks hce hcv hcl (fun t ht ha => ⟨(ad90, gd91, vad92), ⟨hE, hN⟩, ⟨rfl, by rw [ht]; exact hP, va_K.moved ha hK, hD⟩, hS.F ht⟩) hS.2.2 (Nat.le_refl _) (Nat.le_refl _)
    rw [if_neg hk87] at hf
    exact nomatch hf
  · rw [if_neg hc] at hf
    refine lv_aload_n hx hb dM_escaped_9 rfl (lv_at hl 1 rfl) ?_
    refine lv_aload_n hx hb dM_escaped_10 rfl (lv_at hl 1 rfl) ?_
    refine xm_get (v := .int (xsi st 16)) hx hb htx hown hK hP 16 (by decide) rfl (htx _ kw_5_103) rfl dM_escaped_11 ?_
    obtain ⟨o4, hq5, hf⟩ := xbind hf
    by_cases hk6 : o4.1 = 1
    · rw [if_pos hk6] at hf
      obtain ⟨hm7, hf⟩ := xmoE hf
      have hFc := xm_free hD hS hA
      refine xx_thr (vx_runV (C := "ValueBenchModel") (As := [.int (xsi st 16)]) (rest := []) ⟨hx, hb, hml, hown, htx⟩ (gM_bad_1 l hl9 D cT aK aV H.size n aM ad rd gd vad st (xsi st 16) o4 hq5 hk6) ⟨callB_of 1 htx (xw_goodC kw_6_2) rfl rfl rfl (htx _ kw_1_5) (htx _ kw_5_239) ⟨by decide, by decide, by decide +kernel⟩ ⟨Nat.le_of_ble_eq_true rfl, Nat.le_of_ble_eq_true rfl⟩, (htx _ kw_6_1), (htx _ kp_M_bad)⟩ ⟨xPre_blind, va_recv hK hP (ci := 5) rfl (q0 := 0) rfl, (fun U hU hW => ⟨rfl, xPre_of hZ hS hFc hP hD hK U hU hW⟩)⟩ rfl rfl hl.1 rfl (xm_room (Nat.le_of_ble_eq_true rfl)) dM_escaped_14 ⟨hm7.1, hm7.2⟩) hS hFc (fun q _ h => hFc q h) (fun E ce q9 u9 t H1 locs ht hvm hr9 hB hz1 hk1 hS hce hcv hcl => ?_)
      obtain ⟨rfl, hP1, hK1, hD1⟩ := hB
      rw [ht] at hP1
      obtain ⟨ad9, gd10, vad11⟩ := u9
      obtain ⟨hv12, hn13⟩ := hr9
      have hP : va_P D xcl (xMw cT aM ad9 rd gd10 vad11 o4.2.2.2 []) H1 := hP1
      have hD : va_D A (xMw cT aM ad9 rd gd10 vad11 o4.2.2.2 []) := hD1.weaken (fun k q _ h => hFc q.1 h)
      generalize H1 = H at hP hS hce ⊢
      have hE9 : ∀ p, p < xct st → vad11 p = vad p := fun p h => (hv12 p (Nat.lt_of_lt_of_le h hN)).trans (hE p h)
      have hE := hE9
      have hN : xct st ≤ xct o4.2.2.2 := Nat.le_trans hN hn13
      obtain rfl := Option.some.inj hf
      exact vx_out (E := "java/lang/UnsupportedOperationException") (fun x h => (hne x h).elim) hlocks hce hcv hcl (fun t ht ha => ⟨(ad9, gd10, vad11), ⟨hE, hN⟩, ⟨rfl, by rw [ht]; exact hP, va_K.moved ha hK, hD⟩, hS.F ht⟩) hS.2.2 (Nat.le_refl _) (Nat.le_refl _)
    rw [if_neg hk6] at hf
    exact nomatch hf
set_option maxHeartbeats 400000000 in
set_option maxRecDepth 100000 in
theorem gM_jsonString (l : Launch) (hl9 : l.stackTraces = false) (D : va_G) (cT : Nat → ClassId) (aK aV : Nat → Nat) (sz n : Nat) (aM : Nat) (ad rd gd vad : Nat → Nat) (st : xS) (out : Nat × Nat × Nat × Nat × xS) (hf : fM_jsonString n st = some out) (hkd : out.1 = 0) : xMet l yM_jsonString wyM_jsonString 8 out.2.1 out.2.2.1 145 D cT aK aV sz [.ref aM] (xMw cT aM ad rd gd vad st []) (fun A => va_Qq (fun (r : Option Nat) (u : xU) => r = xca u.2.2 out.2.2.2.1 ∧ xE vad st out.2.2.2.2 u) (fun u t => xB D xcl cT A (xMw cT aM u.1 rd u.2.1 u.2.2 out.2.2.2.2 []) t) A) := by
  refine Met.ofW (cc := prog_13_method_38_code) (maxL := 3) (ret := (some (.object "ValueBenchModel$V"))) (by decide) rfl ?_
  intro p e s m args below meth c s₁ B hml hv
  obtain ⟨rfl, hsz, hZ, hP, hK, hD0⟩ := hv
  have hx := B.exec
  have hb := B.bytes
  have hr := B.returns
  have hts := atoms_spec (ws := wyM_jsonString) B.pre
  have htx := fun w h => hts w (List.mem_cons_of_mem _ h)
  have hown : s.vm.findClass "ValueBenchModel" = some m.cls := findClass_of_methodNamed B.named
  have hlocks := B.notSynchronized
  subst hsz
  have hD := hD0.self (sz := s.heap.size)
  generalize hAe : va_A (xMw cT aM ad rd gd vad st []) s.heap.size = A at hD hZ ⊢
  have hA : ∀ q : Nat, s.heap.size ≤ q → A q := fun q h => by rw [← hAe]; exact Or.inr h
  have hS : va_S A s.heap s.heap [] := va_S.rf
  have hl := lv_entry ([.ref aM]) (n := 3) (by simp [lg_sl, xvcat, xrscat, xcI, xcL, xcR, xcN])
  rw [show lv_args 0 [.ref aM] = [(0, .ref aM)] from by simp [lv_args, xvcat, xrscat, xcI, xcL, xcR, xcN]] at hl
  rw [lg_entry_eq]
  generalize (lg_sl ([.ref aM]) ++ List.replicate (3 - (lg_sl ([.ref aM])).length) Slot.unset).toArray = ls at hl ⊢
  have hl : lv_has ls 3 [(0, .ref aM)] := hl
  have hE : ∀ p, p < xct st → vad p = vad p := fun _ _ => rfl
  have hN : xct st ≤ xct st := Nat.le_refl _
  unfold fM_jsonString at hf
  refine xloopM (σ := Nat × Int32 × xS × Nat × Nat) (fun n x H locs ls => (∃ (adL gdL vadL : Nat → Nat), x.1 = 1 ∧ fM_jsonString_b n x.1 x.2.1 x.2.2.1 x.2.2.2.1 x.2.2.2.2 = some out ∧ va_P D xcl (xMw cT aM adL rd gdL vadL x.2.2.1 []) H ∧ va_D A (xMw cT aM adL rd gdL vadL x.2.2.1 []) ∧ va_S A s.heap H locs ∧ lv_has ls 3 [(1, .int x.2.1), (0, .ref aM)] ∧ (∀ p, p < xct st → vadL p = vad p) ∧ xct st ≤ xct x.2.2.1)) (fun x => 15) (fun x => x.2.2.2.1) (fun x => x.2.2.2.2) (fun x H locs ls h => by (obtain ⟨_, _, _, h⟩ := h; exact absurd h.2.1 (by rw [fM_jsonString_b]; exact fun h => nomatch h))) (fun n ih x H locs ls hv => ?_) (fun key => ?_)
  · obtain ⟨lb, y1, ws9, wc, wn⟩ := x
    rcases hv with ⟨adL, gdL, vadL, hj, hf, hP, hD, hS, hl, hE, hN⟩
    subst hj
    have hf : fM_jsonString_b (n + 1) 1 y1 ws9 wc wn = some out := hf
    rw [fM_jsonString_b] at hf
    obtain ⟨hP, hD⟩ : xPD D xcl A (xMw cT aM adL rd gdL vadL ws9 []) H := ⟨hP, hD⟩
    have hl : lv_has ls 3 [(1, .int y1), (0, .ref aM)] := hl
    refine W.eq (g2 := F0 m 15 ls []) rfl ?_
    show W p l e _ s m _ below meth c H locs wc wn _ _
    obtain ⟨hm0, hf⟩ := xmoE hf
    refine lv_aload_n hx hb dM_jsonString_15 rfl (lv_at hl 1 rfl) ?_
    obtain ⟨o1, hq2, hf⟩ := xbind hf
    have hFc := xm_free hD hS hA
    refine va_calli (va_runV (C := "ValueBenchModel") (As := []) (rest := []) ⟨hx, hb, hml, hown, htx⟩ (gM_peek l hl9 D cT aK aV H.size n aM adL rd gdL vadL ws9 o1 hq2) ⟨callB_of 0 htx (xw_goodC kw_5_233) rfl rfl rfl (htx _ kw_1_5) (htx _ kw_5_230) ⟨by decide, by decide, by decide +kernel⟩ ⟨Nat.le_of_ble_eq_true rfl, Nat.le_of_ble_eq_true rfl⟩, (htx _ kw_5_232), (htx _ kp_M_peek)⟩ ⟨xPre_blind, va_recv hK hP (ci := 5) rfl (q0 := 0) rfl, (fun U hU hW => ⟨rfl, xPre_of hZ hS hFc hP hD hK U hU hW⟩)⟩ rfl rfl hl.1 rfl (xm_room (Nat.le_of_ble_eq_true rfl)) dM_jsonString_16 ⟨hm0.1, hm0.2⟩) hS (fun q _ h => hFc q h) hFc (fun r3 u9 t H1 locs ht hvm hr9 hB hz1 hk1 hS => ?_)
    obtain ⟨hP1, hK1, hD1⟩ := hB
    rw [ht] at hP1
    have hP : va_P D xcl (xMw cT aM adL rd gdL vadL ws9 []) H1 := hP1
    have hD : va_D A (xMw cT aM adL rd gdL vadL ws9 []) := hD1.weaken (fun k q _ h => hFc q.1 h)
    generalize H1 = H at hP hS ⊢
    rw [hr9]
    refine W.eq (g2 := F0 m 19 ls [.int o1]) (by first | rfl | (skip; rfl)) ?_
    refine lv_bipush (v := 34) hx hb dM_jsonString_19 (by decide) ?_
    refine lv_icmp_eq (tgt := 86) hx hb dM_jsonString_21 (by decide) (fun hc => ?_) (fun hc => ?_)
    · rw [if_pos hc] at hf
      refine lv_aload_n hx hb dM_jsonString_86 rfl (lv_at hl 1 rfl) ?_
      refine lv_dup hx hb dM_jsonString_87 rfl ?_
      refine xm_get (v := .int (xsi ws9 16)) hx hb htx hown hK hP 16 (by decide) rfl (htx _ kw_5_103) rfl dM_jsonString_88 ?_
      refine lv_iconst (v := 1) hx hb dM_jsonString_91 (by decide) ?_
      refine lv_iadd hx hb dM_jsonString_92 ?_
      refine xm_put (v := .int ((xsi ws9 16) + (1 : Int32))) (W' := (xMw cT aM adL rd gdL vadL (xsI ws9 16 ((xsi ws9 16) + (1 : Int32))) [])) (ty := .int) hx hb htx hown hK hP hD hS 16 (by decide) rfl (htx _ kw_5_103) rfl rfl (by decide +kernel) rfl rfl dM_jsonString_93 (fun H locs hP hD hS => ?_)
      refine lv_aload_n hx hb dM_jsonString_96 rfl (lv_at hl 1 rfl) ?_
      refine lv_iload_n hx hb dM_jsonString_97 rfl (lv_at hl 0 rfl) ?_
      obtain ⟨o4, hq5, hf⟩ := xbind hf
      by_cases hk6 : o4.1 = 0
      · rw [if_pos hk6] at hf
        obtain ⟨hm7, hf⟩ := xmoE hf
        have hFc := xm_free hD hS hA
        refine va_callq (va_runV (C := "ValueBenchModel") (As := [.int y1]) (rest := []) ⟨hx, hb, hml, hown, htx⟩ (gM_string l hl9 D cT aK aV H.size n aM adL rd gdL vadL (xsI ws9 16 ((xsi ws9 16) + (1 : Int32))) y1 o4 hq5 hk6) ⟨callB_of 1 htx (xw_goodC kw_6_61) rfl rfl rfl (htx _ kw_1_5) (htx _ kw_6_58) ⟨by decide, by decide, by decide +kernel⟩ ⟨Nat.le_of_ble_eq_true rfl, Nat.le_of_ble_eq_true rfl⟩, (htx _ kw_6_60), (htx _ kp_M_string)⟩ ⟨xPre_blind, va_recv hK hP (ci := 5) rfl (q0 := 0) rfl, (fun U hU hW => ⟨rfl, xPre_of hZ hS hFc hP hD hK U hU hW⟩)⟩ rfl rfl hl.1 rfl (xm_room (Nat.le_of_ble_eq_true rfl)) dM_jsonString_98 ⟨hm7.1, hm7.2⟩) hS (fun q _ h => hFc q h) hFc (fun r8 u9 t H1 locs ht hvm hr9 hB hz1 hk1 hS => ?_)
        obtain ⟨hP1, hK1, hD1⟩ := hB
        rw [ht] at hP1
        obtain ⟨ad9, gd10, vad11⟩ := u9
        obtain ⟨hr9, hv12, hn13⟩ := hr9
        have hP : va_P D xcl (xMw cT aM ad9 rd gd10 vad11 o4.2.2.2.2 []) H1 := hP1
        have hD : va_D A (xMw cT aM ad9 rd gd10 vad11 o4.2.2.2.2 []) := hD1.weaken (fun k q _ h => hFc q.1 h)
        generalize H1 = H at hP hS ⊢
        have hE9 : ∀ p, p < xct st → vad11 p = vad p := fun p h => (hv12 p (Nat.lt_of_lt_of_le h hN)).trans (hE p h)
        have hE := hE9
        have hN : xct st ≤ xct o4.2.2.2.2 := Nat.le_trans hN hn13
        rw [hr9]
        refine W.eq (g2 := F0 m 101 ls [xv vad11 o4.2.2.2.1]) (by first | rfl | (skip; rfl)) ?_
        obtain rfl := Option.some.inj hf
        exact W.aret (v := xv vad11 o4.2.2.2.1) hx hb hr (Or.inl ⟨_, rfl⟩) (xvor _ _) (fun t ht hW => ⟨⟨xca vad11 o4.2.2.2.1, (ad9, gd10, vad11), rfl, ⟨rfl, hE, hN⟩, by rw [ht]; exact hP, va_K.moved hW.alike hK, hD⟩, hS.F ht⟩) hS.2.2 dM_jsonString_101
      rw [if_neg hk6] at hf
      by_cases hk14 : o4.1 = 1
      · rw [if_pos hk14] at hf
        obtain ⟨hm15, hf⟩ := xmoE hf
        obtain rfl := Option.some.inj hf
        exact absurd (show (1 : Nat) = 0 from hkd) (by decide)
      rw [if_neg hk14] at hf
      exact nomatch hf
    · rw [if_neg hc] at hf
      refine lv_aload_n hx hb dM_jsonString_24 rfl (lv_at hl 1 rfl) ?_
      obtain ⟨o4, hq5, hf⟩ := xbind hf
      have hFc := xm_free hD hS hA
      refine va_calli (va_runV (C := "ValueBenchModel") (As := []) (rest := []) ⟨hx, hb, hml, hown, htx⟩ (gM_peek l hl9 D cT aK aV H.size n aM adL rd gdL vadL ws9 o4 hq5) ⟨callB_of 0 htx (xw_goodC kw_5_233) rfl rfl rfl (htx _ kw_1_5) (htx _ kw_5_230) ⟨by decide, by decide, by decide +kernel⟩ ⟨Nat.le_of_ble_eq_true rfl, Nat.le_of_ble_eq_true rfl⟩, (htx _ kw_5_232), (htx _ kp_M_peek)⟩ ⟨xPre_blind, va_recv hK hP (ci := 5) rfl (q0 := 0) rfl, (fun U hU hW => ⟨rfl, xPre_of hZ hS hFc hP hD hK U hU hW⟩)⟩ rfl rfl hl.1 rfl (xm_room (Nat.le_of_ble_eq_true rfl)) dM_jsonString_25 ⟨hm0.1, hm0.2⟩) hS (fun q _ h => hFc q h) hFc (fun r6 u9 t H1 locs ht hvm hr9 hB hz1 hk1 hS => ?_)
      obtain ⟨hP1, hK1, hD1⟩ := hB
      rw [ht] at hP1
      have hP : va_P D xcl (xMw cT aM adL rd gdL vadL ws9 []) H1 := hP1
      have hD : va_D A (xMw cT aM adL rd gdL vadL ws9 []) := hD1.weaken (fun k q _ h => hFc q.1 h)
      generalize H1 = H at hP hS ⊢
      rw [hr9]
      refine W.eq (g2 := F0 m 28 ls [.int o4]) (by first | rfl | (skip; rfl)) ?_
      refine lv_istore_n (lv' := [(2, .int o4), (1, .int y1), (0, .ref aM)]) hx hb dM_jsonString_28 rfl hl (by decide) rfl (fun ls hl => ?_)
      refine lv_iload_n hx hb dM_jsonString_29 rfl (lv_at hl 0 rfl) ?_
      refine lv_bipush (v := 32) hx hb dM_jsonString_30 (by decide) ?_
      refine lv_icmp_lt (tgt := 41) hx hb dM_jsonString_32 (by decide) (fun hc => ?_) (fun hc => ?_)
      · rw [if_pos hc] at hf
        refine lv_aload_n hx hb dM_jsonString_41 rfl (lv_at hl 2 rfl) ?_
        refine lv_aload_n hx hb dM_jsonString_42 rfl (lv_at hl 2 rfl) ?_
        refine xm_get (v := .int (xsi ws9 16)) hx hb htx hown hK hP 16 (by decide) rfl (htx _ kw_5_103) rfl dM_jsonString_43 ?_
        obtain ⟨o7, hq8, hf⟩ := xbind hf
        by_cases hk9 : o7.1 = 1
        · rw [if_pos hk9] at hf
          obtain ⟨hm10, hf⟩ := xmoE hf
          obtain rfl := Option.some.inj hf
          exact absurd (show (2 : Nat) = 0 from hkd) (by decide)
        rw [if_neg hk9] at hf
        exact nomatch hf
      · rw [if_neg hc] at hf
        refine lv_iload_n hx hb dM_jsonString_35 rfl (lv_at hl 0 rfl) ?_
        refine lv_bipush (v := 126) hx hb dM_jsonString_36 (by decide) ?_
        refine lv_icmp_le (tgt := 49) hx hb dM_jsonString_38 (by decide) (fun hc => ?_) (fun hc => ?_)
        · rw [if_pos hc] at hf
          refine lv_aload_n hx hb dM_jsonString_49 rfl (lv_at hl 2 rfl) ?_
          refine lv_dup hx hb dM_jsonString_50 rfl ?_
          refine xm_get (v := .int (xsi ws9 16)) hx hb htx hown hK hP 16 (by decide) rfl (htx _ kw_5_103) rfl dM_jsonString_51 ?_
          refine lv_iconst (v := 1) hx hb dM_jsonString_54 (by decide) ?_
          refine lv_iadd hx hb dM_jsonString_55 ?_
          refine xm_put (v := .int ((xsi ws9 16) + (1 : Int32))) (W' := (xMw cT aM adL rd gdL vadL (xsI ws9 16 ((xsi ws9 16) + (1 : Int32))) [])) (ty := .int) hx hb htx hown hK hP hD hS 16 (by decide) rfl (htx _ kw_5_103) rfl rfl (by decide +kernel) rfl rfl dM_jsonString_56 (fun H locs hP hD hS => ?_)
          refine lv_iload_n hx hb dM_jsonString_59 rfl (lv_at hl 0 rfl) ?_
          refine lv_bipush (v := 92) hx hb dM_jsonString_60 (by decide) ?_
          refine lv_icmp_ne (tgt := 78) hx hb dM_jsonString_62 (by decide) (fun hc => ?_) (fun hc => ?_)
          · rw [if_neg hc] at hf
            refine lv_aload_n hx hb dM_jsonString_78 rfl (lv_at hl 2 rfl) ?_
            refine lv_iload_n hx hb dM_jsonString_79 rfl (lv_at hl 0 rfl) ?_
            obtain ⟨o7, hq8, hf⟩ := xbind hf
            obtain ⟨hm9, hf⟩ := xmoE hf
            have hFc := xm_free hD hS hA
            refine va_callv (va_runV (C := "ValueBenchModel") (As := [.int o4]) (rest := []) ⟨hx, hb, hml, hown, htx⟩ (gM_letter l hl9 D cT aK aV H.size n aM adL rd gdL vadL (xsI ws9 16 ((xsi ws9 16) + (1 : Int32))) o4 o7 hq8) ⟨callB_of 1 htx (xw_goodC kw_6_54) rfl rfl rfl (htx _ kw_1_5) (htx _ kw_6_51) ⟨by decide, by decide, by decide +kernel⟩ ⟨Nat.le_of_ble_eq_true rfl, Nat.le_of_ble_eq_true rfl⟩, (htx _ kw_6_53), (htx _ kp_M_letter)⟩ ⟨xPre_blind, va_recv hK hP (ci := 5) rfl (q0 := 0) rfl, (fun U hU hW => ⟨rfl, xPre_of hZ hS hFc hP hD hK U hU hW⟩)⟩ rfl rfl hl.1 rfl (xm_room (Nat.le_of_ble_eq_true rfl)) dM_jsonString_80 ⟨hm9.1, hm9.2⟩) hS (fun q _ h => hFc q h) hFc (fun u9 t H1 locs ht hvm hr9 hB hz1 hk1 hS => ?_)
            obtain ⟨hP1, hK1, hD1⟩ := hB
            rw [ht] at hP1
            obtain ⟨ad11, gd12, vad13⟩ := u9
            obtain ⟨hv14, hn15⟩ := hr9
            have hP : va_P D xcl (xMw cT aM ad11 rd gd12 vad13 o7.2.2 []) H1 := hP1
            have hD : va_D A (xMw cT aM ad11 rd gd12 vad13 o7.2.2 []) := hD1.weaken (fun k q _ h => hFc q.1 h)
            generalize H1 = H at hP hS ⊢
            have hE9 : ∀ p, p < xct st → vad13 p = vad p := fun p h => (hv14 p (Nat.lt_of_lt_of_le h hN)).trans (hE p h)
            have hE := hE9
            have hN : xct st ≤ xct o7.2.2 := Nat.le_trans hN hn15
            refine W.eq (g2 := F0 m 83 ls []) (by first | rfl | (skip; rfl)) ?_
            refine lv_goto (tgt := 15) hx hb dM_jsonString_83 (by decide) ?_
            exact ih (1, y1, o7.2.2, (wc + o7.1), (wn + o7.2.1)) _ _ ls (⟨ad11, gd12, vad13, rfl, hf, hP, hD, hS, lv_sub hl [1, 2] rfl, hE, hN⟩)
          · rw [if_pos hc] at hf
            refine lv_aload_n hx hb dM_jsonString_65 rfl (lv_at hl 2 rfl) ?_
            refine lv_aload_n hx hb dM_jsonString_66 rfl (lv_at hl 2 rfl) ?_
            refine xm_get (v := .int ((xsi ws9 16) + (1 : Int32))) hx hb htx hown hK hP 16 (by decide) rfl (htx _ kw_5_103) rfl dM_jsonString_67 ?_
            refine lv_iconst (v := 1) hx hb dM_jsonString_70 (by decide) ?_
            refine lv_isub hx hb dM_jsonString_71 ?_
            obtain ⟨o7, hq8, hf⟩ := xbind hf
            by_cases hk9 : o7.1 = 0
            · rw [if_pos hk9] at hf
              obtain ⟨hm10, hf⟩ := xmoE hf
              have hFc := xm_free hD hS hA
              refine va_callv (va_runV (C := "ValueBenchModel") (As := [.int (((xsi ws9 16) + (1 : Int32)) - (1 : Int32))]) (rest := []) ⟨hx, hb, hml, hown, htx⟩ (gM_escaped l hl9 D cT aK aV H.size n aM adL rd gdL vadL (xsI ws9 16 ((xsi ws9 16) + (1 : Int32))) (((xsi ws9 16) + (1 : Int32)) - (1 : Int32)) o7 hq8 hk9) ⟨callB_of 1 htx (xw_goodC kw_6_50) rfl rfl rfl (htx _ kw_1_5) (htx _ kw_6_47) ⟨by decide, by decide, by decide +kernel⟩ ⟨Nat.le_of_ble_eq_true rfl, Nat.le_of_ble_eq_true rfl⟩, (htx _ kw_6_49), (htx _ kp_M_escaped)⟩ ⟨xPre_blind, va_recv hK hP (ci := 5) rfl (q0 := 0) rfl, (fun U hU hW => ⟨rfl, xPre_of hZ hS hFc hP hD hK U hU hW⟩)⟩ rfl rfl hl.1 rfl (xm_room (Nat.le_of_ble_eq_true rfl)) dM_jsonString_72 ⟨hm10.1, hm10.2⟩) hS (fun q _ h => hFc q h) hFc (fun u9 t H1 locs ht hvm hr9 hB hz1 hk1 hS => ?_)
              obtain ⟨hP1, hK1, hD1⟩ := hB
              rw [ht] at hP1
              obtain ⟨ad12, gd13, vad14⟩ := u9
              obtain ⟨hv15, hn16⟩ := hr9
              have hP : va_P D xcl (xMw cT aM ad12 rd gd13 vad14 o7.2.2.2 []) H1 := hP1
              have hD : va_D A (xMw cT aM ad12 rd gd13 vad14 o7.2.2.2 []) := hD1.weaken (fun k q _ h => hFc q.1 h)
              generalize H1 = H at hP hS ⊢
              have hE9 : ∀ p, p < xct st → vad14 p = vad p := fun p h => (hv15 p (Nat.lt_of_lt_of_le h hN)).trans (hE p h)
              have hE := hE9
              have hN : xct st ≤ xct o7.2.2.2 := Nat.le_trans hN hn16
              refine W.eq (g2 := F0 m 75 ls []) (by first | rfl | (skip; rfl)) ?_
              refine lv_goto (tgt := 83) hx hb dM_jsonString_75 (by decide) ?_
              refine lv_goto (tgt := 15) hx hb dM_jsonString_83 (by decide) ?_
              exact ih (1, y1, o7.2.2.2, (wc + o7.2.1), (wn + o7.2.2.1)) _ _ ls (⟨ad12, gd13, vad14, rfl, hf, hP, hD, hS, lv_sub hl [1, 2] rfl, hE, hN⟩)
            rw [if_neg hk9] at hf
            by_cases hk17 : o7.1 = 1
            · rw [if_pos hk17] at hf
              obtain ⟨hm18, hf⟩ := xmoE hf
              obtain rfl := Option.some.inj hf
              exact absurd (show (2 : Nat) = 0 from hkd) (by decide)
            rw [if_neg hk17] at hf
            exact nomatch hf
        · rw [if_neg hc] at hf
          refine lv_aload_n hx hb dM_jsonString_41 rfl (lv_at hl 2 rfl) ?_
          refine lv_aload_n hx hb dM_jsonString_42 rfl (lv_at hl 2 rfl) ?_
          refine xm_get (v := .int (xsi ws9 16)) hx hb htx hown hK hP 16 (by decide) rfl (htx _ kw_5_103) rfl dM_jsonString_43 ?_
          obtain ⟨o7, hq8, hf⟩ := xbind hf
          by_cases hk9 : o7.1 = 1
          · rw [if_pos hk9] at hf
            obtain ⟨hm10, hf⟩ := xmoE hf
            obtain rfl := Option.some.inj hf
            exact absurd (show (2 : Nat) = 0 from hkd) (by decide)
          rw [if_neg hk9] at hf
          exact nomatch hf
  refine lv_aload_n hx hb dM_jsonString_0 rfl (lv_at hl 0 rfl) ?_
  refine xm_get (v := .int (xsi st 4)) hx hb htx hown hK hP 4 (by decide) rfl (htx _ kw_5_91) rfl dM_jsonString_1 ?_
  refine lv_istore_n (lv' := [(1, .int (xsi st 4)), (0, .ref aM)]) hx hb dM_jsonString_4 rfl hl (by decide) rfl (fun ls hl => ?_)
  refine lv_aload_n hx hb dM_jsonString_5 rfl (lv_at hl 1 rfl) ?_
  refine lv_dup hx hb dM_jsonString_6 rfl ?_
  refine xm_get (v := .int (xsi st 16)) hx hb htx hown hK hP 16 (by decide) rfl (htx _ kw_5_103) rfl dM_jsonString_7 ?_
  refine lv_iconst (v := 1) hx hb dM_jsonString_10 (by decide) ?_
  refine lv_iadd hx hb dM_jsonString_11 ?_
  refine xm_put (v := .int ((xsi st 16) + (1 : Int32))) (W' := (xMw cT aM ad rd gd vad (xsI st 16 ((xsi st 16) + (1 : Int32))) [])) (ty := .int) hx hb htx hown hK hP hD hS 16 (by decide) rfl (htx _ kw_5_103) rfl rfl (by decide +kernel) rfl rfl dM_jsonString_12 (fun H locs hP hD hS => ?_)
  exact key n (1, (xsi st 4), (xsI st 16 ((xsi st 16) + (1 : Int32))), 0, 0) _ _ ls (⟨ad, gd, vad, rfl, hf, hP, hD, hS, lv_sub hl [0, 1] rfl, hE, hN⟩)
set_option maxHeartbeats 400000000 in
set_option maxRecDepth 100000 in
theorem gM_jsonString_1 (l : Launch) (hl9 : l.stackTraces = false) (D : va_G) (cT : Nat → ClassId) (aK aV : Nat → Nat) (sz n : Nat) (aM : Nat) (ad rd gd vad : Nat → Nat) (st : xS) (out : Nat × Nat × Nat × Nat × xS) (hf : fM_jsonString n st = some out) (hkd : out.1 = 1) : xMetY l yM_jsonString wyM_jsonString 8 out.2.1 out.2.2.1 145 D cT aK aV sz [.ref aM] (xMw cT aM ad rd gd vad st []) "java/lang/IndexOutOfBoundsException" (fun u => xE vad st out.2.2.2.2 u) (fun A u t => xB D xcl cT A (xMw cT aM u.1 rd u.2.1 u.2.2 out.2.2.2.2 []) t) := by
  refine vx_ofW (cc := prog_13_method_38_code) (maxL := 3) (ret := (some (.object "ValueBenchModel$V"))) (by decide) rfl ?_
  intro p e s m args below meth c s₁ B hml hne hv
  obtain ⟨rfl, hsz, hZ, hP, hK, hD0⟩ := hv
  have hx := B.exec
  have hb := B.bytes
  have hr := B.returns
  have hts := atoms_spec (ws := wyM_jsonString) B.pre
  have htx := fun w h => hts w (List.mem_cons_of_mem _ h)
  have hown : s.vm.findClass "ValueBenchModel" = some m.cls := findClass_of_methodNamed B.named
  have hlocks := B.notSynchronized
  subst hsz
  have hD := hD0.self (sz := s.heap.size)
  generalize hAe : va_A (xMw cT aM ad rd gd vad st []) s.heap.size = A at hD hZ ⊢
  have hA : ∀ q : Nat, s.heap.size ≤ q → A q := fun q h => by rw [← hAe]; exact Or.inr h
  have hS : va_S A s.heap s.heap [] := va_S.rf
  have hl := lv_entry ([.ref aM]) (n := 3) (by simp [lg_sl, xvcat, xrscat, xcI, xcL, xcR, xcN])
  rw [show lv_args 0 [.ref aM] = [(0, .ref aM)] from by simp [lv_args, xvcat, xrscat, xcI, xcL, xcR, xcN]] at hl
  rw [lg_entry_eq]
  generalize (lg_sl ([.ref aM]) ++ List.replicate (3 - (lg_sl ([.ref aM])).length) Slot.unset).toArray = ls at hl ⊢
  have hl : lv_has ls 3 [(0, .ref aM)] := hl
  have hE : ∀ p, p < xct st → vad p = vad p := fun _ _ => rfl
  have hN : xct st ≤ xct st := Nat.le_refl _
  unfold fM_jsonString at hf
  refine xloopM (σ := Nat × Int32 × xS × Nat × Nat) (fun n x H locs ls => (∃ (adL gdL vadL : Nat → Nat), x.1 = 1 ∧ fM_jsonString_b n x.1 x.2.1 x.2.2.1 x.2.2.2.1 x.2.2.2.2 = some out ∧ va_P D xcl (xMw cT aM adL rd gdL vadL x.2.2.1 []) H ∧ va_D A (xMw cT aM adL rd gdL vadL x.2.2.1 []) ∧ va_S A s.heap H locs ∧ lv_has ls 3 [(1, .int x.2.1), (0, .ref aM)] ∧ (∀ p, p < xct st → vadL p = vad p) ∧ xct st ≤ xct x.2.2.1)) (fun x => 15) (fun x => x.2.2.2.1) (fun x => x.2.2.2.2) (fun x H locs ls h => by (obtain ⟨_, _, _, h⟩ := h; exact absurd h.2.1 (by rw [fM_jsonString_b]; exact fun h => nomatch h))) (fun n ih x H locs ls hv => ?_) (fun key => ?_)
  · obtain ⟨lb, y1, ws9, wc, wn⟩ := x
    rcases hv with ⟨adL, gdL, vadL, hj, hf, hP, hD, hS, hl, hE, hN⟩
    subst hj
    have hf : fM_jsonString_b (n + 1) 1 y1 ws9 wc wn = some out := hf
    rw [fM_jsonString_b] at hf
    obtain ⟨hP, hD⟩ : xPD D xcl A (xMw cT aM adL rd gdL vadL ws9 []) H := ⟨hP, hD⟩
    have hl : lv_has ls 3 [(1, .int y1), (0, .ref aM)] := hl
    refine W.eq (g2 := F0 m 15 ls []) rfl ?_
    show W p l e _ s m _ below meth c H locs wc wn _ _
    obtain ⟨hm0, hf⟩ := xmoE hf
    refine lv_aload_n hx hb dM_jsonString_15 rfl (lv_at hl 1 rfl) ?_
    obtain ⟨o1, hq2, hf⟩ := xbind hf
    have hFc := xm_free hD hS hA
    refine va_calli (va_runV (C := "ValueBenchModel") (As := []) (rest := []) ⟨hx, hb, hml, hown, htx⟩ (gM_peek l hl9 D cT aK aV H.size n aM adL rd gdL vadL ws9 o1 hq2) ⟨callB_of 0 htx (xw_goodC kw_5_233) rfl rfl rfl (htx _ kw_1_5) (htx _ kw_5_230) ⟨by decide, by decide, by decide +kernel⟩ ⟨Nat.le_of_ble_eq_true rfl, Nat.le_of_ble_eq_true rfl⟩, (htx _ kw_5_232), (htx _ kp_M_peek)⟩ ⟨xPre_blind, va_recv hK hP (ci := 5) rfl (q0 := 0) rfl, (fun U hU hW => ⟨rfl, xPre_of hZ hS hFc hP hD hK U hU hW⟩)⟩ rfl rfl hl.1 rfl (xm_room (Nat.le_of_ble_eq_true rfl)) dM_jsonString_16 ⟨hm0.1, hm0.2⟩) hS (fun q _ h => hFc q h) hFc (fun r3 u9 t H1 locs ht hvm hr9 hB hz1 hk1 hS => ?_)
    obtain ⟨hP1, hK1, hD1⟩ := hB
    rw [ht] at hP1
    have hP : va_P D xcl (xMw cT aM adL rd gdL vadL ws9 []) H1 := hP1
    have hD : va_D A (xMw cT aM adL rd gdL vadL ws9 []) := hD1.weaken (fun k q _ h => hFc q.1 h)
    generalize H1 = H at hP hS ⊢
    rw [hr9]
    refine W.eq (g2 := F0 m 19 ls [.int o1]) (by first | rfl | (skip; rfl)) ?_
    refine lv_bipush (v := 34) hx hb dM_jsonString_19 (by decide) ?_
    refine lv_icmp_eq (tgt := 86) hx hb dM_jsonString_21 (by decide) (fun hc => ?_) (fun hc => ?_)
    · rw [if_pos hc] at hf
      refine lv_aload_n hx hb dM_jsonString_86 rfl (lv_at hl 1 rfl) ?_
      refine lv_dup hx hb dM_jsonString_87 rfl ?_
      refine xm_get (v := .int (xsi ws9 16)) hx hb htx hown hK hP 16 (by decide) rfl (htx _ kw_5_103) rfl dM_jsonString_88 ?_
      refine lv_iconst (v := 1) hx hb dM_jsonString_91 (by decide) ?_
      refine lv_iadd hx hb dM_jsonString_92 ?_
      refine xm_put (v := .int ((xsi ws9 16) + (1 : Int32))) (W' := (xMw cT aM adL rd gdL vadL (xsI ws9 16 ((xsi ws9 16) + (1 : Int32))) [])) (ty := .int) hx hb htx hown hK hP hD hS 16 (by decide) rfl (htx _ kw_5_103) rfl rfl (by decide +kernel) rfl rfl dM_jsonString_93 (fun H locs hP hD hS => ?_)
      refine lv_aload_n hx hb dM_jsonString_96 rfl (lv_at hl 1 rfl) ?_
      refine lv_iload_n hx hb dM_jsonString_97 rfl (lv_at hl 0 rfl) ?_
      obtain ⟨o4, hq5, hf⟩ := xbind hf
      by_cases hk6 : o4.1 = 0
      · rw [if_pos hk6] at hf
        obtain ⟨hm7, hf⟩ := xmoE hf
        have hFc := xm_free hD hS hA
        refine va_callq (va_runV (C := "ValueBenchModel") (As := [.int y1]) (rest := []) ⟨hx, hb, hml, hown, htx⟩ (gM_string l hl9 D cT aK aV H.size n aM adL rd gdL vadL (xsI ws9 16 ((xsi ws9 16) + (1 : Int32))) y1 o4 hq5 hk6) ⟨callB_of 1 htx (xw_goodC kw_6_61) rfl rfl rfl (htx _ kw_1_5) (htx _ kw_6_58) ⟨by decide, by decide, by decide +kernel⟩ ⟨Nat.le_of_ble_eq_true rfl, Nat.le_of_ble_eq_true rfl⟩, (htx _ kw_6_60), (htx _ kp_M_string)⟩ ⟨xPre_blind, va_recv hK hP (ci := 5) rfl (q0 := 0) rfl, (fun U hU hW => ⟨rfl, xPre_of hZ hS hFc hP hD hK U hU hW⟩)⟩ rfl rfl hl.1 rfl (xm_room (Nat.le_of_ble_eq_true rfl)) dM_jsonString_98 ⟨hm7.1, hm7.2⟩) hS (fun q _ h => hFc q h) hFc (fun r8 u9 t H1 locs ht hvm hr9 hB hz1 hk1 hS => ?_)
        obtain ⟨hP1, hK1, hD1⟩ := hB
        rw [ht] at hP1
        obtain ⟨ad9, gd10, vad11⟩ := u9
        obtain ⟨hr9, hv12, hn13⟩ := hr9
        have hP : va_P D xcl (xMw cT aM ad9 rd gd10 vad11 o4.2.2.2.2 []) H1 := hP1
        have hD : va_D A (xMw cT aM ad9 rd gd10 vad11 o4.2.2.2.2 []) := hD1.weaken (fun k q _ h => hFc q.1 h)
        generalize H1 = H at hP hS ⊢
        have hE9 : ∀ p, p < xct st → vad11 p = vad p := fun p h => (hv12 p (Nat.lt_of_lt_of_le h hN)).trans (hE p h)
        have hE := hE9
        have hN : xct st ≤ xct o4.2.2.2.2 := Nat.le_trans hN hn13
        rw [hr9]
        refine W.eq (g2 := F0 m 101 ls [xv vad11 o4.2.2.2.1]) (by first | rfl | (skip; rfl)) ?_
        obtain rfl := Option.some.inj hf
        exact absurd (show (0 : Nat) = 1 from hkd) (by decide)
      rw [if_neg hk6] at hf
      by_cases hk14 : o4.1 = 1
      · rw [if_pos hk14] at hf
        obtain ⟨hm15, hf⟩ := xmoE hf
        have hFc := xm_free hD hS hA
        refine xx_thr (vx_runV (C := "ValueBenchModel") (As := [.int y1]) (rest := []) ⟨hx, hb, hml, hown, htx⟩ (gM_string_1 l hl9 D cT aK aV H.size n aM adL rd gdL vadL (xsI ws9 16 ((xsi ws9 16) + (1 : Int32))) y1 o4 hq5 hk14) ⟨callB_of 1 htx (xw_goodC kw_6_61) rfl rfl rfl (htx _ kw_1_5) (htx _ kw_6_58) ⟨by decide, by decide, by decide +kernel⟩ ⟨Nat.le_of_ble_eq_true rfl, Nat.le_of_ble_eq_true rfl⟩, (htx _ kw_6_60), (htx _ kp_M_string)⟩ ⟨xPre_blind, va_recv hK hP (ci := 5) rfl (q0 := 0) rfl, (fun U hU hW => ⟨rfl, xPre_of hZ hS hFc hP hD hK U hU hW⟩)⟩ rfl rfl hl.1 rfl (xm_room (Nat.le_of_ble_eq_true rfl)) dM_jsonString_98 ⟨hm15.1, hm15.2⟩) hS hFc (fun q _ h => hFc q h) (fun E ce q9 u9 t H1 locs ht hvm hr9 hB hz1 hk1 hS hce hcv hcl => ?_)
        obtain ⟨rfl, hP1, hK1, hD1⟩ := hB
        rw [ht] at hP1
        obtain ⟨ad17, gd18, vad19⟩ := u9
        obtain ⟨hv20, hn21⟩ := hr9
        have hP : va_P D xcl (xMw cT aM ad17 rd gd18 vad19 o4.2.2.2.2 []) H1 := hP1
        have hD : va_D A (xMw cT aM ad17 rd gd18 vad19 o4.2.2.2.2 []) := hD1.weaken (fun k q _ h => hFc q.1 h)
        generalize H1 = H at hP hS hce ⊢
        have hE9 : ∀ p, p < xct st → vad19 p = vad p := fun p h => (hv20 p (Nat.lt_of_lt_of_le h hN)).trans (hE p h)
        have hE := hE9
        have hN : xct st ≤ xct o4.2.2.2.2 := Nat.le_trans hN hn21
        obtain rfl := Option.some.inj hf
        exact vx_out (E := "java/lang/IndexOutOfBoundsException") (fun x h => (hne x h).elim) hlocks hce hcv hcl (fun t ht ha => ⟨(ad17, gd18, vad19), ⟨hE, hN⟩, ⟨rfl, by rw [ht]; exact hP, va_K.moved ha hK, hD⟩, hS.F ht⟩) hS.2.2 (Nat.le_refl _) (Nat.le_refl _)
      rw [if_neg hk14] at hf
      exact nomatch hf
    · rw [if_neg hc] at hf
      refine lv_aload_n hx hb dM_jsonString_24 rfl (lv_at hl 1 rfl) ?_
      obtain ⟨o4, hq5, hf⟩ := xbind hf
      have hFc := xm_free hD hS hA
      refine va_calli (va_runV (C := "ValueBenchModel") (As := []) (rest := []) ⟨hx, hb, hml, hown, htx⟩ (gM_peek l hl9 D cT aK aV H.size n aM adL rd gdL vadL ws9 o4 hq5) ⟨callB_of 0 htx (xw_goodC kw_5_233) rfl rfl rfl (htx _ kw_1_5) (htx _ kw_5_230) ⟨by decide, by decide, by decide +kernel⟩ ⟨Nat.le_of_ble_eq_true rfl, Nat.le_of_ble_eq_true rfl⟩, (htx _ kw_5_232), (htx _ kp_M_peek)⟩ ⟨xPre_blind, va_recv hK hP (ci := 5) rfl (q0 := 0) rfl, (fun U hU hW => ⟨rfl, xPre_of hZ hS hFc hP hD hK U hU hW⟩)⟩ rfl rfl hl.1 rfl (xm_room (Nat.le_of_ble_eq_true rfl)) dM_jsonString_25 ⟨hm0.1, hm0.2⟩) hS (fun q _ h => hFc q h) hFc (fun r6 u9 t H1 locs ht hvm hr9 hB hz1 hk1 hS => ?_)
      obtain ⟨hP1, hK1, hD1⟩ := hB
      rw [ht] at hP1
      have hP : va_P D xcl (xMw cT aM adL rd gdL vadL ws9 []) H1 := hP1
      have hD : va_D A (xMw cT aM adL rd gdL vadL ws9 []) := hD1.weaken (fun k q _ h => hFc q.1 h)
      generalize H1 = H at hP hS ⊢
      rw [hr9]
      refine W.eq (g2 := F0 m 28 ls [.int o4]) (by first | rfl | (skip; rfl)) ?_
      refine lv_istore_n (lv' := [(2, .int o4), (1, .int y1), (0, .ref aM)]) hx hb dM_jsonString_28 rfl hl (by decide) rfl (fun ls hl => ?_)
      refine lv_iload_n hx hb dM_jsonString_29 rfl (lv_at hl 0 rfl) ?_
      refine lv_bipush (v := 32) hx hb dM_jsonString_30 (by decide) ?_
      refine lv_icmp_lt (tgt := 41) hx hb dM_jsonString_32 (by decide) (fun hc => ?_) (fun hc => ?_)
      · rw [if_pos hc] at hf
        refine lv_aload_n hx hb dM_jsonString_41 rfl (lv_at hl 2 rfl) ?_
        refine lv_aload_n hx hb dM_jsonString_42 rfl (lv_at hl 2 rfl) ?_
        refine xm_get (v := .int (xsi ws9 16)) hx hb htx hown hK hP 16 (by decide) rfl (htx _ kw_5_103) rfl dM_jsonString_43 ?_
        obtain ⟨o7, hq8, hf⟩ := xbind hf
        by_cases hk9 : o7.1 = 1
        · rw [if_pos hk9] at hf
          obtain ⟨hm10, hf⟩ := xmoE hf
          obtain rfl := Option.some.inj hf
          exact absurd (show (2 : Nat) = 1 from hkd) (by decide)
        rw [if_neg hk9] at hf
        exact nomatch hf
      · rw [if_neg hc] at hf
        refine lv_iload_n hx hb dM_jsonString_35 rfl (lv_at hl 0 rfl) ?_
        refine lv_bipush (v := 126) hx hb dM_jsonString_36 (by decide) ?_
        refine lv_icmp_le (tgt := 49) hx hb dM_jsonString_38 (by decide) (fun hc => ?_) (fun hc => ?_)
        · rw [if_pos hc] at hf
          refine lv_aload_n hx hb dM_jsonString_49 rfl (lv_at hl 2 rfl) ?_
          refine lv_dup hx hb dM_jsonString_50 rfl ?_
          refine xm_get (v := .int (xsi ws9 16)) hx hb htx hown hK hP 16 (by decide) rfl (htx _ kw_5_103) rfl dM_jsonString_51 ?_
          refine lv_iconst (v := 1) hx hb dM_jsonString_54 (by decide) ?_
          refine lv_iadd hx hb dM_jsonString_55 ?_
          refine xm_put (v := .int ((xsi ws9 16) + (1 : Int32))) (W' := (xMw cT aM adL rd gdL vadL (xsI ws9 16 ((xsi ws9 16) + (1 : Int32))) [])) (ty := .int) hx hb htx hown hK hP hD hS 16 (by decide) rfl (htx _ kw_5_103) rfl rfl (by decide +kernel) rfl rfl dM_jsonString_56 (fun H locs hP hD hS => ?_)
          refine lv_iload_n hx hb dM_jsonString_59 rfl (lv_at hl 0 rfl) ?_
          refine lv_bipush (v := 92) hx hb dM_jsonString_60 (by decide) ?_
          refine lv_icmp_ne (tgt := 78) hx hb dM_jsonString_62 (by decide) (fun hc => ?_) (fun hc => ?_)
          · rw [if_neg hc] at hf
            refine lv_aload_n hx hb dM_jsonString_78 rfl (lv_at hl 2 rfl) ?_
            refine lv_iload_n hx hb dM_jsonString_79 rfl (lv_at hl 0 rfl) ?_
            obtain ⟨o7, hq8, hf⟩ := xbind hf
            obtain ⟨hm9, hf⟩ := xmoE hf
            have hFc := xm_free hD hS hA
            refine va_callv (va_runV (C := "ValueBenchModel") (As := [.int o4]) (rest := []) ⟨hx, hb, hml, hown, htx⟩ (gM_letter l hl9 D cT aK aV H.size n aM adL rd gdL vadL (xsI ws9 16 ((xsi ws9 16) + (1 : Int32))) o4 o7 hq8) ⟨callB_of 1 htx (xw_goodC kw_6_54) rfl rfl rfl (htx _ kw_1_5) (htx _ kw_6_51) ⟨by decide, by decide, by decide +kernel⟩ ⟨Nat.le_of_ble_eq_true rfl, Nat.le_of_ble_eq_true rfl⟩, (htx _ kw_6_53), (htx _ kp_M_letter)⟩ ⟨xPre_blind, va_recv hK hP (ci := 5) rfl (q0 := 0) rfl, (fun U hU hW => ⟨rfl, xPre_of hZ hS hFc hP hD hK U hU hW⟩)⟩ rfl rfl hl.1 rfl (xm_room (Nat.le_of_ble_eq_true rfl)) dM_jsonString_80 ⟨hm9.1, hm9.2⟩) hS (fun q _ h => hFc q h) hFc (fun u9 t H1 locs ht hvm hr9 hB hz1 hk1 hS => ?_)
            obtain ⟨hP1, hK1, hD1⟩ := hB
            rw [ht] at hP1
            obtain ⟨ad11, gd12, vad13⟩ := u9
            obtain ⟨hv14, hn15⟩ := hr9
            have hP : va_P D xcl (xMw cT aM ad11 rd gd12 vad13 o7.2.2 []) H1 := hP1
            have hD : va_D A (xMw cT aM ad11 rd gd12 vad13 o7.2.2 []) := hD1.weaken (fun k q _ h => hFc q.1 h)
            generalize H1 = H at hP hS ⊢
            have hE9 : ∀ p, p < xct st → vad13 p = vad p := fun p h => (hv14 p (Nat.lt_of_lt_of_le h hN)).trans (hE p h)
            have hE := hE9
            have hN : xct st ≤ xct o7.2.2 := Nat.le_trans hN hn15
            refine W.eq (g2 := F0 m 83 ls []) (by first | rfl | (skip; rfl)) ?_
            refine lv_goto (tgt := 15) hx hb dM_jsonString_83 (by decide) ?_
            exact ih (1, y1, o7.2.2, (wc + o7.1), (wn + o7.2.1)) _ _ ls (⟨ad11, gd12, vad13, rfl, hf, hP, hD, hS, lv_sub hl [1, 2] rfl, hE, hN⟩)
          · rw [if_pos hc] at hf
            refine lv_aload_n hx hb dM_jsonString_65 rfl (lv_at hl 2 rfl) ?_
            refine lv_aload_n hx hb dM_jsonString_66 rfl (lv_at hl 2 rfl) ?_
            refine xm_get (v := .int ((xsi ws9 16) + (1 : Int32))) hx hb htx hown hK hP 16 (by decide) rfl (htx _ kw_5_103) rfl dM_jsonString_67 ?_
            refine lv_iconst (v := 1) hx hb dM_jsonString_70 (by decide) ?_
            refine lv_isub hx hb dM_jsonString_71 ?_
            obtain ⟨o7, hq8, hf⟩ := xbind hf
            by_cases hk9 : o7.1 = 0
            · rw [if_pos hk9] at hf
              obtain ⟨hm10, hf⟩ := xmoE hf
              have hFc := xm_free hD hS hA
              refine va_callv (va_runV (C := "ValueBenchModel") (As := [.int (((xsi ws9 16) + (1 : Int32)) - (1 : Int32))]) (rest := []) ⟨hx, hb, hml, hown, htx⟩ (gM_escaped l hl9 D cT aK aV H.size n aM adL rd gdL vadL (xsI ws9 16 ((xsi ws9 16) + (1 : Int32))) (((xsi ws9 16) + (1 : Int32)) - (1 : Int32)) o7 hq8 hk9) ⟨callB_of 1 htx (xw_goodC kw_6_50) rfl rfl rfl (htx _ kw_1_5) (htx _ kw_6_47) ⟨by decide, by decide, by decide +kernel⟩ ⟨Nat.le_of_ble_eq_true rfl, Nat.le_of_ble_eq_true rfl⟩, (htx _ kw_6_49), (htx _ kp_M_escaped)⟩ ⟨xPre_blind, va_recv hK hP (ci := 5) rfl (q0 := 0) rfl, (fun U hU hW => ⟨rfl, xPre_of hZ hS hFc hP hD hK U hU hW⟩)⟩ rfl rfl hl.1 rfl (xm_room (Nat.le_of_ble_eq_true rfl)) dM_jsonString_72 ⟨hm10.1, hm10.2⟩) hS (fun q _ h => hFc q h) hFc (fun u9 t H1 locs ht hvm hr9 hB hz1 hk1 hS => ?_)
              obtain ⟨hP1, hK1, hD1⟩ := hB
              rw [ht] at hP1
              obtain ⟨ad12, gd13, vad14⟩ := u9
              obtain ⟨hv15, hn16⟩ := hr9
              have hP : va_P D xcl (xMw cT aM ad12 rd gd13 vad14 o7.2.2.2 []) H1 := hP1
              have hD : va_D A (xMw cT aM ad12 rd gd13 vad14 o7.2.2.2 []) := hD1.weaken (fun k q _ h => hFc q.1 h)
              generalize H1 = H at hP hS ⊢
              have hE9 : ∀ p, p < xct st → vad14 p = vad p := fun p h => (hv15 p (Nat.lt_of_lt_of_le h hN)).trans (hE p h)
              have hE := hE9
              have hN : xct st ≤ xct o7.2.2.2 := Nat.le_trans hN hn16
              refine W.eq (g2 := F0 m 75 ls []) (by first | rfl | (skip; rfl)) ?_
              refine lv_goto (tgt := 83) hx hb dM_jsonString_75 (by decide) ?_
              refine lv_goto (tgt := 15) hx hb dM_jsonString_83 (by decide) ?_
              exact ih (1, y1, o7.2.2.2, (wc + o7.2.1), (wn + o7.2.2.1)) _ _ ls (⟨ad12, gd13, vad14, rfl, hf, hP, hD, hS, lv_sub hl [1, 2] rfl, hE, hN⟩)
            rw [if_neg hk9] at hf
            by_cases hk17 : o7.1 = 1
            · rw [if_pos hk17] at hf
              obtain ⟨hm18, hf⟩ := xmoE hf
              obtain rfl := Option.some.inj hf
              exact absurd (show (2 : Nat) = 1 from hkd) (by decide)
            rw [if_neg hk17] at hf
            exact nomatch hf
        · rw [if_neg hc] at hf
          refine lv_aload_n hx hb dM_jsonString_41 rfl (lv_at hl 2 rfl) ?_
          refine lv_aload_n hx hb dM_jsonString_42 rfl (lv_at hl 2 rfl) ?_
          refine xm_get (v := .int (xsi ws9 16)) hx hb htx hown hK hP 16 (by decide) rfl (htx _ kw_5_103) rfl dM_jsonString_43 ?_
          obtain ⟨o7, hq8, hf⟩ := xbind hf
          by_cases hk9 : o7.1 = 1
          · rw [if_pos hk9] at hf
            obtain ⟨hm10, hf⟩ := xmoE hf
            obtain rfl := Option.some.inj hf
            exact absurd (show (2 : Nat) = 1 from hkd) (by decide)
          rw [if_neg hk9] at hf
          exact nomatch hf
  refine lv_aload_n hx hb dM_jsonString_0 rfl (lv_at hl 0 rfl) ?_
  refine xm_get (v := .int (xsi st 4)) hx hb htx hown hK hP 4 (by decide) rfl (htx _ kw_5_91) rfl dM_jsonString_1 ?_
  refine lv_istore_n (lv' := [(1, .int (xsi st 4)), (0, .ref aM)]) hx hb dM_jsonString_4 rfl hl (by decide) rfl (fun ls hl => ?_)
  refine lv_aload_n hx hb dM_jsonString_5 rfl (lv_at hl 1 rfl) ?_
  refine lv_dup hx hb dM_jsonString_6 rfl ?_
  refine xm_get (v := .int (xsi st 16)) hx hb htx hown hK hP 16 (by decide) rfl (htx _ kw_5_103) rfl dM_jsonString_7 ?_
  refine lv_iconst (v := 1) hx hb dM_jsonString_10 (by decide) ?_
  refine lv_iadd hx hb dM_jsonString_11 ?_
  refine xm_put (v := .int ((xsi st 16) + (1 : Int32))) (W' := (xMw cT aM ad rd gd vad (xsI st 16 ((xsi st 16) + (1 : Int32))) [])) (ty := .int) hx hb htx hown hK hP hD hS 16 (by decide) rfl (htx _ kw_5_103) rfl rfl (by decide +kernel) rfl rfl dM_jsonString_12 (fun H locs hP hD hS => ?_)
  exact key n (1, (xsi st 4), (xsI st 16 ((xsi st 16) + (1 : Int32))), 0, 0) _ _ ls (⟨ad, gd, vad, rfl, hf, hP, hD, hS, lv_sub hl [0, 1] rfl, hE, hN⟩)
