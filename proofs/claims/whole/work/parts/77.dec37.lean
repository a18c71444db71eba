set_option maxHeartbeats 400000000 in
set_option maxRecDepth 100000 in
theorem gM_jsonString_2 (l : Launch) (hl9 : l.stackTraces = false) (D : va_G) (cT : Nat → ClassId) (aK aV : Nat → Nat) (sz n : Nat) (aM : Nat) (ad rd gd vad : Nat → Nat) (st : xS) (out : Nat × Nat × Nat × Nat × xS) (hf : fM_jsonString n st = some out) (hkd : out.1 = 2) : xMetY l yM_jsonString wyM_jsonString 8 out.2.1 out.2.2.1 145 D cT aK aV sz [.ref aM] (xMw cT aM ad rd gd vad st []) "java/lang/UnsupportedOperationException" (fun u => xE vad st out.2.2.2.2 u) (fun A u t => xB D xcl cT A (xMw cT aM u.1 rd u.2.1 u.2.2 out.2.2.2.2 []) t) := by
  refine vx_ofW (cc := prog_13_method_38_code) (maxL := 3) (ret := (some (.object "ValueBenchModel$V"))) (by decide) rfl ?_
  intro p e s m args below meth c s₁ B hml hne hv
  obtain ⟨rfl, hsz, hZ, hP, hK, hD0⟩ := hv
  have hx := B.exec
  have hb := B.bytes
  have hr := B.returns
  have hts := atoms_spec (ws := wyM_jsonString) B.pre
  have htx := fun w h => hts w (List.mem_cons_of_mem _ h)
  have hown : s.vm.findClass "ValueBenchModel" = some m.cls := findClass_of_methodNamed B.named
  have hlocks := B.notSynchronized
  subst hsz
  have hD := hD0.self (sz := s.heap.size)
  generalize hAe : va_A (xMw cT aM ad rd gd vad st []) s.heap.size = A at hD hZ ⊢
  have hA : ∀ q : Nat, s.heap.size ≤ q → A q := fun q h => by rw [← hAe]; exact Or.inr h
  have hS : va_S A s.heap s.heap [] := va_S.rf
  have hl := lv_entry ([.ref aM]) (n := 3) (by simp [lg_sl, xvcat, xrscat, xcI, xcL, xcR, xcN])
  rw [show lv_args 0 [.ref aM] = [(0, .ref aM)] from by simp [lv_args, xvcat, xrscat, xcI, xcL, xcR, xcN]] at hl
  rw [lg_entry_eq]
  generalize (lg_sl ([.ref aM]) ++ List.replicate (3 - (lg_sl ([.ref aM])).length) Slot.unset).toArray = ls at hl ⊢
  have hl : lv_has ls 3 [(0, .ref aM)] := hl
  have hE : ∀ p, p < xct st → vad p = vad p := fun _ _ => rfl
  have hN : xct st ≤ xct st := Nat.le_refl _
  unfold fM_jsonString at hf
  refine xloopM (σ := Nat × Int32 × xS × Nat × Nat) (fun n x H locs ls => (∃ (adL gdL vadL : Nat → Nat), x.1 = 1 ∧ fM_jsonString_b n x.1 x.2.1 x.2.2.1 x.2.2.2.1 x.2.2.2.2 = some out ∧ va_P D xcl (xMw cT aM adL rd gdL vadL x.2.2.1 []) H ∧ va_D A (xMw cT aM adL rd gdL vadL x.2.2.1 []) ∧ va_S A s.heap H locs ∧ lv_has ls 3 [(1, .int x.2.1), (0, .ref aM)] ∧ (∀ p, p < xct st → vadL p = vad p) ∧ xct st ≤ xct x.2.2.1)) (fun x => 15) (fun x => x.2.2.2.1) (fun x => x.2.2.2.2) (fun x H locs ls h => by (obtain ⟨_, _, _, h⟩ := h; exact absurd h.2.1 (by rw [fM_jsonString_b]; exact fun h => nomatch h))) (fun n ih x H locs ls hv => ?_) (fun key => ?_)
  · obtain ⟨lb, y1, ws9, wc, wn⟩ := x
    rcases hv with ⟨adL, gdL, vadL, hj, hf, hP, hD, hS, hl, hE, hN⟩
    subst hj
    have hf : fM_jsonString_b (n + 1) 1 y1 ws9 wc wn = some out := hf
    rw [fM_jsonString_b] at hf
    obtain ⟨hP, hD⟩ : xPD D xcl A (xMw cT aM adL rd gdL vadL ws9 []) H := ⟨hP, hD⟩
    have hl : lv_has ls 3 [(1, .int y1), (0, .ref aM)] := hl
    refine W.eq (g2 := F0 m 15 ls []) rfl ?_
    show W p l e _ s m _ below meth c H locs wc wn _ _
    obtain ⟨hm0, hf⟩ := xmoE hf
    refine lv_aload_n hx hb dM_jsonString_15 rfl (lv_at hl 1 rfl) ?_
    obtain ⟨o1, hq2, hf⟩ := xbind hf
    have hFc := xm_free hD hS hA
    refine va_calli (va_runV (C := "ValueBenchModel") (As := []) (rest := []) ⟨hx, hb, hml, hown, htx⟩ (gM_peek l hl9 D cT aK aV H.size n aM adL rd gdL vadL ws9 o1 hq2) ⟨callB_of 0 htx (xw_goodC kw_5_233) rfl rfl rfl (htx _ kw_1_5) (htx _ kw_5_230) ⟨by decide, by decide, by decide +kernel⟩ ⟨Nat.le_of_ble_eq_true rfl, Nat.le_of_ble_eq_true rfl⟩, (htx _ kw_5_232), (htx _ kp_M_peek)⟩ ⟨xPre_blind, va_recv hK hP (ci := 5) rfl (q0 := 0) rfl, (fun U hU hW => ⟨rfl, xPre_of hZ hS hFc hP hD hK U hU hW⟩)⟩ rfl rfl hl.1 rfl (xm_room (Nat.le_of_ble_eq_true rfl)) dM_jsonString_16 ⟨hm0.1, hm0.2⟩) hS (fun q _ h => hFc q h) hFc (fun r3 u9 t H1 locs ht hvm hr9 hB hz1 hk1 hS => ?_)
    obtain ⟨hP1, hK1, hD1⟩ := hB
    rw [ht] at hP1
    have hP : va_P D xcl (xMw cT aM adL rd gdL vadL ws9 []) H1 := hP1
    have hD : va_D A (xMw cT aM adL rd gdL vadL ws9 []) := hD1.weaken (fun k q _ h => hFc q.1 h)
    generalize H1 = H at hP hS ⊢
    rw [hr9]
    refine W.eq (g2 := F0 m 19 ls [.int o1]) (by first | rfl | (skip; rfl)) ?_
    refine lv_bipush (v := 34) hx hb dM_jsonString_19 (by decide) ?_
    refine lv_icmp_eq (tgt := 86) hx hb dM_jsonString_21 (by decide) (fun hc => ?_) (fun hc => ?_)
    · rw [if_pos hc] at hf
      refine lv_aload_n hx hb dM_jsonString_86 rfl (lv_at hl 1 rfl) ?_
      refine lv_dup hx hb dM_jsonString_87 rfl ?_
      refine xm_get (v := .int (xsi ws9 16)) hx hb htx hown hK hP 16 (by decide) rfl (htx _ kw_5_103) rfl dM_jsonString_88 ?_
      refine lv_iconst (v := 1) hx hb dM_jsonString_91 (by decide) ?_
      refine lv_iadd hx hb dM_jsonString_92 ?_
      refine xm_put (v := .int ((xsi ws9 16) + (1 : Int32))) (W' := (xMw cT aM adL rd gdL vadL (xsI ws9 16 ((xsi ws9 16) + (1 : Int32))) [])) (ty := .int) hx hb htx hown hK hP hD hS 16 (by decide) rfl (htx _ kw_5_103) rfl rfl (by decide +kernel) rfl rfl dM_jsonString_93 (fun H locs hP hD hS => ?_)
      refine lv_aload_n hx hb dM_jsonString_96 rfl (lv_at hl 1 rfl) ?_
      refine lv_iload_n hx hb dM_jsonString_97 rfl (lv_at hl 0 rfl) ?_
      obtain ⟨o4, hq5, hf⟩ := xbind hf
      by_cases hk6 : o4.1 = 0
      · rw [if_pos hk6] at hf
        obtain ⟨hm7, hf⟩ := xmoE hf
        have hFc := xm_free hD hS hA
        refine va_callq (va_runV (C := "ValueBenchModel") (As := [.int y1]) (rest := []) ⟨hx, hb, hml, hown, htx⟩ (gM_string l hl9 D cT aK aV H.size n aM adL rd gdL vadL (xsI ws9 16 ((xsi ws9 16) + (1 : Int32))) y1 o4 hq5 hk6) ⟨callB_of 1 htx (xw_goodC kw_6_61) rfl rfl rfl (htx _ kw_1_5) (htx _ kw_6_58) ⟨by decide, by decide, by decide +kernel⟩ ⟨Nat.le_of_ble_eq_true rfl, Nat.le_of_ble_eq_true rfl⟩, (htx _ kw_6_60), (htx _ kp_M_string)⟩ ⟨xPre_blind, va_recv hK hP (ci := 5) rfl (q0 := 0) rfl, (fun U hU hW => ⟨rfl, xPre_of hZ hS hFc hP hD hK U hU hW⟩)⟩ rfl rfl hl.1 rfl (xm_room (Nat.le_of_ble_eq_true rfl)) dM_jsonString_98 ⟨hm7.1, hm7.2⟩) hS (fun q _ h => hFc q h) hFc (fun r8 u9 t H1 locs ht hvm hr9 hB hz1 hk1 hS => ?_)
        obtain ⟨hP1, hK1, hD1⟩ := hB
        rw [ht] at hP1
        obtain ⟨ad9, gd10, vad11⟩ := u9
        obtain ⟨hr9, hv12, hn13⟩ := hr9
        have hP : va_P D xcl (xMw cT aM ad9 rd gd10 vad11 o4.2.2.2.2 []) H1 := hP1
        have hD : va_D A (xMw cT aM ad9 rd gd10 vad11 o4.2.2.2.2 []) := hD1.weaken (fun k q _ h => hFc q.1 h)
        generalize H1 = H at hP hS ⊢
        have hE9 : ∀ p, p < xct st → vad11 p = vad p := fun p h => (hv12 p (Nat.lt_of_lt_of_le h hN)).trans (hE p h)
        have hE := hE9
        have hN : xct st ≤ xct o4.2.2.2.2 := Nat.le_trans hN hn13
        rw [hr9]
        refine W.eq (g2 := F0 m 101 ls [xv vad11 o4.2.2.2.1]) (by first | rfl | (skip; rfl)) ?_
        obtain rfl := Option.some.inj hf
        exact absurd (show (0 : Nat) = 2 from hkd) (by decide)
      rw [if_neg hk6] at hf
      by_cases hk14 : o4.1 = 1
      · rw [if_pos hk14] at hf
        obtain ⟨hm15, hf⟩ := xmoE hf
        obtain rfl := Option.some.inj hf
        exact absurd (show (1 : Nat) = 2 from hkd) (by decide)
      rw [if_neg hk14] at hf
      exact nomatch hf
    · rw [if_neg hc] at hf
      refine lv_aload_n hx hb dM_jsonString_24 rfl (lv_at hl 1 rfl) ?_
      obtain ⟨o4, hq5, hf⟩ := xbind hf
      have hFc := xm_free hD hS hA
      refine va_calli (va_runV (C := "ValueBenchModel") (As := []) (rest := []) ⟨hx, hb, hml, hown, htx⟩ (gM_peek l hl9 D cT aK aV H.size n aM adL rd gdL vadL ws9 o4 hq5) ⟨callB_of 0 htx (xw_goodC kw_5_233) rfl rfl rfl (htx _ kw_1_5) (htx _ kw_5_230) ⟨by decide, by decide, by decide +kernel⟩ ⟨Nat.le_of_ble_eq_true rfl, Nat.le_of_ble_eq_true rfl⟩, (htx _ kw_5_232), (htx _ kp_M_peek)⟩ ⟨xPre_blind, va_recv hK hP (ci := 5) rfl (q0 := 0) rfl, (fun U hU hW => ⟨rfl, xPre_of hZ hS hFc hP hD hK U hU hW⟩)⟩ rfl rfl hl.1 rfl (xm_room (Nat.le_of_ble_eq_true rfl)) dM_jsonString_25 ⟨hm0.1, hm0.2⟩) hS (fun q _ h => hFc q h) hFc (fun r6 u9 t H1 locs ht hvm hr9 hB hz1 hk1 hS => ?_)
      obtain ⟨hP1, hK1, hD1⟩ := hB
      rw [ht] at hP1
      have hP : va_P D xcl (xMw cT aM adL rd gdL vadL ws9 []) H1 := hP1
      have hD : va_D A (xMw cT aM adL rd gdL vadL ws9 []) := hD1.weaken (fun k q _ h => hFc q.1 h)
      generalize H1 = H at hP hS ⊢
      rw [hr9]
      refine W.eq (g2 := F0 m 28 ls [.int o4]) (by first | rfl | (skip; rfl)) ?_
      refine lv_istore_n (lv' := [(2, .int o4), (1, .int y1), (0, .ref aM)]) hx hb dM_jsonString_28 rfl hl (by decide) rfl (fun ls hl => ?_)
      refine lv_iload_n hx hb dM_jsonString_29 rfl (lv_at hl 0 rfl) ?_
      refine lv_bipush (v := 32) hx hb dM_jsonString_30 (by decide) ?_
      refine lv_icmp_lt (tgt := 41) hx hb dM_jsonString_32 (by decide) (fun hc => ?_) (fun hc => ?_)
      · rw [if_pos hc] at hf
        refine lv_aload_n hx hb dM_jsonString_41 rfl (lv_at hl 2 rfl) ?_
        refine lv_aload_n hx hb dM_jsonString_42 rfl (lv_at hl 2 rfl) ?_
        refine xm_get (v := .int (xsi ws9 16)) hx hb htx hown hK hP 16 (by decide) rfl (htx _ kw_5_103) rfl dM_jsonString_43 ?_
        obtain ⟨o7, hq8, hf⟩ := xbind hf
        by_cases hk9 : o7.1 = 1
        · rw [if_pos hk9] at hf
          obtain ⟨hm10, hf⟩ := xmoE hf
          have hFc := xm_free hD hS hA
          refine xx_thr (vx_runV (C := "ValueBenchModel") (As := [.int (xsi ws9 16)]) (rest := []) ⟨hx, hb, hml, hown, htx⟩ (gM_bad_1 l hl9 D cT aK aV H.size n aM adL rd gdL vadL ws9 (xsi ws9 16) o7 hq8 hk9) ⟨callB_of 1 htx (xw_goodC kw_6_2) rfl rfl rfl (htx _ kw_1_5) (htx _ kw_5_239) ⟨by decide, by decide, by decide +kernel⟩ ⟨Nat.le_of_ble_eq_true rfl, Nat.le_of_ble_eq_true rfl⟩, (htx _ kw_6_1), (htx _ kp_M_bad)⟩ ⟨xPre_blind, va_recv hK hP (ci := 5) rfl (q0 := 0) rfl, (fun U hU hW => ⟨rfl, xPre_of hZ hS hFc hP hD hK U hU hW⟩)⟩ rfl rfl hl.1 rfl (xm_room (Nat.le_of_ble_eq_true rfl)) dM_jsonString_46 ⟨hm10.1, hm10.2⟩) hS hFc (fun q _ h => hFc q h) (fun E ce q9 u9 t H1 locs ht hvm hr9 hB hz1 hk1 hS hce hcv hcl => ?_)
          obtain ⟨rfl, hP1, hK1, hD1⟩ := hB
          rw [ht] at hP1
          obtain ⟨ad12, gd13, vad14⟩ := u9
          obtain ⟨hv15, hn16⟩ := hr9
          have hP : va_P D xcl (xMw cT aM ad12 rd gd13 vad14 o7.2.2.2 []) H1 := hP1
          have hD : va_D A (xMw cT aM ad12 rd gd13 vad14 o7.2.2.2 []) := hD1.weaken (fun k q _ h => hFc q.1 h)
          generalize H1 = H at hP hS hce ⊢
          have hE9 : ∀ p, p < xct st → vad14 p = vad p := fun p h => (hv15 p (Nat.lt_of_lt_of_le h hN)).trans (hE p h)
          have hE := hE9
          have hN : xct st ≤ xct o7.2.2.2 := Nat.le_trans hN hn16
          obtain rfl := Option.some.inj hf
          exact vx_out (E := "java/lang/UnsupportedOperationException") (fun x h => (hne x h).elim) hlocks hce hcv hcl (fun t ht ha => ⟨(ad12, gd13, vad14), ⟨hE, hN⟩, ⟨rfl, by rw [ht]; exact hP, va_K.moved ha hK, hD⟩, hS.F ht⟩) hS.2.2 (Nat.le_refl _) (Nat.le_refl _)
        rw [if_neg hk9] at hf
        exact nomatch hf
      · rw [if_neg hc] at hf
        refine lv_iload_n hx hb dM_jsonString_35 rfl (lv_at hl 0 rfl) ?_
        refine lv_bipush (v := 126) hx hb dM_jsonString_36 (by decide) ?_
        refine lv_icmp_le (tgt := 49) hx hb dM_jsonString_38 (by decide) (fun hc => ?_) (fun hc => ?_)
        · rw [if_pos hc] at hf
          refine lv_aload_n hx hb dM_jsonString_49 rfl (lv_at hl 2 rfl) ?_
          refine lv_dup hx hb dM_jsonString_50 rfl ?_
          refine xm_get (v := .int (xsi ws9 16)) hx hb htx hown hK hP 16 (by decide) rfl (htx _ kw_5_103) rfl dM_jsonString_51 ?_
          refine lv_iconst (v := 1) hx hb dM_jsonString_54 (by decide) ?_
          refine lv_iadd hx hb dM_jsonString_55 ?_
          refine xm_put (v := .int ((xsi ws9 16) + (1 : Int32))) (W' := (xMw cT aM adL rd gdL vadL (xsI ws9 16 ((xsi ws9 16) + (1 : Int32))) [])) (ty := .int) hx hb htx hown hK hP hD hS 16 (by decide) rfl (htx _ kw_5_103) rfl rfl (by decide +kernel) rfl rfl dM_jsonString_56 (fun H locs hP hD hS => ?_)
          refine lv_iload_n hx hb dM_jsonString_59 rfl (lv_at hl 0 rfl) ?_
          refine lv_bipush (v := 92) hx hb dM_jsonString_60 (by decide) ?_
          refine lv_icmp_ne (tgt := 78) hx hb dM_jsonString_62 (by decide) (fun hc => ?_) (fun hc => ?_)
          · rw [if_neg hc] at hf
            refine lv_aload_n hx hb dM_jsonString_78 rfl (lv_at hl 2 rfl) ?_
            refine lv_iload_n hx hb dM_jsonString_79 rfl (lv_at hl 0 rfl) ?_
            obtain ⟨o7, hq8, hf⟩ := xbind hf
            obtain ⟨hm9, hf⟩ := xmoE hf
            have hFc := xm_free hD hS hA
            refine va_callv (va_runV (C := "ValueBenchModel") (As := [.int o4]) (rest := []) ⟨hx, hb, hml, hown, htx⟩ (gM_letter l hl9 D cT aK aV H.size n aM adL rd gdL vadL (xsI ws9 16 ((xsi ws9 16) + (1 : Int32))) o4 o7 hq8) ⟨callB_of 1 htx (xw_goodC kw_6_54) rfl rfl rfl (htx _ kw_1_5) (htx _ kw_6_51) ⟨by decide, by decide, by decide +kernel⟩ ⟨Nat.le_of_ble_eq_true rfl, Nat.le_of_ble_eq_true rfl⟩, (htx _ kw_6_53), (htx _ kp_M_letter)⟩ ⟨xPre_blind, va_recv hK hP (ci := 5) rfl (q0 := 0) rfl, (fun U hU hW => ⟨rfl, xPre_of hZ hS hFc hP hD hK U hU hW⟩)⟩ rfl rfl hl.1 rfl (xm_room (Nat.le_of_ble_eq_true rfl)) dM_jsonString_80 ⟨hm9.1, hm9.2⟩) hS (fun q _ h => hFc q h) hFc (fun u9 t H1 locs ht hvm hr9 hB hz1 hk1 hS => ?_)
            obtain ⟨hP1, hK1, hD1⟩ := hB
            rw [ht] at hP1
            obtain ⟨ad11, gd12, vad13⟩ := u9
            obtain ⟨hv14, hn15⟩ := hr9
            have hP : va_P D xcl (xMw cT aM ad11 rd gd12 vad13 o7.2.2 []) H1 := hP1
            have hD : va_D A (xMw cT aM ad11 rd gd12 vad13 o7.2.2 []) := hD1.weaken (fun k q _ h => hFc q.1 h)
            generalize H1 = H at hP hS ⊢
            have hE9 : ∀ p, p < xct st → vad13 p = vad p := fun p h => (hv14 p (Nat.lt_of_lt_of_le h hN)).trans (hE p h)
            have hE := hE9
            have hN : xct st ≤ xct o7.2.2 := Nat.le_trans hN hn15
            refine W.eq (g2 := F0 m 83 ls []) (by first | rfl | (skip; rfl)) ?_
            refine lv_goto (tgt := 15) hx hb dM_jsonString_83 (by decide) ?_
            exact ih (1, y1, o7.2.2, (wc + o7.1), (wn + o7.2.1)) _ _ ls (⟨ad11, gd12, vad13, rfl, hf, hP, hD, hS, lv_sub hl [1, 2] rfl, hE, hN⟩)
          · rw [if_pos hc] at hf
            refine lv_aload_n hx hb dM_jsonString_65 rfl (lv_at hl 2 rfl) ?_
            refine lv_aload_n hx hb dM_jsonString_66 rfl (lv_at hl 2 rfl) ?_
            refine xm_get (v := .int ((xsi ws9 16) + (1 : Int32))) hx hb htx hown hK hP 16 (by decide) rfl (htx _ kw_5_103) rfl dM_jsonString_67 ?_
            refine lv_iconst (v := 1) hx hb dM_jsonString_70 (by decide) ?_
            refine lv_isub hx hb dM_jsonString_71 ?_
            obtain ⟨o7, hq8, hf⟩ := xbind hf
            by_cases hk9 : o7.1 = 0
            · rw [if_pos hk9] at hf
              obtain ⟨hm10, hf⟩ := xmoE hf
              have hFc := xm_free hD hS hA
              refine va_callv (va_runV (C := "ValueBenchModel") (As := [.int (((xsi ws9 16) + (1 : Int32)) - (1 : Int32))]) (rest := []) ⟨hx, hb, hml, hown, htx⟩ (gM_escaped l hl9 D cT aK aV H.size n aM adL rd gdL vadL (xsI ws9 16 ((xsi ws9 16) + (1 : Int32))) (((xsi ws9 16) + (1 : Int32)) - (1 : Int32)) o7 hq8 hk9) ⟨callB_of 1 htx (xw_goodC kw_6_50) rfl rfl rfl (htx _ kw_1_5) (htx _ kw_6_47) ⟨by decide, by decide, by decide +kernel⟩ ⟨Nat.le_of_ble_eq_true rfl, Nat.le_of_ble_eq_true rfl⟩, (htx _ kw_6_49), (htx _ kp_M_escaped)⟩ ⟨xPre_blind, va_recv hK hP (ci := 5) rfl (q0 := 0) rfl, (fun U hU hW => ⟨rfl, xPre_of hZ hS hFc hP hD hK U hU hW⟩)⟩ rfl rfl hl.1 rfl (xm_room (Nat.le_of_ble_eq_true rfl)) dM_jsonString_72 ⟨hm10.1, hm10.2⟩) hS (fun q _ h => hFc q h) hFc (fun u9 t H1 locs ht hvm hr9 hB hz1 hk1 hS => ?_)
              obtain ⟨hP1, hK1, hD1⟩ := hB
              rw [ht] at hP1
              obtain ⟨ad12, gd13, vad14⟩ := u9
              obtain ⟨hv15, hn16⟩ := hr9
              have hP : va_P D xcl (xMw cT aM ad12 rd gd13 vad14 o7.2.2.2 []) H1 := hP1
              have hD : va_D A (xMw cT aM ad12 rd gd13 vad14 o7.2.2.2 []) := hD1.weaken (fun k q _ h => hFc q.1 h)
              generalize H1 = H at hP hS ⊢
              have hE9 : ∀ p, p < xct st → vad14 p = vad p := fun p h => (hv15 p (Nat.lt_of_lt_of_le h hN)).trans (hE p h)
              have hE := hE9
              have hN : xct st ≤ xct o7.2.2.2 := Nat.le_trans hN hn16
              refine W.eq (g2 := F0 m 75 ls []) (by first | rfl | (skip; rfl)) ?_
              refine lv_goto (tgt := 83) hx hb dM_jsonString_75 (by decide) ?_
              refine lv_goto (tgt := 15) hx hb dM_jsonString_83 (by decide) ?_
              exact ih (1, y1, o7.2.2.2, (wc + o7.2.1), (wn + o7.2.2.1)) _ _ ls (⟨ad12, gd13, vad14, rfl, hf, hP, hD, hS, lv_sub hl [1, 2] rfl, hE, hN⟩)
            rw [if_neg hk9] at hf
            by_cases hk17 : o7.1 = 1
            · rw [if_pos hk17] at hf
              obtain ⟨hm18, hf⟩ := xmoE hf
              have hFc := xm_free hD hS hA
              refine xx_thr (vx_runV (C := "ValueBenchModel") (As := [.int (((xsi ws9 16) + (1 : Int32)) - (1 : Int32))]) (rest := []) ⟨hx, hb, hml, hown, htx⟩ (gM_escaped_1 l hl9 D cT aK aV H.size n aM adL rd gdL vadL (xsI ws9 16 ((xsi ws9 16) + (1 : Int32))) (((xsi ws9 16) + (1 : Int32)) - (1 : Int32)) o7 hq8 hk17) ⟨callB_of 1 htx (xw_goodC kw_6_50) rfl rfl rfl (htx _ kw_1_5) (htx _ kw_6_47) ⟨by decide, by decide, by decide +kernel⟩ ⟨Nat.le_of_ble_eq_true rfl, Nat.le_of_ble_eq_true rfl⟩, (htx _ kw_6_49), (htx _ kp_M_escaped)⟩ ⟨xPre_blind, va_recv hK hP (ci := 5) rfl (q0 := 0) rfl, (fun U hU hW => ⟨rfl, xPre_of hZ hS hFc hP hD hK U hU hW⟩)⟩ rfl rfl hl.1 rfl (xm_room (Nat.le_of_ble_eq_true rfl)) dM_jsonString_72 ⟨hm18.1, hm18.2⟩) hS hFc (fun q _ h => hFc q h) (fun E ce q9 u9 t H1 locs ht hvm hr9 hB hz1 hk1 hS hce hcv hcl => ?_)
              obtain ⟨rfl, hP1, hK1, hD1⟩ := hB
              rw [ht] at hP1
              obtain ⟨ad20, gd21, vad22⟩ := u9
              obtain ⟨hv23, hn24⟩ := hr9
              have hP : va_P D xcl (xMw cT aM ad20 rd gd21 vad22 o7.2.2.2 []) H1 := hP1
              have hD : va_D A (xMw cT aM ad20 rd gd21 vad22 o7.2.2.2 []) := hD1.weaken (fun k q _ h => hFc q.1 h)
              generalize H1 = H at hP hS hce ⊢
              have hE9 : ∀ p, p < xct st → vad22 p = vad p := fun p h => (hv23 p (Nat.lt_of_lt_of_le h hN)).trans (hE p h)
              have hE := hE9
              have hN : xct st ≤ xct o7.2.2.2 := Nat.le_trans hN hn24
              obtain rfl := Option.some.inj hf
              exact vx_out (E := "java/lang/UnsupportedOperationException") (fun x h => (hne x h).elim) hlocks hce hcv hcl (fun t ht ha => ⟨(ad20, gd21, vad22), ⟨hE, hN⟩, ⟨rfl, by rw [ht]; exact hP, va_K.moved ha hK, hD⟩, hS.F ht⟩) hS.2.2 (Nat.le_refl _) (Nat.le_refl _)
            rw [if_neg hk17] at hf
            exact nomatch hf
        · rw [if_neg hc] at hf
          refine lv_aload_n hx hb dM_jsonString_41 rfl (lv_at hl 2 rfl) ?_
          refine lv_aload_n hx hb dM_jsonString_42 rfl (lv_at hl 2 rfl) ?_
          refine xm_get (v := .int (xsi ws9 16)) hx hb htx hown hK hP 16 (by decide) rfl (htx _ kw_5_103) rfl dM_jsonString_43 ?_
          obtain ⟨o7, hq8, hf⟩ := xbind hf
          by_cases hk9 : o7.1 = 1
          · rw [if_pos hk9] at hf
            obtain ⟨hm10, hf⟩ := xmoE hf
            have hFc := xm_free hD hS hA
            refine xx_thr (vx_runV (C := "ValueBenchModel") (As := [.int (xsi ws9 16)]) (rest := []) ⟨hx, hb, hml, hown, htx⟩ (gM_bad_1 l hl9 D cT aK aV H.size n aM adL rd gdL vadL ws9 (xsi ws9 16) o7 hq8 hk9) ⟨callB_of 1 htx (xw_goodC kw_6_2) rfl rfl rfl (htx _ kw_1_5) (htx _ kw_5_239) ⟨by decide, by decide, by decide +kernel⟩ ⟨Nat.le_of_ble_eq_true rfl, Nat.le_of_ble_eq_true rfl⟩, (htx _ kw_6_1), (htx _ kp_M_bad)⟩ ⟨xPre_blind, va_recv hK hP (ci := 5) rfl (q0 := 0) rfl, (fun U hU hW => ⟨rfl, xPre_of hZ hS hFc hP hD hK U hU hW⟩)⟩ rfl rfl hl.1 rfl (xm_room (Nat.le_of_ble_eq_true rfl)) dM_jsonString_46 ⟨hm10.1, hm10.2⟩) hS hFc (fun q _ h => hFc q h) (fun E ce q9 u9 t H1 locs ht hvm hr9 hB hz1 hk1 hS hce hcv hcl => ?_)
            obtain ⟨rfl, hP1, hK1, hD1⟩ := hB
            rw [ht] at hP1
            obtain ⟨ad12, gd13, vad14⟩ := u9
            obtain ⟨hv15, hn16⟩ := hr9
            have hP : va_P D xcl (xMw cT aM ad12 rd gd13 vad14 o7.2.2.2 []) H1 := hP1
            have hD : va_D A (xMw cT aM ad12 rd gd13 vad14 o7.2.2.2 []) := hD1.weaken (fun k q _ h => hFc q.1 h)
            generalize H1 = H at hP hS hce ⊢
            have hE9 : ∀ p, p < xct st → vad14 p = vad p := fun p h => (hv15 p (Nat.lt_of_lt_of_le h hN)).trans (hE p h)
            have hE := hE9
            have hN : xct st ≤ xct o7.2.2.2 := Nat.le_trans hN hn16
            obtain rfl := Option.some.inj hf
            exact vx_out (E := "java/lang/UnsupportedOperationException") (fun x h => (hne x h).elim) hlocks hce hcv hcl (fun t ht ha => ⟨(ad12, gd13, vad14), ⟨hE, hN⟩, ⟨rfl, by rw [ht]; exact hP, va_K.moved ha hK, hD⟩, hS.F ht⟩) hS.2.2 (Nat.le_refl _) (Nat.le_refl _)
          rw [if_neg hk9] at hf
          exact nomatch hf
  refine lv_aload_n hx hb dM_jsonString_0 rfl (lv_at hl 0 rfl) ?_
  refine xm_get (v := .int (xsi st 4)) hx hb htx hown hK hP 4 (by decide) rfl (htx _ kw_5_91) rfl dM_jsonString_1 ?_
  refine lv_istore_n (lv' := [(1, .int (xsi st 4)), (0, .ref aM)]) hx hb dM_jsonString_4 rfl hl (by decide) rfl (fun ls hl => ?_)
  refine lv_aload_n hx hb dM_jsonString_5 rfl (lv_at hl 1 rfl) ?_
  refine lv_dup hx hb dM_jsonString_6 rfl ?_
  refine xm_get (v := .int (xsi st 16)) hx hb htx hown hK hP 16 (by decide) rfl (htx _ kw_5_103) rfl dM_jsonString_7 ?_
  refine lv_iconst (v := 1) hx hb dM_jsonString_10 (by decide) ?_
  refine lv_iadd hx hb dM_jsonString_11 ?_
  refine xm_put (v := .int ((xsi st 16) + (1 : Int32))) (W' := (xMw cT aM ad rd gd vad (xsI st 16 ((xsi st 16) + (1 : Int32))) [])) (ty := .int) hx hb htx hown hK hP hD hS 16 (by decide) rfl (htx _ kw_5_103) rfl rfl (by decide +kernel) rfl rfl dM_jsonString_12 (fun H locs hP hD hS => ?_)
  exact key n (1, (xsi st 4), (xsI st 16 ((xsi st 16) + (1 : Int32))), 0, 0) _ _ ls (⟨ad, gd, vad, rfl, hf, hP, hD, hS, lv_sub hl [0, 1] rfl, hE, hN⟩)
set_option maxHeartbeats 400000000 in
set_option maxRecDepth 100000 in
theorem gM_members (l : Launch) (hl9 : l.stackTraces = false) (D : va_G) (cT : Nat → ClassId) (aK aV : Nat → Nat) (fr lo : Nat) (rec : xS → Option (Nat × Nat × Nat × Nat × xS)) (hrec : ∀ (sz aM : Nat) (ad rd gd vad : Nat → Nat) (st : xS) (out : Nat × Nat × Nat × Nat × xS), rec st = some out → (out.1 = 0 → xMet l yM_value wyM_value fr out.2.1 out.2.2.1 lo D cT aK aV sz [.ref aM] (xMw cT aM ad rd gd vad st []) (fun A => va_Qq (fun (r : Option Nat) (u : xU) => r = xca u.2.2 out.2.2.2.1 ∧ xE vad st out.2.2.2.2 u) (fun u t => xB D xcl cT A (xMw cT aM u.1 rd u.2.1 u.2.2 out.2.2.2.2 []) t) A)) ∧ (out.1 = 1 → xMetY l yM_value wyM_value fr out.2.1 out.2.2.1 lo D cT aK aV sz [.ref aM] (xMw cT aM ad rd gd vad st []) "java/lang/UnsupportedOperationException" (fun u => xE vad st out.2.2.2.2 u) (fun A u t => xB D xcl cT A (xMw cT aM u.1 rd u.2.1 u.2.2 out.2.2.2.2 []) t)) ∧ (out.1 = 2 → xMetY l yM_value wyM_value fr out.2.1 out.2.2.1 lo D cT aK aV sz [.ref aM] (xMw cT aM ad rd gd vad st []) "java/lang/IndexOutOfBoundsException" (fun u => xE vad st out.2.2.2.2 u) (fun A u t => xB D xcl cT A (xMw cT aM u.1 rd u.2.1 u.2.2 out.2.2.2.2 []) t)) ∧ (out.1 = 3 → xMetY l yM_value wyM_value fr out.2.1 out.2.2.1 lo D cT aK aV sz [.ref aM] (xMw cT aM ad rd gd vad st []) "java/lang/ArithmeticException" (fun u => xE vad st out.2.2.2.2 u) (fun A u t => xB D xcl cT A (xMw cT aM u.1 rd u.2.1 u.2.2 out.2.2.2.2 []) t))) (sz n : Nat) (aM : Nat) (ad rd gd vad : Nat → Nat) (st : xS) (out : Nat × Nat × Nat × Nat × xS) (hf : fM_members rec n st = some out) (hkd : out.1 = 0) : xMet l yM_members wyM_members (fr + 9) out.2.1 out.2.2.1 (lo + 167) D cT aK aV sz [.ref aM] (xMw cT aM ad rd gd vad st []) (fun A => va_Qq (fun (r : Option Nat) (u : xU) => r = xca u.2.2 out.2.2.2.1 ∧ xE vad st out.2.2.2.2 u) (fun u t => xB D xcl cT A (xMw cT aM u.1 rd u.2.1 u.2.2 out.2.2.2.2 []) t) A) := by
  refine Met.ofW (cc := prog_13_method_40_code) (maxL := 6) (ret := (some (.object "ValueBenchModel$V"))) (by decide) rfl ?_
  intro p e s m args below meth c s₁ B hml hv
  obtain ⟨rfl, hsz, hZ, hP, hK, hD0⟩ := hv
  have hx := B.exec
  have hb := B.bytes
  have hr := B.returns
  have hts := atoms_spec (ws := wyM_members) B.pre
  have htx := fun w h => hts w (List.mem_cons_of_mem _ h)
  have hown : s.vm.findClass "ValueBenchModel" = some m.cls := findClass_of_methodNamed B.named
  have hlocks := B.notSynchronized
  subst hsz
  have hD := hD0.self (sz := s.heap.size)
  generalize hAe : va_A (xMw cT aM ad rd gd vad st []) s.heap.size = A at hD hZ ⊢
  have hA : ∀ q : Nat, s.heap.size ≤ q → A q := fun q h => by rw [← hAe]; exact Or.inr h
  have hS : va_S A s.heap s.heap [] := va_S.rf
  have hl := lv_entry ([.ref aM]) (n := 6) (by simp [lg_sl, xvcat, xrscat, xcI, xcL, xcR, xcN])
  rw [show lv_args 0 [.ref aM] = [(0, .ref aM)] from by simp [lv_args, xvcat, xrscat, xcI, xcL, xcR, xcN]] at hl
  rw [lg_entry_eq]
  generalize (lg_sl ([.ref aM]) ++ List.replicate (6 - (lg_sl ([.ref aM])).length) Slot.unset).toArray = ls at hl ⊢
  have hl : lv_has ls 6 [(0, .ref aM)] := hl
  have hE : ∀ p, p < xct st → vad p = vad p := fun _ _ => rfl
  have hN : xct st ≤ xct st := Nat.le_refl _
  unfold fM_members at hf
  refine xloopM (σ := Nat × Int32 × Int32 × Nat × Int32 × xS × Nat × Nat) (fun n x H locs ls => (∃ (adL gdL vadL : Nat → Nat), x.1 = 1 ∧ fM_members_b rec n x.1 x.2.1 x.2.2.1 x.2.2.2.1 x.2.2.2.2.1 x.2.2.2.2.2.1 x.2.2.2.2.2.2.1 x.2.2.2.2.2.2.2 = some out ∧ va_P D xcl (xMw cT aM adL rd gdL vadL x.2.2.2.2.2.1 []) H ∧ va_D A (xMw cT aM adL rd gdL vadL x.2.2.2.2.2.1 []) ∧ va_S A s.heap H locs ∧ lv_has ls 6 [(1, .int x.2.1), (0, .ref aM)] ∧ (∀ p, p < xct st → vadL p = vad p) ∧ xct st ≤ xct x.2.2.2.2.2.1) ∨ (∃ (adL gdL vadL : Nat → Nat), x.1 = 2 ∧ fM_members_b rec n x.1 x.2.1 x.2.2.1 x.2.2.2.1 x.2.2.2.2.1 x.2.2.2.2.2.1 x.2.2.2.2.2.2.1 x.2.2.2.2.2.2.2 = some out ∧ va_P D xcl (xMw cT aM adL rd gdL vadL x.2.2.2.2.2.1 []) H ∧ va_D A (xMw cT aM adL rd gdL vadL x.2.2.2.2.2.1 []) ∧ va_S A s.heap H locs ∧ lv_has ls 6 [(4, .int x.2.2.1), (3, xv vadL x.2.2.2.1), (2, .int x.2.2.2.2.1), (1, .int x.2.1), (0, .ref aM)] ∧ (∀ p, p < xct st → vadL p = vad p) ∧ xct st ≤ xct x.2.2.2.2.2.1)) (fun x => if x.1 = 1 then 36 else 70) (fun x => x.2.2.2.2.2.2.1) (fun x => x.2.2.2.2.2.2.2) (fun x H locs ls h => by rcases h with h | h; (obtain ⟨_, _, _, h⟩ := h; exact absurd h.2.1 (by rw [fM_members_b]; exact fun h => nomatch h)); (obtain ⟨_, _, _, h⟩ := h; exact absurd h.2.1 (by rw [fM_members_b]; exact fun h => nomatch h))) (fun n ih x H locs ls hv => ?_) (fun key => ?_)
  · obtain ⟨lb, y1, y4, y3, y2, ws9, wc, wn⟩ := x
    rcases hv with ⟨adL, gdL, vadL, hj, hf, hP, hD, hS, hl, hE, hN⟩ | ⟨adL, gdL, vadL, hj, hf, hP, hD, hS, hl, hE, hN⟩
    · subst hj
      have hf : fM_members_b rec (n + 1) 1 y1 y4 y3 y2 ws9 wc wn = some out := hf
      rw [fM_members_b, if_pos rfl] at hf
      obtain ⟨hP, hD⟩ : xPD D xcl A (xMw cT aM adL rd gdL vadL ws9 []) H := ⟨hP, hD⟩
      have hl : lv_has ls 6 [(1, .int y1), (0, .ref aM)] := hl
      refine W.eq (g2 := F0 m 36 ls []) rfl ?_
      show W p l e _ s m _ below meth c H locs wc wn _ _
      obtain ⟨hm0, hf⟩ := xmoE hf
      refine lv_aload_n hx hb dM_members_36 rfl (lv_at hl 1 rfl) ?_
      obtain ⟨o1, hq2, hf⟩ := xbind hf
      have hFc := xm_free hD hS hA
      refine va_callv (va_runV (C := "ValueBenchModel") (As := []) (rest := []) ⟨hx, hb, hml, hown, htx⟩ (gM_blanks l hl9 D cT aK aV H.size n aM adL rd gdL vadL ws9 o1 hq2) ⟨callB_of 0 htx (xw_goodC kw_5_229) rfl rfl rfl (htx _ kw_1_5) (htx _ kw_5_226) ⟨by decide, by decide, by decide +kernel⟩ ⟨Nat.le_of_ble_eq_true rfl, Nat.le_of_ble_eq_true rfl⟩, (htx _ kw_5_228), (htx _ kp_M_blanks)⟩ ⟨xPre_blind, va_recv hK hP (ci := 5) rfl (q0 := 0) rfl, (fun U hU hW => ⟨rfl, xPre_of hZ hS hFc hP hD hK U hU hW⟩)⟩ rfl rfl hl.1 rfl (xm_room (Nat.le_of_ble_eq_true rfl)) dM_members_37 ⟨hm0.1, hm0.2⟩) hS (fun q _ h => hFc q h) hFc (fun u9 t H1 locs ht hvm hr9 hB hz1 hk1 hS => ?_)
      obtain ⟨hP1, hK1, hD1⟩ := hB
      rw [ht] at hP1
      have hn4 := hr9
      have hN : xct st ≤ xct o1 := Nat.le_trans hN hn4
      have hP : va_P D xcl (xMw cT aM adL rd gdL vadL o1 []) H1 := hP1
      have hD : va_D A (xMw cT aM adL rd gdL vadL o1 []) := hD1.weaken (fun k q _ h => hFc q.1 h)
      generalize H1 = H at hP hS ⊢
      refine W.eq (g2 := F0 m 40 ls []) (by first | rfl | (skip; rfl)) ?_
      refine lv_aload_n hx hb dM_members_40 rfl (lv_at hl 1 rfl) ?_
      refine xm_get (v := .int (xsi o1 16)) hx hb htx hown hK hP 16 (by decide) rfl (htx _ kw_5_103) rfl dM_members_41 ?_
      refine lv_istore_n (lv' := [(2, .int (xsi o1 16)), (1, .int y1), (0, .ref aM)]) hx hb dM_members_44 rfl hl (by decide) rfl (fun ls hl => ?_)
      refine lv_aload_n hx hb dM_members_45 rfl (lv_at hl 2 rfl) ?_
      obtain ⟨o5, hq6, hf⟩ := xbind hf
      have hFc := xm_free hD hS hA
      refine va_calli (va_runV (C := "ValueBenchModel") (As := []) (rest := []) ⟨hx, hb, hml, hown, htx⟩ (gM_peek l hl9 D cT aK aV H.size n aM adL rd gdL vadL o1 o5 hq6) ⟨callB_of 0 htx (xw_goodC kw_5_233) rfl rfl rfl (htx _ kw_1_5) (htx _ kw_5_230) ⟨by decide, by decide, by decide +kernel⟩ ⟨Nat.le_of_ble_eq_true rfl, Nat.le_of_ble_eq_true rfl⟩, (htx _ kw_5_232), (htx _ kp_M_peek)⟩ ⟨xPre_blind, va_recv hK hP (ci := 5) rfl (q0 := 0) rfl, (fun U hU hW => ⟨rfl, xPre_of hZ hS hFc hP hD hK U hU hW⟩)⟩ rfl rfl hl.1 rfl (xm_room (Nat.le_of_ble_eq_true rfl)) dM_members_46 ⟨hm0.1, hm0.2⟩) hS (fun q _ h => hFc q h) hFc (fun r7 u9 t H1 locs ht hvm hr9 hB hz1 hk1 hS => ?_)
      obtain ⟨hP1, hK1, hD1⟩ := hB
      rw [ht] at hP1
      have hP : va_P D xcl (xMw cT aM adL rd gdL vadL o1 []) H1 := hP1
      have hD : va_D A (xMw cT aM adL rd gdL vadL o1 []) := hD1.weaken (fun k q _ h => hFc q.1 h)
      generalize H1 = H at hP hS ⊢
      rw [hr9]
      refine W.eq (g2 := F0 m 49 ls [.int o5]) (by first | rfl | (skip; rfl)) ?_
      refine lv_bipush (v := 34) hx hb dM_members_49 (by decide) ?_
      refine lv_icmp_eq (tgt := 62) hx hb dM_members_51 (by decide) (fun hc => ?_) (fun hc => ?_)
      · rw [if_pos hc] at hf
        refine lv_aload_n hx hb dM_members_62 rfl (lv_at hl 2 rfl) ?_
        obtain ⟨o8, hq9, hf⟩ := xbind hf
        by_cases hk10 : o8.1 = 0
        · rw [if_pos hk10] at hf
          obtain ⟨hm11, hf⟩ := xmoE hf
          have hFc := xm_free hD hS hA
          refine va_callq (va_runV (C := "ValueBenchModel") (As := []) (rest := []) ⟨hx, hb, hml, hown, htx⟩ (gM_jsonString l hl9 D cT aK aV H.size n aM adL rd gdL vadL o1 o8 hq9 hk10) ⟨callB_of 0 htx (xw_goodC kw_6_46) rfl rfl rfl (htx _ kw_1_5) (htx _ kw_6_43) ⟨by decide, by decide, by decide +kernel⟩ ⟨Nat.le_of_ble_eq_true rfl, Nat.le_of_ble_eq_true rfl⟩, (htx _ kw_6_45), (htx _ kp_M_jsonString)⟩ ⟨xPre_blind, va_recv hK hP (ci := 5) rfl (q0 := 0) rfl, (fun U hU hW => ⟨rfl, xPre_of hZ hS hFc hP hD hK U hU hW⟩)⟩ rfl rfl hl.1 rfl (xm_room (Nat.le_of_ble_eq_true rfl)) dM_members_63 ⟨hm11.1, hm11.2⟩) hS (fun q _ h => hFc q h) hFc (fun r12 u9 t H1 locs ht hvm hr9 hB hz1 hk1 hS => ?_)
          obtain ⟨hP1, hK1, hD1⟩ := hB
          rw [ht] at hP1
          obtain ⟨ad13, gd14, vad15⟩ := u9
          obtain ⟨hr9, hv16, hn17⟩ := hr9
          have hP : va_P D xcl (xMw cT aM ad13 rd gd14 vad15 o8.2.2.2.2 []) H1 := hP1
          have hD : va_D A (xMw cT aM ad13 rd gd14 vad15 o8.2.2.2.2 []) := hD1.weaken (fun k q _ h => hFc q.1 h)
          generalize H1 = H at hP hS ⊢
          have hE9 : ∀ p, p < xct st → vad15 p = vad p := fun p h => (hv16 p (Nat.lt_of_lt_of_le h hN)).trans (hE p h)
          have hE := hE9
          have hN : xct st ≤ xct o8.2.2.2.2 := Nat.le_trans hN hn17
          rw [hr9]
          refine W.eq (g2 := F0 m 66 ls [xv vad15 o8.2.2.2.1]) (by first | rfl | (skip; rfl)) ?_
          refine xm_astore_n (lv' := [(3, xv vad15 o8.2.2.2.1), (2, .int (xsi o1 16)), (1, .int y1), (0, .ref aM)]) hx hb (xvor _ _) dM_members_66 rfl hl (by decide) rfl (fun ls hl => ?_)
          refine lv_iload_n hx hb dM_members_67 rfl (lv_at hl 2 rfl) ?_
          refine lv_istore (lv' := [(4, .int y1), (3, xv vad15 o8.2.2.2.1), (2, .int (xsi o1 16)), (1, .int y1), (0, .ref aM)]) hx hb dM_members_68 hl (by decide) (by simp only [List.filter, xvcat, xrscat, xcI, xcL, xcR, xcN]; rfl) (fun ls hl => ?_)
          exact ih (2, y1, y1, o8.2.2.2.1, (xsi o1 16), o8.2.2.2.2, (wc + o8.2.1), (wn + o8.2.2.1)) _ _ ls (Or.inr (⟨ad13, gd14, vad15, rfl, hf, hP, hD, hS, lv_sub hl [0, 1, 2, 3, 4] rfl, hE, hN⟩))
        rw [if_neg hk10] at hf
        by_cases hk18 : o8.1 = 1
        · rw [if_pos hk18] at hf
          obtain ⟨hm19, hf⟩ := xmoE hf
          obtain rfl := Option.some.inj hf
          exact absurd (show (1 : Nat) = 0 from hkd) (by decide)
        rw [if_neg hk18] at hf
        by_cases hk26 : o8.1 = 2
        · rw [if_pos hk26] at hf
          obtain ⟨hm27, hf⟩ := xmoE hf
          obtain rfl := Option.some.inj hf
          exact absurd (show (2 : Nat) = 0 from hkd) (by decide)
        rw [if_neg hk26] at hf
        exact nomatch hf
      · rw [if_neg hc] at hf
        refine lv_aload_n hx hb dM_members_54 rfl (lv_at hl 2 rfl) ?_
        refine lv_aload_n hx hb dM_members_55 rfl (lv_at hl 2 rfl) ?_
        refine xm_get (v := .int (xsi o1 16)) hx hb htx hown hK hP 16 (by decide) rfl (htx _ kw_5_103) rfl dM_members_56 ?_
        obtain ⟨o8, hq9, hf⟩ := xbind hf
        by_cases hk10 : o8.1 = 1
        · rw [if_pos hk10] at hf
          obtain ⟨hm11, hf⟩ := xmoE hf
          obtain rfl := Option.some.inj hf
          exact absurd (show (2 : Nat) = 0 from hkd) (by decide)
        rw [if_neg hk10] at hf
        exact nomatch hf
    · subst hj
      have hf : fM_members_b rec (n + 1) 2 y1 y4 y3 y2 ws9 wc wn = some out := hf
      rw [fM_members_b, if_neg (by decide)] at hf
      obtain ⟨hP, hD⟩ : xPD D xcl A (xMw cT aM adL rd gdL vadL ws9 []) H := ⟨hP, hD⟩
      have hl : lv_has ls 6 [(4, .int y4), (3, xv vadL y3), (2, .int y2), (1, .int y1), (0, .ref aM)] := hl
      refine W.eq (g2 := F0 m 70 ls []) rfl ?_
      show W p l e _ s m _ below meth c H locs wc wn _ _
      obtain ⟨hm0, hf⟩ := xmoE hf
      refine lv_iload hx hb dM_members_70 (lv_at hl 0 rfl) ?_
      refine lv_aload_n hx hb dM_members_72 rfl (lv_at hl 4 rfl) ?_
      refine xm_get (v := .int (xsi ws9 12)) hx hb htx hown hK hP 12 (by decide) rfl (htx _ kw_5_99) rfl dM_members_73 ?_
      refine lv_icmp_ge (tgt := 105) hx hb dM_members_76 (by decide) (fun hc => ?_) (fun hc => ?_)
      · rw [if_pos hc] at hf
        refine lv_aload_n hx hb dM_members_105 rfl (lv_at hl 4 rfl) ?_
        obtain ⟨o1, hq2, hf⟩ := xbind hf
        have hFc := xm_free hD hS hA
        refine va_callv (va_runV (C := "ValueBenchModel") (As := []) (rest := []) ⟨hx, hb, hml, hown, htx⟩ (gM_blanks l hl9 D cT aK aV H.size n aM adL rd gdL vadL ws9 o1 hq2) ⟨callB_of 0 htx (xw_goodC kw_5_229) rfl rfl rfl (htx _ kw_1_5) (htx _ kw_5_226) ⟨by decide, by decide, by decide +kernel⟩ ⟨Nat.le_of_ble_eq_true rfl, Nat.le_of_ble_eq_true rfl⟩, (htx _ kw_5_228), (htx _ kp_M_blanks)⟩ ⟨xPre_blind, va_recv hK hP (ci := 5) rfl (q0 := 0) rfl, (fun U hU hW => ⟨rfl, xPre_of hZ hS hFc hP hD hK U hU hW⟩)⟩ rfl rfl hl.1 rfl (xm_room (Nat.le_of_ble_eq_true rfl)) dM_members_106 ⟨hm0.1, hm0.2⟩) hS (fun q _ h => hFc q h) hFc (fun u9 t H1 locs ht hvm hr9 hB hz1 hk1 hS => ?_)
        obtain ⟨hP1, hK1, hD1⟩ := hB
        rw [ht] at hP1
        have hn4 := hr9
        have hN : xct st ≤ xct o1 := Nat.le_trans hN hn4
        have hP : va_P D xcl (xMw cT aM adL rd gdL vadL o1 []) H1 := hP1
        have hD : va_D A (xMw cT aM adL rd gdL vadL o1 []) := hD1.weaken (fun k q _ h => hFc q.1 h)
        generalize H1 = H at hP hS ⊢
        refine W.eq (g2 := F0 m 109 ls []) (by first | rfl | (skip; rfl)) ?_
        refine lv_aload_n hx hb dM_members_109 rfl (lv_at hl 4 rfl) ?_
        obtain ⟨o5, hq6, hf⟩ := xbind hf
        have hFc := xm_free hD hS hA
        refine va_calli (va_runV (C := "ValueBenchModel") (As := []) (rest := []) ⟨hx, hb, hml, hown, htx⟩ (gM_peek l hl9 D cT aK aV H.size n aM adL rd gdL vadL o1 o5 hq6) ⟨callB_of 0 htx (xw_goodC kw_5_233) rfl rfl rfl (htx _ kw_1_5) (htx _ kw_5_230) ⟨by decide, by decide, by decide +kernel⟩ ⟨Nat.le_of_ble_eq_true rfl, Nat.le_of_ble_eq_true rfl⟩, (htx _ kw_5_232), (htx _ kp_M_peek)⟩ ⟨xPre_blind, va_recv hK hP (ci := 5) rfl (q0 := 0) rfl, (fun U hU hW => ⟨rfl, xPre_of hZ hS hFc hP hD hK U hU hW⟩)⟩ rfl rfl hl.1 rfl (xm_room (Nat.le_of_ble_eq_true rfl)) dM_members_110 ⟨hm0.1, hm0.2⟩) hS (fun q _ h => hFc q h) hFc (fun r7 u9 t H1 locs ht hvm hr9 hB hz1 hk1 hS => ?_)
        obtain ⟨hP1, hK1, hD1⟩ := hB
        rw [ht] at hP1
        have hP : va_P D xcl (xMw cT aM adL rd gdL vadL o1 []) H1 := hP1
        have hD : va_D A (xMw cT aM adL rd gdL vadL o1 []) := hD1.weaken (fun k q _ h => hFc q.1 h)
        generalize H1 = H at hP hS ⊢
        rw [hr9]
        refine W.eq (g2 := F0 m 113 ls [.int o5]) (by first | rfl | (skip; rfl)) ?_
        refine lv_bipush (v := 58) hx hb dM_members_113 (by decide) ?_
        refine lv_icmp_eq (tgt := 126) hx hb dM_members_115 (by decide) (fun hc => ?_) (fun hc => ?_)
        · rw [if_pos hc] at hf
          refine lv_aload_n hx hb dM_members_126 rfl (lv_at hl 4 rfl) ?_
          refine lv_dup hx hb dM_members_127 rfl ?_
          refine xm_get (v := .int (xsi o1 16)) hx hb htx hown hK hP 16 (by decide) rfl (htx _ kw_5_103) rfl dM_members_128 ?_
          refine lv_iconst (v := 1) hx hb dM_members_131 (by decide) ?_
          refine lv_iadd hx hb dM_members_132 ?_
          refine xm_put (v := .int ((xsi o1 16) + (1 : Int32))) (W' := (xMw cT aM adL rd gdL vadL (xsI o1 16 ((xsi o1 16) + (1 : Int32))) [])) (ty := .int) hx hb htx hown hK hP hD hS 16 (by decide) rfl (htx _ kw_5_103) rfl rfl (by decide +kernel) rfl rfl dM_members_133 (fun H locs hP hD hS => ?_)
          refine lv_aload_n hx hb dM_members_136 rfl (lv_at hl 4 rfl) ?_
          obtain ⟨o8, hq9, hf⟩ := xbind hf
          by_cases hk10 : o8.1 = 0
          · rw [if_pos hk10] at hf
            obtain ⟨hg11, hf⟩ := xifn hf
            obtain ⟨hm12, hf⟩ := xmoE hf
            have hFc := xm_free hD hS hA
            refine va_callq (va_runV (C := "ValueBenchModel") (As := []) (rest := []) ⟨hx, hb, hml, hown, htx⟩ ((hrec H.size aM adL rd gdL vadL (xsI o1 16 ((xsi o1 16) + (1 : Int32))) o8 hq9).1 hk10) ⟨callB_of 0 htx (xw_goodC kw_5_225) rfl rfl rfl (htx _ kw_1_5) (htx _ kw_5_222) ⟨by decide, by decide, by decide +kernel⟩ ⟨(by show (fr) + 1 ≤ fr + 9; omega), (by show 8 + (3 + 11) + (lo) ≤ lo + 167; omega)⟩, (htx _ kw_5_224), (htx _ kp_M_value)⟩ ⟨xPre_blind, va_recv hK hP (ci := 5) rfl (q0 := 0) rfl, (fun U hU hW => ⟨rfl, xPre_of hZ hS hFc hP hD hK U hU hW⟩)⟩ rfl rfl hl.1 rfl (xm_room (Nat.le_of_ble_eq_true rfl)) dM_members_137 ⟨hm12.1, hm12.2⟩) hS (fun q _ h => hFc q h) hFc (fun r13 u9 t H1 locs ht hvm hr9 hB hz1 hk1 hS => ?_)
            obtain ⟨hP1, hK1, hD1⟩ := hB
            rw [ht] at hP1
            obtain ⟨ad14, gd15, vad16⟩ := u9
            obtain ⟨hr9, hv17, hn18⟩ := hr9
            have hP : va_P D xcl (xMw cT aM ad14 rd gd15 vad16 o8.2.2.2.2 []) H1 := hP1
            have hD : va_D A (xMw cT aM ad14 rd gd15 vad16 o8.2.2.2.2 []) := hD1.weaken (fun k q _ h => hFc q.1 h)
            generalize H1 = H at hP hS ⊢
            have hE9 : ∀ p, p < xct st → vad16 p = vad p := fun p h => (hv17 p (Nat.lt_of_lt_of_le h hN)).trans (hE p h)
            have hE := hE9
            have hN : xct st ≤ xct o8.2.2.2.2 := Nat.le_trans hN hn18
            have ev19 : xv vadL y3 = xv vad16 y3 := xvE hv17 hg11
            have hl : lv_has ls 6 [(4, .int y4), (3, xv vad16 y3), (2, .int y2), (1, .int y1), (0, .ref aM)] := by first | exact hl | ((try (rw [← ev19])); exact hl)
            rw [hr9]
            refine W.eq (g2 := F0 m 140 ls [xv vad16 o8.2.2.2.1]) (by first | rfl | ((try (rw [ev19])); rfl)) ?_
            refine xm_astore (lv' := [(4, xv vad16 o8.2.2.2.1), (3, xv vad16 y3), (2, .int y2), (1, .int y1), (0, .ref aM)]) hx hb (xvor _ _) dM_members_140 hl (by decide) (by simp only [List.filter, xvcat, xrscat, xcI, xcL, xcR, xcN]; rfl) (fun ls hl => ?_)
            refine lv_aload_n hx hb dM_members_142 rfl (lv_at hl 4 rfl) ?_
            refine xm_aload_n hx hb (xvor _ _) dM_members_143 rfl (lv_at hl 1 rfl) ?_
            refine xm_aload hx hb (xvor _ _) dM_members_144 (lv_at hl 0 rfl) ?_
            obtain ⟨o20, hq21, hf⟩ := xbind hf
            obtain ⟨hg22, hf⟩ := xifn hf
            obtain ⟨hg23, hf⟩ := xifn hf
            obtain ⟨hm24, hf⟩ := xmoE hf
            have hFc := xm_free hD hS hA
            refine va_callv (va_runV (C := "ValueBenchModel") (As := [xv vad16 y3, xv vad16 o8.2.2.2.1]) (rest := []) ⟨hx, hb, hml, hown, htx⟩ (gM_wait l hl9 D cT aK aV H.size n aM ad14 rd gd15 vad16 o8.2.2.2.2 y3 o8.2.2.2.1 o20 hq21) ⟨callB_of 2 htx (xw_goodC kw_6_112) rfl rfl rfl (htx _ kw_1_5) (htx _ kw_6_109) ⟨by decide, by decide, by decide +kernel⟩ ⟨Nat.le_of_ble_eq_true rfl, Nat.le_of_ble_eq_true rfl⟩, (htx _ kw_6_111), (htx _ kp_M_wait)⟩ ⟨xPre_blind, va_recv hK hP (ci := 5) rfl (q0 := 0) rfl, (fun U hU hW => ⟨rfl, xPre_of hZ hS hFc hP hD hK U hU hW⟩)⟩ rfl rfl hl.1 rfl (xm_room (Nat.le_of_ble_eq_true rfl)) dM_members_146 ⟨hm24.1, hm24.2⟩) hS (fun q _ h => hFc q h) hFc (fun u9 t H1 locs ht hvm hr9 hB hz1 hk1 hS => ?_)
            obtain ⟨hP1, hK1, hD1⟩ := hB
            rw [ht] at hP1
            obtain ⟨ad26, gd27, vad28⟩ := u9
            obtain ⟨hv29, hn30⟩ := hr9
            have hP : va_P D xcl (xMw cT aM ad26 rd gd27 vad28 o20.2.2 []) H1 := hP1
            have hD : va_D A (xMw cT aM ad26 rd gd27 vad28 o20.2.2 []) := hD1.weaken (fun k q _ h => hFc q.1 h)
            generalize H1 = H at hP hS ⊢
            have hE9 : ∀ p, p < xct st → vad28 p = vad p := fun p h => (hv29 p (Nat.lt_of_lt_of_le h hN)).trans (hE p h)
            have hE := hE9
            have hN : xct st ≤ xct o20.2.2 := Nat.le_trans hN hn30
            have ev31 : xv vad16 o8.2.2.2.1 = xv vad28 o8.2.2.2.1 := xvE hv29 hg22
            have ev32 : xv vad16 y3 = xv vad28 y3 := xvE hv29 hg23
            have hl : lv_has ls 6 [(4, xv vad28 o8.2.2.2.1), (3, xv vad28 y3), (2, .int y2), (1, .int y1), (0, .ref aM)] := by first | exact hl | ((try (rw [← ev31])); (try (rw [← ev32])); exact hl)
            refine W.eq (g2 := F0 m 149 ls []) (by first | rfl | ((try (rw [ev31])); (try (rw [ev32])); rfl)) ?_
            refine lv_aload_n hx hb dM_members_149 rfl (lv_at hl 4 rfl) ?_
            obtain ⟨o33, hq34, hf⟩ := xbind hf
            have hFc := xm_free hD hS hA
            refine va_callv (va_runV (C := "ValueBenchModel") (As := []) (rest := []) ⟨hx, hb, hml, hown, htx⟩ (gM_blanks l hl9 D cT aK aV H.size n aM ad26 rd gd27 vad28 o20.2.2 o33 hq34) ⟨callB_of 0 htx (xw_goodC kw_5_229) rfl rfl rfl (htx _ kw_1_5) (htx _ kw_5_226) ⟨by decide, by decide, by decide +kernel⟩ ⟨Nat.le_of_ble_eq_true rfl, Nat.le_of_ble_eq_true rfl⟩, (htx _ kw_5_228), (htx _ kp_M_blanks)⟩ ⟨xPre_blind, va_recv hK hP (ci := 5) rfl (q0 := 0) rfl, (fun U hU hW => ⟨rfl, xPre_of hZ hS hFc hP hD hK U hU hW⟩)⟩ rfl rfl hl.1 rfl (xm_room (Nat.le_of_ble_eq_true rfl)) dM_members_150 ⟨hm24.1, hm24.2⟩) hS (fun q _ h => hFc q h) hFc (fun u9 t H1 locs ht hvm hr9 hB hz1 hk1 hS => ?_)
            obtain ⟨hP1, hK1, hD1⟩ := hB
            rw [ht] at hP1
            have hn36 := hr9
            have hN : xct st ≤ xct o33 := Nat.le_trans hN hn36
            have hP : va_P D xcl (xMw cT aM ad26 rd gd27 vad28 o33 []) H1 := hP1
            have hD : va_D A (xMw cT aM ad26 rd gd27 vad28 o33 []) := hD1.weaken (fun k q _ h => hFc q.1 h)
            generalize H1 = H at hP hS ⊢
            refine W.eq (g2 := F0 m 153 ls []) (by first | rfl | (skip; rfl)) ?_
            refine lv_aload_n hx hb dM_members_153 rfl (lv_at hl 4 rfl) ?_
            obtain ⟨o37, hq38, hf⟩ := xbind hf
            have hFc := xm_free hD hS hA
            refine va_calli (va_runV (C := "ValueBenchModel") (As := []) (rest := []) ⟨hx, hb, hml, hown, htx⟩ (gM_peek l hl9 D cT aK aV H.size n aM ad26 rd gd27 vad28 o33 o37 hq38) ⟨callB_of 0 htx (xw_goodC kw_5_233) rfl rfl rfl (htx _ kw_1_5) (htx _ kw_5_230) ⟨by decide, by decide, by decide +kernel⟩ ⟨Nat.le_of_ble_eq_true rfl, Nat.le_of_ble_eq_true rfl⟩, (htx _ kw_5_232), (htx _ kp_M_peek)⟩ ⟨xPre_blind, va_recv hK hP (ci := 5) rfl (q0 := 0) rfl, (fun U hU hW => ⟨rfl, xPre_of hZ hS hFc hP hD hK U hU hW⟩)⟩ rfl rfl hl.1 rfl (xm_room (Nat.le_of_ble_eq_true rfl)) dM_members_154 ⟨hm24.1, hm24.2⟩) hS (fun q _ h => hFc q h) hFc (fun r39 u9 t H1 locs ht hvm hr9 hB hz1 hk1 hS => ?_)
            obtain ⟨hP1, hK1, hD1⟩ := hB
            rw [ht] at hP1
            have hP : va_P D xcl (xMw cT aM ad26 rd gd27 vad28 o33 []) H1 := hP1
            have hD : va_D A (xMw cT aM ad26 rd gd27 vad28 o33 []) := hD1.weaken (fun k q _ h => hFc q.1 h)
            generalize H1 = H at hP hS ⊢
            rw [hr9]
            refine W.eq (g2 := F0 m 157 ls [.int o37]) (by first | rfl | (skip; rfl)) ?_
            refine lv_istore (lv' := [(5, .int o37), (4, xv vad28 o8.2.2.2.1), (3, xv vad28 y3), (2, .int y2), (1, .int y1), (0, .ref aM)]) hx hb dM_members_157 hl (by decide) (by simp only [List.filter, xvcat, xrscat, xcI, xcL, xcR, xcN]; rfl) (fun ls hl => ?_)
            refine lv_iload hx hb dM_members_159 (lv_at hl 0 rfl) ?_
            refine lv_bipush (v := 44) hx hb dM_members_161 (by decide) ?_
            refine lv_icmp_eq (tgt := 181) hx hb dM_members_163 (by decide) (fun hc => ?_) (fun hc => ?_)
            · rw [if_pos hc] at hf
              refine lv_aload_n hx hb dM_members_181 rfl (lv_at hl 5 rfl) ?_
              refine lv_dup hx hb dM_members_182 rfl ?_
              refine xm_get (v := .int (xsi o33 16)) hx hb htx hown hK hP 16 (by decide) rfl (htx _ kw_5_103) rfl dM_members_183 ?_
              refine lv_iconst (v := 1) hx hb dM_members_186 (by decide) ?_
              refine lv_iadd hx hb dM_members_187 ?_
              refine xm_put (v := .int ((xsi o33 16) + (1 : Int32))) (W' := (xMw cT aM ad26 rd gd27 vad28 (xsI o33 16 ((xsi o33 16) + (1 : Int32))) [])) (ty := .int) hx hb htx hown hK hP hD hS 16 (by decide) rfl (htx _ kw_5_103) rfl rfl (by decide +kernel) rfl rfl dM_members_188 (fun H locs hP hD hS => ?_)
              refine lv_iload hx hb dM_members_191 (lv_at hl 0 rfl) ?_
              refine lv_bipush (v := 125) hx hb dM_members_193 (by decide) ?_
              refine lv_icmp_ne (tgt := 206) hx hb dM_members_195 (by decide) (fun hc => ?_) (fun hc => ?_)
              · rw [if_neg hc] at hf
                refine lv_goto (tgt := 36) hx hb dM_members_206 (by decide) ?_
                exact ih (1, y1, 0, y3, y2, (xsI o33 16 ((xsi o33 16) + (1 : Int32))), ((wc + o8.2.1) + o20.1), ((wn + o8.2.2.1) + o20.2.1)) _ _ ls (Or.inl ⟨ad26, gd27, vad28, rfl, hf, hP, hD, hS, lv_sub hl [4, 5] rfl, hE, hN⟩)
              · rw [if_pos hc] at hf
                refine lv_aload_n hx hb dM_members_198 rfl (lv_at hl 5 rfl) ?_
                refine lv_bipush (v := 6) hx hb dM_members_199 (by decide) ?_
                refine lv_iload_n hx hb dM_members_201 rfl (lv_at hl 4 rfl) ?_
                obtain ⟨o40, hq41, hf⟩ := xbind hf
                have hl := lv_sub (l' := [(5, .int o37), (2, .int y2), (1, .int y1), (0, .ref aM)]) hl [0, 3, 4, 5] rfl
                by_cases hk42 : o40.1 = 0
                · rw [if_pos hk42] at hf
                  obtain ⟨hm43, hf⟩ := xmoE hf
                  have hFc := xm_free hD hS hA
                  refine va_callq (va_runV (C := "ValueBenchModel") (As := [.int 6, .int y1]) (rest := []) ⟨hx, hb, hml, hown, htx⟩ (gM_whole l hl9 D cT aK aV H.size n aM ad26 rd gd27 vad28 (xsI o33 16 ((xsi o33 16) + (1 : Int32))) (6 : Int32) y1 o40 hq41 hk42) ⟨callB_of 2 htx (xw_goodC kw_6_106) rfl rfl rfl (htx _ kw_1_5) (htx _ kw_6_103) ⟨by decide, by decide, by decide +kernel⟩ ⟨Nat.le_of_ble_eq_true rfl, Nat.le_of_ble_eq_true rfl⟩, (htx _ kw_6_105), (htx _ kp_M_whole)⟩ ⟨xPre_blind, va_recv hK hP (ci := 5) rfl (q0 := 0) rfl, (fun U hU hW => ⟨rfl, xPre_of hZ hS hFc hP hD hK U hU hW⟩)⟩ rfl rfl hl.1 rfl (xm_room (Nat.le_of_ble_eq_true rfl)) dM_members_202 ⟨hm43.1, hm43.2⟩) hS (fun q _ h => hFc q h) hFc (fun r44 u9 t H1 locs ht hvm hr9 hB hz1 hk1 hS => ?_)
                  obtain ⟨hP1, hK1, hD1⟩ := hB
                  rw [ht] at hP1
                  obtain ⟨ad45, gd46, vad47⟩ := u9
                  obtain ⟨hr9, hv48, hn49⟩ := hr9
                  have hP : va_P D xcl (xMw cT aM ad45 rd gd46 vad47 o40.2.2.2.2 []) H1 := hP1
                  have hD : va_D A (xMw cT aM ad45 rd gd46 vad47 o40.2.2.2.2 []) := hD1.weaken (fun k q _ h => hFc q.1 h)
                  generalize H1 = H at hP hS ⊢
                  have hE9 : ∀ p, p < xct st → vad47 p = vad p := fun p h => (hv48 p (Nat.lt_of_lt_of_le h hN)).trans (hE p h)
                  have hE := hE9
                  have hN : xct st ≤ xct o40.2.2.2.2 := Nat.le_trans hN hn49
                  rw [hr9]
                  refine W.eq (g2 := F0 m 205 ls [xv vad47 o40.2.2.2.1]) (by first | rfl | (skip; rfl)) ?_
                  obtain rfl := Option.some.inj hf
                  exact W.aret (v := xv vad47 o40.2.2.2.1) hx hb hr (Or.inl ⟨_, rfl⟩) (xvor _ _) (fun t ht hW => ⟨⟨xca vad47 o40.2.2.2.1, (ad45, gd46, vad47), rfl, ⟨rfl, hE, hN⟩, by rw [ht]; exact hP, va_K.moved hW.alike hK, hD⟩, hS.F ht⟩) hS.2.2 dM_members_205
                rw [if_neg hk42] at hf
                by_cases hk50 : o40.1 = 1
                · rw [if_pos hk50] at hf
                  obtain ⟨hm51, hf⟩ := xmoE hf
                  obtain rfl := Option.some.inj hf
                  exact absurd (show (1 : Nat) = 0 from hkd) (by decide)
                rw [if_neg hk50] at hf
                exact nomatch hf
            · rw [if_neg hc] at hf
              refine lv_iload hx hb dM_members_166 (lv_at hl 0 rfl) ?_
              refine lv_bipush (v := 125) hx hb dM_members_168 (by decide) ?_
              refine lv_icmp_eq (tgt := 181) hx hb dM_members_170 (by decide) (fun hc => ?_) (fun hc => ?_)
              · rw [if_pos hc] at hf
                refine lv_aload_n hx hb dM_members_181 rfl (lv_at hl 5 rfl) ?_
                refine lv_dup hx hb dM_members_182 rfl ?_
                refine xm_get (v := .int (xsi o33 16)) hx hb htx hown hK hP 16 (by decide) rfl (htx _ kw_5_103) rfl dM_members_183 ?_
                refine lv_iconst (v := 1) hx hb dM_members_186 (by decide) ?_
                refine lv_iadd hx hb dM_members_187 ?_
                refine xm_put (v := .int ((xsi o33 16) + (1 : Int32))) (W' := (xMw cT aM ad26 rd gd27 vad28 (xsI o33 16 ((xsi o33 16) + (1 : Int32))) [])) (ty := .int) hx hb htx hown hK hP hD hS 16 (by decide) rfl (htx _ kw_5_103) rfl rfl (by decide +kernel) rfl rfl dM_members_188 (fun H locs hP hD hS => ?_)
                refine lv_iload hx hb dM_members_191 (lv_at hl 0 rfl) ?_
                refine lv_bipush (v := 125) hx hb dM_members_193 (by decide) ?_
                refine lv_icmp_ne (tgt := 206) hx hb dM_members_195 (by decide) (fun hc => ?_) (fun hc => ?_)
                · rw [if_neg hc] at hf
                  refine lv_goto (tgt := 36) hx hb dM_members_206 (by decide) ?_
                  exact ih (1, y1, 0, y3, y2, (xsI o33 16 ((xsi o33 16) + (1 : Int32))), ((wc + o8.2.1) + o20.1), ((wn + o8.2.2.1) + o20.2.1)) _ _ ls (Or.inl ⟨ad26, gd27, vad28, rfl, hf, hP, hD, hS, lv_sub hl [4, 5] rfl, hE, hN⟩)
                · rw [if_pos hc] at hf
                  refine lv_aload_n hx hb dM_members_198 rfl (lv_at hl 5 rfl) ?_
                  refine lv_bipush (v := 6) hx hb dM_members_199 (by decide) ?_
                  refine lv_iload_n hx hb dM_members_201 rfl (lv_at hl 4 rfl) ?_
                  obtain ⟨o40, hq41, hf⟩ := xbind hf
                  have hl := lv_sub (l' := [(5, .int o37), (2, .int y2), (1, .int y1), (0, .ref aM)]) hl [0, 3, 4, 5] rfl
                  by_cases hk42 : o40.1 = 0
                  · rw [if_pos hk42] at hf
                    obtain ⟨hm43, hf⟩ := xmoE hf
                    have hFc := xm_free hD hS hA
                    refine va_callq (va_runV (C := "ValueBenchModel") (As := [.int 6, .int y1]) (rest := []) ⟨hx, hb, hml, hown, htx⟩ (gM_whole l hl9 D cT aK aV H.size n aM ad26 rd gd27 vad28 (xsI o33 16 ((xsi o33 16) + (1 : Int32))) (6 : Int32) y1 o40 hq41 hk42) ⟨callB_of 2 htx (xw_goodC kw_6_106) rfl rfl rfl (htx _ kw_1_5) (htx _ kw_6_103) ⟨by decide, by decide, by decide +kernel⟩ ⟨Nat.le_of_ble_eq_true rfl, Nat.le_of_ble_eq_true rfl⟩, (htx _ kw_6_105), (htx _ kp_M_whole)⟩ ⟨xPre_blind, va_recv hK hP (ci := 5) rfl (q0 := 0) rfl, (fun U hU hW => ⟨rfl, xPre_of hZ hS hFc hP hD hK U hU hW⟩)⟩ rfl rfl hl.1 rfl (xm_room (Nat.le_of_ble_eq_true rfl)) dM_members_202 ⟨hm43.1, hm43.2⟩) hS (fun q _ h => hFc q h) hFc (fun r44 u9 t H1 locs ht hvm hr9 hB hz1 hk1 hS => ?_)
                    obtain ⟨hP1, hK1, hD1⟩ := hB
                    rw [ht] at hP1
                    obtain ⟨ad45, gd46, vad47⟩ := u9
                    obtain ⟨hr9, hv48, hn49⟩ := hr9
                    have hP : va_P D xcl (xMw cT aM ad45 rd gd46 vad47 o40.2.2.2.2 []) H1 := hP1
                    have hD : va_D A (xMw cT aM ad45 rd gd46 vad47 o40.2.2.2.2 []) := hD1.weaken (fun k q _ h => hFc q.1 h)
                    generalize H1 = H at hP hS ⊢
                    have hE9 : ∀ p, p < xct st → vad47 p = vad p := fun p h => (hv48 p (Nat.lt_of_lt_of_le h hN)).trans (hE p h)
                    have hE := hE9
                    have hN : xct st ≤ xct o40.2.2.2.2 := Nat.le_trans hN hn49
                    rw [hr9]
                    refine W.eq (g2 := F0 m 205 ls [xv vad47 o40.2.2.2.1]) (by first | rfl | (skip; rfl)) ?_
                    obtain rfl := Option.some.inj hf
                    exact W.aret (v := xv vad47 o40.2.2.2.1) hx hb hr (Or.inl ⟨_, rfl⟩) (xvor _ _) (fun t ht hW => ⟨⟨xca vad47 o40.2.2.2.1, (ad45, gd46, vad47), rfl, ⟨rfl, hE, hN⟩, by rw [ht]; exact hP, va_K.moved hW.alike hK, hD⟩, hS.F ht⟩) hS.2.2 dM_members_205
                  rw [if_neg hk42] at hf
                  by_cases hk50 : o40.1 = 1
                  · rw [if_pos hk50] at hf
                    obtain ⟨hm51, hf⟩ := xmoE hf
                    obtain rfl := Option.some.inj hf
                    exact absurd (show (1 : Nat) = 0 from hkd) (by decide)
                  rw [if_neg hk50] at hf
                  exact nomatch hf
              · rw [if_neg hc] at hf
                refine lv_aload_n hx hb dM_members_173 rfl (lv_at hl 5 rfl) ?_
                refine lv_aload_n hx hb dM_members_174 rfl (lv_at hl 5 rfl) ?_
                refine xm_get (v := .int (xsi o33 16)) hx hb htx hown hK hP 16 (by decide) rfl (htx _ kw_5_103) rfl dM_members_175 ?_
                obtain ⟨o40, hq41, hf⟩ := xbind hf
                by_cases hk42 : o40.1 = 1
                · rw [if_pos hk42] at hf
                  obtain ⟨hg43, hf⟩ := xifn hf
                  obtain ⟨hg44, hf⟩ := xifn hf
                  obtain ⟨hm45, hf⟩ := xmoE hf
                  obtain rfl := Option.some.inj hf
                  exact absurd (show (2 : Nat) = 0 from hkd) (by decide)
                rw [if_neg hk42] at hf
                exact nomatch hf
          rw [if_neg hk10] at hf
          by_cases hk40 : o8.1 = 1
          · rw [if_pos hk40] at hf
            obtain ⟨hg41, hf⟩ := xifn hf
            obtain ⟨hm42, hf⟩ := xmoE hf
            obtain rfl := Option.some.inj hf
            exact absurd (show (2 : Nat) = 0 from hkd) (by decide)
          rw [if_neg hk40] at hf
          by_cases hk50 : o8.1 = 2
          · rw [if_pos hk50] at hf
            obtain ⟨hg51, hf⟩ := xifn hf
            obtain ⟨hm52, hf⟩ := xmoE hf
            obtain rfl := Option.some.inj hf
            exact absurd (show (1 : Nat) = 0 from hkd) (by decide)
          rw [if_neg hk50] at hf
          by_cases hk60 : o8.1 = 3
          · rw [if_pos hk60] at hf
            obtain ⟨hg61, hf⟩ := xifn hf
            obtain ⟨hm62, hf⟩ := xmoE hf
            obtain rfl := Option.some.inj hf
            exact absurd (show (3 : Nat) = 0 from hkd) (by decide)
          rw [if_neg hk60] at hf
          exact nomatch hf
        · rw [if_neg hc] at hf
          refine lv_aload_n hx hb dM_members_118 rfl (lv_at hl 4 rfl) ?_
          refine lv_aload_n hx hb dM_members_119 rfl (lv_at hl 4 rfl) ?_
          refine xm_get (v := .int (xsi o1 16)) hx hb htx hown hK hP 16 (by decide) rfl (htx _ kw_5_103) rfl dM_members_120 ?_
          obtain ⟨o8, hq9, hf⟩ := xbind hf
          by_cases hk10 : o8.1 = 1
          · rw [if_pos hk10] at hf
            obtain ⟨hg11, hf⟩ := xifn hf
            obtain ⟨hm12, hf⟩ := xmoE hf
            obtain rfl := Option.some.inj hf
            exact absurd (show (2 : Nat) = 0 from hkd) (by decide)
          rw [if_neg hk10] at hf
          exact nomatch hf
      · rw [if_neg hc] at hf
        refine lv_aload_n hx hb dM_members_79 rfl (lv_at hl 4 rfl) ?_
        refine lv_aload_n hx hb dM_members_80 rfl (lv_at hl 4 rfl) ?_
        refine xm_get (v := .ref (adL 11)) hx hb htx hown hK hP 11 (by decide) rfl (htx _ kw_5_98) rfl dM_members_81 ?_
        refine lv_iload hx hb dM_members_84 (lv_at hl 0 rfl) ?_
        obtain ⟨hg1, hf⟩ := xifn hf
        refine va_aldq hx hb hK hP 6 4 rfl rfl hg1 dM_members_86 ?_
        refine W.eq (g2 := F0 m 87 ls [xv vadL ((xvc ws9 11) y4.toNatClampNeg), .ref aM]) rfl ?_
        refine xm_aload_n hx hb (xvor _ _) dM_members_87 rfl (lv_at hl 1 rfl) ?_
        obtain ⟨o2, hq3, hf⟩ := xbind hf
        have hFc := xm_free hD hS hA
        refine va_calli (va_runV (C := "ValueBenchModel") (As := [xv vadL ((xvc ws9 11) y4.toNatClampNeg), xv vadL y3]) (rest := []) ⟨hx, hb, hml, hown, htx⟩ (gM_sameText l hl9 D cT aK aV H.size n aM adL rd gdL vadL ws9 ((xvc ws9 11) y4.toNatClampNeg) y3 o2 hq3) ⟨callB_of 2 htx (xw_goodC kw_6_120) rfl rfl rfl (htx _ kw_1_5) (htx _ kw_6_117) ⟨by decide, by decide, by decide +kernel⟩ ⟨Nat.le_of_ble_eq_true rfl, Nat.le_of_ble_eq_true rfl⟩, (htx _ kw_6_119), (htx _ kp_M_sameText)⟩ ⟨xPre_blind, va_recv hK hP (ci := 5) rfl (q0 := 0) rfl, (fun U hU hW => ⟨rfl, xPre_of hZ hS hFc hP hD hK U hU hW⟩)⟩ rfl rfl hl.1 rfl (xm_room (Nat.le_of_ble_eq_true rfl)) dM_members_88 ⟨hm0.1, hm0.2⟩) hS (fun q _ h => hFc q h) hFc (fun r4 u9 t H1 locs ht hvm hr9 hB hz1 hk1 hS => ?_)
        obtain ⟨hP1, hK1, hD1⟩ := hB
        rw [ht] at hP1
        have hP : va_P D xcl (xMw cT aM adL rd gdL vadL ws9 []) H1 := hP1
        have hD : va_D A (xMw cT aM adL rd gdL vadL ws9 []) := hD1.weaken (fun k q _ h => hFc q.1 h)
        generalize H1 = H at hP hS ⊢
        rw [hr9]
        refine W.eq (g2 := F0 m 91 ls [.int o2]) (by first | rfl | (skip; rfl)) ?_
        refine lv_if_eq (tgt := 99) hx hb dM_members_91 (by decide) (fun hc => ?_) (fun hc => ?_)
        · rw [if_pos hc] at hf
          refine lv_iinc (v := (y4 + 1)) (lv' := [(4, .int (y4 + 1)), (3, xv vadL y3), (2, .int y2), (1, .int y1), (0, .ref aM)]) hx hb dM_members_99 hl (k := 0) rfl rfl (by decide) (by simp only [List.filter, xvcat, xrscat, xcI, xcL, xcR, xcN]; rfl) (fun ls hl => ?_)
          refine lv_goto (tgt := 70) hx hb dM_members_102 (by decide) ?_
          exact ih (2, y1, (y4 + 1), y3, y2, ws9, wc, wn) _ _ ls (Or.inr (⟨adL, gdL, vadL, rfl, hf, hP, hD, hS, lv_sub hl [0, 1, 2, 3, 4] rfl, hE, hN⟩))
        · rw [if_neg hc] at hf
          refine lv_aload_n hx hb dM_members_94 rfl (lv_at hl 4 rfl) ?_
          refine lv_iload_n hx hb dM_members_95 rfl (lv_at hl 2 rfl) ?_
          obtain ⟨o5, hq6, hf⟩ := xbind hf
          by_cases hk7 : o5.1 = 1
          · rw [if_pos hk7] at hf
            obtain ⟨hg8, hf⟩ := xifn hf
            obtain ⟨hm9, hf⟩ := xmoE hf
            obtain rfl := Option.some.inj hf
            exact absurd (show (2 : Nat) = 0 from hkd) (by decide)
          rw [if_neg hk7] at hf
          exact nomatch hf
  refine lv_aload_n hx hb dM_members_0 rfl (lv_at hl 0 rfl) ?_
  refine xm_get (v := .int (xsi st 12)) hx hb htx hown hK hP 12 (by decide) rfl (htx _ kw_5_99) rfl dM_members_1 ?_
  refine lv_istore_n (lv' := [(1, .int (xsi st 12)), (0, .ref aM)]) hx hb dM_members_4 rfl hl (by decide) rfl (fun ls hl => ?_)
  refine lv_aload_n hx hb dM_members_5 rfl (lv_at hl 1 rfl) ?_
  obtain ⟨o1, hq2, hf⟩ := xbind hf
  have hFc := xm_free hD hS hA
  refine va_callv (va_runV (C := "ValueBenchModel") (As := []) (rest := []) ⟨hx, hb, hml, hown, htx⟩ (gM_blanks l hl9 D cT aK aV s.heap.size n aM ad rd gd vad st o1 hq2) ⟨callB_of 0 htx (xw_goodC kw_5_229) rfl rfl rfl (htx _ kw_1_5) (htx _ kw_5_226) ⟨by decide, by decide, by decide +kernel⟩ ⟨Nat.le_of_ble_eq_true rfl, Nat.le_of_ble_eq_true rfl⟩, (htx _ kw_5_228), (htx _ kp_M_blanks)⟩ ⟨xPre_blind, va_recv hK hP (ci := 5) rfl (q0 := 0) rfl, (fun U hU hW => ⟨rfl, xPre_of hZ hS hFc hP hD hK U hU hW⟩)⟩ rfl rfl hl.1 rfl (xm_room (Nat.le_of_ble_eq_true rfl)) dM_members_6 ⟨Nat.zero_le _, Nat.zero_le _⟩) hS (fun q _ h => hFc q h) hFc (fun u9 t H1 locs ht hvm hr9 hB hz1 hk1 hS => ?_)
  obtain ⟨hP1, hK1, hD1⟩ := hB
  rw [ht] at hP1
  have hn4 := hr9
  have hN : xct st ≤ xct o1 := Nat.le_trans hN hn4
  have hP : va_P D xcl (xMw cT aM ad rd gd vad o1 []) H1 := hP1
  have hD : va_D A (xMw cT aM ad rd gd vad o1 []) := hD1.weaken (fun k q _ h => hFc q.1 h)
  generalize H1 = H at hP hS ⊢
  refine W.eq (g2 := F0 m 9 ls []) (by first | rfl | (skip; rfl)) ?_
  refine lv_aload_n hx hb dM_members_9 rfl (lv_at hl 1 rfl) ?_
  obtain ⟨o5, hq6, hf⟩ := xbind hf
  have hFc := xm_free hD hS hA
  refine va_calli (va_runV (C := "ValueBenchModel") (As := []) (rest := []) ⟨hx, hb, hml, hown, htx⟩ (gM_peek l hl9 D cT aK aV H.size n aM ad rd gd vad o1 o5 hq6) ⟨callB_of 0 htx (xw_goodC kw_5_233) rfl rfl rfl (htx _ kw_1_5) (htx _ kw_5_230) ⟨by decide, by decide, by decide +kernel⟩ ⟨Nat.le_of_ble_eq_true rfl, Nat.le_of_ble_eq_true rfl⟩, (htx _ kw_5_232), (htx _ kp_M_peek)⟩ ⟨xPre_blind, va_recv hK hP (ci := 5) rfl (q0 := 0) rfl, (fun U hU hW => ⟨rfl, xPre_of hZ hS hFc hP hD hK U hU hW⟩)⟩ rfl rfl hl.1 rfl (xm_room (Nat.le_of_ble_eq_true rfl)) dM_members_10 ⟨Nat.zero_le _, Nat.zero_le _⟩) hS (fun q _ h => hFc q h) hFc (fun r7 u9 t H1 locs ht hvm hr9 hB hz1 hk1 hS => ?_)
  obtain ⟨hP1, hK1, hD1⟩ := hB
  rw [ht] at hP1
  have hP : va_P D xcl (xMw cT aM ad rd gd vad o1 []) H1 := hP1
  have hD : va_D A (xMw cT aM ad rd gd vad o1 []) := hD1.weaken (fun k q _ h => hFc q.1 h)
  generalize H1 = H at hP hS ⊢
  rw [hr9]
  refine W.eq (g2 := F0 m 13 ls [.int o5]) (by first | rfl | (skip; rfl)) ?_
  refine lv_bipush (v := 125) hx hb dM_members_13 (by decide) ?_
  refine lv_icmp_ne (tgt := 36) hx hb dM_members_15 (by decide) (fun hc => ?_) (fun hc => ?_)
  · rw [if_neg hc] at hf
    exact key n (1, (xsi st 12), 0, 0, 0, o1, 0, 0) _ _ ls (Or.inl ⟨ad, gd, vad, rfl, hf, hP, hD, hS, lv_sub hl [0, 1] rfl, hE, hN⟩)
  · rw [if_pos hc] at hf
    refine lv_aload_n hx hb dM_members_18 rfl (lv_at hl 1 rfl) ?_
    refine lv_dup hx hb dM_members_19 rfl ?_
    refine xm_get (v := .int (xsi o1 16)) hx hb htx hown hK hP 16 (by decide) rfl (htx _ kw_5_103) rfl dM_members_20 ?_
    refine lv_iconst (v := 1) hx hb dM_members_23 (by decide) ?_
    refine lv_iadd hx hb dM_members_24 ?_
    refine xm_put (v := .int ((xsi o1 16) + (1 : Int32))) (W' := (xMw cT aM ad rd gd vad (xsI o1 16 ((xsi o1 16) + (1 : Int32))) [])) (ty := .int) hx hb htx hown hK hP hD hS 16 (by decide) rfl (htx _ kw_5_103) rfl rfl (by decide +kernel) rfl rfl dM_members_25 (fun H locs hP hD hS => ?_)
    refine lv_aload_n hx hb dM_members_28 rfl (lv_at hl 1 rfl) ?_
    refine lv_bipush (v := 6) hx hb dM_members_29 (by decide) ?_
    refine lv_iload_n hx hb dM_members_31 rfl (lv_at hl 0 rfl) ?_
    obtain ⟨o8, hq9, hf⟩ := xbind hf
    by_cases hk10 : o8.1 = 0
    · rw [if_pos hk10] at hf
      obtain ⟨hm11, hf⟩ := xmoE hf
      have hFc := xm_free hD hS hA
      refine va_callq (va_runV (C := "ValueBenchModel") (As := [.int 6, .int (xsi st 12)]) (rest := []) ⟨hx, hb, hml, hown, htx⟩ (gM_whole l hl9 D cT aK aV H.size n aM ad rd gd vad (xsI o1 16 ((xsi o1 16) + (1 : Int32))) (6 : Int32) (xsi st 12) o8 hq9 hk10) ⟨callB_of 2 htx (xw_goodC kw_6_106) rfl rfl rfl (htx _ kw_1_5) (htx _ kw_6_103) ⟨by decide, by decide, by decide +kernel⟩ ⟨Nat.le_of_ble_eq_true rfl, Nat.le_of_ble_eq_true rfl⟩, (htx _ kw_6_105), (htx _ kp_M_whole)⟩ ⟨xPre_blind, va_recv hK hP (ci := 5) rfl (q0 := 0) rfl, (fun U hU hW => ⟨rfl, xPre_of hZ hS hFc hP hD hK U hU hW⟩)⟩ rfl rfl hl.1 rfl (xm_room (Nat.le_of_ble_eq_true rfl)) dM_members_32 ⟨hm11.1, hm11.2⟩) hS (fun q _ h => hFc q h) hFc (fun r12 u9 t H1 locs ht hvm hr9 hB hz1 hk1 hS => ?_)
      obtain ⟨hP1, hK1, hD1⟩ := hB
      rw [ht] at hP1
      obtain ⟨ad13, gd14, vad15⟩ := u9
      obtain ⟨hr9, hv16, hn17⟩ := hr9
      have hP : va_P D xcl (xMw cT aM ad13 rd gd14 vad15 o8.2.2.2.2 []) H1 := hP1
      have hD : va_D A (xMw cT aM ad13 rd gd14 vad15 o8.2.2.2.2 []) := hD1.weaken (fun k q _ h => hFc q.1 h)
      generalize H1 = H at hP hS ⊢
      have hE9 : ∀ p, p < xct st → vad15 p = vad p := fun p h => (hv16 p (Nat.lt_of_lt_of_le h hN)).trans (hE p h)
      have hE := hE9
      have hN : xct st ≤ xct o8.2.2.2.2 := Nat.le_trans hN hn17
      rw [hr9]
      refine W.eq (g2 := F0 m 35 ls [xv vad15 o8.2.2.2.1]) (by first | rfl | (skip; rfl)) ?_
      obtain rfl := Option.some.inj hf
      exact W.aret (v := xv vad15 o8.2.2.2.1) hx hb hr (Or.inl ⟨_, rfl⟩) (xvor _ _) (fun t ht hW => ⟨⟨xca vad15 o8.2.2.2.1, (ad13, gd14, vad15), rfl, ⟨rfl, hE, hN⟩, by rw [ht]; exact hP, va_K.moved hW.alike hK, hD⟩, hS.F ht⟩) hS.2.2 dM_members_35
    rw [if_neg hk10] at hf
    by_cases hk18 : o8.1 = 1
    · rw [if_pos hk18] at hf
      obtain ⟨hm19, hf⟩ := xmoE hf
      obtain rfl := Option.some.inj hf
      exact absurd (show (1 : Nat) = 0 from hkd) (by decide)
    rw [if_neg hk18] at hf
    exact nomatch hf
set_option maxHeartbeats 400000000 in
set_option maxRecDepth 100000 in
theorem gM_members_1 (l : Launch) (hl9 : l.stackTraces = false) (D : va_G) (cT : Nat → ClassId) (aK aV : Nat → Nat) (fr lo : Nat) (rec : xS → Option (Nat × Nat × Nat × Nat × xS)) (hrec : ∀ (sz aM : Nat) (ad rd gd vad : Nat → Nat) (st : xS) (out : Nat × Nat × Nat × Nat × xS), rec st = some out → (out.1 = 0 → xMet l yM_value wyM_value fr out.2.1 out.2.2.1 lo D cT aK aV sz [.ref aM] (xMw cT aM ad rd gd vad st []) (fun A => va_Qq (fun (r : Option Nat) (u : xU) => r = xca u.2.2 out.2.2.2.1 ∧ xE vad st out.2.2.2.2 u) (fun u t => xB D xcl cT A (xMw cT aM u.1 rd u.2.1 u.2.2 out.2.2.2.2 []) t) A)) ∧ (out.1 = 1 → xMetY l yM_value wyM_value fr out.2.1 out.2.2.1 lo D cT aK aV sz [.ref aM] (xMw cT aM ad rd gd vad st []) "java/lang/UnsupportedOperationException" (fun u => xE vad st out.2.2.2.2 u) (fun A u t => xB D xcl cT A (xMw cT aM u.1 rd u.2.1 u.2.2 out.2.2.2.2 []) t)) ∧ (out.1 = 2 → xMetY l yM_value wyM_value fr out.2.1 out.2.2.1 lo D cT aK aV sz [.ref aM] (xMw cT aM ad rd gd vad st []) "java/lang/IndexOutOfBoundsException" (fun u => xE vad st out.2.2.2.2 u) (fun A u t => xB D xcl cT A (xMw cT aM u.1 rd u.2.1 u.2.2 out.2.2.2.2 []) t)) ∧ (out.1 = 3 → xMetY l yM_value wyM_value fr out.2.1 out.2.2.1 lo D cT aK aV sz [.ref aM] (xMw cT aM ad rd gd vad st []) "java/lang/ArithmeticException" (fun u => xE vad st out.2.2.2.2 u) (fun A u t => xB D xcl cT A (xMw cT aM u.1 rd u.2.1 u.2.2 out.2.2.2.2 []) t))) (sz n : Nat) (aM : Nat) (ad rd gd vad : Nat → Nat) (st : xS) (out : Nat × Nat × Nat × Nat × xS) (hf : fM_members rec n st = some out) (hkd : out.1 = 1) : xMetY l yM_members wyM_members (fr + 9) out.2.1 out.2.2.1 (lo + 167) D cT aK aV sz [.ref aM] (xMw cT aM ad rd gd vad st []) "java/lang/IndexOutOfBoundsException" (fun u => xE vad st out.2.2.2.2 u) (fun A u t => xB D xcl cT A (xMw cT aM u.1 rd u.2.1 u.2.2 out.2.2.2.2 []) t) := by
  refine vx_ofW (cc := prog_13_method_40_code) (maxL := 6) (ret := (some (.object "ValueBenchModel$V"))) (by decide) rfl ?_
  intro p e s m args below meth c s₁ B hml hne hv
  obtain ⟨rfl, hsz, hZ, hP, hK, hD0⟩ := hv
  have hx := B.exec
  have hb := B.bytes
  have hr := B.returns
  have hts := atoms_spec (ws := wyM_members) B.pre
  have htx := fun w h => hts w (List.mem_cons_of_mem _ h)
  have hown : s.vm.findClass "ValueBenchModel" = some m.cls := findClass_of_methodNamed B.named
  have hlocks := B.notSynchronized
  subst hsz
  have hD := hD0.self (sz := s.heap.size)
  generalize hAe : va_A (xMw cT aM ad rd gd vad st []) s.heap.size = A at hD hZ ⊢
  have hA : ∀ q : Nat, s.heap.size ≤ q → A q := fun q h => by rw [← hAe]; exact Or.inr h
  have hS : va_S A s.heap s.heap [] := va_S.rf
  have hl := lv_entry ([.ref aM]) (n := 6) (by simp [lg_sl, xvcat, xrscat, xcI, xcL, xcR, xcN])
  rw [show lv_args 0 [.ref aM] = [(0, .ref aM)] from by simp [lv_args, xvcat, xrscat, xcI, xcL, xcR, xcN]] at hl
  rw [lg_entry_eq]
  generalize (lg_sl ([.ref aM]) ++ List.replicate (6 - (lg_sl ([.ref aM])).length) Slot.unset).toArray = ls at hl ⊢
  have hl : lv_has ls 6 [(0, .ref aM)] := hl
  have hE : ∀ p, p < xct st → vad p = vad p := fun _ _ => rfl
  have hN : xct st ≤ xct st := Nat.le_refl _
  unfold fM_members at hf
  refine xloopM (σ := Nat × Int32 × Int32 × Nat × Int32 × xS × Nat × Nat) (fun n x H locs ls => (∃ (adL gdL vadL : Nat → Nat), x.1 = 1 ∧ fM_members_b rec n x.1 x.2.1 x.2.2.1 x.2.2.2.1 x.2.2.2.2.1 x.2.2.2.2.2.1 x.2.2.2.2.2.2.1 x.2.2.2.2.2.2.2 = some out ∧ va_P D xcl (xMw cT aM adL rd gdL vadL x.2.2.2.2.2.1 []) H ∧ va_D A (xMw cT aM adL rd gdL vadL x.2.2.2.2.2.1 []) ∧ va_S A s.heap H locs ∧ lv_has ls 6 [(1, .int x.2.1), (0, .ref aM)] ∧ (∀ p, p < xct st → vadL p = vad p) ∧ xct st ≤ xct x.2.2.2.2.2.1) ∨ (∃ (adL gdL vadL : Nat → Nat), x.1 = 2 ∧ fM_members_b rec n x.1 x.2.1 x.2.2.1 x.2.2.2.1 x.2.2.2.2.1 x.2.2.2.2.2.1 x.2.2.2.2.2.2.1 x.2.2.2.2.2.2.2 = some out ∧ va_P D xcl (xMw cT aM adL rd gdL vadL x.2.2.2.2.2.1 []) H ∧ va_D A (xMw cT aM adL rd gdL vadL x.2.2.2.2.2.1 []) ∧ va_S A s.heap H locs ∧ lv_has ls 6 [(4, .int x.2.2.1), (3, xv vadL x.2.2.2.1), (2, .int x.2.2.2.2.1), (1, .int x.2.1), (0, .ref aM)] ∧ (∀ p, p < xct st → vadL p = vad p) ∧ xct st ≤ xct x.2.2.2.2.2.1)) (fun x => if x.1 = 1 then 36 else 70) (fun x => x.2.2.2.2.2.2.1) (fun x => x.2.2.2.2.2.2.2) (fun x H locs ls h => by rcases h with h | h; (obtain ⟨_, _, _, h⟩ := h; exact absurd h.2.1 (by rw [fM_members_b]; exact fun h => nomatch h)); (obtain ⟨_, _, _, h⟩ := h; exact absurd h.2.1 (by rw [fM_members_b]; exact fun h => nomatch h))) (fun n ih x H locs ls hv => ?_) (fun key => ?_)
  · obtain ⟨lb, y1, y4, y3, y2, ws9, wc, wn⟩ := x
    rcases hv with ⟨adL, gdL, vadL, hj, hf, hP, hD, hS, hl, hE, hN⟩ | ⟨adL, gdL, vadL, hj, hf, hP, hD, hS, hl, hE, hN⟩
    · subst hj
      have hf : fM_members_b rec (n + 1) 1 y1 y4 y3 y2 ws9 wc wn = some out := hf
      rw [fM_members_b, if_pos rfl] at hf
      obtain ⟨hP, hD⟩ : xPD D xcl A (xMw cT aM adL rd gdL vadL ws9 []) H := ⟨hP, hD⟩
      have hl : lv_has ls 6 [(1, .int y1), (0, .ref aM)] := hl
      refine W.eq (g2 := F0 m 36 ls []) rfl ?_
      show W p l e _ s m _ below meth c H locs wc wn _ _
      obtain ⟨hm0, hf⟩ := xmoE hf
      refine lv_aload_n hx hb dM_members_36 rfl (lv_at hl 1 rfl) ?_
      obtain ⟨o1, hq2, hf⟩ := xbind hf
      have hFc := xm_free hD hS hA
      refine va_callv (va_runV (C := "ValueBenchModel") (As := []) (rest := []) ⟨hx, hb, hml, hown, htx⟩ (gM_blanks l hl9 D cT aK aV H.size n aM adL rd gdL vadL ws9 o1 hq2) ⟨callB_of 0 htx (xw_goodC kw_5_229) rfl rfl rfl (htx _ kw_1_5) (htx _ kw_5_226) ⟨by decide, by decide, by decide +kernel⟩ ⟨Nat.le_of_ble_eq_true rfl, Nat.le_of_ble_eq_true rfl⟩, (htx _ kw_5_228), (htx _ kp_M_blanks)⟩ ⟨xPre_blind, va_recv hK hP (ci := 5) rfl (q0 := 0) rfl, (fun U hU hW => ⟨rfl, xPre_of hZ hS hFc hP hD hK U hU hW⟩)⟩ rfl rfl hl.1 rfl (xm_room (Nat.le_of_ble_eq_true rfl)) dM_members_37 ⟨hm0.1, hm0.2⟩) hS (fun q _ h => hFc q h) hFc (fun u9 t H1 locs ht hvm hr9 hB hz1 hk1 hS => ?_)
      obtain ⟨hP1, hK1, hD1⟩ := hB
      rw [ht] at hP1
      have hn4 := hr9
      have hN : xct st ≤ xct o1 := Nat.le_trans hN hn4
      have hP : va_P D xcl (xMw cT aM adL rd gdL vadL o1 []) H1 := hP1
      have hD : va_D A (xMw cT aM adL rd gdL vadL o1 []) := hD1.weaken (fun k q _ h => hFc q.1 h)
      generalize H1 = H at hP hS ⊢
      refine W.eq (g2 := F0 m 40 ls []) (by first | rfl | (skip; rfl)) ?_
      refine lv_aload_n hx hb dM_members_40 rfl (lv_at hl 1 rfl) ?_
      refine xm_get (v := .int (xsi o1 16)) hx hb htx hown hK hP 16 (by decide) rfl (htx _ kw_5_103) rfl dM_members_41 ?_
      refine lv_istore_n (lv' := [(2, .int (xsi o1 16)), (1, .int y1), (0, .ref aM)]) hx hb dM_members_44 rfl hl (by decide) rfl (fun ls hl => ?_)
      refine lv_aload_n hx hb dM_members_45 rfl (lv_at hl 2 rfl) ?_
      obtain ⟨o5, hq6, hf⟩ := xbind hf
      have hFc := xm_free hD hS hA
      refine va_calli (va_runV (C := "ValueBenchModel") (As := []) (rest := []) ⟨hx, hb, hml, hown, htx⟩ (gM_peek l hl9 D cT aK aV H.size n aM adL rd gdL vadL o1 o5 hq6) ⟨callB_of 0 htx (xw_goodC kw_5_233) rfl rfl rfl (htx _ kw_1_5) (htx _ kw_5_230) ⟨by decide, by decide, by decide +kernel⟩ ⟨Nat.le_of_ble_eq_true rfl, Nat.le_of_ble_eq_true rfl⟩, (htx _ kw_5_232), (htx _ kp_M_peek)⟩ ⟨xPre_blind, va_recv hK hP (ci := 5) rfl (q0 := 0) rfl, (fun U hU hW => ⟨rfl, xPre_of hZ hS hFc hP hD hK U hU hW⟩)⟩ rfl rfl hl.1 rfl (xm_room (Nat.le_of_ble_eq_true rfl)) dM_members_46 ⟨hm0.1, hm0.2⟩) hS (fun q _ h => hFc q h) hFc (fun r7 u9 t H1 locs ht hvm hr9 hB hz1 hk1 hS => ?_)
      obtain ⟨hP1, hK1, hD1⟩ := hB
      rw [ht] at hP1
      have hP : va_P D xcl (xMw cT aM adL rd gdL vadL o1 []) H1 := hP1
      have hD : va_D A (xMw cT aM adL rd gdL vadL o1 []) := hD1.weaken (fun k q _ h => hFc q.1 h)
      generalize H1 = H at hP hS ⊢
      rw [hr9]
      refine W.eq (g2 := F0 m 49 ls [.int o5]) (by first | rfl | (skip; rfl)) ?_
      refine lv_bipush (v := 34) hx hb dM_members_49 (by decide) ?_
      refine lv_icmp_eq (tgt := 62) hx hb dM_members_51 (by decide) (fun hc => ?_) (fun hc => ?_)
      · rw [if_pos hc] at hf
        refine lv_aload_n hx hb dM_members_62 rfl (lv_at hl 2 rfl) ?_
        obtain ⟨o8, hq9, hf⟩ := xbind hf
        by_cases hk10 : o8.1 = 0
        · rw [if_pos hk10] at hf
          obtain ⟨hm11, hf⟩ := xmoE hf
          have hFc := xm_free hD hS hA
          refine va_callq (va_runV (C := "ValueBenchModel") (As := []) (rest := []) ⟨hx, hb, hml, hown, htx⟩ (gM_jsonString l hl9 D cT aK aV H.size n aM adL rd gdL vadL o1 o8 hq9 hk10) ⟨callB_of 0 htx (xw_goodC kw_6_46) rfl rfl rfl (htx _ kw_1_5) (htx _ kw_6_43) ⟨by decide, by decide, by decide +kernel⟩ ⟨Nat.le_of_ble_eq_true rfl, Nat.le_of_ble_eq_true rfl⟩, (htx _ kw_6_45), (htx _ kp_M_jsonString)⟩ ⟨xPre_blind, va_recv hK hP (ci := 5) rfl (q0 := 0) rfl, (fun U hU hW => ⟨rfl, xPre_of hZ hS hFc hP hD hK U hU hW⟩)⟩ rfl rfl hl.1 rfl (xm_room (Nat.le_of_ble_eq_true rfl)) dM_members_63 ⟨hm11.1, hm11.2⟩) hS (fun q _ h => hFc q h) hFc (fun r12 u9 t H1 locs ht hvm hr9 hB hz1 hk1 hS => ?_)
          obtain ⟨hP1, hK1, hD1⟩ := hB
          rw [ht] at hP1
          obtain ⟨ad13, gd14, vad15⟩ := u9
          obtain ⟨hr9, hv16, hn17⟩ := hr9
          have hP : va_P D xcl (xMw cT aM ad13 rd gd14 vad15 o8.2.2.2.2 []) H1 := hP1
          have hD : va_D A (xMw cT aM ad13 rd gd14 vad15 o8.2.2.2.2 []) := hD1.weaken (fun k q _ h => hFc q.1 h)
          generalize H1 = H at hP hS ⊢
          have hE9 : ∀ p, p < xct st → vad15 p = vad p := fun p h => (hv16 p (Nat.lt_of_lt_of_le h hN)).trans (hE p h)
          have hE := hE9
          have hN : xct st ≤ xct o8.2.2.2.2 := Nat.le_trans hN hn17
          rw [hr9]
          refine W.eq (g2 := F0 m 66 ls [xv vad15 o8.2.2.2.1]) (by first | rfl | (skip; rfl)) ?_
          refine xm_astore_n (lv' := [(3, xv vad15 o8.2.2.2.1), (2, .int (xsi o1 16)), (1, .int y1), (0, .ref aM)]) hx hb (xvor _ _) dM_members_66 rfl hl (by decide) rfl (fun ls hl => ?_)
          refine lv_iload_n hx hb dM_members_67 rfl (lv_at hl 2 rfl) ?_
          refine lv_istore (lv' := [(4, .int y1), (3, xv vad15 o8.2.2.2.1), (2, .int (xsi o1 16)), (1, .int y1), (0, .ref aM)]) hx hb dM_members_68 hl (by decide) (by simp only [List.filter, xvcat, xrscat, xcI, xcL, xcR, xcN]; rfl) (fun ls hl => ?_)
          exact ih (2, y1, y1, o8.2.2.2.1, (xsi o1 16), o8.2.2.2.2, (wc + o8.2.1), (wn + o8.2.2.1)) _ _ ls (Or.inr (⟨ad13, gd14, vad15, rfl, hf, hP, hD, hS, lv_sub hl [0, 1, 2, 3, 4] rfl, hE, hN⟩))
        rw [if_neg hk10] at hf
        by_cases hk18 : o8.1 = 1
        · rw [if_pos hk18] at hf
          obtain ⟨hm19, hf⟩ := xmoE hf
          have hFc := xm_free hD hS hA
          refine xx_thr (vx_runV (C := "ValueBenchModel") (As := []) (rest := []) ⟨hx, hb, hml, hown, htx⟩ (gM_jsonString_1 l hl9 D cT aK aV H.size n aM adL rd gdL vadL o1 o8 hq9 hk18) ⟨callB_of 0 htx (xw_goodC kw_6_46) rfl rfl rfl (htx _ kw_1_5) (htx _ kw_6_43) ⟨by decide, by decide, by decide +kernel⟩ ⟨Nat.le_of_ble_eq_true rfl, Nat.le_of_ble_eq_true rfl⟩, (htx _ kw_6_45), (htx _ kp_M_jsonString)⟩ ⟨xPre_blind, va_recv hK hP (ci := 5) rfl (q0 := 0) rfl, (fun U hU hW => ⟨rfl, xPre_of hZ hS hFc hP hD hK U hU hW⟩)⟩ rfl rfl hl.1 rfl (xm_room (Nat.le_of_ble_eq_true rfl)) dM_members_63 ⟨hm19.1, hm19.2⟩) hS hFc (fun q _ h => hFc q h) (fun E ce q9 u9 t H1 locs ht hvm hr9 hB hz1 hk1 hS hce hcv hcl => ?_)
          obtain ⟨rfl, hP1, hK1, hD1⟩ := hB
          rw [ht] at hP1
          obtain ⟨ad21, gd22, vad23⟩ := u9
          obtain ⟨hv24, hn25⟩ := hr9
          have hP : va_P D xcl (xMw cT aM ad21 rd gd22 vad23 o8.2.2.2.2 []) H1 := hP1
          have hD : va_D A (xMw cT aM ad21 rd gd22 vad23 o8.2.2.2.2 []) := hD1.weaken (fun k q _ h => hFc q.1 h)
          generalize H1 = H at hP hS hce ⊢
          have hE9 : ∀ p, p < xct st → vad23 p = vad p := fun p h => (hv24 p (Nat.lt_of_lt_of_le h hN)).trans (hE p h)
          have hE := hE9
          have hN : xct st ≤ xct o8.2.2.2.2 := Nat.le_trans hN hn25
          obtain rfl := Option.some.inj hf
          exact vx_out (E := "java/lang/IndexOutOfBoundsException") (fun x h => (hne x h).elim) hlocks hce hcv hcl (fun t ht ha => ⟨(ad21, gd22, vad23), ⟨hE, hN⟩, ⟨rfl, by rw [ht]; exact hP, va_K.moved ha hK, hD⟩, hS.F ht⟩) hS.2.2 (Nat.le_refl _) (Nat.le_refl _)
        rw [if_neg hk18] at hf
        by_cases hk26 : o8.1 = 2
        · rw [if_pos hk26] at hf
          obtain ⟨hm27, hf⟩ := xmoE hf
          obtain rfl := Option.some.inj hf
          exact absurd (show (2 : Nat) = 1 from hkd) (by decide)
        rw [if_neg hk26] at hf
        exact nomatch hf
      · rw [if_neg hc] at hf
        refine lv_aload_n hx hb dM_members_54 rfl (lv_at hl 2 rfl) ?_
        refine lv_aload_n hx hb dM_members_55 rfl (lv_at hl 2 rfl) ?_
        refine xm_get (v := .int (xsi o1 16)) hx hb htx hown hK hP 16 (by decide) rfl (htx _ kw_5_103) rfl dM_members_56 ?_
        obtain ⟨o8, hq9, hf⟩ := xbind hf
        by_cases hk10 : o8.1 = 1
        · rw [if_pos hk10] at hf
          obtain ⟨hm11, hf⟩ := xmoE hf
          obtain rfl := Option.some.inj hf
          exact absurd (show (2 : Nat) = 1 from hkd) (by decide)
        rw [if_neg hk10] at hf
        exact nomatch hf
    · subst hj
      have hf : fM_members_b rec (n + 1) 2 y1 y4 y3 y2 ws9 wc wn = some out := hf
      rw [fM_members_b, if_neg (by decide)] at hf
      obtain ⟨hP, hD⟩ : xPD D xcl A (xMw cT aM adL rd gdL vadL ws9 []) H := ⟨hP, hD⟩
      have hl : lv_has ls 6 [(4, .int y4), (3, xv vadL y3), (2, .int y2), (1, .int y1), (0, .ref aM)] := hl
      refine W.eq (g2 := F0 m 70 ls []) rfl ?_
      show W p l e _ s m _ below meth c H locs wc wn _ _
      obtain ⟨hm0, hf⟩ := xmoE hf
      refine lv_iload hx hb dM_members_70 (lv_at hl 0 rfl) ?_
      refine lv_aload_n hx hb dM_members_72 rfl (lv_at hl 4 rfl) ?_
      refine xm_get (v := .int (xsi ws9 12)) hx hb htx hown hK hP 12 (by decide) rfl (htx _ kw_5_99) rfl dM_members_73 ?_
      refine lv_icmp_ge (tgt := 105) hx hb dM_members_76 (by decide) (fun hc => ?_) (fun hc => ?_)
      · rw [if_pos hc] at hf
        refine lv_aload_n hx hb dM_members_105 rfl (lv_at hl 4 rfl) ?_
        obtain ⟨o1, hq2, hf⟩ := xbind hf
        have hFc := xm_free hD hS hA
        refine va_callv (va_runV (C := "ValueBenchModel") (As := []) (rest := []) ⟨hx, hb, hml, hown, htx⟩ (gM_blanks l hl9 D cT aK aV H.size n aM adL rd gdL vadL ws9 o1 hq2) ⟨callB_of 0 htx (xw_goodC kw_5_229) rfl rfl rfl (htx _ kw_1_5) (htx _ kw_5_226) ⟨by decide, by decide, by decide +kernel⟩ ⟨Nat.le_of_ble_eq_true rfl, Nat.le_of_ble_eq_true rfl⟩, (htx _ kw_5_228), (htx _ kp_M_blanks)⟩ ⟨xPre_blind, va_recv hK hP (ci := 5) rfl (q0 := 0) rfl, (fun U hU hW => ⟨rfl, xPre_of hZ hS hFc hP hD hK U hU hW⟩)⟩ rfl rfl hl.1 rfl (xm_room (Nat.le_of_ble_eq_true rfl)) dM_members_106 ⟨hm0.1, hm0.2⟩) hS (fun q _ h => hFc q h) hFc (fun u9 t H1 locs ht hvm hr9 hB hz1 hk1 hS => ?_)
        obtain ⟨hP1, hK1, hD1⟩ := hB
        rw [ht] at hP1
        have hn4 := hr9
        have hN : xct st ≤ xct o1 := Nat.le_trans hN hn4
        have hP : va_P D xcl (xMw cT aM adL rd gdL vadL o1 []) H1 := hP1
        have hD : va_D A (xMw cT aM adL rd gdL vadL o1 []) := hD1.weaken (fun k q _ h => hFc q.1 h)
        generalize H1 = H at hP hS ⊢
        refine W.eq (g2 := F0 m 109 ls []) (by first | rfl | (skip; rfl)) ?_
        refine lv_aload_n hx hb dM_members_109 rfl (lv_at hl 4 rfl) ?_
        obtain ⟨o5, hq6, hf⟩ := xbind hf
        have hFc := xm_free hD hS hA
        refine va_calli (va_runV (C := "ValueBenchModel") (As := []) (rest := []) ⟨hx, hb, hml, hown, htx⟩ (gM_peek l hl9 D cT aK aV H.size n aM adL rd gdL vadL o1 o5 hq6) ⟨callB_of 0 htx (xw_goodC kw_5_233) rfl rfl rfl (htx _ kw_1_5) (htx _ kw_5_230) ⟨by decide, by decide, by decide +kernel⟩ ⟨Nat.le_of_ble_eq_true rfl, Nat.le_of_ble_eq_true rfl⟩, (htx _ kw_5_232), (htx _ kp_M_peek)⟩ ⟨xPre_blind, va_recv hK hP (ci := 5) rfl (q0 := 0) rfl, (fun U hU hW => ⟨rfl, xPre_of hZ hS hFc hP hD hK U hU hW⟩)⟩ rfl rfl hl.1 rfl (xm_room (Nat.le_of_ble_eq_true rfl)) dM_members_110 ⟨hm0.1, hm0.2⟩) hS (fun q _ h => hFc q h) hFc (fun r7 u9 t H1 locs ht hvm hr9 hB hz1 hk1 hS => ?_)
        obtain ⟨hP1, hK1, hD1⟩ := hB
        rw [ht] at hP1
        have hP : va_P D xcl (xMw cT aM adL rd gdL vadL o1 []) H1 := hP1
        have hD : va_D A (xMw cT aM adL rd gdL vadL o1 []) := hD1.weaken (fun k q _ h => hFc q.1 h)
        generalize H1 = H at hP hS ⊢
        rw [hr9]
        refine W.eq (g2 := F0 m 113 ls [.int o5]) (by first | rfl | (skip; rfl)) ?_
        refine lv_bipush (v := 58) hx hb dM_members_113 (by decide) ?_
        refine lv_icmp_eq (tgt := 126) hx hb dM_members_115 (by decide) (fun hc => ?_) (fun hc => ?_)
        · rw [if_pos hc] at hf
          refine lv_aload_n hx hb dM_members_126 rfl (lv_at hl 4 rfl) ?_
          refine lv_dup hx hb dM_members_127 rfl ?_
          refine xm_get (v := .int (xsi o1 16)) hx hb htx hown hK hP 16 (by decide) rfl (htx _ kw_5_103) rfl dM_members_128 ?_
          refine lv_iconst (v := 1) hx hb dM_members_131 (by decide) ?_
          refine lv_iadd hx hb dM_members_132 ?_
          refine xm_put (v := .int ((xsi o1 16) + (1 : Int32))) (W' := (xMw cT aM adL rd gdL vadL (xsI o1 16 ((xsi o1 16) + (1 : Int32))) [])) (ty := .int) hx hb htx hown hK hP hD hS 16 (by decide) rfl (htx _ kw_5_103) rfl rfl (by decide +kernel) rfl rfl dM_members_133 (fun H locs hP hD hS => ?_)
          refine lv_aload_n hx hb dM_members_136 rfl (lv_at hl 4 rfl) ?_
          obtain ⟨o8, hq9, hf⟩ := xbind hf
          by_cases hk10 : o8.1 = 0
          · rw [if_pos hk10] at hf
            obtain ⟨hg11, hf⟩ := xifn hf
            obtain ⟨hm12, hf⟩ := xmoE hf
            have hFc := xm_free hD hS hA
            refine va_callq (va_runV (C := "ValueBenchModel") (As := []) (rest := []) ⟨hx, hb, hml, hown, htx⟩ ((hrec H.size aM adL rd gdL vadL (xsI o1 16 ((xsi o1 16) + (1 : Int32))) o8 hq9).1 hk10) ⟨callB_of 0 htx (xw_goodC kw_5_225) rfl rfl rfl (htx _ kw_1_5) (htx _ kw_5_222) ⟨by decide, by decide, by decide +kernel⟩ ⟨(by show (fr) + 1 ≤ fr + 9; omega), (by show 8 + (3 + 11) + (lo) ≤ lo + 167; omega)⟩, (htx _ kw_5_224), (htx _ kp_M_value)⟩ ⟨xPre_blind, va_recv hK hP (ci := 5) rfl (q0 := 0) rfl, (fun U hU hW => ⟨rfl, xPre_of hZ hS hFc hP hD hK U hU hW⟩)⟩ rfl rfl hl.1 rfl (xm_room (Nat.le_of_ble_eq_true rfl)) dM_members_137 ⟨hm12.1, hm12.2⟩) hS (fun q _ h => hFc q h) hFc (fun r13 u9 t H1 locs ht hvm hr9 hB hz1 hk1 hS => ?_)
            obtain ⟨hP1, hK1, hD1⟩ := hB
            rw [ht] at hP1
            obtain ⟨ad14, gd15, vad16⟩ := u9
            obtain ⟨hr9, hv17, hn18⟩ := hr9
            have hP : va_P D xcl (xMw cT aM ad14 rd gd15 vad16 o8.2.2.2.2 []) H1 := hP1
            have hD : va_D A (xMw cT aM ad14 rd gd15 vad16 o8.2.2.2.2 []) := hD1.weaken (fun k q _ h => hFc q.1 h)
            generalize H1 = H at hP hS ⊢
            have hE9 : ∀ p, p < xct st → vad16 p = vad p := fun p h => (hv17 p (Nat.lt_of_lt_of_le h hN)).trans (hE p h)
            have hE := hE9
            have hN : xct st ≤ xct o8.2.2.2.2 := Nat.le_trans hN hn18
            have ev19 : xv vadL y3 = xv vad16 y3 := xvE hv17 hg11
            have hl : lv_has ls 6 [(4, .int y4), (3, xv vad16 y3), (2, .int y2), (1, .int y1), (0, .ref aM)] := by first | exact hl | ((try (rw [← ev19])); exact hl)
            rw [hr9]
            refine W.eq (g2 := F0 m 140 ls [xv vad16 o8.2.2.2.1]) (by first | rfl | ((try (rw [ev19])); rfl)) ?_
            refine xm_astore (lv' := [(4, xv vad16 o8.2.2.2.1), (3, xv vad16 y3), (2, .int y2), (1, .int y1), (0, .ref aM)]) hx hb (xvor _ _) dM_members_140 hl (by decide) (by simp only [List.filter, xvcat, xrscat, xcI, xcL, xcR, xcN]; rfl) (fun ls hl => ?_)
            refine lv_aload_n hx hb dM_members_142 rfl (lv_at hl 4 rfl) ?_
            refine xm_aload_n hx hb (xvor _ _) dM_members_143 rfl (lv_at hl 1 rfl) ?_
            refine xm_aload hx hb (xvor _ _) dM_members_144 (lv_at hl 0 rfl) ?_
            obtain ⟨o20, hq21, hf⟩ := xbind hf
            obtain ⟨hg22, hf⟩ := xifn hf
            obtain ⟨hg23, hf⟩ := xifn hf
            obtain ⟨hm24, hf⟩ := xmoE hf
            have hFc := xm_free hD hS hA
            refine va_callv (va_runV (C := "ValueBenchModel") (As := [xv vad16 y3, xv vad16 o8.2.2.2.1]) (rest := []) ⟨hx, hb, hml, hown, htx⟩ (gM_wait l hl9 D cT aK aV H.size n aM ad14 rd gd15 vad16 o8.2.2.2.2 y3 o8.2.2.2.1 o20 hq21) ⟨callB_of 2 htx (xw_goodC kw_6_112) rfl rfl rfl (htx _ kw_1_5) (htx _ kw_6_109) ⟨by decide, by decide, by decide +kernel⟩ ⟨Nat.le_of_ble_eq_true rfl, Nat.le_of_ble_eq_true rfl⟩, (htx _ kw_6_111), (htx _ kp_M_wait)⟩ ⟨xPre_blind, va_recv hK hP (ci := 5) rfl (q0 := 0) rfl, (fun U hU hW => ⟨rfl, xPre_of hZ hS hFc hP hD hK U hU hW⟩)⟩ rfl rfl hl.1 rfl (xm_room (Nat.le_of_ble_eq_true rfl)) dM_members_146 ⟨hm24.1, hm24.2⟩) hS (fun q _ h => hFc q h) hFc (fun u9 t H1 locs ht hvm hr9 hB hz1 hk1 hS => ?_)
            obtain ⟨hP1, hK1, hD1⟩ := hB
            rw [ht] at hP1
            obtain ⟨ad26, gd27, vad28⟩ := u9
            obtain ⟨hv29, hn30⟩ := hr9
            have hP : va_P D xcl (xMw cT aM ad26 rd gd27 vad28 o20.2.2 []) H1 := hP1
            have hD : va_D A (xMw cT aM ad26 rd gd27 vad28 o20.2.2 []) := hD1.weaken (fun k q _ h => hFc q.1 h)
            generalize H1 = H at hP hS ⊢
            have hE9 : ∀ p, p < xct st → vad28 p = vad p := fun p h => (hv29 p (Nat.lt_of_lt_of_le h hN)).trans (hE p h)
            have hE := hE9
            have hN : xct st ≤ xct o20.2.2 := Nat.le_trans hN hn30
            have ev31 : xv vad16 o8.2.2.2.1 = xv vad28 o8.2.2.2.1 := xvE hv29 hg22
            have ev32 : xv vad16 y3 = xv vad28 y3 := xvE hv29 hg23
            have hl : lv_has ls 6 [(4, xv vad28 o8.2.2.2.1), (3, xv vad28 y3), (2, .int y2), (1, .int y1), (0, .ref aM)] := by first | exact hl | ((try (rw [← ev31])); (try (rw [← ev32])); exact hl)
            refine W.eq (g2 := F0 m 149 ls []) (by first | rfl | ((try (rw [ev31])); (try (rw [ev32])); rfl)) ?_
            refine lv_aload_n hx hb dM_members_149 rfl (lv_at hl 4 rfl) ?_
            obtain ⟨o33, hq34, hf⟩ := xbind hf
            have hFc := xm_free hD hS hA
            refine va_callv (va_runV (C := "ValueBenchModel") (As := []) (rest := []) ⟨hx, hb, hml, hown, htx⟩ (gM_blanks l hl9 D cT aK aV H.size n aM ad26 rd gd27 vad28 o20.2.2 o33 hq34) ⟨callB_of 0 htx (xw_goodC kw_5_229) rfl rfl rfl (htx _ kw_1_5) (htx _ kw_5_226) ⟨by decide, by decide, by decide +kernel⟩ ⟨Nat.le_of_ble_eq_true rfl, Nat.le_of_ble_eq_true rfl⟩, (htx _ kw_5_228), (htx _ kp_M_blanks)⟩ ⟨xPre_blind, va_recv hK hP (ci := 5) rfl (q0 := 0) rfl, (fun U hU hW => ⟨rfl, xPre_of hZ hS hFc hP hD hK U hU hW⟩)⟩ rfl rfl hl.1 rfl (xm_room (Nat.le_of_ble_eq_true rfl)) dM_members_150 ⟨hm24.1, hm24.2⟩) hS (fun q _ h => hFc q h) hFc (fun u9 t H1 locs ht hvm hr9 hB hz1 hk1 hS => ?_)
            obtain ⟨hP1, hK1, hD1⟩ := hB
            rw [ht] at hP1
            have hn36 := hr9
            have hN : xct st ≤ xct o33 := Nat.le_trans hN hn36
            have hP : va_P D xcl (xMw cT aM ad26 rd gd27 vad28 o33 []) H1 := hP1
            have hD : va_D A (xMw cT aM ad26 rd gd27 vad28 o33 []) := hD1.weaken (fun k q _ h => hFc q.1 h)
            generalize H1 = H at hP hS ⊢
            refine W.eq (g2 := F0 m 153 ls []) (by first | rfl | (skip; rfl)) ?_
            refine lv_aload_n hx hb dM_members_153 rfl (lv_at hl 4 rfl) ?_
            obtain ⟨o37, hq38, hf⟩ := xbind hf
            have hFc := xm_free hD hS hA
            refine va_calli (va_runV (C := "ValueBenchModel") (As := []) (rest := []) ⟨hx, hb, hml, hown, htx⟩ (gM_peek l hl9 D cT aK aV H.size n aM ad26 rd gd27 vad28 o33 o37 hq38) ⟨callB_of 0 htx (xw_goodC kw_5_233) rfl rfl rfl (htx _ kw_1_5) (htx _ kw_5_230) ⟨by decide, by decide, by decide +kernel⟩ ⟨Nat.le_of_ble_eq_true rfl, Nat.le_of_ble_eq_true rfl⟩, (htx _ kw_5_232), (htx _ kp_M_peek)⟩ ⟨xPre_blind, va_recv hK hP (ci := 5) rfl (q0 := 0) rfl, (fun U hU hW => ⟨rfl, xPre_of hZ hS hFc hP hD hK U hU hW⟩)⟩ rfl rfl hl.1 rfl (xm_room (Nat.le_of_ble_eq_true rfl)) dM_members_154 ⟨hm24.1, hm24.2⟩) hS (fun q _ h => hFc q h) hFc (fun r39 u9 t H1 locs ht hvm hr9 hB hz1 hk1 hS => ?_)
            obtain ⟨hP1, hK1, hD1⟩ := hB
            rw [ht] at hP1
            have hP : va_P D xcl (xMw cT aM ad26 rd gd27 vad28 o33 []) H1 := hP1
            have hD : va_D A (xMw cT aM ad26 rd gd27 vad28 o33 []) := hD1.weaken (fun k q _ h => hFc q.1 h)
            generalize H1 = H at hP hS ⊢
            rw [hr9]
            refine W.eq (g2 := F0 m 157 ls [.int o37]) (by first | rfl | (skip; rfl)) ?_
            refine lv_istore (lv' := [(5, .int o37), (4, xv vad28 o8.2.2.2.1), (3, xv vad28 y3), (2, .int y2), (1, .int y1), (0, .ref aM)]) hx hb dM_members_157 hl (by decide) (by simp only [List.filter, xvcat, xrscat, xcI, xcL, xcR, xcN]; rfl) (fun ls hl => ?_)
            refine lv_iload hx hb dM_members_159 (lv_at hl 0 rfl) ?_
            refine lv_bipush (v := 44) hx hb dM_members_161 (by decide) ?_
            refine lv_icmp_eq (tgt := 181) hx hb dM_members_163 (by decide) (fun hc => ?_) (fun hc => ?_)
            · rw [if_pos hc] at hf
              refine lv_aload_n hx hb dM_members_181 rfl (lv_at hl 5 rfl) ?_
              refine lv_dup hx hb dM_members_182 rfl ?_
              refine xm_get (v := .int (xsi o33 16)) hx hb htx hown hK hP 16 (by decide) rfl (htx _ kw_5_103) rfl dM_members_183 ?_
              refine lv_iconst (v := 1) hx hb dM_members_186 (by decide) ?_
              refine lv_iadd hx hb dM_members_187 ?_
              refine xm_put (v := .int ((xsi o33 16) + (1 : Int32))) (W' := (xMw cT aM ad26 rd gd27 vad28 (xsI o33 16 ((xsi o33 16) + (1 : Int32))) [])) (ty := .int) hx hb htx hown hK hP hD hS 16 (by decide) rfl (htx _ kw_5_103) rfl rfl (by decide +kernel) rfl rfl dM_members_188 (fun H locs hP hD hS => ?_)
              refine lv_iload hx hb dM_members_191 (lv_at hl 0 rfl) ?_
              refine lv_bipush (v := 125) hx hb dM_members_193 (by decide) ?_
              refine lv_icmp_ne (tgt := 206) hx hb dM_members_195 (by decide) (fun hc => ?_) (fun hc => ?_)
              · rw [if_neg hc] at hf
                refine lv_goto (tgt := 36) hx hb dM_members_206 (by decide) ?_
                exact ih (1, y1, 0, y3, y2, (xsI o33 16 ((xsi o33 16) + (1 : Int32))), ((wc + o8.2.1) + o20.1), ((wn + o8.2.2.1) + o20.2.1)) _ _ ls (Or.inl ⟨ad26, gd27, vad28, rfl, hf, hP, hD, hS, lv_sub hl [4, 5] rfl, hE, hN⟩)
              · rw [if_pos hc] at hf
                refine lv_aload_n hx hb dM_members_198 rfl (lv_at hl 5 rfl) ?_
                refine lv_bipush (v := 6) hx hb dM_members_199 (by decide) ?_
                refine lv_iload_n hx hb dM_members_201 rfl (lv_at hl 4 rfl) ?_
                obtain ⟨o40, hq41, hf⟩ := xbind hf
                have hl := lv_sub (l' := [(5, .int o37), (2, .int y2), (1, .int y1), (0, .ref aM)]) hl [0, 3, 4, 5] rfl
                by_cases hk42 : o40.1 = 0
                · rw [if_pos hk42] at hf
                  obtain ⟨hm43, hf⟩ := xmoE hf
                  have hFc := xm_free hD hS hA
                  refine va_callq (va_runV (C := "ValueBenchModel") (As := [.int 6, .int y1]) (rest := []) ⟨hx, hb, hml, hown, htx⟩ (gM_whole l hl9 D cT aK aV H.size n aM ad26 rd gd27 vad28 (xsI o33 16 ((xsi o33 16) + (1 : Int32))) (6 : Int32) y1 o40 hq41 hk42) ⟨callB_of 2 htx (xw_goodC kw_6_106) rfl rfl rfl (htx _ kw_1_5) (htx _ kw_6_103) ⟨by decide, by decide, by decide +kernel⟩ ⟨Nat.le_of_ble_eq_true rfl, Nat.le_of_ble_eq_true rfl⟩, (htx _ kw_6_105), (htx _ kp_M_whole)⟩ ⟨xPre_blind, va_recv hK hP (ci := 5) rfl (q0 := 0) rfl, (fun U hU hW => ⟨rfl, xPre_of hZ hS hFc hP hD hK U hU hW⟩)⟩ rfl rfl hl.1 rfl (xm_room (Nat.le_of_ble_eq_true rfl)) dM_members_202 ⟨hm43.1, hm43.2⟩) hS (fun q _ h => hFc q h) hFc (fun r44 u9 t H1 locs ht hvm hr9 hB hz1 hk1 hS => ?_)
                  obtain ⟨hP1, hK1, hD1⟩ := hB
                  rw [ht] at hP1
                  obtain ⟨ad45, gd46, vad47⟩ := u9
                  obtain ⟨hr9, hv48, hn49⟩ := hr9
                  have hP : va_P D xcl (xMw cT aM ad45 rd gd46 vad47 o40.2.2.2.2 []) H1 := hP1
                  have hD : va_D A (xMw cT aM ad45 rd gd46 vad47 o40.2.2.2.2 []) := hD1.weaken (fun k q _ h => hFc q.1 h)
                  generalize H1 = H at hP hS ⊢
                  have hE9 : ∀ p, p < xct st → vad47 p = vad p := fun p h => (hv48 p (Nat.lt_of_lt_of_le h hN)).trans (hE p h)
                  have hE := hE9
                  have hN : xct st ≤ xct o40.2.2.2.2 := Nat.le_trans hN hn49
                  rw [hr9]
                  refine W.eq (g2 := F0 m 205 ls [xv vad47 o40.2.2.2.1]) (by first | rfl | (skip; rfl)) ?_
                  obtain rfl := Option.some.inj hf
                  exact absurd (show (0 : Nat) = 1 from hkd) (by decide)
                rw [if_neg hk42] at hf
                by_cases hk50 : o40.1 = 1
                · rw [if_pos hk50] at hf
                  obtain ⟨hm51, hf⟩ := xmoE hf
                  have hFc := xm_free hD hS hA
                  refine xx_thr (vx_runV (C := "ValueBenchModel") (As := [.int 6, .int y1]) (rest := []) ⟨hx, hb, hml, hown, htx⟩ (gM_whole_1 l hl9 D cT aK aV H.size n aM ad26 rd gd27 vad28 (xsI o33 16 ((xsi o33 16) + (1 : Int32))) (6 : Int32) y1 o40 hq41 hk50) ⟨callB_of 2 htx (xw_goodC kw_6_106) rfl rfl rfl (htx _ kw_1_5) (htx _ kw_6_103) ⟨by decide, by decide, by decide +kernel⟩ ⟨Nat.le_of_ble_eq_true rfl, Nat.le_of_ble_eq_true rfl⟩, (htx _ kw_6_105), (htx _ kp_M_whole)⟩ ⟨xPre_blind, va_recv hK hP (ci := 5) rfl (q0 := 0) rfl, (fun U hU hW => ⟨rfl, xPre_of hZ hS hFc hP hD hK U hU hW⟩)⟩ rfl rfl hl.1 rfl (xm_room (Nat.le_of_ble_eq_true rfl)) dM_members_202 ⟨hm51.1, hm51.2⟩) hS hFc (fun q _ h => hFc q h) (fun E ce q9 u9 t H1 locs ht hvm hr9 hB hz1 hk1 hS hce hcv hcl => ?_)
                  obtain ⟨rfl, hP1, hK1, hD1⟩ := hB
                  rw [ht] at hP1
                  obtain ⟨ad53, gd54, vad55⟩ := u9
                  obtain ⟨hv56, hn57⟩ := hr9
                  have hP : va_P D xcl (xMw cT aM ad53 rd gd54 vad55 o40.2.2.2.2 []) H1 := hP1
                  have hD : va_D A (xMw cT aM ad53 rd gd54 vad55 o40.2.2.2.2 []) := hD1.weaken (fun k q _ h => hFc q.1 h)
                  generalize H1 = H at hP hS hce ⊢
                  have hE9 : ∀ p, p < xct st → vad55 p = vad p := fun p h => (hv56 p (Nat.lt_of_lt_of_le h hN)).trans (hE p h)
                  have hE := hE9
                  have hN : xct st ≤ xct o40.2.2.2.2 := Nat.le_trans hN hn57
                  obtain rfl := Option.some.inj hf
                  exact vx_out (E := "java/lang/IndexOutOfBoundsException") (fun x h => (hne x h).elim) hlocks hce hcv hcl (fun t ht ha => ⟨(ad53, gd54, vad55), ⟨hE, hN⟩, ⟨rfl, by rw [ht]; exact hP, va_K.moved ha hK, hD⟩, hS.F ht⟩) hS.2.2 (Nat.le_refl _) (Nat.le_refl _)
                rw [if_neg hk50] at hf
                exact nomatch hf
            · rw [if_neg hc] at hf
              refine lv_iload hx hb dM_members_166 (lv_at hl 0 rfl) ?_
              refine lv_bipush (v := 125) hx hb dM_members_168 (by decide) ?_
              refine lv_icmp_eq (tgt := 181) hx hb dM_members_170 (by decide) (fun hc => ?_) (fun hc => ?_)
              · rw [if_pos hc] at hf
                refine lv_aload_n hx hb dM_members_181 rfl (lv_at hl 5 rfl) ?_
                refine lv_dup hx hb dM_members_182 rfl ?_
                refine xm_get (v := .int (xsi o33 16)) hx hb htx hown hK hP 16 (by decide) rfl (htx _ kw_5_103) rfl dM_members_183 ?_
                refine lv_iconst (v := 1) hx hb dM_members_186 (by decide) ?_
                refine lv_iadd hx hb dM_members_187 ?_
                refine xm_put (v := .int ((xsi o33 16) + (1 : Int32))) (W' := (xMw cT aM ad26 rd gd27 vad28 (xsI o33 16 ((xsi o33 16) + (1 : Int32))) [])) (ty := .int) hx hb htx hown hK hP hD hS 16 (by decide) rfl (htx _ kw_5_103) rfl rfl (by decide +kernel) rfl rfl dM_members_188 (fun H locs hP hD hS => ?_)
                refine lv_iload hx hb dM_members_191 (lv_at hl 0 rfl) ?_
                refine lv_bipush (v := 125) hx hb dM_members_193 (by decide) ?_
                refine lv_icmp_ne (tgt := 206) hx hb dM_members_195 (by decide) (fun hc => ?_) (fun hc => ?_)
                · rw [if_neg hc] at hf
                  refine lv_goto (tgt := 36) hx hb dM_members_206 (by decide) ?_
                  exact ih (1, y1, 0, y3, y2, (xsI o33 16 ((xsi o33 16) + (1 : Int32))), ((wc + o8.2.1) + o20.1), ((wn + o8.2.2.1) + o20.2.1)) _ _ ls (Or.inl ⟨ad26, gd27, vad28, rfl, hf, hP, hD, hS, lv_sub hl [4, 5] rfl, hE, hN⟩)
                · rw [if_pos hc] at hf
                  refine lv_aload_n hx hb dM_members_198 rfl (lv_at hl 5 rfl) ?_
                  refine lv_bipush (v := 6) hx hb dM_members_199 (by decide) ?_
                  refine lv_iload_n hx hb dM_members_201 rfl (lv_at hl 4 rfl) ?_
                  obtain ⟨o40, hq41, hf⟩ := xbind hf
                  have hl := lv_sub (l' := [(5, .int o37), (2, .int y2), (1, .int y1), (0, .ref aM)]) hl [0, 3, 4, 5] rfl
                  by_cases hk42 : o40.1 = 0
                  · rw [if_pos hk42] at hf
                    obtain ⟨hm43, hf⟩ := xmoE hf
                    have hFc := xm_free hD hS hA
                    refine va_callq (va_runV (C := "ValueBenchModel") (As := [.int 6, .int y1]) (rest := []) ⟨hx, hb, hml, hown, htx⟩ (gM_whole l hl9 D cT aK aV H.size n aM ad26 rd gd27 vad28 (xsI o33 16 ((xsi o33 16) + (1 : Int32))) (6 : Int32) y1 o40 hq41 hk42) ⟨callB_of 2 htx (xw_goodC kw_6_106) rfl rfl rfl (htx _ kw_1_5) (htx _ kw_6_103) ⟨by decide, by decide, by decide +kernel⟩ ⟨Nat.le_of_ble_eq_true rfl, Nat.le_of_ble_eq_true rfl⟩, (htx _ kw_6_105), (htx _ kp_M_whole)⟩ ⟨xPre_blind, va_recv hK hP (ci := 5) rfl (q0 := 0) rfl, (fun U hU hW => ⟨rfl, xPre_of hZ hS hFc hP hD hK U hU hW⟩)⟩ rfl rfl hl.1 rfl (xm_room (Nat.le_of_ble_eq_true rfl)) dM_members_202 ⟨hm43.1, hm43.2⟩) hS (fun q _ h => hFc q h) hFc (fun r44 u9 t H1 locs ht hvm hr9 hB hz1 hk1 hS => ?_)
                    obtain ⟨hP1, hK1, hD1⟩ := hB
                    rw [ht] at hP1
                    obtain ⟨ad45, gd46, vad47⟩ := u9
                    obtain ⟨hr9, hv48, hn49⟩ := hr9
                    have hP : va_P D xcl (xMw cT aM ad45 rd gd46 vad47 o40.2.2.2.2 []) H1 := hP1
                    have hD : va_D A (xMw cT aM ad45 rd gd46 vad47 o40.2.2.2.2 []) := hD1.weaken (fun k q _ h => hFc q.1 h)
                    generalize H1 = H at hP hS ⊢
                    have hE9 : ∀ p, p < xct st → vad47 p = vad p := fun p h => (hv48 p (Nat.lt_of_lt_of_le h hN)).trans (hE p h)
                    have hE := hE9
                    have hN : xct st ≤ xct o40.2.2.2.2 := Nat.le_trans hN hn49
                    rw [hr9]
                    refine W.eq (g2 := F0 m 205 ls [xv vad47 o40.2.2.2.1]) (by first | rfl | (skip; rfl)) ?_
                    obtain rfl := Option.some.inj hf
                    exact absurd (show (0 : Nat) = 1 from hkd) (by decide)
                  rw [if_neg hk42] at hf
                  by_cases hk50 : o40.1 = 1
                  · rw [if_pos hk50] at hf
                    obtain ⟨hm51, hf⟩ := xmoE hf
                    have hFc := xm_free hD hS hA
                    refine xx_thr (vx_runV (C := "ValueBenchModel") (As := [.int 6, .int y1]) (rest := []) ⟨hx, hb, hml, hown, htx⟩ (gM_whole_1 l hl9 D cT aK aV H.size n aM ad26 rd gd27 vad28 (xsI o33 16 ((xsi o33 16) + (1 : Int32))) (6 : Int32) y1 o40 hq41 hk50) ⟨callB_of 2 htx (xw_goodC kw_6_106) rfl rfl rfl (htx _ kw_1_5) (htx _ kw_6_103) ⟨by decide, by decide, by decide +kernel⟩ ⟨Nat.le_of_ble_eq_true rfl, Nat.le_of_ble_eq_true rfl⟩, (htx _ kw_6_105), (htx _ kp_M_whole)⟩ ⟨xPre_blind, va_recv hK hP (ci := 5) rfl (q0 := 0) rfl, (fun U hU hW => ⟨rfl, xPre_of hZ hS hFc hP hD hK U hU hW⟩)⟩ rfl rfl hl.1 rfl (xm_room (Nat.le_of_ble_eq_true rfl)) dM_members_202 ⟨hm51.1, hm51.2⟩) hS hFc (fun q _ h => hFc q h) (fun E ce q9 u9 t H1 locs ht hvm hr9 hB hz1 hk1 hS hce hcv hcl => ?_)
                    obtain ⟨rfl, hP1, hK1, hD1⟩ := hB
                    rw [ht] at hP1
                    obtain ⟨ad53, gd54, vad55⟩ := u9
                    obtain ⟨hv56, hn57⟩ := hr9
                    have hP : va_P D xcl (xMw cT aM ad53 rd gd54 vad55 o40.2.2.2.2 []) H1 := hP1
                    have hD : va_D A (xMw cT aM ad53 rd gd54 vad55 o40.2.2.2.2 []) := hD1.weaken (fun k q _ h => hFc q.1 h)
                    generalize H1 = H at hP hS hce ⊢
                    have hE9 : ∀ p, p < xct st → vad55 p = vad p := fun p h => (hv56 p (Nat.lt_of_lt_of_le h hN)).trans (hE p h)
                    have hE := hE9
                    have hN : xct st ≤ xct o40.2.2.2.2 := Nat.le_trans hN hn57
                    obtain rfl := Option.some.inj hf
                    exact vx_out (E := "java/lang/IndexOutOfBoundsException") (fun x h => (hne x h).elim) hlocks hce hcv hcl (fun t ht ha => ⟨(ad53, gd54, vad55), ⟨hE, hN⟩, ⟨rfl, by rw [ht]; exact hP, va_K.moved ha hK, hD⟩, hS.F ht⟩) hS.2.2 (Nat.le_refl _) (Nat.le_refl _)
                  rw [if_neg hk50] at hf
                  exact nomatch hf
              · rw [if_neg hc] at hf
                refine lv_aload_n hx hb dM_members_173 rfl (lv_at hl 5 rfl) ?_
                refine lv_aload_n hx hb dM_members_174 rfl (lv_at hl 5 rfl) ?_
                refine xm_get (v := .int (xsi o33 16)) hx hb htx hown hK hP 16 (by decide) rfl (htx _ kw_5_103) rfl dM_members_175 ?_
                obtain ⟨o40, hq41, hf⟩ := xbind hf
                by_cases hk42 : o40.1 = 1
                · rw [if_pos hk42] at hf
                  obtain ⟨hg43, hf⟩ := xifn hf
                  obtain ⟨hg44, hf⟩ := xifn hf
                  obtain ⟨hm45, hf⟩ := xmoE hf
                  obtain rfl := Option.some.inj hf
                  exact absurd (show (2 : Nat) = 1 from hkd) (by decide)
                rw [if_neg hk42] at hf
                exact nomatch hf
          rw [if_neg hk10] at hf
          by_cases hk40 : o8.1 = 1
          · rw [if_pos hk40] at hf
            obtain ⟨hg41, hf⟩ := xifn hf
            obtain ⟨hm42, hf⟩ := xmoE hf
            obtain rfl := Option.some.inj hf
            exact absurd (show (2 : Nat) = 1 from hkd) (by decide)
          rw [if_neg hk40] at hf
          by_cases hk50 : o8.1 = 2
          · rw [if_pos hk50] at hf
            obtain ⟨hg51, hf⟩ := xifn hf
            obtain ⟨hm52, hf⟩ := xmoE hf
            have hFc := xm_free hD hS hA
            refine xx_thr (vx_runV (C := "ValueBenchModel") (As := []) (rest := []) ⟨hx, hb, hml, hown, htx⟩ ((hrec H.size aM adL rd gdL vadL (xsI o1 16 ((xsi o1 16) + (1 : Int32))) o8 hq9).2.2.1 hk50) ⟨callB_of 0 htx (xw_goodC kw_5_225) rfl rfl rfl (htx _ kw_1_5) (htx _ kw_5_222) ⟨by decide, by decide, by decide +kernel⟩ ⟨(by show (fr) + 1 ≤ fr + 9; omega), (by show 8 + (3 + 11) + (lo) ≤ lo + 167; omega)⟩, (htx _ kw_5_224), (htx _ kp_M_value)⟩ ⟨xPre_blind, va_recv hK hP (ci := 5) rfl (q0 := 0) rfl, (fun U hU hW => ⟨rfl, xPre_of hZ hS hFc hP hD hK U hU hW⟩)⟩ rfl rfl hl.1 rfl (xm_room (Nat.le_of_ble_eq_true rfl)) dM_members_137 ⟨hm52.1, hm52.2⟩) hS hFc (fun q _ h => hFc q h) (fun E ce q9 u9 t H1 locs ht hvm hr9 hB hz1 hk1 hS hce hcv hcl => ?_)
            obtain ⟨rfl, hP1, hK1, hD1⟩ := hB
            rw [ht] at hP1
            obtain ⟨ad54, gd55, vad56⟩ := u9
            obtain ⟨hv57, hn58⟩ := hr9
            have hP : va_P D xcl (xMw cT aM ad54 rd gd55 vad56 o8.2.2.2.2 []) H1 := hP1
            have hD : va_D A (xMw cT aM ad54 rd gd55 vad56 o8.2.2.2.2 []) := hD1.weaken (fun k q _ h => hFc q.1 h)
            generalize H1 = H at hP hS hce ⊢
            have hE9 : ∀ p, p < xct st → vad56 p = vad p := fun p h => (hv57 p (Nat.lt_of_lt_of_le h hN)).trans (hE p h)
            have hE := hE9
            have hN : xct st ≤ xct o8.2.2.2.2 := Nat.le_trans hN hn58
            have ev59 : xv vadL y3 = xv vad56 y3 := xvE hv57 hg51
            have hl : lv_has ls 6 [(4, .int y4), (3, xv vad56 y3), (2, .int y2), (1, .int y1), (0, .ref aM)] := by first | exact hl | ((try (rw [← ev59])); exact hl)
            obtain rfl := Option.some.inj hf
            exact vx_out (E := "java/lang/IndexOutOfBoundsException") (fun x h => (hne x h).elim) hlocks hce hcv hcl (fun t ht ha => ⟨(ad54, gd55, vad56), ⟨hE, hN⟩, ⟨rfl, by rw [ht]; exact hP, va_K.moved ha hK, hD⟩, hS.F ht⟩) hS.2.2 (Nat.le_refl _) (Nat.le_refl _)
          rw [if_neg hk50] at hf
          by_cases hk60 : o8.1 = 3
          · rw [if_pos hk60] at hf
            obtain ⟨hg61, hf⟩ := xifn hf
            obtain ⟨hm62, hf⟩ := xmoE hf
            obtain rfl := Option.some.inj hf
            exact absurd (show (3 : Nat) = 1 from hkd) (by decide)
          rw [if_neg hk60] at hf
          exact nomatch hf
        · rw [if_neg hc] at hf
          refine lv_aload_n hx hb dM_members_118 rfl (lv_at hl 4 rfl) ?_
          refine lv_aload_n hx hb dM_members_119 rfl (lv_at hl 4 rfl) ?_
          refine xm_get (v := .int (xsi o1 16)) hx hb htx hown hK hP 16 (by decide) rfl (htx _ kw_5_103) rfl dM_members_120 ?_
          obtain ⟨o8, hq9, hf⟩ := xbind hf
          by_cases hk10 : o8.1 = 1
          · rw [if_pos hk10] at hf
            obtain ⟨hg11, hf⟩ := xifn hf
            obtain ⟨hm12, hf⟩ := xmoE hf
            obtain rfl := Option.some.inj hf
            exact absurd (show (2 : Nat) = 1 from hkd) (by decide)
          rw [if_neg hk10] at hf
          exact nomatch hf
      · rw [if_neg hc] at hf
        refine lv_aload_n hx hb dM_members_79 rfl (lv_at hl 4 rfl) ?_
        refine lv_aload_n hx hb dM_members_80 rfl (lv_at hl 4 rfl) ?_
        refine xm_get (v := .ref (adL 11)) hx hb htx hown hK hP 11 (by decide) rfl (htx _ kw_5_98) rfl dM_members_81 ?_
        refine lv_iload hx hb dM_members_84 (lv_at hl 0 rfl) ?_
        obtain ⟨hg1, hf⟩ := xifn hf
        refine va_aldq hx hb hK hP 6 4 rfl rfl hg1 dM_members_86 ?_
        refine W.eq (g2 := F0 m 87 ls [xv vadL ((xvc ws9 11) y4.toNatClampNeg), .ref aM]) rfl ?_
        refine xm_aload_n hx hb (xvor _ _) dM_members_87 rfl (lv_at hl 1 rfl) ?_
        obtain ⟨o2, hq3, hf⟩ := xbind hf
        have hFc := xm_free hD hS hA
        refine va_calli (va_runV (C := "ValueBenchModel") (As := [xv vadL ((xvc ws9 11) y4.toNatClampNeg), xv vadL y3]) (rest := []) ⟨hx, hb, hml, hown, htx⟩ (gM_sameText l hl9 D cT aK aV H.size n aM adL rd gdL vadL ws9 ((xvc ws9 11) y4.toNatClampNeg) y3 o2 hq3) ⟨callB_of 2 htx (xw_goodC kw_6_120) rfl rfl rfl (htx _ kw_1_5) (htx _ kw_6_117) ⟨by decide, by decide, by decide +kernel⟩ ⟨Nat.le_of_ble_eq_true rfl, Nat.le_of_ble_eq_true rfl⟩, (htx _ kw_6_119), (htx _ kp_M_sameText)⟩ ⟨xPre_blind, va_recv hK hP (ci := 5) rfl (q0 := 0) rfl, (fun U hU hW => ⟨rfl, xPre_of hZ hS hFc hP hD hK U hU hW⟩)⟩ rfl rfl hl.1 rfl (xm_room (Nat.le_of_ble_eq_true rfl)) dM_members_88 ⟨hm0.1, hm0.2⟩) hS (fun q _ h => hFc q h) hFc (fun r4 u9 t H1 locs ht hvm hr9 hB hz1 hk1 hS => ?_)
        obtain ⟨hP1, hK1, hD1⟩ := hB
        rw [ht] at hP1
        have hP : va_P D xcl (xMw cT aM adL rd gdL vadL ws9 []) H1 := hP1
        have hD : va_D A (xMw cT aM adL rd gdL vadL ws9 []) := hD1.weaken (fun k q _ h => hFc q.1 h)
        generalize H1 = H at hP hS ⊢
        rw [hr9]
        refine W.eq (g2 := F0 m 91 ls [.int o2]) (by first | rfl | (skip; rfl)) ?_
        refine lv_if_eq (tgt := 99) hx hb dM_members_91 (by decide) (fun hc => ?_) (fun hc => ?_)
        · rw [if_pos hc] at hf
          refine lv_iinc (v := (y4 + 1)) (lv' := [(4, .int (y4 + 1)), (3, xv vadL y3), (2, .int y2), (1, .int y1), (0, .ref aM)]) hx hb dM_members_99 hl (k := 0) rfl rfl (by decide) (by simp only [List.filter, xvcat, xrscat, xcI, xcL, xcR, xcN]; rfl) (fun ls hl => ?_)
          refine lv_goto (tgt := 70) hx hb dM_members_102 (by decide) ?_
          exact ih (2, y1, (y4 + 1), y3, y2, ws9, wc, wn) _ _ ls (Or.inr (⟨adL, gdL, vadL, rfl, hf, hP, hD, hS, lv_sub hl [0, 1, 2, 3, 4] rfl, hE, hN⟩))
        · rw [if_neg hc] at hf
          refine lv_aload_n hx hb dM_members_94 rfl (lv_at hl 4 rfl) ?_
          refine lv_iload_n hx hb dM_members_95 rfl (lv_at hl 2 rfl) ?_
          obtain ⟨o5, hq6, hf⟩ := xbind hf
          by_cases hk7 : o5.1 = 1
          · rw [if_pos hk7] at hf
            obtain ⟨hg8, hf⟩ := xifn hf
            obtain ⟨hm9, hf⟩ := xmoE hf
            obtain rfl := Option.some.inj hf
            exact absurd (show (2 : Nat) = 1 from hkd) (by decide)
          rw [if_neg hk7] at hf
          exact nomatch hf
  refine lv_aload_n hx hb dM_members_0 rfl (lv_at hl 0 rfl) ?_
  refine xm_get (v := .int (xsi st 12)) hx hb htx hown hK hP 12 (by decide) rfl (htx _ kw_5_99) rfl dM_members_1 ?_
  refine lv_istore_n (lv' := [(1, .int (xsi st 12)), (0, .ref aM)]) hx hb dM_members_4 rfl hl (by decide) rfl (fun ls hl => ?_)
  refine lv_aload_n hx hb dM_members_5 rfl (lv_at hl 1 rfl) ?_
  obtain ⟨o1, hq2, hf⟩ := xbind hf
  have hFc := xm_free hD hS hA
  refine va_callv (va_runV (C := "ValueBenchModel") (As := []) (rest := []) ⟨hx, hb, hml, hown, htx⟩ (gM_blanks l hl9 D cT aK aV s.heap.size n aM ad rd gd vad st o1 hq2) ⟨callB_of 0 htx (xw_goodC kw_5_229) rfl rfl rfl (htx _ kw_1_5) (htx _ kw_5_226) ⟨by decide, by decide, by decide +kernel⟩ ⟨Nat.le_of_ble_eq_true rfl, Nat.le_of_ble_eq_true rfl⟩, (htx _ kw_5_228), (htx _ kp_M_blanks)⟩ ⟨xPre_blind, va_recv hK hP (ci := 5) rfl (q0 := 0) rfl, (fun U hU hW => ⟨rfl, xPre_of hZ hS hFc hP hD hK U hU hW⟩)⟩ rfl rfl hl.1 rfl (xm_room (Nat.le_of_ble_eq_true rfl)) dM_members_6 ⟨Nat.zero_le _, Nat.zero_le _⟩) hS (fun q _ h => hFc q h) hFc (fun u9 t H1 locs ht hvm hr9 hB hz1 hk1 hS => ?_)
  obtain ⟨hP1, hK1, hD1⟩ := hB
  rw [ht] at hP1
  have hn4 := hr9
  have hN : xct st ≤ xct o1 := Nat.le_trans hN hn4
  have hP : va_P D xcl (xMw cT aM ad rd gd vad o1 []) H1 := hP1
  have hD : va_D A (xMw cT aM ad rd gd vad o1 []) := hD1.weaken (fun k q _ h => hFc q.1 h)
  generalize H1 = H at hP hS ⊢
  refine W.eq (g2 := F0 m 9 ls []) (by first | rfl | (skip; rfl)) ?_
  refine lv_aload_n hx hb dM_members_9 rfl (lv_at hl 1 rfl) ?_
  obtain ⟨o5, hq6, hf⟩ := xbind hf
  have hFc := xm_free hD hS hA
  refine va_calli (va_runV (C := "ValueBenchModel") (As := []) (rest := []) ⟨hx, hb, hml, hown, htx⟩ (gM_peek l hl9 D cT aK aV H.size n aM ad rd gd vad o1 o5 hq6) ⟨callB_of 0 htx (xw_goodC kw_5_233) rfl rfl rfl (htx _ kw_1_5) (htx _ kw_5_230) ⟨by decide, by decide, by decide +kernel⟩ ⟨Nat.le_of_ble_eq_true rfl, Nat.le_of_ble_eq_true rfl⟩, (htx _ kw_5_232), (htx _ kp_M_peek)⟩ ⟨xPre_blind, va_recv hK hP (ci := 5) rfl (q0 := 0) rfl, (fun U hU hW => ⟨rfl, xPre_of hZ hS hFc hP hD hK U hU hW⟩)⟩ rfl rfl hl.1 rfl (xm_room (Nat.le_of_ble_eq_true rfl)) dM_members_10 ⟨Nat.zero_le _, Nat.zero_le _⟩) hS (fun q _ h => hFc q h) hFc (fun r7 u9 t H1 locs ht hvm hr9 hB hz1 hk1 hS => ?_)
  obtain ⟨hP1, hK1, hD1⟩ := hB
  rw [ht] at hP1
  have hP : va_P D xcl (xMw cT aM ad rd gd vad o1 []) H1 := hP1
  have hD : va_D A (xMw cT aM ad rd gd vad o1 []) := hD1.weaken (fun k q _ h => hFc q.1 h)
  generalize H1 = H at hP hS ⊢
  rw [hr9]
  refine W.eq (g2 := F0 m 13 ls [.int o5]) (by first | rfl | (skip; rfl)) ?_
  refine lv_bipush (v := 125) hx hb dM_members_13 (by decide) ?_
  refine lv_icmp_ne (tgt := 36) hx hb dM_members_15 (by decide) (fun hc => ?_) (fun hc => ?_)
  · rw [if_neg hc] at hf
    exact key n (1, (xsi st 12), 0, 0, 0, o1, 0, 0) _ _ ls (Or.inl ⟨ad, gd, vad, rfl, hf, hP, hD, hS, lv_sub hl [0, 1] rfl, hE, hN⟩)
  · rw [if_pos hc] at hf
    refine lv_aload_n hx hb dM_members_18 rfl (lv_at hl 1 rfl) ?_
    refine lv_dup hx hb dM_members_19 rfl ?_
    refine xm_get (v := .int (xsi o1 16)) hx hb htx hown hK hP 16 (by decide) rfl (htx _ kw_5_103) rfl dM_members_20 ?_
    refine lv_iconst (v := 1) hx hb dM_members_23 (by decide) ?_
    refine lv_iadd hx hb dM_members_24 ?_
    refine xm_put (v := .int ((xsi o1 16) + (1 : Int32))) (W' := (xMw cT aM ad rd gd vad (xsI o1 16 ((xsi o1 16) + (1 : Int32))) [])) (ty := .int) hx hb htx hown hK hP hD hS 16 (by decide) rfl (htx _ kw_5_103) rfl rfl (by decide +kernel) rfl rfl dM_members_25 (fun H locs hP hD hS => ?_)
    refine lv_aload_n hx hb dM_members_28 rfl (lv_at hl 1 rfl) ?_
    refine lv_bipush (v := 6) hx hb dM_members_29 (by decide) ?_
    refine lv_iload_n hx hb dM_members_31 rfl (lv_at hl 0 rfl) ?_
    obtain ⟨o8, hq9, hf⟩ := xbind hf
    by_cases hk10 : o8.1 = 0
    · rw [if_pos hk10] at hf
      obtain ⟨hm11, hf⟩ := xmoE hf
      have hFc := xm_free hD hS hA
      refine va_callq (va_runV (C := "ValueBenchModel") (As := [.int 6, .int (xsi st 12)]) (rest := []) ⟨hx, hb, hml, hown, htx⟩ (gM_whole l hl9 D cT aK aV H.size n aM ad rd gd vad (xsI o1 16 ((xsi o1 16) + (1 : Int32))) (6 : Int32) (xsi st 12) o8 hq9 hk10) ⟨callB_of 2 htx (xw_goodC kw_6_106) rfl rfl rfl (htx _ kw_1_5) (htx _ kw_6_103) ⟨by decide, by decide, by decide +kernel⟩ ⟨Nat.le_of_ble_eq_true rfl, Nat.le_of_ble_eq_true rfl⟩, (htx _ kw_6_105), (htx _ kp_M_whole)⟩ ⟨xPre_blind, va_recv hK hP (ci := 5) rfl (q0 := 0) rfl, (fun U hU hW => ⟨rfl, xPre_of hZ hS hFc hP hD hK U hU hW⟩)⟩ rfl rfl hl.1 rfl (xm_room (Nat.le_of_ble_eq_true rfl)) dM_members_32 ⟨hm11.1, hm11.2⟩) hS (fun q _ h => hFc q h) hFc (fun r12 u9 t H1 locs ht hvm hr9 hB hz1 hk1 hS => ?_)
      obtain ⟨hP1, hK1, hD1⟩ := hB
      rw [ht] at hP1
      obtain ⟨ad13, gd14, vad15⟩ := u9
      obtain ⟨hr9, hv16, hn17⟩ := hr9
      have hP : va_P D xcl (xMw cT aM ad13 rd gd14 vad15 o8.2.2.2.2 []) H1 := hP1
      have hD : va_D A (xMw cT aM ad13 rd gd14 vad15 o8.2.2.2.2 []) := hD1.weaken (fun k q _ h => hFc q.1 h)
      generalize H1 = H at hP hS ⊢
      have hE9 : ∀ p, p < xct st → vad15 p = vad p := fun p h => (hv16 p (Nat.lt_of_lt_of_le h hN)).trans (hE p h)
      have hE := hE9
      have hN : xct st ≤ xct o8.2.2.2.2 := Nat.le_trans hN hn17
      rw [hr9]
      refine W.eq (g2 := F0 m 35 ls [xv vad15 o8.2.2.2.1]) (by first | rfl | (skip; rfl)) ?_
      obtain rfl := Option.some.inj hf
      exact absurd (show (0 : Nat) = 1 from hkd) (by decide)
    rw [if_neg hk10] at hf
    by_cases hk18 : o8.1 = 1
    · rw [if_pos hk18] at hf
      obtain ⟨hm19, hf⟩ := xmoE hf
      have hFc := xm_free hD hS hA
      refine xx_thr (vx_runV (C := "ValueBenchModel") (As := [.int 6, .int (xsi st 12)]) (rest := []) ⟨hx, hb, hml, hown, htx⟩ (gM_whole_1 l hl9 D cT aK aV H.size n aM ad rd gd vad (xsI o1 16 ((xsi o1 16) + (1 : Int32))) (6 : Int32) (xsi st 12) o8 hq9 hk18) ⟨callB_of 2 htx (xw_goodC kw_6_106) rfl rfl rfl (htx _ kw_1_5) (htx _ kw_6_103) ⟨by decide, by decide, by decide +kernel⟩ ⟨Nat.le_of_ble_eq_true rfl, Nat.le_of_ble_eq_true rfl⟩, (htx _ kw_6_105), (htx _ kp_M_whole)⟩ ⟨xPre_blind, va_recv hK hP (ci := 5) rfl (q0 := 0) rfl, (fun U hU hW => ⟨rfl, xPre_of hZ hS hFc hP hD hK U hU hW⟩)⟩ rfl rfl hl.1 rfl (xm_room (Nat.le_of_ble_eq_true rfl)) dM_members_32 ⟨hm19.1, hm19.2⟩) hS hFc (fun q _ h => hFc q h) (fun E ce q9 u9 t H1 locs ht hvm hr9 hB hz1 hk1 hS hce hcv hcl => ?_)
      obtain ⟨rfl, hP1, hK1, hD1⟩ := hB
      rw [ht] at hP1
      obtain ⟨ad21, gd22, vad23⟩ := u9
      obtain ⟨hv24, hn25⟩ := hr9
      have hP : va_P D xcl (xMw cT aM ad21 rd gd22 vad23 o8.2.2.2.2 []) H1 := hP1
      have hD : va_D A (xMw cT aM ad21 rd gd22 vad23 o8.2.2.2.2 []) := hD1.weaken (fun k q _ h => hFc q.1 h)
      generalize H1 = H at hP hS hce ⊢
      have hE9 : ∀ p, p < xct st → vad23 p = vad p := fun p h => (hv24 p (Nat.lt_of_lt_of_le h hN)).trans (hE p h)
      have hE := hE9
      have hN : xct st ≤ xct o8.2.2.2.2 := Nat.le_trans hN hn25
      obtain rfl := Option.some.inj hf
      exact vx_out (E := "java/lang/IndexOutOfBoundsException") (fun x h => (hne x h).elim) hlocks hce hcv hcl (fun t ht ha => ⟨(ad21, gd22, vad23), ⟨hE, hN⟩, ⟨rfl, by rw [ht]; exact hP, va_K.moved ha hK, hD⟩, hS.F ht⟩) hS.2.2 (Nat.le_refl _) (Nat.le_refl _)
    rw [if_neg hk18] at hf
    exact nomatch hf
set_option maxHeartbeats 400000000 in
set_option maxRecDepth 100000 in
theorem gM_members_2 (l : Launch) (hl9 : l.stackTraces = false) (D : va_G) (cT : Nat → ClassId) (aK aV : Nat → Nat) (fr lo : Nat) (rec : xS → Option (Nat × Nat × Nat × Nat × xS)) (hrec : ∀ (sz aM : Nat) (ad rd gd vad : Nat → Nat) (st : xS) (out : Nat × Nat × Nat × Nat × xS), rec st = some out → (out.1 = 0 → xMet l yM_value wyM_value fr out.2.1 out.2.2.1 lo D cT aK aV sz [.ref aM] (xMw cT aM ad rd gd vad st []) (fun A => va_Qq (fun (r : Option Nat) (u : xU) => r = xca u.2.2 out.2.2.2.1 ∧ xE vad st out.2.2.2.2 u) (fun u t => xB D xcl cT A (xMw cT aM u.1 rd u.2.1 u.2.2 out.2.2.2.2 []) t) A)) ∧ (out.1 = 1 → xMetY l yM_value wyM_value fr out.2.1 out.2.2.1 lo D cT aK aV sz [.ref aM] (xMw cT aM ad rd gd vad st []) "java/lang/UnsupportedOperationException" (fun u => xE vad st out.2.2.2.2 u) (fun A u t => xB D xcl cT A (xMw cT aM u.1 rd u.2.1 u.2.2 out.2.2.2.2 []) t)) ∧ (out.1 = 2 → xMetY l yM_value wyM_value fr out.2.1 out.2.2.1 lo D cT aK aV sz [.ref aM] (xMw cT aM ad rd gd vad st []) "java/lang/IndexOutOfBoundsException" (fun u => xE vad st out.2.2.2.2 u) (fun A u t => xB D xcl cT A (xMw cT aM u.1 rd u.2.1 u.2.2 out.2.2.2.2 []) t)) ∧ (out.1 = 3 → xMetY l yM_value wyM_value fr out.2.1 out.2.2.1 lo D cT aK aV sz [.ref aM] (xMw cT aM ad rd gd vad st []) "java/lang/ArithmeticException" (fun u => xE vad st out.2.2.2.2 u) (fun A u t => xB D xcl cT A (xMw cT aM u.1 rd u.2.1 u.2.2 out.2.2.2.2 []) t))) (sz n : Nat) (aM : Nat) (ad rd gd vad : Nat → Nat) (st : xS) (out : Nat × Nat × Nat × Nat × xS) (hf : fM_members rec n st = some out) (hkd : out.1 = 2) : xMetY l yM_members wyM_members (fr + 9) out.2.1 out.2.2.1 (lo + 167) D cT aK aV sz [.ref aM] (xMw cT aM ad rd gd vad st []) "java/lang/UnsupportedOperationException" (fun u => xE vad st out.2.2.2.2 u) (fun A u t => xB D xcl cT A (xMw cT aM u.1 rd u.2.1 u.2.2 out.2.2.2.2 []) t) := by
  refine vx_ofW (cc := prog_13_method_40_code) (maxL := 6) (ret := (some (.object "ValueBenchModel$V"))) (by decide) rfl ?_
  intro p e s m args below meth c s₁ B hml hne hv
  obtain ⟨rfl, hsz, hZ, hP, hK, hD0⟩ := hv
  have hx := B.exec
  have hb := B.bytes
  have hr := B.returns
  have hts := atoms_spec (ws := wyM_members) B.pre
  have htx := fun w h => hts w (List.mem_cons_of_mem _ h)
  have hown : s.vm.findClass "ValueBenchModel" = some m.cls := findClass_of_methodNamed B.named
  have hlocks := B.notSynchronized
  subst hsz
  have hD := hD0.self (sz := s.heap.size)
  generalize hAe : va_A (xMw cT aM ad rd gd vad st []) s.heap.size = A at hD hZ ⊢
  have hA : ∀ q : Nat, s.heap.size ≤ q → A q := fun q h => by rw [← hAe]; exact Or.inr h
  have hS : va_S A s.heap s.heap [] := va_S.rf
  have hl := lv_entry ([.ref aM]) (n := 6) (by simp [lg_sl, xvcat, xrscat, xcI, xcL, xcR, xcN])
  rw [show lv_args 0 [.ref aM] = [(0, .ref aM)] from by simp [lv_args, xvcat, xrscat, xcI, xcL, xcR, xcN]] at hl
  rw [lg_entry_eq]
  generalize (lg_sl ([.ref aM]) ++ List.replicate (6 - (lg_sl ([.ref aM])).length) Slot.unset).toArray = ls at hl ⊢
  have hl : lv_has ls 6 [(0, .ref aM)] := hl
  have hE : ∀ p, p < xct st → vad p = vad p := fun _ _ => rfl
  have hN : xct st ≤ xct st := Nat.le_refl _
  unfold fM_members at hf
  refine xloopM (σ := Nat × Int32 × Int32 × Nat × Int32 × xS × Nat × Nat) (fun n x H locs ls => (∃ (adL gdL vadL : Nat → Nat), x.1 = 1 ∧ fM_members_b rec n x.1 x.2.1 x.2.2.1 x.2.2.2.1 x.2.2.2.2.1 x.2.2.2.2.2.1 x.2.2.2.2.2.2.1 x.2.2.2.2.2.2.2 = some out ∧ va_P D xcl (xMw cT aM adL rd gdL vadL x.2.2.2.2.2.1 []) H ∧ va_D A (xMw cT aM adL rd gdL vadL x.2.2.2.2.2.1 []) ∧ va_S A s.heap H locs ∧ lv_has ls 6 [(1, .int x.2.1), (0, .ref aM)] ∧ (∀ p, p < xct st → vadL p = vad p) ∧ xct st ≤ xct x.2.2.2.2.2.1) ∨ (∃ (adL gdL vadL : Nat → Nat), x.1 = 2 ∧ fM_members_b rec n x.1 x.2.1 x.2.2.1 x.2.2.2.1 x.2.2.2.2.1 x.2.2.2.2.2.1 x.2.2.2.2.2.2.1 x.2.2.2.2.2.2.2 = some out ∧ va_P D xcl (xMw cT aM adL rd gdL vadL x.2.2.2.2.2.1 []) H ∧ va_D A (xMw cT aM adL rd gdL vadL x.2.2.2.2.2.1 []) ∧ va_S A s.heap H locs ∧ lv_has ls 6 [(4, .int x.2.2.1), (3, xv vadL x.2.2.2.1), (2, .int x.2.2.2.2.1), (1, .int x.2.1), (0, .ref aM)] ∧ (∀ p, p < xct st → vadL p = vad p) ∧ xct st ≤ xct x.2.2.2.2.2.1)) (fun x => if x.1 = 1 then 36 else 70) (fun x => x.2.2.2.2.2.2.1) (fun x => x.2.2.2.2.2.2.2) (fun x H locs ls h => by rcases h with h | h; (obtain ⟨_, _, _, h⟩ := h; exact absurd h.2.1 (by rw [fM_members_b]; exact fun h => nomatch h)); (obtain ⟨_, _, _, h⟩ := h; exact absurd h.2.1 (by rw [fM_members_b]; exact fun h => nomatch h))) (fun n ih x H locs ls hv => ?_) (fun key => ?_)
  · obtain ⟨lb, y1, y4, y3, y2, ws9, wc, wn⟩ := x
    rcases hv with ⟨adL, gdL, vadL, hj, hf, hP, hD, hS, hl, hE, hN⟩ | ⟨adL, gdL, vadL, hj, hf, hP, hD, hS, hl, hE, hN⟩
    · subst hj
      have hf : fM_members_b rec (n + 1) 1 y1 y4 y3 y2 ws9 wc wn = some out := hf
      rw [fM_members_b, if_pos rfl] at hf
      obtain ⟨hP, hD⟩ : xPD D xcl A (xMw cT aM adL rd gdL vadL ws9 []) H := ⟨hP, hD⟩
      have hl : lv_has ls 6 [(1, .int y1), (0, .ref aM)] := hl
      refine W.eq (g2 := F0 m 36 ls []) rfl ?_
      show W p l e _ s m _ below meth c H locs wc wn _ _
      obtain ⟨hm0, hf⟩ := xmoE hf
      refine lv_aload_n hx hb dM_members_36 rfl (lv_at hl 1 rfl) ?_
      obtain ⟨o1, hq2, hf⟩ := xbind hf
      have hFc := xm_free hD hS hA
      refine va_callv (va_runV (C := "ValueBenchModel") (As := []) (rest := []) ⟨hx, hb, hml, hown, htx⟩ (gM_blanks l hl9 D cT aK aV H.size n aM adL rd gdL vadL ws9 o1 hq2) ⟨callB_of 0 htx (xw_goodC kw_5_229) rfl rfl rfl (htx _ kw_1_5) (htx _ kw_5_226) ⟨by decide, by decide, by decide +kernel⟩ ⟨Nat.le_of_ble_eq_true rfl, Nat.le_of_ble_eq_true rfl⟩, (htx _ kw_5_228), (htx _ kp_M_blanks)⟩ ⟨xPre_blind, va_recv hK hP (ci := 5) rfl (q0 := 0) rfl, (fun U hU hW => ⟨rfl, xPre_of hZ hS hFc hP hD hK U hU hW⟩)⟩ rfl rfl hl.1 rfl (xm_room (Nat.le_of_ble_eq_true rfl)) dM_members_37 ⟨hm0.1, hm0.2⟩) hS (fun q _ h => hFc q h) hFc (fun u9 t H1 locs ht hvm hr9 hB hz1 hk1 hS => ?_)
      obtain ⟨hP1, hK1, hD1⟩ := hB
      rw [ht] at hP1
      have hn4 := hr9
      have hN : xct st ≤ xct o1 := Nat.le_trans hN hn4
      have hP : va_P D xcl (xMw cT aM adL rd gdL vadL o1 []) H1 := hP1
      have hD : va_D A (xMw cT aM adL rd gdL vadL o1 []) := hD1.weaken (fun k q _ h => hFc q.1 h)
      generalize H1 = H at hP hS ⊢
      refine W.eq (g2 := F0 m 40 ls []) (by first | rfl | (skip; rfl)) ?_
      refine lv_aload_n hx hb dM_members_40 rfl (lv_at hl 1 rfl) ?_
      refine xm_get (v := .int (xsi o1 16)) hx hb htx hown hK hP 16 (by decide) rfl (htx _ kw_5_103) rfl dM_members_41 ?_
      refine lv_istore_n (lv' := [(2, .int (xsi o1 16)), (1, .int y1), (0, .ref aM)]) hx hb dM_members_44 rfl hl (by decide) rfl (fun ls hl => ?_)
      refine lv_aload_n hx hb dM_members_45 rfl (lv_at hl 2 rfl) ?_
      obtain ⟨o5, hq6, hf⟩ := xbind hf
      have hFc := xm_free hD hS hA
      refine va_calli (va_runV (C := "ValueBenchModel") (As := []) (rest := []) ⟨hx, hb, hml, hown, htx⟩ (gM_peek l hl9 D cT aK aV H.size n aM adL rd gdL vadL o1 o5 hq6) ⟨callB_of 0 htx (xw_goodC kw_5_233) rfl rfl rfl (htx _ kw_1_5) (htx _ kw_5_230) ⟨by decide, by decide, by decide +kernel⟩ ⟨Nat.le_of_ble_eq_true rfl, Nat.le_of_ble_eq_true rfl⟩, (htx _ kw_5_232), (htx _ kp_M_peek)⟩ ⟨xPre_blind, va_recv hK hP (ci := 5) rfl (q0 := 0) rfl, (fun U hU hW => ⟨rfl, xPre_of hZ hS hFc hP hD hK U hU hW⟩)⟩ rfl rfl hl.1 rfl (xm_room (Nat.le_of_ble_eq_true rfl)) dM_members_46 ⟨hm0.1, hm0.2⟩) hS (fun q _ h => hFc q h) hFc (fun r7 u9 t H1 locs ht hvm hr9 hB hz1 hk1 hS => ?_)
      obtain ⟨hP1, hK1, hD1⟩ := hB
      rw [ht] at hP1
      have hP : va_P D xcl (xMw cT aM adL rd gdL vadL o1 []) H1 := hP1
      have hD : va_D A (xMw cT aM adL rd gdL vadL o1 []) := hD1.weaken (fun k q _ h => hFc q.1 h)
      generalize H1 = H at hP hS ⊢
      rw [hr9]
      refine W.eq (g2 := F0 m 49 ls [.int o5]) (by first | rfl | (skip; rfl)) ?_
      refine lv_bipush (v := 34) hx hb dM_members_49 (by decide) ?_
      refine lv_icmp_eq (tgt := 62) hx hb dM_members_51 (by decide) (fun hc => ?_) (fun hc => ?_)
      · rw [if_pos hc] at hf
        refine lv_aload_n hx hb dM_members_62 rfl (lv_at hl 2 rfl) ?_
        obtain ⟨o8, hq9, hf⟩ := xbind hf
        by_cases hk10 : o8.1 = 0
        · rw [if_pos hk10] at hf
          obtain ⟨hm11, hf⟩ := xmoE hf
          have hFc := xm_free hD hS hA
          refine va_callq (va_runV (C := "ValueBenchModel") (As := []) (rest := []) ⟨hx, hb, hml, hown, htx⟩ (gM_jsonString l hl9 D cT aK aV H.size n aM adL rd gdL vadL o1 o8 hq9 hk10) ⟨callB_of 0 htx (xw_goodC kw_6_46) rfl rfl rfl (htx _ kw_1_5) (htx _ kw_6_43) ⟨by decide, by decide, by decide +kernel⟩ ⟨Nat.le_of_ble_eq_true rfl, Nat.le_of_ble_eq_true rfl⟩, (htx _ kw_6_45), (htx _ kp_M_jsonString)⟩ ⟨xPre_blind, va_recv hK hP (ci := 5) rfl (q0 := 0) rfl, (fun U hU hW => ⟨rfl, xPre_of hZ hS hFc hP hD hK U hU hW⟩)⟩ rfl rfl hl.1 rfl (xm_room (Nat.le_of_ble_eq_true rfl)) dM_members_63 ⟨hm11.1, hm11.2⟩) hS (fun q _ h => hFc q h) hFc (fun r12 u9 t H1 locs ht hvm hr9 hB hz1 hk1 hS => ?_)
          obtain ⟨hP1, hK1, hD1⟩ := hB
          rw [ht] at hP1
          obtain ⟨ad13, gd14, vad15⟩ := u9
          obtain ⟨hr9, hv16, hn17⟩ := hr9
          have hP : va_P D xcl (xMw cT aM ad13 rd gd14 vad15 o8.2.2.2.2 []) H1 := hP1
          have hD : va_D A (xMw cT aM ad13 rd gd14 vad15 o8.2.2.2.2 []) := hD1.weaken (fun k q _ h => hFc q.1 h)
          generalize H1 = H at hP hS ⊢
          have hE9 : ∀ p, p < xct st → vad15 p = vad p := fun p h => (hv16 p (Nat.lt_of_lt_of_le h hN)).trans (hE p h)
          have hE := hE9
          have hN : xct st ≤ xct o8.2.2.2.2 := Nat.le_trans hN hn17
          rw [hr9]
          refine W.eq (g2 := F0 m 66 ls [xv vad15 o8.2.2.2.1]) (by first | rfl | (skip; rfl)) ?_
          refine xm_astore_n (lv' := [(3, xv vad15 o8.2.2.2.1), (2, .int (xsi o1 16)), (1, .int y1), (0, .ref aM)]) hx hb (xvor _ _) dM_members_66 rfl hl (by decide) rfl (fun ls hl => ?_)
          refine lv_iload_n hx hb dM_members_67 rfl (lv_at hl 2 rfl) ?_
          refine lv_istore (lv' := [(4, .int y1), (3, xv vad15 o8.2.2.2.1), (2, .int (xsi o1 16)), (1, .int y1), (0, .ref aM)]) hx hb dM_members_68 hl (by decide) (by simp only [List.filter, xvcat, xrscat, xcI, xcL, xcR, xcN]; rfl) (fun ls hl => ?_)
          exact ih (2, y1, y1, o8.2.2.2.1, (xsi o1 16), o8.2.2.2.2, (wc + o8.2.1), (wn + o8.2.2.1)) _ _ ls (Or.inr (⟨ad13, gd14, vad15, rfl, hf, hP, hD, hS, lv_sub hl [0, 1, 2, 3, 4] rfl, hE, hN⟩))
        rw [if_neg hk10] at hf
        by_cases hk18 : o8.1 = 1
        · rw [if_pos hk18] at hf
          obtain ⟨hm19, hf⟩ := xmoE hf
          obtain rfl := Option.some.inj hf
          exact absurd (show (1 : Nat) = 2 from hkd) (by decide)
        rw [if_neg hk18] at hf
        by_cases hk26 : o8.1 = 2
        · rw [if_pos hk26] at hf
          obtain ⟨hm27, hf⟩ := xmoE hf
          have hFc := xm_free hD hS hA
          refine xx_thr (vx_runV (C := "ValueBenchModel") (As := []) (rest := []) ⟨hx, hb, hml, hown, htx⟩ (gM_jsonString_2 l hl9 D cT aK aV H.size n aM adL rd gdL vadL o1 o8 hq9 hk26) ⟨callB_of 0 htx (xw_goodC kw_6_46) rfl rfl rfl (htx _ kw_1_5) (htx _ kw_6_43) ⟨by decide, by decide, by decide +kernel⟩ ⟨Nat.le_of_ble_eq_true rfl, Nat.le_of_ble_eq_true rfl⟩, (htx _ kw_6_45), (htx _ kp_M_jsonString)⟩ ⟨xPre_blind, va_recv hK hP (ci := 5) rfl (q0 := 0) rfl, (fun U hU hW => ⟨rfl, xPre_of hZ hS hFc hP hD hK U hU hW⟩)⟩ rfl rfl hl.1 rfl (xm_room (Nat.le_of_ble_eq_true rfl)) dM_members_63 ⟨hm27.1, hm27.2⟩) hS hFc (fun q _ h => hFc q h) (fun E ce q9 u9 t H1 locs ht hvm hr9 hB hz1 hk1 hS hce hcv hcl => ?_)
          obtain ⟨rfl, hP1, hK1, hD1⟩ := hB
          rw [ht] at hP1
          obtain ⟨ad29, gd30, vad31⟩ := u9
          obtain ⟨hv32, hn33⟩ := hr9
          have hP : va_P D xcl (xMw cT aM ad29 rd gd30 vad31 o8.2.2.2.2 []) H1 := hP1
          have hD : va_D A (xMw cT aM ad29 rd gd30 vad31 o8.2.2.2.2 []) := hD1.weaken (fun k q _ h => hFc q.1 h)
          generalize H1 = H at hP hS hce ⊢
          have hE9 : ∀ p, p < xct st → vad31 p = vad p := fun p h => (hv32 p (Nat.lt_of_lt_of_le h hN)).trans (hE p h)
          have hE := hE9
          have hN : xct st ≤ xct o8.2.2.2.2 := Nat.le_trans hN hn33
          obtain rfl := Option.some.inj hf
          exact vx_out (E := "java/lang/UnsupportedOperationException") (fun x h => (hne x h).elim) hlocks hce hcv hcl (fun t ht ha => ⟨(ad29, gd30, vad31), ⟨hE, hN⟩, ⟨rfl, by rw [ht]; exact hP, va_K.moved ha hK, hD⟩, hS.F ht⟩) hS.2.2 (Nat.le_refl _) (Nat.le_refl _)
        rw [if_neg hk26] at hf
        exact nomatch hf
      · rw [if_neg hc] at hf
        refine lv_aload_n hx hb dM_members_54 rfl (lv_at hl 2 rfl) ?_
        refine lv_aload_n hx hb dM_members_55 rfl (lv_at hl 2 rfl) ?_
        refine xm_get (v := .int (xsi o1 16)) hx hb htx hown hK hP 16 (by decide) rfl (htx _ kw_5_103) rfl dM_members_56 ?_
        obtain ⟨o8, hq9, hf⟩ := xbind hf
        by_cases hk10 : o8.1 = 1
        · rw [if_pos hk10] at hf
          obtain ⟨hm11, hf⟩ := xmoE hf
          have hFc := xm_free hD hS hA
          refine xx_thr (vx_runV (C := "ValueBenchModel") (As := [.int (xsi o1 16)]) (rest := []) ⟨hx, hb, hml, hown, htx⟩ (gM_bad_1 l hl9 D cT aK aV H.size n aM adL rd gdL vadL o1 (xsi o1 16) o8 hq9 hk10) ⟨callB_of 1 htx (xw_goodC kw_6_2) rfl rfl rfl (htx _ kw_1_5) (htx _ kw_5_239) ⟨by decide, by decide, by decide +kernel⟩ ⟨Nat.le_of_ble_eq_true rfl, Nat.le_of_ble_eq_true rfl⟩, (htx _ kw_6_1), (htx _ kp_M_bad)⟩ ⟨xPre_blind, va_recv hK hP (ci := 5) rfl (q0 := 0) rfl, (fun U hU hW => ⟨rfl, xPre_of hZ hS hFc hP hD hK U hU hW⟩)⟩ rfl rfl hl.1 rfl (xm_room (Nat.le_of_ble_eq_true rfl)) dM_members_59 ⟨hm11.1, hm11.2⟩) hS hFc (fun q _ h => hFc q h) (fun E ce q9 u9 t H1 locs ht hvm hr9 hB hz1 hk1 hS hce hcv hcl => ?_)
          obtain ⟨rfl, hP1, hK1, hD1⟩ := hB
          rw [ht] at hP1
          obtain ⟨ad13, gd14, vad15⟩ := u9
          obtain ⟨hv16, hn17⟩ := hr9
          have hP : va_P D xcl (xMw cT aM ad13 rd gd14 vad15 o8.2.2.2 []) H1 := hP1
          have hD : va_D A (xMw cT aM ad13 rd gd14 vad15 o8.2.2.2 []) := hD1.weaken (fun k q _ h => hFc q.1 h)
          generalize H1 = H at hP hS hce ⊢
          have hE9 : ∀ p, p < xct st → vad15 p = vad p := fun p h => (hv16 p (Nat.lt_of_lt_of_le h hN)).trans (hE p h)
          have hE := hE9
          have hN : xct st ≤ xct o8.2.2.2 := Nat.le_trans hN hn17
          obtain rfl := Option.some.inj hf
          exact vx_out (E := "java/lang/UnsupportedOperationException") (fun x h => (hne x h).elim) hlocks hce hcv hcl (fun t ht ha => ⟨(ad13, gd14, vad15), ⟨hE, hN⟩, ⟨rfl, by rw [ht]; exact hP, va_K.moved ha hK, hD⟩, hS.F ht⟩) hS.2.2 (Nat.le_refl _) (Nat.le_refl _)
        rw [if_neg hk10] at hf
        exact nomatch hf
    · subst hj
      have hf : fM_members_b rec (n + 1) 2 y1 y4 y3 y2 ws9 wc wn = some out := hf
      rw [fM_members_b, if_neg (by decide)] at hf
      obtain ⟨hP, hD⟩ : xPD D xcl A (xMw cT aM adL rd gdL vadL ws9 []) H := ⟨hP, hD⟩
      have hl : lv_has ls 6 [(4, .int y4), (3, xv vadL y3), (2, .int y2), (1, .int y1), (0, .ref aM)] := hl
      refine W.eq (g2 := F0 m 70 ls []) rfl ?_
      show W p l e _ s m _ below meth c H locs wc wn _ _
      obtain ⟨hm0, hf⟩ := xmoE hf
      refine lv_iload hx hb dM_members_70 (lv_at hl 0 rfl) ?_
      refine lv_aload_n hx hb dM_members_72 rfl (lv_at hl 4 rfl) ?_
      refine xm_get (v := .int (xsi ws9 12)) hx hb htx hown hK hP 12 (by decide) rfl (htx _ kw_5_99) rfl dM_members_73 ?_
      refine lv_icmp_ge (tgt := 105) hx hb dM_members_76 (by decide) (fun hc => ?_) (fun hc => ?_)
      · rw [if_pos hc] at hf
        refine lv_aload_n hx hb dM_members_105 rfl (lv_at hl 4 rfl) ?_
        obtain ⟨o1, hq2, hf⟩ := xbind hf
        have hFc := xm_free hD hS hA
        refine va_callv (va_runV (C := "ValueBenchModel") (As := []) (rest := []) ⟨hx, hb, hml, hown, htx⟩ (gM_blanks l hl9 D cT aK aV H.size n aM adL rd gdL vadL ws9 o1 hq2) ⟨callB_of 0 htx (xw_goodC kw_5_229) rfl rfl rfl (htx _ kw_1_5) (htx _ kw_5_226) ⟨by decide, by decide, by decide +kernel⟩ ⟨Nat.le_of_ble_eq_true rfl, Nat.le_of_ble_eq_true rfl⟩, (htx _ kw_5_228), (htx _ kp_M_blanks)⟩ ⟨xPre_blind, va_recv hK hP (ci := 5) rfl (q0 := 0) rfl, (fun U hU hW => ⟨rfl, xPre_of hZ hS hFc hP hD hK U hU hW⟩)⟩ rfl rfl hl.1 rfl (xm_room (Nat.le_of_ble_eq_true rfl)) dM_members_106 ⟨hm0.1, hm0.2⟩) hS (fun q _ h => hFc q h) hFc (fun u9 t H1 locs ht hvm hr9 hB hz1 hk1 hS => ?_)
        obtain ⟨hP1, hK1, hD1⟩ := hB
        rw [ht] at hP1
        have hn4 := hr9
        have hN : xct st ≤ xct o1 := Nat.le_trans hN hn4
        have hP : va_P D xcl (xMw cT aM adL rd gdL vadL o1 []) H1 := hP1
        have hD : va_D A (xMw cT aM adL rd gdL vadL o1 []) := hD1.weaken (fun k q _ h => hFc q.1 h)
        generalize H1 = H at hP hS ⊢
        refine W.eq (g2 := F0 m 109 ls []) (by first | rfl | (skip; rfl)) ?_
        refine lv_aload_n hx hb dM_members_109 rfl (lv_at hl 4 rfl) ?_
        obtain ⟨o5, hq6, hf⟩ := xbind hf
        have hFc := xm_free hD hS hA
        refine va_calli (va_runV (C := "ValueBenchModel") (As := []) (rest := []) ⟨hx, hb, hml, hown, htx⟩ (gM_peek l hl9 D cT aK aV H.size n aM adL rd gdL vadL o1 o5 hq6) ⟨callB_of 0 htx (xw_goodC kw_5_233) rfl rfl rfl (htx _ kw_1_5) (htx _ kw_5_230) ⟨by decide, by decide, by decide +kernel⟩ ⟨Nat.le_of_ble_eq_true rfl, Nat.le_of_ble_eq_true rfl⟩, (htx _ kw_5_232), (htx _ kp_M_peek)⟩ ⟨xPre_blind, va_recv hK hP (ci := 5) rfl (q0 := 0) rfl, (fun U hU hW => ⟨rfl, xPre_of hZ hS hFc hP hD hK U hU hW⟩)⟩ rfl rfl hl.1 rfl (xm_room (Nat.le_of_ble_eq_true rfl)) dM_members_110 ⟨hm0.1, hm0.2⟩) hS (fun q _ h => hFc q h) hFc (fun r7 u9 t H1 locs ht hvm hr9 hB hz1 hk1 hS => ?_)
        obtain ⟨hP1, hK1, hD1⟩ := hB
        rw [ht] at hP1
        have hP : va_P D xcl (xMw cT aM adL rd gdL vadL o1 []) H1 := hP1
        have hD : va_D A (xMw cT aM adL rd gdL vadL o1 []) := hD1.weaken (fun k q _ h => hFc q.1 h)
        generalize H1 = H at hP hS ⊢
        rw [hr9]
        refine W.eq (g2 := F0 m 113 ls [.int o5]) (by first | rfl | (skip; rfl)) ?_
        refine lv_bipush (v := 58) hx hb dM_members_113 (by decide) ?_
        refine lv_icmp_eq (tgt := 126) hx hb dM_members_115 (by decide) (fun hc => ?_) (fun hc => ?_)
        · rw [if_pos hc] at hf
          refine lv_aload_n hx hb dM_members_126 rfl (lv_at hl 4 rfl) ?_
          refine lv_dup hx hb dM_members_127 rfl ?_
          refine xm_get (v := .int (xsi o1 16)) hx hb htx hown hK hP 16 (by decide) rfl (htx _ kw_5_103) rfl dM_members_128 ?_
          refine lv_iconst (v := 1) hx hb dM_members_131 (by decide) ?_
          refine lv_iadd hx hb dM_members_132 ?_
          refine xm_put (v := .int ((xsi o1 16) + (1 : Int32))) (W' := (xMw cT aM adL rd gdL vadL (xsI o1 16 ((xsi o1 16) + (1 : Int32))) [])) (ty := .int) hx hb htx hown hK hP hD hS 16 (by decide) rfl (htx _ kw_5_103) rfl rfl (by decide +kernel) rfl rfl dM_members_133 (fun H locs hP hD hS => ?_)
          refine lv_aload_n hx hb dM_members_136 rfl (lv_at hl 4 rfl) ?_
          obtain ⟨o8, hq9, hf⟩ := xbind hf
          by_cases hk10 : o8.1 = 0
          · rw [if_pos hk10] at hf
            obtain ⟨hg11, hf⟩ := xifn hf
            obtain ⟨hm12, hf⟩ := xmoE hf
            have hFc := xm_free hD hS hA
            refine va_callq (va_runV (C := "ValueBenchModel") (As := []) (rest := []) ⟨hx, hb, hml, hown, htx⟩ ((hrec H.size aM adL rd gdL vadL (xsI o1 16 ((xsi o1 16) + (1 : Int32))) o8 hq9).1 hk10) ⟨callB_of 0 htx (xw_goodC kw_5_225) rfl rfl rfl (htx _ kw_1_5) (htx _ kw_5_222) ⟨by decide, by decide, by decide +kernel⟩ ⟨(by show (fr) + 1 ≤ fr + 9; omega), (by show 8 + (3 + 11) + (lo) ≤ lo + 167; omega)⟩, (htx _ kw_5_224), (htx _ kp_M_value)⟩ ⟨xPre_blind, va_recv hK hP (ci := 5) rfl (q0 := 0) rfl, (fun U hU hW => ⟨rfl, xPre_of hZ hS hFc hP hD hK U hU hW⟩)⟩ rfl rfl hl.1 rfl (xm_room (Nat.le_of_ble_eq_true rfl)) dM_members_137 ⟨hm12.1, hm12.2⟩) hS (fun q _ h => hFc q h) hFc (fun r13 u9 t H1 locs ht hvm hr9 hB hz1 hk1 hS => ?_)
            obtain ⟨hP1, hK1, hD1⟩ := hB
            rw [ht] at hP1
            obtain ⟨ad14, gd15, vad16⟩ := u9
            obtain ⟨hr9, hv17, hn18⟩ := hr9
            have hP : va_P D xcl (xMw cT aM ad14 rd gd15 vad16 o8.2.2.2.2 []) H1 := hP1
            have hD : va_D A (xMw cT aM ad14 rd gd15 vad16 o8.2.2.2.2 []) := hD1.weaken (fun k q _ h => hFc q.1 h)
            generalize H1 = H at hP hS ⊢
            have hE9 : ∀ p, p < xct st → vad16 p = vad p := fun p h => (hv17 p (Nat.lt_of_lt_of_le h hN)).trans (hE p h)
            have hE := hE9
            have hN : xct st ≤ xct o8.2.2.2.2 := Nat.le_trans hN hn18
            have ev19 : xv vadL y3 = xv vad16 y3 := xvE hv17 hg11
            have hl : lv_has ls 6 [(4, .int y4), (3, xv vad16 y3), (2, .int y2), (1, .int y1), (0, .ref aM)] := by first | exact hl | ((try (rw [← ev19])); exact hl)
            rw [hr9]
            refine W.eq (g2 := F0 m 140 ls [xv vad16 o8.2.2.2.1]) (by first | rfl | ((try (rw [ev19])); rfl)) ?_
            refine xm_astore (lv' := [(4, xv vad16 o8.2.2.2.1), (3, xv vad16 y3), (2, .int y2), (1, .int y1), (0, .ref aM)]) hx hb (xvor _ _) dM_members_140 hl (by decide) (by simp only [List.filter, xvcat, xrscat, xcI, xcL, xcR, xcN]; rfl) (fun ls hl => ?_)
            refine lv_aload_n hx hb dM_members_142 rfl (lv_at hl 4 rfl) ?_
            refine xm_aload_n hx hb (xvor _ _) dM_members_143 rfl (lv_at hl 1 rfl) ?_
            refine xm_aload hx hb (xvor _ _) dM_members_144 (lv_at hl 0 rfl) ?_
            obtain ⟨o20, hq21, hf⟩ := xbind hf
            obtain ⟨hg22, hf⟩ := xifn hf
            obtain ⟨hg23, hf⟩ := xifn hf
            obtain ⟨hm24, hf⟩ := xmoE hf
            have hFc := xm_free hD hS hA
            refine va_callv (va_runV (C := "ValueBenchModel") (As := [xv vad16 y3, xv vad16 o8.2.2.2.1]) (rest := []) ⟨hx, hb, hml, hown, htx⟩ (gM_wait l hl9 D cT aK aV H.size n aM ad14 rd gd15 vad16 o8.2.2.2.2 y3 o8.2.2.2.1 o20 hq21) ⟨callB_of 2 htx (xw_goodC kw_6_112) rfl rfl rfl (htx _ kw_1_5) (htx _ kw_6_109) ⟨by decide, by decide, by decide +kernel⟩ ⟨Nat.le_of_ble_eq_true rfl, Nat.le_of_ble_eq_true rfl⟩, (htx _ kw_6_111), (htx _ kp_M_wait)⟩ ⟨xPre_blind, va_recv hK hP (ci := 5) rfl (q0 := 0) rfl, (fun U hU hW => ⟨rfl, xPre_of hZ hS hFc hP hD hK U hU hW⟩)⟩ rfl rfl hl.1 rfl (xm_room (Nat.le_of_ble_eq_true rfl)) dM_members_146 ⟨hm24.1, hm24.2⟩) hS (fun q _ h => hFc q h) hFc (fun u9 t H1 locs ht hvm hr9 hB hz1 hk1 hS => ?_)
            obtain ⟨hP1, hK1, hD1⟩ := hB
            rw [ht] at hP1
            obtain ⟨ad26, gd27, vad28⟩ := u9
            obtain ⟨hv29, hn30⟩ := hr9
            have hP : va_P D xcl (xMw cT aM ad26 rd gd27 vad28 o20.2.2 []) H1 := hP1
            have hD : va_D A (xMw cT aM ad26 rd gd27 vad28 o20.2.2 []) := hD1.weaken (fun k q _ h => hFc q.1 h)
            generalize H1 = H at hP hS ⊢
            have hE9 : ∀ p, p < xct st → vad28 p = vad p := fun p h => (hv29 p (Nat.lt_of_lt_of_le h hN)).trans (hE p h)
            have hE := hE9
            have hN : xct st ≤ xct o20.2.2 := Nat.le_trans hN hn30
            have ev31 : xv vad16 o8.2.2.2.1 = xv vad28 o8.2.2.2.1 := xvE hv29 hg22
            have ev32 : xv vad16 y3 = xv vad28 y3 := xvE hv29 hg23
            have hl : lv_has ls 6 [(4, xv vad28 o8.2.2.2.1), (3, xv vad28 y3), (2, .int y2), (1, .int y1), (0, .ref aM)] := by first | exact hl | ((try (rw [← ev31])); (try (rw [← ev32])); exact hl)
            refine W.eq (g2 := F0 m 149 ls []) (by first | rfl | ((try (rw [ev31])); (try (rw [ev32])); rfl)) ?_
            refine lv_aload_n hx hb dM_members_149 rfl (lv_at hl 4 rfl) ?_
            obtain ⟨o33, hq34, hf⟩ := xbind hf
            have hFc := xm_free hD hS hA
            refine va_callv (va_runV (C := "ValueBenchModel") (As := []) (rest := []) ⟨hx, hb, hml, hown, htx⟩ (gM_blanks l hl9 D cT aK aV H.size n aM ad26 rd gd27 vad28 o20.2.2 o33 hq34) ⟨callB_of 0 htx (xw_goodC kw_5_229) rfl rfl rfl (htx _ kw_1_5) (htx _ kw_5_226) ⟨by decide, by decide, by decide +kernel⟩ ⟨Nat.le_of_ble_eq_true rfl, Nat.le_of_ble_eq_true rfl⟩, (htx _ kw_5_228), (htx _ kp_M_blanks)⟩ ⟨xPre_blind, va_recv hK hP (ci := 5) rfl (q0 := 0) rfl, (fun U hU hW => ⟨rfl, xPre_of hZ hS hFc hP hD hK U hU hW⟩)⟩ rfl rfl hl.1 rfl (xm_room (Nat.le_of_ble_eq_true rfl)) dM_members_150 ⟨hm24.1, hm24.2⟩) hS (fun q _ h => hFc q h) hFc (fun u9 t H1 locs ht hvm hr9 hB hz1 hk1 hS => ?_)
            obtain ⟨hP1, hK1, hD1⟩ := hB
            rw [ht] at hP1
            have hn36 := hr9
            have hN : xct st ≤ xct o33 := Nat.le_trans hN hn36
            have hP : va_P D xcl (xMw cT aM ad26 rd gd27 vad28 o33 []) H1 := hP1
            have hD : va_D A (xMw cT aM ad26 rd gd27 vad28 o33 []) := hD1.weaken (fun k q _ h => hFc q.1 h)
            generalize H1 = H at hP hS ⊢
            refine W.eq (g2 := F0 m 153 ls []) (by first | rfl | (skip; rfl)) ?_
            refine lv_aload_n hx hb dM_members_153 rfl (lv_at hl 4 rfl) ?_
            obtain ⟨o37, hq38, hf⟩ := xbind hf
            have hFc := xm_free hD hS hA
            refine va_calli (va_runV (C := "ValueBenchModel") (As := []) (rest := []) ⟨hx, hb, hml, hown, htx⟩ (gM_peek l hl9 D cT aK aV H.size n aM ad26 rd gd27 vad28 o33 o37 hq38) ⟨callB_of 0 htx (xw_goodC kw_5_233) rfl rfl rfl (htx _ kw_1_5) (htx _ kw_5_230) ⟨by decide, by decide, by decide +kernel⟩ ⟨Nat.le_of_ble_eq_true rfl, Nat.le_of_ble_eq_true rfl⟩, (htx _ kw_5_232), (htx _ kp_M_peek)⟩ ⟨xPre_blind, va_recv hK hP (ci := 5) rfl (q0 := 0) rfl, (fun U hU hW => ⟨rfl, xPre_of hZ hS hFc hP hD hK U hU hW⟩)⟩ rfl rfl hl.1 rfl (xm_room (Nat.le_of_ble_eq_true rfl)) dM_members_154 ⟨hm24.1, hm24.2⟩) hS (fun q _ h => hFc q h) hFc (fun r39 u9 t H1 locs ht hvm hr9 hB hz1 hk1 hS => ?_)
            obtain ⟨hP1, hK1, hD1⟩ := hB
            rw [ht] at hP1
            have hP : va_P D xcl (xMw cT aM ad26 rd gd27 vad28 o33 []) H1 := hP1
            have hD : va_D A (xMw cT aM ad26 rd gd27 vad28 o33 []) := hD1.weaken (fun k q _ h => hFc q.1 h)
            generalize H1 = H at hP hS ⊢
            rw [hr9]
            refine W.eq (g2 := F0 m 157 ls [.int o37]) (by first | rfl | (skip; rfl)) ?_
            refine lv_istore (lv' := [(5, .int o37), (4, xv vad28 o8.2.2.2.1), (3, xv vad28 y3), (2, .int y2), (1, .int y1), (0, .ref aM)]) hx hb dM_members_157 hl (by decide) (by simp only [List.filter, xvcat, xrscat, xcI, xcL, xcR, xcN]; rfl) (fun ls hl => ?_)
            refine lv_iload hx hb dM_members_159 (lv_at hl 0 rfl) ?_
            refine lv_bipush (v := 44) hx hb dM_members_161 (by decide) ?_
            refine lv_icmp_eq (tgt := 181) hx hb dM_members_163 (by decide) (fun hc => ?_) (fun hc => ?_)
            · rw [if_pos hc] at hf
              refine lv_aload_n hx hb dM_members_181 rfl (lv_at hl 5 rfl) ?_
              refine lv_dup hx hb dM_members_182 rfl ?_
              refine xm_get (v := .int (xsi o33 16)) hx hb htx hown hK hP 16 (by decide) rfl (htx _ kw_5_103) rfl dM_members_183 ?_
              refine lv_iconst (v := 1) hx hb dM_members_186 (by decide) ?_
              refine lv_iadd hx hb dM_members_187 ?_
              refine xm_put (v := .int ((xsi o33 16) + (1 : Int32))) (W' := (xMw cT aM ad26 rd gd27 vad28 (xsI o33 16 ((xsi o33 16) + (1 : Int32))) [])) (ty := .int) hx hb htx hown hK hP hD hS 16 (by decide) rfl (htx _ kw_5_103) rfl rfl (by decide +kernel) rfl rfl dM_members_188 (fun H locs hP hD hS => ?_)
              refine lv_iload hx hb dM_members_191 (lv_at hl 0 rfl) ?_
              refine lv_bipush (v := 125) hx hb dM_members_193 (by decide) ?_
              refine lv_icmp_ne (tgt := 206) hx hb dM_members_195 (by decide) (fun hc => ?_) (fun hc => ?_)
              · rw [if_neg hc] at hf
                refine lv_goto (tgt := 36) hx hb dM_members_206 (by decide) ?_
                exact ih (1, y1, 0, y3, y2, (xsI o33 16 ((xsi o33 16) + (1 : Int32))), ((wc + o8.2.1) + o20.1), ((wn + o8.2.2.1) + o20.2.1)) _ _ ls (Or.inl ⟨ad26, gd27, vad28, rfl, hf, hP, hD, hS, lv_sub hl [4, 5] rfl, hE, hN⟩)
              · rw [if_pos hc] at hf
                refine lv_aload_n hx hb dM_members_198 rfl (lv_at hl 5 rfl) ?_
                refine lv_bipush (v := 6) hx hb dM_members_199 (by decide) ?_
                refine lv_iload_n hx hb dM_members_201 rfl (lv_at hl 4 rfl) ?_
                obtain ⟨o40, hq41, hf⟩ := xbind hf
                have hl := lv_sub (l' := [(5, .int o37), (2, .int y2), (1, .int y1), (0, .ref aM)]) hl [0, 3, 4, 5] rfl
                by_cases hk42 : o40.1 = 0
                · rw [if_pos hk42] at hf
                  obtain ⟨hm43, hf⟩ := xmoE hf
                  have hFc := xm_free hD hS hA
                  refine va_callq (va_runV (C := "ValueBenchModel") (As := [.int 6, .int y1]) (rest := []) ⟨hx, hb, hml, hown, htx⟩ (gM_whole l hl9 D cT aK aV H.size n aM ad26 rd gd27 vad28 (xsI o33 16 ((xsi o33 16) + (1 : Int32))) (6 : Int32) y1 o40 hq41 hk42) ⟨callB_of 2 htx (xw_goodC kw_6_106) rfl rfl rfl (htx _ kw_1_5) (htx _ kw_6_103) ⟨by decide, by decide, by decide +kernel⟩ ⟨Nat.le_of_ble_eq_true rfl, Nat.le_of_ble_eq_true rfl⟩, (htx _ kw_6_105), (htx _ kp_M_whole)⟩ ⟨xPre_blind, va_recv hK hP (ci := 5) rfl (q0 := 0) rfl, (fun U hU hW => ⟨rfl, xPre_of hZ hS hFc hP hD hK U hU hW⟩)⟩ rfl rfl hl.1 rfl (xm_room (Nat.le_of_ble_eq_true rfl)) dM_members_202 ⟨hm43.1, hm43.2⟩) hS (fun q _ h => hFc q h) hFc (fun r44 u9 t H1 locs ht hvm hr9 hB hz1 hk1 hS => ?_)
                  obtain ⟨hP1, hK1, hD1⟩ := hB
                  rw [ht] at hP1
                  obtain ⟨ad45, gd46, vad47⟩ := u9
                  obtain ⟨hr9, hv48, hn49⟩ := hr9
                  have hP : va_P D xcl (xMw cT aM ad45 rd gd46 vad47 o40.2.2.2.2 []) H1 := hP1
                  have hD : va_D A (xMw cT aM ad45 rd gd46 vad47 o40.2.2.2.2 []) := hD1.weaken (fun k q _ h => hFc q.1 h)
                  generalize H1 = H at hP hS ⊢
                  have hE9 : ∀ p, p < xct st → vad47 p = vad p := fun p h => (hv48 p (Nat.lt_of_lt_of_le h hN)).trans (hE p h)
                  have hE := hE9
                  have hN : xct st ≤ xct o40.2.2.2.2 := Nat.le_trans hN hn49
                  rw [hr9]
                  refine W.eq (g2 := F0 m 205 ls [xv vad47 o40.2.2.2.1]) (by first | rfl | (skip; rfl)) ?_
                  obtain rfl := Option.some.inj hf
                  exact absurd (show (0 : Nat) = 2 from hkd) (by decide)
                rw [if_neg hk42] at hf
                by_cases hk50 : o40.1 = 1
                · rw [if_pos hk50] at hf
                  obtain ⟨hm51, hf⟩ := xmoE hf
                  obtain rfl := Option.some.inj hf
                  exact absurd (show (1 : Nat) = 2 from hkd) (by decide)
                rw [if_neg hk50] at hf
                exact nomatch hf
            · rw [if_neg hc] at hf
              refine lv_iload hx hb dM_members_166 (lv_at hl 0 rfl) ?_
              refine lv_bipush (v := 125) hx hb dM_members_168 (by decide) ?_
              refine lv_icmp_eq (tgt := 181) hx hb dM_members_170 (by decide) (fun hc => ?_) (fun hc => ?_)
              · rw [if_pos hc] at hf
                refine lv_aload_n hx hb dM_members_181 rfl (lv_at hl 5 rfl) ?_
                refine lv_dup hx hb dM_members_182 rfl ?_
                refine xm_get (v := .int (xsi o33 16)) hx hb htx hown hK hP 16 (by decide) rfl (htx _ kw_5_103) rfl dM_members_183 ?_
                refine lv_iconst (v := 1) hx hb dM_members_186 (by decide) ?_
                refine lv_iadd hx hb dM_members_187 ?_
                refine xm_put (v := .int ((xsi o33 16) + (1 : Int32))) (W' := (xMw cT aM ad26 rd gd27 vad28 (xsI o33 16 ((xsi o33 16) + (1 : Int32))) [])) (ty := .int) hx hb htx hown hK hP hD hS 16 (by decide) rfl (htx _ kw_5_103) rfl rfl (by decide +kernel) rfl rfl dM_members_188 (fun H locs hP hD hS => ?_)
                refine lv_iload hx hb dM_members_191 (lv_at hl 0 rfl) ?_
                refine lv_bipush (v := 125) hx hb dM_members_193 (by decide) ?_
                refine lv_icmp_ne (tgt := 206) hx hb dM_members_195 (by decide) (fun hc => ?_) (fun hc => ?_)
                · rw [if_neg hc] at hf
                  refine lv_goto (tgt := 36) hx hb dM_members_206 (by decide) ?_
                  exact ih (1, y1, 0, y3, y2, (xsI o33 16 ((xsi o33 16) + (1 : Int32))), ((wc + o8.2.1) + o20.1), ((wn + o8.2.2.1) + o20.2.1)) _ _ ls (Or.inl ⟨ad26, gd27, vad28, rfl, hf, hP, hD, hS, lv_sub hl [4, 5] rfl, hE, hN⟩)
                · rw [if_pos hc] at hf
                  refine lv_aload_n hx hb dM_members_198 rfl (lv_at hl 5 rfl) ?_
                  refine lv_bipush (v := 6) hx hb dM_members_199 (by decide) ?_
                  refine lv_iload_n hx hb dM_members_201 rfl (lv_at hl 4 rfl) ?_
                  obtain ⟨o40, hq41, hf⟩ := xbind hf
                  have hl := lv_sub (l' := [(5, .int o37), (2, .int y2), (1, .int y1), (0, .ref aM)]) hl [0, 3, 4, 5] rfl
                  by_cases hk42 : o40.1 = 0
                  · rw [if_pos hk42] at hf
                    obtain ⟨hm43, hf⟩ := xmoE hf
                    have hFc := xm_free hD hS hA
                    refine va_callq (va_runV (C := "ValueBenchModel") (As := [.int 6, .int y1]) (rest := []) ⟨hx, hb, hml, hown, htx⟩ (gM_whole l hl9 D cT aK aV H.size n aM ad26 rd gd27 vad28 (xsI o33 16 ((xsi o33 16) + (1 : Int32))) (6 : Int32) y1 o40 hq41 hk42) ⟨callB_of 2 htx (xw_goodC kw_6_106) rfl rfl rfl (htx _ kw_1_5) (htx _ kw_6_103) ⟨by decide, by decide, by decide +kernel⟩ ⟨Nat.le_of_ble_eq_true rfl, Nat.le_of_ble_eq_true rfl⟩, (htx _ kw_6_105), (htx _ kp_M_whole)⟩ ⟨xPre_blind, va_recv hK hP (ci := 5) rfl (q0 := 0) rfl, (fun U hU hW => ⟨rfl, xPre_of hZ hS hFc hP hD hK U hU hW⟩)⟩ rfl rfl hl.1 rfl (xm_room (Nat.le_of_ble_eq_true rfl)) dM_members_202 ⟨hm43.1, hm43.2⟩) hS (fun q _ h => hFc q h) hFc (fun r44 u9 t H1 locs ht hvm hr9 hB hz1 hk1 hS => ?_)
                    obtain ⟨hP1, hK1, hD1⟩ := hB
                    rw [ht] at hP1
                    obtain ⟨ad45, gd46, vad47⟩ := u9
                    obtain ⟨hr9, hv48, hn49⟩ := hr9
                    have hP : va_P D xcl (xMw cT aM ad45 rd gd46 vad47 o40.2.2.2.2 []) H1 := hP1
                    have hD : va_D A (xMw cT aM ad45 rd gd46 vad47 o40.2.2.2.2 []) := hD1.weaken (fun k q _ h => hFc q.1 h)
                    generalize H1 = H at hP hS ⊢
                    have hE9 : ∀ p, p < xct st → vad47 p = vad p := fun p h => (hv48 p (Nat.lt_of_lt_of_le h hN)).trans (hE p h)
                    have hE := hE9
                    have hN : xct st ≤ xct o40.2.2.2.2 := Nat.le_trans hN hn49
                    rw [hr9]
                    refine W.eq (g2 := F0 m 205 ls [xv vad47 o40.2.2.2.1]) (by first | rfl | (skip; rfl)) ?_
                    obtain rfl := Option.some.inj hf
                    exact absurd (show (0 : Nat) = 2 from hkd) (by decide)
                  rw [if_neg hk42] at hf
                  by_cases hk50 : o40.1 = 1
                  · rw [if_pos hk50] at hf
                    obtain ⟨hm51, hf⟩ := xmoE hf
                    obtain rfl := Option.some.inj hf
                    exact absurd (show (1 : Nat) = 2 from hkd) (by decide)
                  rw [if_neg hk50] at hf
                  exact nomatch hf
              · rw [if_neg hc] at hf
                refine lv_aload_n hx hb dM_members_173 rfl (lv_at hl 5 rfl) ?_
                refine lv_aload_n hx hb dM_members_174 rfl (lv_at hl 5 rfl) ?_
                refine xm_get (v := .int (xsi o33 16)) hx hb htx hown hK hP 16 (by decide) rfl (htx _ kw_5_103) rfl dM_members_175 ?_
                obtain ⟨o40, hq41, hf⟩ := xbind hf
                by_cases hk42 : o40.1 = 1
                · rw [if_pos hk42] at hf
                  obtain ⟨hg43, hf⟩ := xifn hf
                  obtain ⟨hg44, hf⟩ := xifn hf
                  obtain ⟨hm45, hf⟩ := xmoE hf
                  have hFc := xm_free hD hS hA
                  refine xx_thr (vx_runV (C := "ValueBenchModel") (As := [.int (xsi o33 16)]) (rest := []) ⟨hx, hb, hml, hown, htx⟩ (gM_bad_1 l hl9 D cT aK aV H.size n aM ad26 rd gd27 vad28 o33 (xsi o33 16) o40 hq41 hk42) ⟨callB_of 1 htx (xw_goodC kw_6_2) rfl rfl rfl (htx _ kw_1_5) (htx _ kw_5_239) ⟨by decide, by decide, by decide +kernel⟩ ⟨Nat.le_of_ble_eq_true rfl, Nat.le_of_ble_eq_true rfl⟩, (htx _ kw_6_1), (htx _ kp_M_bad)⟩ ⟨xPre_blind, va_recv hK hP (ci := 5) rfl (q0 := 0) rfl, (fun U hU hW => ⟨rfl, xPre_of hZ hS hFc hP hD hK U hU hW⟩)⟩ rfl rfl hl.1 rfl (xm_room (Nat.le_of_ble_eq_true rfl)) dM_members_178 ⟨hm45.1, hm45.2⟩) hS hFc (fun q _ h => hFc q h) (fun E ce q9 u9 t H1 locs ht hvm hr9 hB hz1 hk1 hS hce hcv hcl => ?_)
                  obtain ⟨rfl, hP1, hK1, hD1⟩ := hB
                  rw [ht] at hP1
                  obtain ⟨ad47, gd48, vad49⟩ := u9
                  obtain ⟨hv50, hn51⟩ := hr9
                  have hP : va_P D xcl (xMw cT aM ad47 rd gd48 vad49 o40.2.2.2 []) H1 := hP1
                  have hD : va_D A (xMw cT aM ad47 rd gd48 vad49 o40.2.2.2 []) := hD1.weaken (fun k q _ h => hFc q.1 h)
                  generalize H1 = H at hP hS hce ⊢
                  have hE9 : ∀ p, p < xct st → vad49 p = vad p := fun p h => (hv50 p (Nat.lt_of_lt_of_le h hN)).trans (hE p h)
                  have hE := hE9
                  have hN : xct st ≤ xct o40.2.2.2 := Nat.le_trans hN hn51
                  have ev52 : xv vad28 o8.2.2.2.1 = xv vad49 o8.2.2.2.1 := xvE hv50 hg43
                  have ev53 : xv vad28 y3 = xv vad49 y3 := xvE hv50 hg44
                  have hl : lv_has ls 6 [(5, .int o37), (4, xv vad49 o8.2.2.2.1), (3, xv vad49 y3), (2, .int y2), (1, .int y1), (0, .ref aM)] := by first | exact hl | ((try (rw [← ev52])); (try (rw [← ev53])); exact hl)
                  obtain rfl := Option.some.inj hf
                  exact vx_out (E := "java/lang/UnsupportedOperationException") (fun x h => (hne x h).elim) hlocks hce hcv hcl (fun t ht ha => ⟨(ad47, gd48, vad49), ⟨hE, hN⟩, ⟨rfl, by rw [ht]; exact hP, va_K.moved ha hK, hD⟩, hS.F ht⟩) hS.2.2 (Nat.le_refl _) (Nat.le_refl _)
                rw [if_neg hk42] at hf
                exact nomatch hf
          rw [if_neg hk10] at hf
          by_cases hk40 : o8.1 = 1
          · rw [if_pos hk40] at hf
            obtain ⟨hg41, hf⟩ := xifn hf
            obtain ⟨hm42, hf⟩ := xmoE hf
            have hFc := xm_free hD hS hA
            refine xx_thr (vx_runV (C := "ValueBenchModel") (As := []) (rest := []) ⟨hx, hb, hml, hown, htx⟩ ((hrec H.size aM adL rd gdL vadL (xsI o1 16 ((xsi o1 16) + (1 : Int32))) o8 hq9).2.1 hk40) ⟨callB_of 0 htx (xw_goodC kw_5_225) rfl rfl rfl (htx _ kw_1_5) (htx _ kw_5_222) ⟨by decide, by decide, by decide +kernel⟩ ⟨(by show (fr) + 1 ≤ fr + 9; omega), (by show 8 + (3 + 11) + (lo) ≤ lo + 167; omega)⟩, (htx _ kw_5_224), (htx _ kp_M_value)⟩ ⟨xPre_blind, va_recv hK hP (ci := 5) rfl (q0 := 0) rfl, (fun U hU hW => ⟨rfl, xPre_of hZ hS hFc hP hD hK U hU hW⟩)⟩ rfl rfl hl.1 rfl (xm_room (Nat.le_of_ble_eq_true rfl)) dM_members_137 ⟨hm42.1, hm42.2⟩) hS hFc (fun q _ h => hFc q h) (fun E ce q9 u9 t H1 locs ht hvm hr9 hB hz1 hk1 hS hce hcv hcl => ?_)
            obtain ⟨rfl, hP1, hK1, hD1⟩ := hB
            rw [ht] at hP1
            obtain ⟨ad44, gd45, vad46⟩ := u9
            obtain ⟨hv47, hn48⟩ := hr9
            have hP : va_P D xcl (xMw cT aM ad44 rd gd45 vad46 o8.2.2.2.2 []) H1 := hP1
            have hD : va_D A (xMw cT aM ad44 rd gd45 vad46 o8.2.2.2.2 []) := hD1.weaken (fun k q _ h => hFc q.1 h)
            generalize H1 = H at hP hS hce ⊢
            have hE9 : ∀ p, p < xct st → vad46 p = vad p := fun p h => (hv47 p (Nat.lt_of_lt_of_le h hN)).trans (hE p h)
            have hE := hE9
            have hN : xct st ≤ xct o8.2.2.2.2 := Nat.le_trans hN hn48
            have ev49 : xv vadL y3 = xv vad46 y3 := xvE hv47 hg41
            have hl : lv_has ls 6 [(4, .int y4), (3, xv vad46 y3), (2, .int y2), (1, .int y1), (0, .ref aM)] := by first | exact hl | ((try (rw [← ev49])); exact hl)
            obtain rfl := Option.some.inj hf
            exact vx_out (E := "java/lang/UnsupportedOperationException") (fun x h => (hne x h).elim) hlocks hce hcv hcl (fun t ht ha => ⟨(ad44, gd45, vad46), ⟨hE, hN⟩, ⟨rfl, by rw [ht]; exact hP, va_K.moved ha hK, hD⟩, hS.F ht⟩) hS.2.2 (Nat.le_refl _) (Nat.le_refl _)
          rw [if_neg hk40] at hf
          by_cases hk50 : o8.1 = 2
          · rw [if_pos hk50] at hf
            obtain ⟨hg51, hf⟩ := xifn hf
            obtain ⟨hm52, hf⟩ := xmoE hf
            obtain rfl := Option.some.inj hf
            exact absurd (show (1 : Nat) = 2 from hkd) (by decide)
          rw [if_neg hk50] at hf
          by_cases hk60 : o8.1 = 3
          · rw [if_pos hk60] at hf
            obtain ⟨hg61, hf⟩ := xifn hf
            obtain ⟨hm62, hf⟩ := xmoE hf
            obtain rfl := Option.some.inj hf
            exact absurd (show (3 : Nat) = 2 from hkd) (by decide)
          rw [if_neg hk60] at hf
          exact nomatch hf
        · rw [if_neg hc] at hf
          refine lv_aload_n hx hb dM_members_118 rfl (lv_at hl 4 rfl) ?_
          refine lv_aload_n hx hb dM_members_119 rfl (lv_at hl 4 rfl) ?_
          refine xm_get (v := .int (xsi o1 16)) hx hb htx hown hK hP 16 (by decide) rfl (htx _ kw_5_103) rfl dM_members_120 ?_
          obtain ⟨o8, hq9, hf⟩ := xbind hf
          by_cases hk10 : o8.1 = 1
          · rw [if_pos hk10] at hf
            obtain ⟨hg11, hf⟩ := xifn hf
            obtain ⟨hm12, hf⟩ := xmoE hf
            have hFc := xm_free hD hS hA
            refine xx_thr (vx_runV (C := "ValueBenchModel") (As := [.int (xsi o1 16)]) (rest := []) ⟨hx, hb, hml, hown, htx⟩ (gM_bad_1 l hl9 D cT aK aV H.size n aM adL rd gdL vadL o1 (xsi o1 16) o8 hq9 hk10) ⟨callB_of 1 htx (xw_goodC kw_6_2) rfl rfl rfl (htx _ kw_1_5) (htx _ kw_5_239) ⟨by decide, by decide, by decide +kernel⟩ ⟨Nat.le_of_ble_eq_true rfl, Nat.le_of_ble_eq_true rfl⟩, (htx _ kw_6_1), (htx _ kp_M_bad)⟩ ⟨xPre_blind, va_recv hK hP (ci := 5) rfl (q0 := 0) rfl, (fun U hU hW => ⟨rfl, xPre_of hZ hS hFc hP hD hK U hU hW⟩)⟩ rfl rfl hl.1 rfl (xm_room (Nat.le_of_ble_eq_true rfl)) dM_members_123 ⟨hm12.1, hm12.2⟩) hS hFc (fun q _ h => hFc q h) (fun E ce q9 u9 t H1 locs ht hvm hr9 hB hz1 hk1 hS hce hcv hcl => ?_)
            obtain ⟨rfl, hP1, hK1, hD1⟩ := hB
            rw [ht] at hP1
            obtain ⟨ad14, gd15, vad16⟩ := u9
            obtain ⟨hv17, hn18⟩ := hr9
            have hP : va_P D xcl (xMw cT aM ad14 rd gd15 vad16 o8.2.2.2 []) H1 := hP1
            have hD : va_D A (xMw cT aM ad14 rd gd15 vad16 o8.2.2.2 []) := hD1.weaken (fun k q _ h => hFc q.1 h)
            generalize H1 = H at hP hS hce ⊢
            have hE9 : ∀ p, p < xct st → vad16 p = vad p := fun p h => (hv17 p (Nat.lt_of_lt_of_le h hN)).trans (hE p h)
            have hE := hE9
            have hN : xct st ≤ xct o8.2.2.2 := Nat.le_trans hN hn18
            have ev19 : xv vadL y3 = xv vad16 y3 := xvE hv17 hg11
            have hl : lv_has ls 6 [(4, .int y4), (3, xv vad16 y3), (2, .int y2), (1, .int y1), (0, .ref aM)] := by first | exact hl | ((try (rw [← ev19])); exact hl)
            obtain rfl := Option.some.inj hf
            exact vx_out (E := "java/lang/UnsupportedOperationException") (fun x h => (hne x h).elim) hlocks hce hcv hcl (fun t ht ha => ⟨(ad14, gd15, vad16), ⟨hE, hN⟩, ⟨rfl, by rw [ht]; exact hP, va_K.moved ha hK, hD⟩, hS.F ht⟩) hS.2.2 (Nat.le_refl _) (Nat.le_refl _)
          rw [if_neg hk10] at hf
          exact nomatch hf
      · rw [if_neg hc] at hf
        refine lv_aload_n hx hb dM_members_79 rfl (lv_at hl 4 rfl) ?_
        refine lv_aload_n hx hb dM_members_80 rfl (lv_at hl 4 rfl) ?_
        refine xm_get (v := .ref (adL 11)) hx hb htx hown hK hP 11 (by decide) rfl (htx _ kw_5_98) rfl dM_members_81 ?_
        refine lv_iload hx hb dM_members_84 (lv_at hl 0 rfl) ?_
        obtain ⟨hg1, hf⟩ := xifn hf
        refine va_aldq hx hb hK hP 6 4 rfl rfl hg1 dM_members_86 ?_
        refine W.eq (g2 := F0 m 87 ls [xv vadL ((xvc ws9 11) y4.toNatClampNeg), .ref aM]) rfl ?_
        refine xm_aload_n hx hb (xvor _ _) dM_members_87 rfl (lv_at hl 1 rfl) ?_
        obtain ⟨o2, hq3, hf⟩ := xbind hf
        have hFc := xm_free hD hS hA
        refine va_calli (va_runV (C := "ValueBenchModel") (As := [xv vadL ((xvc ws9 11) y4.toNatClampNeg), xv vadL y3]) (rest := []) ⟨hx, hb, hml, hown, htx⟩ (gM_sameText l hl9 D cT aK aV H.size n aM adL rd gdL vadL ws9 ((xvc ws9 11) y4.toNatClampNeg) y3 o2 hq3) ⟨callB_of 2 htx (xw_goodC kw_6_120) rfl rfl rfl (htx _ kw_1_5) (htx _ kw_6_117) ⟨by decide, by decide, by decide +kernel⟩ ⟨Nat.le_of_ble_eq_true rfl, Nat.le_of_ble_eq_true rfl⟩, (htx _ kw_6_119), (htx _ kp_M_sameText)⟩ ⟨xPre_blind, va_recv hK hP (ci := 5) rfl (q0 := 0) rfl, (fun U hU hW => ⟨rfl, xPre_of hZ hS hFc hP hD hK U hU hW⟩)⟩ rfl rfl hl.1 rfl (xm_room (Nat.le_of_ble_eq_true rfl)) dM_members_88 ⟨hm0.1, hm0.2⟩) hS (fun q _ h => hFc q h) hFc (fun r4 u9 t H1 locs ht hvm hr9 hB hz1 hk1 hS => ?_)
        obtain ⟨hP1, hK1, hD1⟩ := hB
        rw [ht] at hP1
        have hP : va_P D xcl (xMw cT aM adL rd gdL vadL ws9 []) H1 := hP1
        have hD : va_D A (xMw cT aM adL rd gdL vadL ws9 []) := hD1.weaken (fun k q _ h => hFc q.1 h)
        generalize H1 = H at hP hS ⊢
        rw [hr9]
        refine W.eq (g2 := F0 m 91 ls [.int o2]) (by first | rfl | (skip; rfl)) ?_
        refine lv_if_eq (tgt := 99) hx hb dM_members_91 (by decide) (fun hc => ?_) (fun hc => ?_)
        · rw [if_pos hc] at hf
          refine lv_iinc (v := (y4 + 1)) (lv' := [(4, .int (y4 + 1)), (3, xv vadL y3), (2, .int y2), (1, .int y1), (0, .ref aM)]) hx hb dM_members_99 hl (k := 0) rfl rfl (by decide) (by simp only [List.filter, xvcat, xrscat, xcI, xcL, xcR, xcN]; rfl) (fun ls hl => ?_)
          refine lv_goto (tgt := 70) hx hb dM_members_102 (by decide) ?_
          exact ih (2, y1, (y4 + 1), y3, y2, ws9, wc, wn) _ _ ls (Or.inr (⟨adL, gdL, vadL, rfl, hf, hP, hD, hS, lv_sub hl [0, 1, 2, 3, 4] rfl, hE, hN⟩))
        · rw [if_neg hc] at hf
          refine lv_aload_n hx hb dM_members_94 rfl (lv_at hl 4 rfl) ?_
          refine lv_iload_n hx hb dM_members_95 rfl (lv_at hl 2 rfl) ?_
          obtain ⟨o5, hq6, hf⟩ := xbind hf
          by_cases hk7 : o5.1 = 1
          · rw [if_pos hk7] at hf
            obtain ⟨hg8, hf⟩ := xifn hf
            obtain ⟨hm9, hf⟩ := xmoE hf
            have hFc := xm_free hD hS hA
            refine xx_thr (vx_runV (C := "ValueBenchModel") (As := [.int y2]) (rest := []) ⟨hx, hb, hml, hown, htx⟩ (gM_bad_1 l hl9 D cT aK aV H.size n aM adL rd gdL vadL ws9 y2 o5 hq6 hk7) ⟨callB_of 1 htx (xw_goodC kw_6_2) rfl rfl rfl (htx _ kw_1_5) (htx _ kw_5_239) ⟨by decide, by decide, by decide +kernel⟩ ⟨Nat.le_of_ble_eq_true rfl, Nat.le_of_ble_eq_true rfl⟩, (htx _ kw_6_1), (htx _ kp_M_bad)⟩ ⟨xPre_blind, va_recv hK hP (ci := 5) rfl (q0 := 0) rfl, (fun U hU hW => ⟨rfl, xPre_of hZ hS hFc hP hD hK U hU hW⟩)⟩ rfl rfl hl.1 rfl (xm_room (Nat.le_of_ble_eq_true rfl)) dM_members_96 ⟨hm9.1, hm9.2⟩) hS hFc (fun q _ h => hFc q h) (fun E ce q9 u9 t H1 locs ht hvm hr9 hB hz1 hk1 hS hce hcv hcl => ?_)
            obtain ⟨rfl, hP1, hK1, hD1⟩ := hB
            rw [ht] at hP1
            obtain ⟨ad11, gd12, vad13⟩ := u9
            obtain ⟨hv14, hn15⟩ := hr9
            have hP : va_P D xcl (xMw cT aM ad11 rd gd12 vad13 o5.2.2.2 []) H1 := hP1
            have hD : va_D A (xMw cT aM ad11 rd gd12 vad13 o5.2.2.2 []) := hD1.weaken (fun k q _ h => hFc q.1 h)
            generalize H1 = H at hP hS hce ⊢
            have hE9 : ∀ p, p < xct st → vad13 p = vad p := fun p h => (hv14 p (Nat.lt_of_lt_of_le h hN)).trans (hE p h)
            have hE := hE9
            have hN : xct st ≤ xct o5.2.2.2 := Nat.le_trans hN hn15
            have ev16 : xv vadL y3 = xv vad13 y3 := xvE hv14 hg8
            have hl : lv_has ls 6 [(4, .int y4), (3, xv vad13 y3), (2, .int y2), (1, .int y1), (0, .ref aM)] := by first | exact hl | ((try (rw [← ev16])); exact hl)
            obtain rfl := Option.some.inj hf
            exact vx_out (E := "java/lang/UnsupportedOperationException") (fun x h => (hne x h).elim) hlocks hce hcv hcl (fun t ht ha => ⟨(ad11, gd12, vad13), ⟨hE, hN⟩, ⟨rfl, by rw [ht]; exact hP, va_K.moved ha hK, hD⟩, hS.F ht⟩) hS.2.2 (Nat.le_refl _) (Nat.le_refl _)
          rw [if_neg hk7] at hf
          exact nomatch hf
  refine lv_aload_n hx hb dM_members_0 rfl (lv_at hl 0 rfl) ?_
  refine xm_get (v := .int (xsi st 12)) hx hb htx hown hK hP 12 (by decide) rfl (htx _ kw_5_99) rfl dM_members_1 ?_
  refine lv_istore_n (lv' := [(1, .int (xsi st 12)), (0, .ref aM)]) hx hb dM_members_4 rfl hl (by decide) rfl (fun ls hl => ?_)
  refine lv_aload_n hx hb dM_members_5 rfl (lv_at hl 1 rfl) ?_
  obtain ⟨o1, hq2, hf⟩ := xbind hf
  have hFc := xm_free hD hS hA
  refine va_callv (va_runV (C := "ValueBenchModel") (As := []) (rest := []) ⟨hx, hb, hml, hown, htx⟩ (gM_blanks l hl9 D cT aK aV s.heap.size n aM ad rd gd vad st o1 hq2) ⟨callB_of 0 htx (xw_goodC kw_5_229) rfl rfl rfl (htx _ kw_1_5) (htx _ kw_5_226) ⟨by decide, by decide, by decide +kernel⟩ ⟨Nat.le_of_ble_eq_true rfl, Nat.le_of_ble_eq_true rfl⟩, (htx _ kw_5_228), (htx _ kp_M_blanks)⟩ ⟨xPre_blind, va_recv hK hP (ci := 5) rfl (q0 := 0) rfl, (fun U hU hW => ⟨rfl, xPre_of hZ hS hFc hP hD hK U hU hW⟩)⟩ rfl rfl hl.1 rfl (xm_room (Nat.le_of_ble_eq_true rfl)) dM_members_6 ⟨Nat.zero_le _, Nat.zero_le _⟩) hS (fun q _ h => hFc q h) hFc (fun u9 t H1 locs ht hvm hr9 hB hz1 hk1 hS => ?_)
  obtain ⟨hP1, hK1, hD1⟩ := hB
  rw [ht] at hP1
  have hn4 := hr9
  have hN : xct st ≤ xct o1 := Nat.le_trans hN hn4
  have hP : va_P D xcl (xMw cT aM ad rd gd vad o1 []) H1 := hP1
  have hD : va_D A (xMw cT aM ad rd gd vad o1 []) := hD1.weaken (fun k q _ h => hFc q.1 h)
  generalize H1 = H at hP hS ⊢
  refine W.eq (g2 := F0 m 9 ls []) (by first | rfl | (skip; rfl)) ?_
  refine lv_aload_n hx hb dM_members_9 rfl (lv_at hl 1 rfl) ?_
  obtain ⟨o5, hq6, hf⟩ := xbind hf
  have hFc := xm_free hD hS hA
  refine va_calli (va_runV (C := "ValueBenchModel") (As := []) (rest := []) ⟨hx, hb, hml, hown, htx⟩ (gM_peek l hl9 D cT aK aV H.size n aM ad rd gd vad o1 o5 hq6) ⟨callB_of 0 htx (xw_goodC kw_5_233) rfl rfl rfl (htx _ kw_1_5) (htx _ kw_5_230) ⟨by decide, by decide, by decide +kernel⟩ ⟨Nat.le_of_ble_eq_true rfl, Nat.le_of_ble_eq_true rfl⟩, (htx _ kw_5_232), (htx _ kp_M_peek)⟩ ⟨xPre_blind, va_recv hK hP (ci := 5) rfl (q0 := 0) rfl, (fun U hU hW => ⟨rfl, xPre_of hZ hS hFc hP hD hK U hU hW⟩)⟩ rfl rfl hl.1 rfl (xm_room (Nat.le_of_ble_eq_true rfl)) dM_members_10 ⟨Nat.zero_le _, Nat.zero_le _⟩) hS (fun q _ h => hFc q h) hFc (fun r7 u9 t H1 locs ht hvm hr9 hB hz1 hk1 hS => ?_)
  obtain ⟨hP1, hK1, hD1⟩ := hB
  rw [ht] at hP1
  have hP : va_P D xcl (xMw cT aM ad rd gd vad o1 []) H1 := hP1
  have hD : va_D A (xMw cT aM ad rd gd vad o1 []) := hD1.weaken (fun k q _ h => hFc q.1 h)
  generalize H1 = H at hP hS ⊢
  rw [hr9]
  refine W.eq (g2 := F0 m 13 ls [.int o5]) (by first | rfl | (skip; rfl)) ?_
  refine lv_bipush (v := 125) hx hb dM_members_13 (by decide) ?_
  refine lv_icmp_ne (tgt := 36) hx hb dM_members_15 (by decide) (fun hc => ?_) (fun hc => ?_)
  · rw [if_neg hc] at hf
    exact key n (1, (xsi st 12), 0, 0, 0, o1, 0, 0) _ _ ls (Or.inl ⟨ad, gd, vad, rfl, hf, hP, hD, hS, lv_sub hl [0, 1] rfl, hE, hN⟩)
  · rw [if_pos hc] at hf
    refine lv_aload_n hx hb dM_members_18 rfl (lv_at hl 1 rfl) ?_
    refine lv_dup hx hb dM_members_19 rfl ?_
    refine xm_get (v := .int (xsi o1 16)) hx hb htx hown hK hP 16 (by decide) rfl (htx _ kw_5_103) rfl dM_members_20 ?_
    refine lv_iconst (v := 1) hx hb dM_members_23 (by decide) ?_
    refine lv_iadd hx hb dM_members_24 ?_
    refine xm_put (v := .int ((xsi o1 16) + (1 : Int32))) (W' := (xMw cT aM ad rd gd vad (xsI o1 16 ((xsi o1 16) + (1 : Int32))) [])) (ty := .int) hx hb htx hown hK hP hD hS 16 (by decide) rfl (htx _ kw_5_103) rfl rfl (by decide +kernel) rfl rfl dM_members_25 (fun H locs hP hD hS => ?_)
    refine lv_aload_n hx hb dM_members_28 rfl (lv_at hl 1 rfl) ?_
    refine lv_bipush (v := 6) hx hb dM_members_29 (by decide) ?_
    refine lv_iload_n hx hb dM_members_31 rfl (lv_at hl 0 rfl) ?_
    obtain ⟨o8, hq9, hf⟩ := xbind hf
    by_cases hk10 : o8.1 = 0
    · rw [if_pos hk10] at hf
      obtain ⟨hm11, hf⟩ := xmoE hf
      have hFc := xm_free hD hS hA
      refine va_callq (va_runV (C := "ValueBenchModel") (As := [.int 6, .int (xsi st 12)]) (rest := []) ⟨hx, hb, hml, hown, htx⟩ (gM_whole l hl9 D cT aK aV H.size n aM ad rd gd vad (xsI o1 16 ((xsi o1 16) + (1 : Int32))) (6 : Int32) (xsi st 12) o8 hq9 hk10) ⟨callB_of 2 htx (xw_goodC kw_6_106) rfl rfl rfl (htx _ kw_1_5) (htx _ kw_6_103) ⟨by decide, by decide, by decide +kernel⟩ ⟨Nat.le_of_ble_eq_true rfl, Nat.le_of_ble_eq_true rfl⟩, (htx _ kw_6_105), (htx _ kp_M_whole)⟩ ⟨xPre_blind, va_recv hK hP (ci := 5) rfl (q0 := 0) rfl, (fun U hU hW => ⟨rfl, xPre_of hZ hS hFc hP hD hK U hU hW⟩)⟩ rfl rfl hl.1 rfl (xm_room (Nat.le_of_ble_eq_true rfl)) dM_members_32 ⟨hm11.1, hm11.2⟩) hS (fun q _ h => hFc q h) hFc (fun r12 u9 t H1 locs ht hvm hr9 hB hz1 hk1 hS => ?_)
      obtain ⟨hP1, hK1, hD1⟩ := hB
      rw [ht] at hP1
      obtain ⟨ad13, gd14, vad15⟩ := u9
      obtain ⟨hr9, hv16, hn17⟩ := hr9
      have hP : va_P D xcl (xMw cT aM ad13 rd gd14 vad15 o8.2.2.2.2 []) H1 := hP1
      have hD : va_D A (xMw cT aM ad13 rd gd14 vad15 o8.2.2.2.2 []) := hD1.weaken (fun k q _ h => hFc q.1 h)
      generalize H1 = H at hP hS ⊢
      have hE9 : ∀ p, p < xct st → vad15 p = vad p := fun p h => (hv16 p (Nat.lt_of_lt_of_le h hN)).trans (hE p h)
      have hE := hE9
      have hN : xct st ≤ xct o8.2.2.2.2 := Nat.le_trans hN hn17
      rw [hr9]
      refine W.eq (g2 := F0 m 35 ls [xv vad15 o8.2.2.2.1]) (by first | rfl | (skip; rfl)) ?_
      obtain rfl := Option.some.inj hf
      exact absurd (show (0 : Nat) = 2 from hkd) (by decide)
    rw [if_neg hk10] at hf
    by_cases hk18 : o8.1 = 1
    · rw [if_pos hk18] at hf
      obtain ⟨hm19, hf⟩ := xmoE hf
      obtain rfl := Option.some.inj hf
      exact absurd (show (1 : Nat) = 2 from hkd) (by decide)
    rw [if_neg hk18] at hf
    exact nomatch hf
set_option maxHeartbeats 400000000 in
set_option maxRecDepth 100000 in
theorem gM_members_3 (l : Launch) (hl9 : l.stackTraces = false) (D : va_G) (cT : Nat → ClassId) (aK aV : Nat → Nat) (fr lo : Nat) (rec : xS → Option (Nat × Nat × Nat × Nat × xS)) (hrec : ∀ (sz aM : Nat) (ad rd gd vad : Nat → Nat) (st : xS) (out : Nat × Nat × Nat × Nat × xS), rec st = some out → (out.1 = 0 → xMet l yM_value wyM_value fr out.2.1 out.2.2.1 lo D cT aK aV sz [.ref aM] (xMw cT aM ad rd gd vad st []) (fun A => va_Qq (fun (r : Option Nat) (u : xU) => r = xca u.2.2 out.2.2.2.1 ∧ xE vad st out.2.2.2.2 u) (fun u t => xB D xcl cT A (xMw cT aM u.1 rd u.2.1 u.2.2 out.2.2.2.2 []) t) A)) ∧ (out.1 = 1 → xMetY l yM_value wyM_value fr out.2.1 out.2.2.1 lo D cT aK aV sz [.ref aM] (xMw cT aM ad rd gd vad st []) "java/lang/UnsupportedOperationException" (fun u => xE vad st out.2.2.2.2 u) (fun A u t => xB D xcl cT A (xMw cT aM u.1 rd u.2.1 u.2.2 out.2.2.2.2 []) t)) ∧ (out.1 = 2 → xMetY l yM_value wyM_value fr out.2.1 out.2.2.1 lo D cT aK aV sz [.ref aM] (xMw cT aM ad rd gd vad st []) "java/lang/IndexOutOfBoundsException" (fun u => xE vad st out.2.2.2.2 u) (fun A u t => xB D xcl cT A (xMw cT aM u.1 rd u.2.1 u.2.2 out.2.2.2.2 []) t)) ∧ (out.1 = 3 → xMetY l yM_value wyM_value fr out.2.1 out.2.2.1 lo D cT aK aV sz [.ref aM] (xMw cT aM ad rd gd vad st []) "java/lang/ArithmeticException" (fun u => xE vad st out.2.2.2.2 u) (fun A u t => xB D xcl cT A (xMw cT aM u.1 rd u.2.1 u.2.2 out.2.2.2.2 []) t))) (sz n : Nat) (aM : Nat) (ad rd gd vad : Nat → Nat) (st : xS) (out : Nat × Nat × Nat × Nat × xS) (hf : fM_members rec n st = some out) (hkd : out.1 = 3) : xMetY l yM_members wyM_members (fr + 9) out.2.1 out.2.2.1 (lo + 167) D cT aK aV sz [.ref aM] (xMw cT aM ad rd gd vad st []) "java/lang/ArithmeticException" (fun u => xE vad st out.2.2.2.2 u) (fun A u t => xB D xcl cT A (xMw cT aM u.1 rd u.2.1 u.2.2 out.2.2.2.2 []) t) := by
  refine vx_ofW (cc := prog_13_method_40_code) (maxL := 6) (ret := (some (.object "ValueBenchModel$V"))) (by decide) rfl ?_
  intro p e s m args below meth c s₁ B hml hne hv
  obtain ⟨rfl, hsz, hZ, hP, hK, hD0⟩ := hv
  have hx := B.exec
  have hb := B.bytes
  have hr := B.returns
  have hts := atoms_spec (ws := wyM_members) B.pre
  have htx := fun w h => hts w (List.mem_cons_of_mem _ h)
  have hown : s.vm.findClass "ValueBenchModel" = some m.cls := findClass_of_methodNamed B.named
  have hlocks := B.notSynchronized
  subst hsz
  have hD := hD0.self (sz := s.heap.size)
  generalize hAe : va_A (xMw cT aM ad rd gd vad st []) s.heap.size = A at hD hZ ⊢
  have hA : ∀ q : Nat, s.heap.size ≤ q → A q := fun q h => by rw [← hAe]; exact Or.inr h
  have hS : va_S A s.heap s.heap [] := va_S.rf
  have hl := lv_entry ([.ref aM]) (n := 6) (by simp [lg_sl, xvcat, xrscat, xcI, xcL, xcR, xcN])
  rw [show lv_args 0 [.ref aM] = [(0, .ref aM)] from by simp [lv_args, xvcat, xrscat, xcI, xcL, xcR, xcN]] at hl
  rw [lg_entry_eq]
  generalize (lg_sl ([.ref aM]) ++ List.replicate (6 - (lg_sl ([.ref aM])).length) Slot.unset).toArray = ls at hl ⊢
  have hl : lv_has ls 6 [(0, .ref aM)] := hl
  have hE : ∀ p, p < xct st → vad p = vad p := fun _ _ => rfl
  have hN : xct st ≤ xct st := Nat.le_refl _
  unfold fM_members at hf
  refine xloopM (σ := Nat × Int32 × Int32 × Nat × Int32 × xS × Nat × Nat) (fun n x H locs ls => (∃ (adL gdL vadL : Nat → Nat), x.1 = 1 ∧ fM_members_b rec n x.1 x.2.1 x.2.2.1 x.2.2.2.1 x.2.2.2.2.1 x.2.2.2.2.2.1 x.2.2.2.2.2.2.1 x.2.2.2.2.2.2.2 = some out ∧ va_P D xcl (xMw cT aM adL rd gdL vadL x.2.2.2.2.2.1 []) H ∧ va_D A (xMw cT aM adL rd gdL vadL x.2.2.2.2.2.1 []) ∧ va_S A s.heap H locs ∧ lv_has ls 6 [(1, .int x.2.1), (0, .ref aM)] ∧ (∀ p, p < xct st → vadL p = vad p) ∧ xct st ≤ xct x.2.2.2.2.2.1) ∨ (∃ (adL gdL vadL : Nat → Nat), x.1 = 2 ∧ fM_members_b rec n x.1 x.2.1 x.2.2.1 x.2.2.2.1 x.2.2.2.2.1 x.2.2.2.2.2.1 x.2.2.2.2.2.2.1 x.2.2.2.2.2.2.2 = some out ∧ va_P D xcl (xMw cT aM adL rd gdL vadL x.2.2.2.2.2.1 []) H ∧ va_D A (xMw cT aM adL rd gdL vadL x.2.2.2.2.2.1 []) ∧ va_S A s.heap H locs ∧ lv_has ls 6 [(4, .int x.2.2.1), (3, xv vadL x.2.2.2.1), (2, .int x.2.2.2.2.1), (1, .int x.2.1), (0, .ref aM)] ∧ (∀ p, p < xct st → vadL p = vad p) ∧ xct st ≤ xct x.2.2.2.2.2.1)) (fun x => if x.1 = 1 then 36 else 70) (fun x => x.2.2.2.2.2.2.1) (fun x => x.2.2.2.2.2.2.2) (fun x H locs ls h => by rcases h with h | h; (obtain ⟨_, _, _, h⟩ := h; exact absurd h.2.1 (by rw [fM_members_b]; exact fun h => nomatch h)); (obtain ⟨_, _, _, h⟩ := h; exact absurd h.2.1 (by rw [fM_members_b]; exact fun h => nomatch h))) (fun n ih x H locs ls hv => ?_) (fun key => ?_)
  · obtain ⟨lb, y1, y4, y3, y2, ws9, wc, wn⟩ := x
    rcases hv with ⟨adL, gdL, vadL, hj, hf, hP, hD, hS, hl, hE, hN⟩ | ⟨adL, gdL, vadL, hj, hf, hP, hD, hS, hl, hE, hN⟩
    · subst hj
      have hf : fM_members_b rec (n + 1) 1 y1 y4 y3 y2 ws9 wc wn = some out := hf
      rw [fM_members_b, if_pos rfl] at hf
      obtain ⟨hP, hD⟩ : xPD D xcl A (xMw cT aM adL rd gdL vadL ws9 []) H := ⟨hP, hD⟩
      have hl : lv_has ls 6 [(1, .int y1), (0, .ref aM)] := hl
      refine W.eq (g2 := F0 m 36 ls []) rfl ?_
      show W p l e _ s m _ below meth c H locs wc wn _ _
      obtain ⟨hm0, hf⟩ := xmoE hf
      refine lv_aload_n hx hb dM_members_36 rfl (lv_at hl 1 rfl) ?_
      obtain ⟨o1, hq2, hf⟩ := xbind hf
      have hFc := xm_free hD hS hA
      refine va_callv (va_runV (C := "ValueBenchModel") (As := []) (rest := []) ⟨hx, hb, hml, hown, htx⟩ (gM_blanks l hl9 D cT aK aV H.size n aM adL rd gdL vadL ws9 o1 hq2) ⟨callB_of 0 htx (xw_goodC kw_5_229) rfl rfl rfl (htx _ kw_1_5) (htx _ kw_5_226) ⟨by decide, by decide, by decide +kernel⟩ ⟨Nat.le_of_ble_eq_true rfl, Nat.le_of_ble_eq_true rfl⟩, (htx _ kw_5_228), (htx _ kp_M_blanks)⟩ ⟨xPre_blind, va_recv hK hP (ci := 5) rfl (q0 := 0) rfl, (fun U hU hW => ⟨rfl, xPre_of hZ hS hFc hP hD hK U hU hW⟩)⟩ rfl rfl hl.1 rfl (xm_room (Nat.le_of_ble_eq_true rfl)) dM_members_37 ⟨hm0.1, hm0.2⟩) hS (fun q _ h => hFc q h) hFc (fun u9 t H1 locs ht hvm hr9 hB hz1 hk1 hS => ?_)
      obtain ⟨hP1, hK1, hD1⟩ := hB
      rw [ht] at hP1
      have hn4 := hr9
      have hN : xct st ≤ xct o1 := Nat.le_trans hN hn4
      have hP : va_P D xcl (xMw cT aM adL rd gdL vadL o1 []) H1 := hP1
      have hD : va_D A (xMw cT aM adL rd gdL vadL o1 []) := hD1.weaken (fun k q _ h => hFc q.1 h)
      generalize H1 = H at hP hS ⊢
      refine W.eq (g2 := F0 m 40 ls []) (by first | rfl | (skip; rfl)) ?_
      refine lv_aload_n hx hb dM_members_40 rfl (lv_at hl 1 rfl) ?_
      refine xm_get (v := .int (xsi o1 16)) hx hb htx hown hK hP 16 (by decide) rfl (htx _ kw_5_103) rfl dM_members_41 ?_
      refine lv_istore_n (lv' := [(2, .int (xsi o1 16)), (1, .int y1), (0, .ref aM)]) hx hb dM_members_44 rfl hl (by decide) rfl (fun ls hl => ?_)
      refine lv_aload_n hx hb dM_members_45 rfl (lv_at hl 2 rfl) ?_
      obtain ⟨o5, hq6, hf⟩ := xbind hf
      have hFc := xm_free hD hS hA
      refine va_calli (va_runV (C := "ValueBenchModel") (As := []) (rest := []) ⟨hx, hb, hml, hown, htx⟩ (gM_peek l hl9 D cT aK aV H.size n aM adL rd gdL vadL o1 o5 hq6) ⟨callB_of 0 htx (xw_goodC kw_5_233) rfl rfl rfl (htx _ kw_1_5) (htx _ kw_5_230) ⟨by decide, by decide, by decide +kernel⟩ ⟨Nat.le_of_ble_eq_true rfl, Nat.le_of_ble_eq_true rfl⟩, (htx _ kw_5_232), (htx _ kp_M_peek)⟩ ⟨xPre_blind, va_recv hK hP (ci := 5) rfl (q0 := 0) rfl, (fun U hU hW => ⟨rfl, xPre_of hZ hS hFc hP hD hK U hU hW⟩)⟩ rfl rfl hl.1 rfl (xm_room (Nat.le_of_ble_eq_true rfl)) dM_members_46 ⟨hm0.1, hm0.2⟩) hS (fun q _ h => hFc q h) hFc (fun r7 u9 t H1 locs ht hvm hr9 hB hz1 hk1 hS => ?_)
      obtain ⟨hP1, hK1, hD1⟩ := hB
      rw [ht] at hP1
      have hP : va_P D xcl (xMw cT aM adL rd gdL vadL o1 []) H1 := hP1
      have hD : va_D A (xMw cT aM adL rd gdL vadL o1 []) := hD1.weaken (fun k q _ h => hFc q.1 h)
      generalize H1 = H at hP hS ⊢
      rw [hr9]
      refine W.eq (g2 := F0 m 49 ls [.int o5]) (by first | rfl | (skip; rfl)) ?_
      refine lv_bipush (v := 34) hx hb dM_members_49 (by decide) ?_
      refine lv_icmp_eq (tgt := 62) hx hb dM_members_51 (by decide) (fun hc => ?_) (fun hc => ?_)
      · rw [if_pos hc] at hf
        refine lv_aload_n hx hb dM_members_62 rfl (lv_at hl 2 rfl) ?_
        obtain ⟨o8, hq9, hf⟩ := xbind hf
        by_cases hk10 : o8.1 = 0
        · rw [if_pos hk10] at hf
          obtain ⟨hm11, hf⟩ := xmoE hf
          have hFc := xm_free hD hS hA
          refine va_callq (va_runV (C := "ValueBenchModel") (As := []) (rest := []) ⟨hx, hb, hml, hown, htx⟩ (gM_jsonString l hl9 D cT aK aV H.size n aM adL rd gdL vadL o1 o8 hq9 hk10) ⟨callB_of 0 htx (xw_goodC kw_6_46) rfl rfl rfl (htx _ kw_1_5) (htx _ kw_6_43) ⟨by decide, by decide, by decide +kernel⟩ ⟨Nat.le_of_ble_eq_true rfl, Nat.le_of_ble_eq_true rfl⟩, (htx _ kw_6_45), (htx _ kp_M_jsonString)⟩ ⟨xPre_blind, va_recv hK hP (ci := 5) rfl (q0 := 0) rfl, (fun U hU hW => ⟨rfl, xPre_of hZ hS hFc hP hD hK U hU hW⟩)⟩ rfl rfl hl.1 rfl (xm_room (Nat.le_of_ble_eq_true rfl)) dM_members_63 ⟨hm11.1, hm11.2⟩) hS (fun q _ h => hFc q h) hFc (fun r12 u9 t H1 locs ht hvm hr9 hB hz1 hk1 hS => ?_)
          obtain ⟨hP1, hK1, hD1⟩ := hB
          rw [ht] at hP1
          obtain ⟨ad13, gd14, vad15⟩ := u9
          obtain ⟨hr9, hv16, hn17⟩ := hr9
          have hP : va_P D xcl (xMw cT aM ad13 rd gd14 vad15 o8.2.2.2.2 []) H1 := hP1
          have hD : va_D A (xMw cT aM ad13 rd gd14 vad15 o8.2.2.2.2 []) := hD1.weaken (fun k q _ h => hFc q.1 h)
          generalize H1 = H at hP hS ⊢
          have hE9 : ∀ p, p < xct st → vad15 p = vad p := fun p h => (hv16 p (Nat.lt_of_lt_of_le h hN)).trans (hE p h)
          have hE := hE9
          have hN : xct st ≤ xct o8.2.2.2.2 := Nat.le_trans hN hn17
          rw [hr9]
          refine W.eq (g2 := F0 m 66 ls [xv vad15 o8.2.2.2.1]) (by first | rfl | (skip; rfl)) ?_
          refine xm_astore_n (lv' := [(3, xv vad15 o8.2.2.2.1), (2, .int (xsi o1 16)), (1, .int y1), (0, .ref aM)]) hx hb (xvor _ _) dM_members_66 rfl hl (by decide) rfl (fun ls hl => ?_)
          refine lv_iload_n hx hb dM_members_67 rfl (lv_at hl 2 rfl) ?_
          refine lv_istore (lv' := [(4, .int y1), (3, xv vad15 o8.2.2.2.1), (2, .int (xsi o1 16)), (1, .int y1), (0, .ref aM)]) hx hb dM_members_68 hl (by decide) (by simp only [List.filter, xvcat, xrscat, xcI, xcL, xcR, xcN]; rfl) (fun ls hl => ?_)
          exact ih (2, y1, y1, o8.2.2.2.1, (xsi o1 16), o8.2.2.2.2, (wc + o8.2.1), (wn + o8.2.2.1)) _ _ ls (Or.inr (⟨ad13, gd14, vad15, rfl, hf, hP, hD, hS, lv_sub hl [0, 1, 2, 3, 4] rfl, hE, hN⟩))
        rw [if_neg hk10] at hf
        by_cases hk18 : o8.1 = 1
        · rw [if_pos hk18] at hf
          obtain ⟨hm19, hf⟩ := xmoE hf
          obtain rfl := Option.some.inj hf
          exact absurd (show (1 : Nat) = 3 from hkd) (by decide)
        rw [if_neg hk18] at hf
        by_cases hk26 : o8.1 = 2
        · rw [if_pos hk26] at hf
          obtain ⟨hm27, hf⟩ := xmoE hf
          obtain rfl := Option.some.inj hf
          exact absurd (show (2 : Nat) = 3 from hkd) (by decide)
        rw [if_neg hk26] at hf
        exact nomatch hf
      · rw [if_neg hc] at hf
        refine lv_aload_n hx hb dM_members_54 rfl (lv_at hl 2 rfl) ?_
        refine lv_aload_n hx hb dM_members_55 rfl (lv_at hl 2 rfl) ?_
        refine xm_get (v := .int (xsi o1 16)) hx hb htx hown hK hP 16 (by decide) rfl (htx _ kw_5_103) rfl dM_members_56 ?_
        obtain ⟨o8, hq9, hf⟩ := xbind hf
        by_cases hk10 : o8.1 = 1
        · rw [if_pos hk10] at hf
          obtain ⟨hm11, hf⟩ := xmoE hf
          obtain rfl := Option.some.inj hf
          exact absurd (show (2 : Nat) = 3 from hkd) (by decide)
        rw [if_neg hk10] at hf
        exact nomatch hf
    · subst hj
      have hf : fM_members_b rec (n + 1) 2 y1 y4 y3 y2 ws9 wc wn = some out := hf
      rw [fM_members_b, if_neg (by decide)] at hf
      obtain ⟨hP, hD⟩ : xPD D xcl A (xMw cT aM adL rd gdL vadL ws9 []) H := ⟨hP, hD⟩
      have hl : lv_has ls 6 [(4, .int y4), (3, xv vadL y3), (2, .int y2), (1, .int y1), (0, .ref aM)] := hl
      refine W.eq (g2 := F0 m 70 ls []) rfl ?_
      show W p l e _ s m _ below meth c H locs wc wn _ _
      obtain ⟨hm0, hf⟩ := xmoE hf
      refine lv_iload hx hb dM_members_70 (lv_at hl 0 rfl) ?_
      refine lv_aload_n hx hb dM_members_72 rfl (lv_at hl 4 rfl) ?_
      refine xm_get (v := .int (xsi ws9 12)) hx hb htx hown hK hP 12 (by decide) rfl (htx _ kw_5_99) rfl dM_members_73 ?_
      refine lv_icmp_ge (tgt := 105) hx hb dM_members_76 (by decide) (fun hc => ?_) (fun hc => ?_)
      · rw [if_pos hc] at hf
        refine lv_aload_n hx hb dM_members_105 rfl (lv_at hl 4 rfl) ?_
        obtain ⟨o1, hq2, hf⟩ := xbind hf
        have hFc := xm_free hD hS hA
        refine va_callv (va_runV (C := "ValueBenchModel") (As := []) (rest := []) ⟨hx, hb, hml, hown, htx⟩ (gM_blanks l hl9 D cT aK aV H.size n aM adL rd gdL vadL ws9 o1 hq2) ⟨callB_of 0 htx (xw_goodC kw_5_229) rfl rfl rfl (htx _ kw_1_5) (htx _ kw_5_226) ⟨by decide, by decide, by decide +kernel⟩ ⟨Nat.le_of_ble_eq_true rfl, Nat.le_of_ble_eq_true rfl⟩, (htx _ kw_5_228), (htx _ kp_M_blanks)⟩ ⟨xPre_blind, va_recv hK hP (ci := 5) rfl (q0 := 0) rfl, (fun U hU hW => ⟨rfl, xPre_of hZ hS hFc hP hD hK U hU hW⟩)⟩ rfl rfl hl.1 rfl (xm_room (Nat.le_of_ble_eq_true rfl)) dM_members_106 ⟨hm0.1, hm0.2⟩) hS (fun q _ h => hFc q h) hFc (fun u9 t H1 locs ht hvm hr9 hB hz1 hk1 hS => ?_)
        obtain ⟨hP1, hK1, hD1⟩ := hB
        rw [ht] at hP1
        have hn4 := hr9
        have hN : xct st ≤ xct o1 := Nat.le_trans hN hn4
        have hP : va_P D xcl (xMw cT aM adL rd gdL vadL o1 []) H1 := hP1
        have hD : va_D A (xMw cT aM adL rd gdL vadL o1 []) := hD1.weaken (fun k q _ h => hFc q.1 h)
        generalize H1 = H at hP hS ⊢
        refine W.eq (g2 := F0 m 109 ls []) (by first | rfl | (skip; rfl)) ?_
        refine lv_aload_n hx hb dM_members_109 rfl (lv_at hl 4 rfl) ?_
        obtain ⟨o5, hq6, hf⟩ := xbind hf
        have hFc := xm_free hD hS hA
        refine va_calli (va_runV (C := "ValueBenchModel") (As := []) (rest := []) ⟨hx, hb, hml, hown, htx⟩ (gM_peek l hl9 D cT aK aV H.size n aM adL rd gdL vadL o1 o5 hq6) ⟨callB_of 0 htx (xw_goodC kw_5_233) rfl rfl rfl (htx _ kw_1_5) (htx _ kw_5_230) ⟨by decide, by decide, by decide +kernel⟩ ⟨Nat.le_of_ble_eq_true rfl, Nat.le_of_ble_eq_true rfl⟩, (htx _ kw_5_232), (htx _ kp_M_peek)⟩ ⟨xPre_blind, va_recv hK hP (ci := 5) rfl (q0 := 0) rfl, (fun U hU hW => ⟨rfl, xPre_of hZ hS hFc hP hD hK U hU hW⟩)⟩ rfl rfl hl.1 rfl (xm_room (Nat.le_of_ble_eq_true rfl)) dM_members_110 ⟨hm0.1, hm0.2⟩) hS (fun q _ h => hFc q h) hFc (fun r7 u9 t H1 locs ht hvm hr9 hB hz1 hk1 hS => ?_)
        obtain ⟨hP1, hK1, hD1⟩ := hB
        rw [ht] at hP1
        have hP : va_P D xcl (xMw cT aM adL rd gdL vadL o1 []) H1 := hP1
        have hD : va_D A (xMw cT aM adL rd gdL vadL o1 []) := hD1.weaken (fun k q _ h => hFc q.1 h)
        generalize H1 = H at hP hS ⊢
        rw [hr9]
        refine W.eq (g2 := F0 m 113 ls [.int o5]) (by first | rfl | (skip; rfl)) ?_
        refine lv_bipush (v := 58) hx hb dM_members_113 (by decide) ?_
        refine lv_icmp_eq (tgt := 126) hx hb dM_members_115 (by decide) (fun hc => ?_) (fun hc => ?_)
        · rw [if_pos hc] at hf
          refine lv_aload_n hx hb dM_members_126 rfl (lv_at hl 4 rfl) ?_
          refine lv_dup hx hb dM_members_127 rfl ?_
          refine xm_get (v := .int (xsi o1 16)) hx hb htx hown hK hP 16 (by decide) rfl (htx _ kw_5_103) rfl dM_members_128 ?_
          refine lv_iconst (v := 1) hx hb dM_members_131 (by decide) ?_
          refine lv_iadd hx hb dM_members_132 ?_
          refine xm_put (v := .int ((xsi o1 16) + (1 : Int32))) (W' := (xMw cT aM adL rd gdL vadL (xsI o1 16 ((xsi o1 16) + (1 : Int32))) [])) (ty := .int) hx hb htx hown hK hP hD hS 16 (by decide) rfl (htx _ kw_5_103) rfl rfl (by decide +kernel) rfl rfl dM_members_133 (fun H locs hP hD hS => ?_)
          refine lv_aload_n hx hb dM_members_136 rfl (lv_at hl 4 rfl) ?_
          obtain ⟨o8, hq9, hf⟩ := xbind hf
          by_cases hk10 : o8.1 = 0
          · rw [if_pos hk10] at hf
            obtain ⟨hg11, hf⟩ := xifn hf
            obtain ⟨hm12, hf⟩ := xmoE hf
            have hFc := xm_free hD hS hA
            refine va_callq (va_runV (C := "ValueBenchModel") (As := []) (rest := []) ⟨hx, hb, hml, hown, htx⟩ ((hrec H.size aM adL rd gdL vadL (xsI o1 16 ((xsi o1 16) + (1 : Int32))) o8 hq9).1 hk10) ⟨callB_of 0 htx (xw_goodC kw_5_225) rfl rfl rfl (htx _ kw_1_5) (htx _ kw_5_222) ⟨by decide, by decide, by decide +kernel⟩ ⟨(by show (fr) + 1 ≤ fr + 9; omega), (by show 8 + (3 + 11) + (lo) ≤ lo + 167; omega)⟩, (htx _ kw_5_224), (htx _ kp_M_value)⟩ ⟨xPre_blind, va_recv hK hP (ci := 5) rfl (q0 := 0) rfl, (fun U hU hW => ⟨rfl, xPre_of hZ hS hFc hP hD hK U hU hW⟩)⟩ rfl rfl hl.1 rfl (xm_room (Nat.le_of_ble_eq_true rfl)) dM_members_137 ⟨hm12.1, hm12.2⟩) hS (fun q _ h => hFc q h) hFc (fun r13 u9 t H1 locs ht hvm hr9 hB hz1 hk1 hS => ?_)
            obtain ⟨hP1, hK1, hD1⟩ := hB
            rw [ht] at hP1
            obtain ⟨ad14, gd15, vad16⟩ := u9
            obtain ⟨hr9, hv17, hn18⟩ := hr9
            have hP : va_P D xcl (xMw cT aM ad14 rd gd15 vad16 o8.2.2.2.2 []) H1 := hP1
            have hD : va_D A (xMw cT aM ad14 rd gd15 vad16 o8.2.2.2.2 []) := hD1.weaken (fun k q _ h => hFc q.1 h)
            generalize H1 = H at hP hS ⊢
            have hE9 : ∀ p, p < xct st → vad16 p = vad p := fun p h => (hv17 p (Nat.lt_of_lt_of_le h hN)).trans (hE p h)
            have hE := hE9
            have hN : xct st ≤ xct o8.2.2.2.2 := Nat.le_trans hN hn18
            have ev19 : xv vadL y3 = xv vad16 y3 := xvE hv17 hg11
            have hl : lv_has ls 6 [(4, .int y4), (3, xv vad16 y3), (2, .int y2), (1, .int y1), (0, .ref aM)] := by first | exact hl | ((try (rw [← ev19])); exact hl)
            rw [hr9]
            refine W.eq (g2 := F0 m 140 ls [xv vad16 o8.2.2.2.1]) (by first | rfl | ((try (rw [ev19])); rfl)) ?_
            refine xm_astore (lv' := [(4, xv vad16 o8.2.2.2.1), (3, xv vad16 y3), (2, .int y2), (1, .int y1), (0, .ref aM)]) hx hb (xvor _ _) dM_members_140 hl (by decide) (by simp only [List.filter, xvcat, xrscat, xcI, xcL, xcR, xcN]; rfl) (fun ls hl => ?_)
            refine lv_aload_n hx hb dM_members_142 rfl (lv_at hl 4 rfl) ?_
            refine xm_aload_n hx hb (xvor _ _) dM_members_143 rfl (lv_at hl 1 rfl) ?_
            refine xm_aload hx hb (xvor _ _) dM_members_144 (lv_at hl 0 rfl) ?_
            obtain ⟨o20, hq21, hf⟩ := xbind hf
            obtain ⟨hg22, hf⟩ := xifn hf
            obtain ⟨hg23, hf⟩ := xifn hf
            obtain ⟨hm24, hf⟩ := xmoE hf
            have hFc := xm_free hD hS hA
            refine va_callv (va_runV (C := "ValueBenchModel") (As := [xv vad16 y3, xv vad16 o8.2.2.2.1]) (rest := []) ⟨hx, hb, hml, hown, htx⟩ (gM_wait l hl9 D cT aK aV H.size n aM ad14 rd gd15 vad16 o8.2.2.2.2 y3 o8.2.2.2.1 o20 hq21) ⟨callB_of 2 htx (xw_goodC kw_6_112) rfl rfl rfl (htx _ kw_1_5) (htx _ kw_6_109) ⟨by decide, by decide, by decide +kernel⟩ ⟨Nat.le_of_ble_eq_true rfl, Nat.le_of_ble_eq_true rfl⟩, (htx _ kw_6_111), (htx _ kp_M_wait)⟩ ⟨xPre_blind, va_recv hK hP (ci := 5) rfl (q0 := 0) rfl, (fun U hU hW => ⟨rfl, xPre_of hZ hS hFc hP hD hK U hU hW⟩)⟩ rfl rfl hl.1 rfl (xm_room (Nat.le_of_ble_eq_true rfl)) dM_members_146 ⟨hm24.1, hm24.2⟩) hS (fun q _ h => hFc q h) hFc (fun u9 t H1 locs ht hvm hr9 hB hz1 hk1 hS => ?_)
            obtain ⟨hP1, hK1, hD1⟩ := hB
            rw [ht] at hP1
            obtain ⟨ad26, gd27, vad28⟩ := u9
            obtain ⟨hv29, hn30⟩ := hr9
            have hP : va_P D xcl (xMw cT aM ad26 rd gd27 vad28 o20.2.2 []) H1 := hP1
            have hD : va_D A (xMw cT aM ad26 rd gd27 vad28 o20.2.2 []) := hD1.weaken (fun k q _ h => hFc q.1 h)
            generalize H1 = H at hP hS ⊢
            have hE9 : ∀ p, p < xct st → vad28 p = vad p := fun p h => (hv29 p (Nat.lt_of_lt_of_le h hN)).trans (hE p h)
            have hE := hE9
            have hN : xct st ≤ xct o20.2.2 := Nat.le_trans hN hn30
            have ev31 : xv vad16 o8.2.2.2.1 = xv vad28 o8.2.2.2.1 := xvE hv29 hg22
            have ev32 : xv vad16 y3 = xv vad28 y3 := xvE hv29 hg23
            have hl : lv_has ls 6 [(4, xv vad28 o8.2.2.2.1), (3, xv vad28 y3), (2, .int y2), (1, .int y1), (0, .ref aM)] := by first | exact hl | ((try (rw [← ev31])); (try (rw [← ev32])); exact hl)
            refine W.eq (g2 := F0 m 149 ls []) (by first | rfl | ((try (rw [ev31])); (try (rw [ev32])); rfl)) ?_
            refine lv_aload_n hx hb dM_members_149 rfl (lv_at hl 4 rfl) ?_
            obtain ⟨o33, hq34, hf⟩ := xbind hf
            have hFc := xm_free hD hS hA
            refine va_callv (va_runV (C := "ValueBenchModel") (As := []) (rest := []) ⟨hx, hb, hml, hown, htx⟩ (gM_blanks l hl9 D cT aK aV H.size n aM ad26 rd gd27 vad28 o20.2.2 o33 hq34) ⟨callB_of 0 htx (xw_goodC kw_5_229) rfl rfl rfl (htx _ kw_1_5) (htx _ kw_5_226) ⟨by decide, by decide, by decide +kernel⟩ ⟨Nat.le_of_ble_eq_true rfl, Nat.le_of_ble_eq_true rfl⟩, (htx _ kw_5_228), (htx _ kp_M_blanks)⟩ ⟨xPre_blind, va_recv hK hP (ci := 5) rfl (q0 := 0) rfl, (fun U hU hW => ⟨rfl, xPre_of hZ hS hFc hP hD hK U hU hW⟩)⟩ rfl rfl hl.1 rfl (xm_room (Nat.le_of_ble_eq_true rfl)) dM_members_150 ⟨hm24.1, hm24.2⟩) hS (fun q _ h => hFc q h) hFc (fun u9 t H1 locs ht hvm hr9 hB hz1 hk1 hS => ?_)
            obtain ⟨hP1, hK1, hD1⟩ := hB
            rw [ht] at hP1
            have hn36 := hr9
            have hN : xct st ≤ xct o33 := Nat.le_trans hN hn36
            have hP : va_P D xcl (xMw cT aM ad26 rd gd27 vad28 o33 []) H1 := hP1
            have hD : va_D A (xMw cT aM ad26 rd gd27 vad28 o33 []) := hD1.weaken (fun k q _ h => hFc q.1 h)
            generalize H1 = H at hP hS ⊢
            refine W.eq (g2 := F0 m 153 ls []) (by first | rfl | (skip; rfl)) ?_
            refine lv_aload_n hx hb dM_members_153 rfl (lv_at hl 4 rfl) ?_
            obtain ⟨o37, hq38, hf⟩ := xbind hf
            have hFc := xm_free hD hS hA
            refine va_calli (va_runV (C := "ValueBenchModel") (As := []) (rest := []) ⟨hx, hb, hml, hown, htx⟩ (gM_peek l hl9 D cT aK aV H.size n aM ad26 rd gd27 vad28 o33 o37 hq38) ⟨callB_of 0 htx (xw_goodC kw_5_233) rfl rfl rfl (htx _ kw_1_5) (htx _ kw_5_230) ⟨by decide, by decide, by decide +kernel⟩ ⟨Nat.le_of_ble_eq_true rfl, Nat.le_of_ble_eq_true rfl⟩, (htx _ kw_5_232), (htx _ kp_M_peek)⟩ ⟨xPre_blind, va_recv hK hP (ci := 5) rfl (q0 := 0) rfl, (fun U hU hW => ⟨rfl, xPre_of hZ hS hFc hP hD hK U hU hW⟩)⟩ rfl rfl hl.1 rfl (xm_room (Nat.le_of_ble_eq_true rfl)) dM_members_154 ⟨hm24.1, hm24.2⟩) hS (fun q _ h => hFc q h) hFc (fun r39 u9 t H1 locs ht hvm hr9 hB hz1 hk1 hS => ?_)
            obtain ⟨hP1, hK1, hD1⟩ := hB
            rw [ht] at hP1
            have hP : va_P D xcl (xMw cT aM ad26 rd gd27 vad28 o33 []) H1 := hP1
            have hD : va_D A (xMw cT aM ad26 rd gd27 vad28 o33 []) := hD1.weaken (fun k q _ h => hFc q.1 h)
            generalize H1 = H at hP hS ⊢
            rw [hr9]
            refine W.eq (g2 := F0 m 157 ls [.int o37]) (by first | rfl | (skip; rfl)) ?_
            refine lv_istore (lv' := [(5, .int o37), (4, xv vad28 o8.2.2.2.1), (3, xv vad28 y3), (2, .int y2), (1, .int y1), (0, .ref aM)]) hx hb dM_members_157 hl (by decide) (by simp only [List.filter, xvcat, xrscat, xcI, xcL, xcR, xcN]; rfl) (fun ls hl => ?_)
            refine lv_iload hx hb dM_members_159 (lv_at hl 0 rfl) ?_
            refine lv_bipush (v := 44) hx hb dM_members_161 (by decide) ?_
            refine lv_icmp_eq (tgt := 181) hx hb dM_members_163 (by decide) (fun hc => ?_) (fun hc => ?_)
            · rw [if_pos hc] at hf
              refine lv_aload_n hx hb dM_members_181 rfl (lv_at hl 5 rfl) ?_
              refine lv_dup hx hb dM_members_182 rfl ?_
              refine xm_get (v := .int (xsi o33 16)) hx hb htx hown hK hP 16 (by decide) rfl (htx _ kw_5_103) rfl dM_members_183 ?_
              refine lv_iconst (v := 1) hx hb dM_members_186 (by decide) ?_
              refine lv_iadd hx hb dM_members_187 ?_
              refine xm_put (v := .int ((xsi o33 16) + (1 : Int32))) (W' := (xMw cT aM ad26 rd gd27 vad28 (xsI o33 16 ((xsi o33 16) + (1 : Int32))) [])) (ty := .int) hx hb htx hown hK hP hD hS 16 (by decide) rfl (htx _ kw_5_103) rfl rfl (by decide +kernel) rfl rfl dM_members_188 (fun H locs hP hD hS => ?_)
              refine lv_iload hx hb dM_members_191 (lv_at hl 0 rfl) ?_
              refine lv_bipush (v := 125) hx hb dM_members_193 (by decide) ?_
              refine lv_icmp_ne (tgt := 206) hx hb dM_members_195 (by decide) (fun hc => ?_) (fun hc => ?_)
              · rw [if_neg hc] at hf
                refine lv_goto (tgt := 36) hx hb dM_members_206 (by decide) ?_
                exact ih (1, y1, 0, y3, y2, (xsI o33 16 ((xsi o33 16) + (1 : Int32))), ((wc + o8.2.1) + o20.1), ((wn + o8.2.2.1) + o20.2.1)) _ _ ls (Or.inl ⟨ad26, gd27, vad28, rfl, hf, hP, hD, hS, lv_sub hl [4, 5] rfl, hE, hN⟩)
              · rw [if_pos hc] at hf
                refine lv_aload_n hx hb dM_members_198 rfl (lv_at hl 5 rfl) ?_
                refine lv_bipush (v := 6) hx hb dM_members_199 (by decide) ?_
                refine lv_iload_n hx hb dM_members_201 rfl (lv_at hl 4 rfl) ?_
                obtain ⟨o40, hq41, hf⟩ := xbind hf
                have hl := lv_sub (l' := [(5, .int o37), (2, .int y2), (1, .int y1), (0, .ref aM)]) hl [0, 3, 4, 5] rfl
                by_cases hk42 : o40.1 = 0
                · rw [if_pos hk42] at hf
                  obtain ⟨hm43, hf⟩ := xmoE hf
                  have hFc := xm_free hD hS hA
                  refine va_callq (va_runV (C := "ValueBenchModel") (As := [.int 6, .int y1]) (rest := []) ⟨hx, hb, hml, hown, htx⟩ (gM_whole l hl9 D cT aK aV H.size n aM ad26 rd gd27 vad28 (xsI o33 16 ((xsi o33 16) + (1 : Int32))) (6 : Int32) y1 o40 hq41 hk42) ⟨callB_of 2 htx (xw_goodC kw_6_106) rfl rfl rfl (htx _ kw_1_5) (htx _ kw_6_103) ⟨by decide, by decide, by decide +kernel⟩ ⟨Nat.le_of_ble_eq_true rfl, Nat.le_of_ble_eq_true rfl⟩, (htx _ kw_6_105), (htx _ kp_M_whole)⟩ ⟨xPre_blind, va_recv hK hP (ci := 5) rfl (q0 := 0) rfl, (fun U hU hW => ⟨rfl, xPre_of hZ hS hFc hP hD hK U hU hW⟩)⟩ rfl rfl hl.1 rfl (xm_room (Nat.le_of_ble_eq_true rfl)) dM_members_202 ⟨hm43.1, hm43.2⟩) hS (fun q _ h => hFc q h) hFc (fun r44 u9 t H1 locs ht hvm hr9 hB hz1 hk1 hS => ?_)
                  obtain ⟨hP1, hK1, hD1⟩ := hB
                  rw [ht] at hP1
                  obtain ⟨ad45, gd46, vad47⟩ := u9
                  obtain ⟨hr9, hv48, hn49⟩ := hr9
                  have hP : va_P D xcl (xMw cT aM ad45 rd gd46 vad47 o40.2.2.2.2 []) H1 := hP1
                  have hD : va_D A (xMw cT aM ad45 rd gd46 vad47 o40.2.2.2.2 []) := hD1.weaken (fun k q _ h => hFc q.1 h)
                  generalize H1 = H at hP hS ⊢
                  have hE9 : ∀ p, p < xct st → vad47 p = vad p := fun p h => (hv48 p (Nat.lt_of_lt_of_le h hN)).trans (hE p h)
                  have hE := hE9
                  have hN : xct st ≤ xct o40.2.2.2.2 := Nat.le_trans hN hn49
                  rw [hr9]
                  refine W.eq (g2 := F0 m 205 ls [xv vad47 o40.2.2.2.1]) (by first | rfl | (skip; rfl)) ?_
                  obtain rfl := Option.some.inj hf
                  exact absurd (show (0 : Nat) = 3 from hkd) (by decide)
                rw [if_neg hk42] at hf
                by_cases hk50 : o40.1 = 1
                · rw [if_pos hk50] at hf
                  obtain ⟨hm51, hf⟩ := xmoE hf
                  obtain rfl := Option.some.inj hf
                  exact absurd (show (1 : Nat) = 3 from hkd) (by decide)
                rw [if_neg hk50] at hf
                exact nomatch hf
            · rw [if_neg hc] at hf
              refine lv_iload hx hb dM_members_166 (lv_at hl 0 rfl) ?_
              refine lv_bipush (v := 125) hx hb dM_members_168 (by decide) ?_
              refine lv_icmp_eq (tgt := 181) hx hb dM_members_170 (by decide) (fun hc => ?_) (fun hc => ?_)
              · rw [if_pos hc] at hf
                refine lv_aload_n hx hb dM_members_181 rfl (lv_at hl 5 rfl) ?_
                refine lv_dup hx hb dM_members_182 rfl ?_
                refine xm_get (v := .int (xsi o33 16)) hx hb htx hown hK hP 16 (by decide) rfl (htx _ kw_5_103) rfl dM_members_183 ?_
                refine lv_iconst (v := 1) hx hb dM_members_186 (by decide) ?_
                refine lv_iadd hx hb dM_members_187 ?_
                refine xm_put (v := .int ((xsi o33 16) + (1 : Int32))) (W' := (xMw cT aM ad26 rd gd27 vad28 (xsI o33 16 ((xsi o33 16) + (1 : Int32))) [])) (ty := .int) hx hb htx hown hK hP hD hS 16 (by decide) rfl (htx _ kw_5_103) rfl rfl (by decide +kernel) rfl rfl dM_members_188 (fun H locs hP hD hS => ?_)
                refine lv_iload hx hb dM_members_191 (lv_at hl 0 rfl) ?_
                refine lv_bipush (v := 125) hx hb dM_members_193 (by decide) ?_
                refine lv_icmp_ne (tgt := 206) hx hb dM_members_195 (by decide) (fun hc => ?_) (fun hc => ?_)
                · rw [if_neg hc] at hf
                  refine lv_goto (tgt := 36) hx hb dM_members_206 (by decide) ?_
                  exact ih (1, y1, 0, y3, y2, (xsI o33 16 ((xsi o33 16) + (1 : Int32))), ((wc + o8.2.1) + o20.1), ((wn + o8.2.2.1) + o20.2.1)) _ _ ls (Or.inl ⟨ad26, gd27, vad28, rfl, hf, hP, hD, hS, lv_sub hl [4, 5] rfl, hE, hN⟩)
                · rw [if_pos hc] at hf
                  refine lv_aload_n hx hb dM_members_198 rfl (lv_at hl 5 rfl) ?_
                  refine lv_bipush (v := 6) hx hb dM_members_199 (by decide) ?_
                  refine lv_iload_n hx hb dM_members_201 rfl (lv_at hl 4 rfl) ?_
                  obtain ⟨o40, hq41, hf⟩ := xbind hf
                  have hl := lv_sub (l' := [(5, .int o37), (2, .int y2), (1, .int y1), (0, .ref aM)]) hl [0, 3, 4, 5] rfl
                  by_cases hk42 : o40.1 = 0
                  · rw [if_pos hk42] at hf
                    obtain ⟨hm43, hf⟩ := xmoE hf
                    have hFc := xm_free hD hS hA
                    refine va_callq (va_runV (C := "ValueBenchModel") (As := [.int 6, .int y1]) (rest := []) ⟨hx, hb, hml, hown, htx⟩ (gM_whole l hl9 D cT aK aV H.size n aM ad26 rd gd27 vad28 (xsI o33 16 ((xsi o33 16) + (1 : Int32))) (6 : Int32) y1 o40 hq41 hk42) ⟨callB_of 2 htx (xw_goodC kw_6_106) rfl rfl rfl (htx _ kw_1_5) (htx _ kw_6_103) ⟨by decide, by decide, by decide +kernel⟩ ⟨Nat.le_of_ble_eq_true rfl, Nat.le_of_ble_eq_true rfl⟩, (htx _ kw_6_105), (htx _ kp_M_whole)⟩ ⟨xPre_blind, va_recv hK hP (ci := 5) rfl (q0 := 0) rfl, (fun U hU hW => ⟨rfl, xPre_of hZ hS hFc hP hD hK U hU hW⟩)⟩ rfl rfl hl.1 rfl (xm_room (Nat.le_of_ble_eq_true rfl)) dM_members_202 ⟨hm43.1, hm43.2⟩) hS (fun q _ h => hFc q h) hFc (fun r44 u9 t H1 locs ht hvm hr9 hB hz1 hk1 hS => ?_)
                    obtain ⟨hP1, hK1, hD1⟩ := hB
                    rw [ht] at hP1
                    obtain ⟨ad45, gd46, vad47⟩ := u9
                    obtain ⟨hr9, hv48, hn49⟩ := hr9
                    have hP : va_P D xcl (xMw cT aM ad45 rd gd46 vad47 o40.2.2.2.2 []) H1 := hP1
                    have hD : va_D A (xMw cT aM ad45 rd gd46 vad47 o40.2.2.2.2 []) := hD1.weaken (fun k q _ h => hFc q.1 h)
                    generalize H1 = H at hP hS ⊢
                    have hE9 : ∀ p, p < xct st → vad47 p = vad p := fun p h => (hv48 p (Nat.lt_of_lt_of_le h hN)).trans (hE p h)
                    have hE := hE9
                    have hN : xct st ≤ xct o40.2.2.2.2 := Nat.le_trans hN hn49
                    rw [hr9]
                    refine W.eq (g2 := F0 m 205 ls [xv vad47 o40.2.2.2.1]) (by first | rfl | (skip; rfl)) ?_
                    obtain rfl := Option.some.inj hf
                    exact absurd (show (0 : Nat) = 3 from hkd) (by decide)
                  rw [if_neg hk42] at hf
                  by_cases hk50 : o40.1 = 1
                  · rw [if_pos hk50] at hf
                    obtain ⟨hm51, hf⟩ := xmoE hf
                    obtain rfl := Option.some.inj hf
                    exact absurd (show (1 : Nat) = 3 from hkd) (by decide)
                  rw [if_neg hk50] at hf
                  exact nomatch hf
              · rw [if_neg hc] at hf
                refine lv_aload_n hx hb dM_members_173 rfl (lv_at hl 5 rfl) ?_
                refine lv_aload_n hx hb dM_members_174 rfl (lv_at hl 5 rfl) ?_
                refine xm_get (v := .int (xsi o33 16)) hx hb htx hown hK hP 16 (by decide) rfl (htx _ kw_5_103) rfl dM_members_175 ?_
                obtain ⟨o40, hq41, hf⟩ := xbind hf
                by_cases hk42 : o40.1 = 1
                · rw [if_pos hk42] at hf
                  obtain ⟨hg43, hf⟩ := xifn hf
                  obtain ⟨hg44, hf⟩ := xifn hf
                  obtain ⟨hm45, hf⟩ := xmoE hf
                  obtain rfl := Option.some.inj hf
                  exact absurd (show (2 : Nat) = 3 from hkd) (by decide)
                rw [if_neg hk42] at hf
                exact nomatch hf
          rw [if_neg hk10] at hf
          by_cases hk40 : o8.1 = 1
          · rw [if_pos hk40] at hf
            obtain ⟨hg41, hf⟩ := xifn hf
            obtain ⟨hm42, hf⟩ := xmoE hf
            obtain rfl := Option.some.inj hf
            exact absurd (show (2 : Nat) = 3 from hkd) (by decide)
          rw [if_neg hk40] at hf
          by_cases hk50 : o8.1 = 2
          · rw [if_pos hk50] at hf
            obtain ⟨hg51, hf⟩ := xifn hf
            obtain ⟨hm52, hf⟩ := xmoE hf
            obtain rfl := Option.some.inj hf
            exact absurd (show (1 : Nat) = 3 from hkd) (by decide)
          rw [if_neg hk50] at hf
          by_cases hk60 : o8.1 = 3
          · rw [if_pos hk60] at hf
            obtain ⟨hg61, hf⟩ := xifn hf
            obtain ⟨hm62, hf⟩ := xmoE hf
            have hFc := xm_free hD hS hA
            refine xx_thr (vx_runV (C := "ValueBenchModel") (As := []) (rest := []) ⟨hx, hb, hml, hown, htx⟩ ((hrec H.size aM adL rd gdL vadL (xsI o1 16 ((xsi o1 16) + (1 : Int32))) o8 hq9).2.2.2 hk60) ⟨callB_of 0 htx (xw_goodC kw_5_225) rfl rfl rfl (htx _ kw_1_5) (htx _ kw_5_222) ⟨by decide, by decide, by decide +kernel⟩ ⟨(by show (fr) + 1 ≤ fr + 9; omega), (by show 8 + (3 + 11) + (lo) ≤ lo + 167; omega)⟩, (htx _ kw_5_224), (htx _ kp_M_value)⟩ ⟨xPre_blind, va_recv hK hP (ci := 5) rfl (q0 := 0) rfl, (fun U hU hW => ⟨rfl, xPre_of hZ hS hFc hP hD hK U hU hW⟩)⟩ rfl rfl hl.1 rfl (xm_room (Nat.le_of_ble_eq_true rfl)) dM_members_137 ⟨hm62.1, hm62.2⟩) hS hFc (fun q _ h => hFc q h) (fun E ce q9 u9 t H1 locs ht hvm hr9 hB hz1 hk1 hS hce hcv hcl => ?_)
            obtain ⟨rfl, hP1, hK1, hD1⟩ := hB
            rw [ht] at hP1
            obtain ⟨ad64, gd65, vad66⟩ := u9
            obtain ⟨hv67, hn68⟩ := hr9
            have hP : va_P D xcl (xMw cT aM ad64 rd gd65 vad66 o8.2.2.2.2 []) H1 := hP1
            have hD : va_D A (xMw cT aM ad64 rd gd65 vad66 o8.2.2.2.2 []) := hD1.weaken (fun k q _ h => hFc q.1 h)
            generalize H1 = H at hP hS hce ⊢
            have hE9 : ∀ p, p < xct st → vad66 p = vad p := fun p h => (hv67 p (Nat.lt_of_lt_of_le h hN)).trans (hE p h)
            have hE := hE9
            have hN : xct st ≤ xct o8.2.2.2.2 := Nat.le_trans hN hn68
            have ev69 : xv vadL y3 = xv vad66 y3 := xvE hv67 hg61
            have hl : lv_has ls 6 [(4, .int y4), (3, xv vad66 y3), (2, .int y2), (1, .int y1), (0, .ref aM)] := by first | exact hl | ((try (rw [← ev69])); exact hl)
            obtain rfl := Option.some.inj hf
            exact vx_out (E := "java/lang/ArithmeticException") (fun x h => (hne x h).elim) hlocks hce hcv hcl (fun t ht ha => ⟨(ad64, gd65, vad66), ⟨hE, hN⟩, ⟨rfl, by rw [ht]; exact hP, va_K.moved ha hK, hD⟩, hS.F ht⟩) hS.2.2 (Nat.le_refl _) (Nat.le_refl _)
          rw [if_neg hk60] at hf
          exact nomatch hf
        · rw [if_neg hc] at hf
          refine lv_aload_n hx hb dM_members_118 rfl (lv_at hl 4 rfl) ?_
          refine lv_aload_n hx hb dM_members_119 rfl (lv_at hl 4 rfl) ?_
          refine xm_get (v := .int (xsi o1 16)) hx hb htx hown hK hP 16 (by decide) rfl (htx _ kw_5_103) rfl dM_members_120 ?_
          obtain ⟨o8, hq9, hf⟩ := xbind hf
          by_cases hk10 : o8.1 = 1
          · rw [if_pos hk10] at hf
            obtain ⟨hg11, hf⟩ := xifn hf
            obtain ⟨hm12, hf⟩ := xmoE hf
            obtain rfl := Option.some.inj hf
            exact absurd (show (2 : Nat) = 3 from hkd) (by decide)
          rw [if_neg hk10] at hf
          exact nomatch hf
      · rw [if_neg hc] at hf
        refine lv_aload_n hx hb dM_members_79 rfl (lv_at hl 4 rfl) ?_
        refine lv_aload_n hx hb dM_members_80 rfl (lv_at hl 4 rfl) ?_
        refine xm_get (v := .ref (adL 11)) hx hb htx hown hK hP 11 (by decide) rfl (htx _ kw_5_98) rfl dM_members_81 ?_
        refine lv_iload hx hb dM_members_84 (lv_at hl 0 rfl) ?_
        obtain ⟨hg1, hf⟩ := xifn hf
        refine va_aldq hx hb hK hP 6 4 rfl rfl hg1 dM_members_86 ?_
        refine W.eq (g2 := F0 m 87 ls [xv vadL ((xvc ws9 11) y4.toNatClampNeg), .ref aM]) rfl ?_
        refine xm_aload_n hx hb (xvor _ _) dM_members_87 rfl (lv_at hl 1 rfl) ?_
        obtain ⟨o2, hq3, hf⟩ := xbind hf
        have hFc := xm_free hD hS hA
        refine va_calli (va_runV (C := "ValueBenchModel") (As := [xv vadL ((xvc ws9 11) y4.toNatClampNeg), xv vadL y3]) (rest := []) ⟨hx, hb, hml, hown, htx⟩ (gM_sameText l hl9 D cT aK aV H.size n aM adL rd gdL vadL ws9 ((xvc ws9 11) y4.toNatClampNeg) y3 o2 hq3) ⟨callB_of 2 htx (xw_goodC kw_6_120) rfl rfl rfl (htx _ kw_1_5) (htx _ kw_6_117) ⟨by decide, by decide, by decide +kernel⟩ ⟨Nat.le_of_ble_eq_true rfl, Nat.le_of_ble_eq_true rfl⟩, (htx _ kw_6_119), (htx _ kp_M_sameText)⟩ ⟨xPre_blind, va_recv hK hP (ci := 5) rfl (q0 := 0) rfl, (fun U hU hW => ⟨rfl, xPre_of hZ hS hFc hP hD hK U hU hW⟩)⟩ rfl rfl hl.1 rfl (xm_room (Nat.le_of_ble_eq_true rfl)) dM_members_88 ⟨hm0.1, hm0.2⟩) hS (fun q _ h => hFc q h) hFc (fun r4 u9 t H1 locs ht hvm hr9 hB hz1 hk1 hS => ?_)
        obtain ⟨hP1, hK1, hD1⟩ := hB
        rw [ht] at hP1
        have hP : va_P D xcl (xMw cT aM adL rd gdL vadL ws9 []) H1 := hP1
        have hD : va_D A (xMw cT aM adL rd gdL vadL ws9 []) := hD1.weaken (fun k q _ h => hFc q.1 h)
        generalize H1 = H at hP hS ⊢
        rw [hr9]
        refine W.eq (g2 := F0 m 91 ls [.int o2]) (by first | rfl | (skip; rfl)) ?_
        refine lv_if_eq (tgt := 99) hx hb dM_members_91 (by decide) (fun hc => ?_) (fun hc => ?_)
        · rw [if_pos hc] at hf
          refine lv_iinc (v := (y4 + 1)) (lv' := [(4, .int (y4 + 1)), (3, xv vadL y3), (2, .int y2), (1, .int y1), (0, .ref aM)]) hx hb dM_members_99 hl (k := 0) rfl rfl (by decide) (by simp only [List.filter, xvcat, xrscat, xcI, xcL, xcR, xcN]; rfl) (fun ls hl => ?_)
          refine lv_goto (tgt := 70) hx hb dM_members_102 (by decide) ?_
          exact ih (2, y1, (y4 + 1), y3, y2, ws9, wc, wn) _ _ ls (Or.inr (⟨adL, gdL, vadL, rfl, hf, hP, hD, hS, lv_sub hl [0, 1, 2, 3, 4] rfl, hE, hN⟩))
        · rw [if_neg hc] at hf
          refine lv_aload_n hx hb dM_members_94 rfl (lv_at hl 4 rfl) ?_
          refine lv_iload_n hx hb dM_members_95 rfl (lv_at hl 2 rfl) ?_
          obtain ⟨o5, hq6, hf⟩ := xbind hf
          by_cases hk7 : o5.1 = 1
          · rw [if_pos hk7] at hf
            obtain ⟨hg8, hf⟩ := xifn hf
            obtain ⟨hm9, hf⟩ := xmoE hf
            obtain rfl := Option.some.inj hf
            exact absurd (show (2 : Nat) = 3 from hkd) (by decide)
          rw [if_neg hk7] at hf
          exact nomatch hf
  refine lv_aload_n hx hb dM_members_0 rfl (lv_at hl 0 rfl) ?_
  refine xm_get (v := .int (xsi st 12)) hx hb htx hown hK hP 12 (by decide) rfl (htx _ kw_5_99) rfl dM_members_1 ?_
  refine lv_istore_n (lv' := [(1, .int (xsi st 12)), (0, .ref aM)]) hx hb dM_members_4 rfl hl (by decide) rfl (fun ls hl => ?_)
  refine lv_aload_n hx hb dM_members_5 rfl (lv_at hl 1 rfl) ?_
  obtain ⟨o1, hq2, hf⟩ := xbind hf
  have hFc := xm_free hD hS hA
  refine va_callv (va_runV (C := "ValueBenchModel") (As := []) (rest := []) ⟨hx, hb, hml, hown, htx⟩ (gM_blanks l hl9 D cT aK aV s.heap.size n aM ad rd gd vad st o1 hq2) ⟨callB_of 0 htx (xw_goodC kw_5_229) rfl rfl rfl (htx _ kw_1_5) (htx _ kw_5_226) ⟨by decide, by decide, by decide +kernel⟩ ⟨Nat.le_of_ble_eq_true rfl, Nat.le_of_ble_eq_true rfl⟩, (htx _ kw_5_228), (htx _ kp_M_blanks)⟩ ⟨xPre_blind, va_recv hK hP (ci := 5) rfl (q0 := 0) rfl, (fun U hU hW => ⟨rfl, xPre_of hZ hS hFc hP hD hK U hU hW⟩)⟩ rfl rfl hl.1 rfl (xm_room (Nat.le_of_ble_eq_true rfl)) dM_members_6 ⟨Nat.zero_le _, Nat.zero_le _⟩) hS (fun q _ h => hFc q h) hFc (fun u9 t H1 locs ht hvm hr9 hB hz1 hk1 hS => ?_)
  obtain ⟨hP1, hK1, hD1⟩ := hB
  rw [ht] at hP1
  have hn4 := hr9
  have hN : xct st ≤ xct o1 := Nat.le_trans hN hn4
  have hP : va_P D xcl (xMw cT aM ad rd gd vad o1 []) H1 := hP1
  have hD : va_D A (xMw cT aM ad rd gd vad o1 []) := hD1.weaken (fun k q _ h => hFc q.1 h)
  generalize H1 = H at hP hS ⊢
  refine W.eq (g2 := F0 m 9 ls []) (by first | rfl | (skip; rfl)) ?_
  refine lv_aload_n hx hb dM_members_9 rfl (lv_at hl 1 rfl) ?_
  obtain ⟨o5, hq6, hf⟩ := xbind hf
  have hFc := xm_free hD hS hA
  refine va_calli (va_runV (C := "ValueBenchModel") (As := []) (rest := []) ⟨hx, hb, hml, hown, htx⟩ (gM_peek l hl9 D cT aK aV H.size n aM ad rd gd vad o1 o5 hq6) ⟨callB_of 0 htx (xw_goodC kw_5_233) rfl rfl rfl (htx _ kw_1_5) (htx _ kw_5_230) ⟨by decide, by decide, by decide +kernel⟩ ⟨Nat.le_of_ble_eq_true rfl, Nat.le_of_ble_eq_true rfl⟩, (htx _ kw_5_232), (htx _ kp_M_peek)⟩ ⟨xPre_blind, va_recv hK hP (ci := 5) rfl (q0 := 0) rfl, (fun U hU hW => ⟨rfl, xPre_of hZ hS hFc hP hD hK U hU hW⟩)⟩ rfl rfl hl.1 rfl (xm_room (Nat.le_of_ble_eq_true rfl)) dM_members_10 ⟨Nat.zero_le _, Nat.zero_le _⟩) hS (fun q _ h => hFc q h) hFc (fun r7 u9 t H1 locs ht hvm hr9 hB hz1 hk1 hS => ?_)
  obtain ⟨hP1, hK1, hD1⟩ := hB
  rw [ht] at hP1
  have hP : va_P D xcl (xMw cT aM ad rd gd vad o1 []) H1 := hP1
  have hD : va_D A (xMw cT aM ad rd gd vad o1 []) := hD1.weaken (fun k q _ h => hFc q.1 h)
  generalize H1 = H at hP hS ⊢
  rw [hr9]
  refine W.eq (g2 := F0 m 13 ls [.int o5]) (by first | rfl | (skip; rfl)) ?_
  refine lv_bipush (v := 125) hx hb dM_members_13 (by decide) ?_
  refine lv_icmp_ne (tgt := 36) hx hb dM_members_15 (by decide) (fun hc => ?_) (fun hc => ?_)
  · rw [if_neg hc] at hf
    exact key n (1, (xsi st 12), 0, 0, 0, o1, 0, 0) _ _ ls (Or.inl ⟨ad, gd, vad, rfl, hf, hP, hD, hS, lv_sub hl [0, 1] rfl, hE, hN⟩)
  · rw [if_pos hc] at hf
    refine lv_aload_n hx hb dM_members_18 rfl (lv_at hl 1 rfl) ?_
    refine lv_dup hx hb dM_members_19 rfl ?_
    refine xm_get (v := .int (xsi o1 16)) hx hb htx hown hK hP 16 (by decide) rfl (htx _ kw_5_103) rfl dM_members_20 ?_
    refine lv_iconst (v := 1) hx hb dM_members_23 (by decide) ?_
    refine lv_iadd hx hb dM_members_24 ?_
    refine xm_put (v := .int ((xsi o1 16) + (1 : Int32))) (W' := (xMw cT aM ad rd gd vad (xsI o1 16 ((xsi o1 16) + (1 : Int32))) [])) (ty := .int) hx hb htx hown hK hP hD hS 16 (by decide) rfl (htx _ kw_5_103) rfl rfl (by decide +kernel) rfl rfl dM_members_25 (fun H locs hP hD hS => ?_)
    refine lv_aload_n hx hb dM_members_28 rfl (lv_at hl 1 rfl) ?_
    refine lv_bipush (v := 6) hx hb dM_members_29 (by decide) ?_
    refine lv_iload_n hx hb dM_members_31 rfl (lv_at hl 0 rfl) ?_
    obtain ⟨o8, hq9, hf⟩ := xbind hf
    by_cases hk10 : o8.1 = 0
    · rw [if_pos hk10] at hf
      obtain ⟨hm11, hf⟩ := xmoE hf
      have hFc := xm_free hD hS hA
      refine va_callq (va_runV (C := "ValueBenchModel") (As := [.int 6, .int (xsi st 12)]) (rest := []) ⟨hx, hb, hml, hown, htx⟩ (gM_whole l hl9 D cT aK aV H.size n aM ad rd gd vad (xsI o1 16 ((xsi o1 16) + (1 : Int32))) (6 : Int32) (xsi st 12) o8 hq9 hk10) ⟨callB_of 2 htx (xw_goodC kw_6_106) rfl rfl rfl (htx _ kw_1_5) (htx _ kw_6_103) ⟨by decide, by decide, by decide +kernel⟩ ⟨Nat.le_of_ble_eq_true rfl, Nat.le_of_ble_eq_true rfl⟩, (htx _ kw_6_105), (htx _ kp_M_whole)⟩ ⟨xPre_blind, va_recv hK hP (ci := 5) rfl (q0 := 0) rfl, (fun U hU hW => ⟨rfl, xPre_of hZ hS hFc hP hD hK U hU hW⟩)⟩ rfl rfl hl.1 rfl (xm_room (Nat.le_of_ble_eq_true rfl)) dM_members_32 ⟨hm11.1, hm11.2⟩) hS (fun q _ h => hFc q h) hFc (fun r12 u9 t H1 locs ht hvm hr9 hB hz1 hk1 hS => ?_)
      obtain ⟨hP1, hK1, hD1⟩ := hB
      rw [ht] at hP1
      obtain ⟨ad13, gd14, vad15⟩ := u9
      obtain ⟨hr9, hv16, hn17⟩ := hr9
      have hP : va_P D xcl (xMw cT aM ad13 rd gd14 vad15 o8.2.2.2.2 []) H1 := hP1
      have hD : va_D A (xMw cT aM ad13 rd gd14 vad15 o8.2.2.2.2 []) := hD1.weaken (fun k q _ h => hFc q.1 h)
      generalize H1 = H at hP hS ⊢
      have hE9 : ∀ p, p < xct st → vad15 p = vad p := fun p h => (hv16 p (Nat.lt_of_lt_of_le h hN)).trans (hE p h)
      have hE := hE9
      have hN : xct st ≤ xct o8.2.2.2.2 := Nat.le_trans hN hn17
      rw [hr9]
      refine W.eq (g2 := F0 m 35 ls [xv vad15 o8.2.2.2.1]) (by first | rfl | (skip; rfl)) ?_
      obtain rfl := Option.some.inj hf
      exact absurd (show (0 : Nat) = 3 from hkd) (by decide)
    rw [if_neg hk10] at hf
    by_cases hk18 : o8.1 = 1
    · rw [if_pos hk18] at hf
      obtain ⟨hm19, hf⟩ := xmoE hf
      obtain rfl := Option.some.inj hf
      exact absurd (show (1 : Nat) = 3 from hkd) (by decide)
    rw [if_neg hk18] at hf
    exact nomatch hf
set_option maxHeartbeats 400000000 in
set_option maxRecDepth 100000 in
theorem gM_elements (l : Launch) (hl9 : l.stackTraces = false) (D : va_G) (cT : Nat → ClassId) (aK aV : Nat → Nat) (fr lo : Nat) (rec : xS → Option (Nat × Nat × Nat × Nat × xS)) (hrec : ∀ (sz aM : Nat) (ad rd gd vad : Nat → Nat) (st : xS) (out : Nat × Nat × Nat × Nat × xS), rec st = some out → (out.1 = 0 → xMet l yM_value wyM_value fr out.2.1 out.2.2.1 lo D cT aK aV sz [.ref aM] (xMw cT aM ad rd gd vad st []) (fun A => va_Qq (fun (r : Option Nat) (u : xU) => r = xca u.2.2 out.2.2.2.1 ∧ xE vad st out.2.2.2.2 u) (fun u t => xB D xcl cT A (xMw cT aM u.1 rd u.2.1 u.2.2 out.2.2.2.2 []) t) A)) ∧ (out.1 = 1 → xMetY l yM_value wyM_value fr out.2.1 out.2.2.1 lo D cT aK aV sz [.ref aM] (xMw cT aM ad rd gd vad st []) "java/lang/UnsupportedOperationException" (fun u => xE vad st out.2.2.2.2 u) (fun A u t => xB D xcl cT A (xMw cT aM u.1 rd u.2.1 u.2.2 out.2.2.2.2 []) t)) ∧ (out.1 = 2 → xMetY l yM_value wyM_value fr out.2.1 out.2.2.1 lo D cT aK aV sz [.ref aM] (xMw cT aM ad rd gd vad st []) "java/lang/IndexOutOfBoundsException" (fun u => xE vad st out.2.2.2.2 u) (fun A u t => xB D xcl cT A (xMw cT aM u.1 rd u.2.1 u.2.2 out.2.2.2.2 []) t)) ∧ (out.1 = 3 → xMetY l yM_value wyM_value fr out.2.1 out.2.2.1 lo D cT aK aV sz [.ref aM] (xMw cT aM ad rd gd vad st []) "java/lang/ArithmeticException" (fun u => xE vad st out.2.2.2.2 u) (fun A u t => xB D xcl cT A (xMw cT aM u.1 rd u.2.1 u.2.2 out.2.2.2.2 []) t))) (sz n : Nat) (aM : Nat) (ad rd gd vad : Nat → Nat) (st : xS) (out : Nat × Nat × Nat × Nat × xS) (hf : fM_elements rec n st = some out) (hkd : out.1 = 0) : xMet l yM_elements wyM_elements (fr + 8) out.2.1 out.2.2.1 (lo + 147) D cT aK aV sz [.ref aM] (xMw cT aM ad rd gd vad st []) (fun A => va_Qq (fun (r : Option Nat) (u : xU) => r = xca u.2.2 out.2.2.2.1 ∧ xE vad st out.2.2.2.2 u) (fun u t => xB D xcl cT A (xMw cT aM u.1 rd u.2.1 u.2.2 out.2.2.2.2 []) t) A) := by
  refine Met.ofW (cc := prog_13_method_39_code) (maxL := 4) (ret := (some (.object "ValueBenchModel$V"))) (by decide) rfl ?_
  intro p e s m args below meth c s₁ B hml hv
  obtain ⟨rfl, hsz, hZ, hP, hK, hD0⟩ := hv
  have hx := B.exec
  have hb := B.bytes
  have hr := B.returns
  have hts := atoms_spec (ws := wyM_elements) B.pre
  have htx := fun w h => hts w (List.mem_cons_of_mem _ h)
  have hown : s.vm.findClass "ValueBenchModel" = some m.cls := findClass_of_methodNamed B.named
  have hlocks := B.notSynchronized
  subst hsz
  have hD := hD0.self (sz := s.heap.size)
  generalize hAe : va_A (xMw cT aM ad rd gd vad st []) s.heap.size = A at hD hZ ⊢
  have hA : ∀ q : Nat, s.heap.size ≤ q → A q := fun q h => by rw [← hAe]; exact Or.inr h
  have hS : va_S A s.heap s.heap [] := va_S.rf
  have hl := lv_entry ([.ref aM]) (n := 4) (by simp [lg_sl, xvcat, xrscat, xcI, xcL, xcR, xcN])
  rw [show lv_args 0 [.ref aM] = [(0, .ref aM)] from by simp [lv_args, xvcat, xrscat, xcI, xcL, xcR, xcN]] at hl
  rw [lg_entry_eq]
  generalize (lg_sl ([.ref aM]) ++ List.replicate (4 - (lg_sl ([.ref aM])).length) Slot.unset).toArray = ls at hl ⊢
  have hl : lv_has ls 4 [(0, .ref aM)] := hl
  have hE : ∀ p, p < xct st → vad p = vad p := fun _ _ => rfl
  have hN : xct st ≤ xct st := Nat.le_refl _
  unfold fM_elements at hf
  refine xloopM (σ := Nat × Int32 × xS × Nat × Nat) (fun n x H locs ls => (∃ (adL gdL vadL : Nat → Nat), x.1 = 1 ∧ fM_elements_b rec n x.1 x.2.1 x.2.2.1 x.2.2.2.1 x.2.2.2.2 = some out ∧ va_P D xcl (xMw cT aM adL rd gdL vadL x.2.2.1 []) H ∧ va_D A (xMw cT aM adL rd gdL vadL x.2.2.1 []) ∧ va_S A s.heap H locs ∧ lv_has ls 4 [(1, .int x.2.1), (0, .ref aM)] ∧ (∀ p, p < xct st → vadL p = vad p) ∧ xct st ≤ xct x.2.2.1)) (fun x => 35) (fun x => x.2.2.2.1) (fun x => x.2.2.2.2) (fun x H locs ls h => by (obtain ⟨_, _, _, h⟩ := h; exact absurd h.2.1 (by rw [fM_elements_b]; exact fun h => nomatch h))) (fun n ih x H locs ls hv => ?_) (fun key => ?_)
  · obtain ⟨lb, y1, ws9, wc, wn⟩ := x
    rcases hv with ⟨adL, gdL, vadL, hj, hf, hP, hD, hS, hl, hE, hN⟩
    subst hj
    have hf : fM_elements_b rec (n + 1) 1 y1 ws9 wc wn = some out := hf
    rw [fM_elements_b] at hf
    obtain ⟨hP, hD⟩ : xPD D xcl A (xMw cT aM adL rd gdL vadL ws9 []) H := ⟨hP, hD⟩
    have hl : lv_has ls 4 [(1, .int y1), (0, .ref aM)] := hl
    refine W.eq (g2 := F0 m 35 ls []) rfl ?_
    show W p l e _ s m _ below meth c H locs wc wn _ _
    obtain ⟨hm0, hf⟩ := xmoE hf
    refine lv_aload_n hx hb dM_elements_35 rfl (lv_at hl 1 rfl) ?_
    obtain ⟨o1, hq2, hf⟩ := xbind hf
    by_cases hk3 : o1.1 = 0
    · rw [if_pos hk3] at hf
      obtain ⟨hm4, hf⟩ := xmoE hf
      have hFc := xm_free hD hS hA
      refine va_callq (va_runV (C := "ValueBenchModel") (As := []) (rest := []) ⟨hx, hb, hml, hown, htx⟩ ((hrec H.size aM adL rd gdL vadL ws9 o1 hq2).1 hk3) ⟨callB_of 0 htx (xw_goodC kw_5_225) rfl rfl rfl (htx _ kw_1_5) (htx _ kw_5_222) ⟨by decide, by decide, by decide +kernel⟩ ⟨(by show (fr) + 1 ≤ fr + 8; omega), (by show 8 + (3 + 11) + (lo) ≤ lo + 147; omega)⟩, (htx _ kw_5_224), (htx _ kp_M_value)⟩ ⟨xPre_blind, va_recv hK hP (ci := 5) rfl (q0 := 0) rfl, (fun U hU hW => ⟨rfl, xPre_of hZ hS hFc hP hD hK U hU hW⟩)⟩ rfl rfl hl.1 rfl (xm_room (Nat.le_of_ble_eq_true rfl)) dM_elements_36 ⟨hm4.1, hm4.2⟩) hS (fun q _ h => hFc q h) hFc (fun r5 u9 t H1 locs ht hvm hr9 hB hz1 hk1 hS => ?_)
      obtain ⟨hP1, hK1, hD1⟩ := hB
      rw [ht] at hP1
      obtain ⟨ad6, gd7, vad8⟩ := u9
      obtain ⟨hr9, hv9, hn10⟩ := hr9
      have hP : va_P D xcl (xMw cT aM ad6 rd gd7 vad8 o1.2.2.2.2 []) H1 := hP1
      have hD : va_D A (xMw cT aM ad6 rd gd7 vad8 o1.2.2.2.2 []) := hD1.weaken (fun k q _ h => hFc q.1 h)
      generalize H1 = H at hP hS ⊢
      have hE9 : ∀ p, p < xct st → vad8 p = vad p := fun p h => (hv9 p (Nat.lt_of_lt_of_le h hN)).trans (hE p h)
      have hE := hE9
      have hN : xct st ≤ xct o1.2.2.2.2 := Nat.le_trans hN hn10
      rw [hr9]
      refine W.eq (g2 := F0 m 39 ls [xv vad8 o1.2.2.2.1]) (by first | rfl | (skip; rfl)) ?_
      refine xm_astore_n (lv' := [(2, xv vad8 o1.2.2.2.1), (1, .int y1), (0, .ref aM)]) hx hb (xvor _ _) dM_elements_39 rfl hl (by decide) rfl (fun ls hl => ?_)
      refine lv_aload_n hx hb dM_elements_40 rfl (lv_at hl 2 rfl) ?_
      refine lv_null hx hb dM_elements_41 ?_
      refine xm_aload_n hx hb (xvor _ _) dM_elements_42 rfl (lv_at hl 0 rfl) ?_
      obtain ⟨o11, hq12, hf⟩ := xbind hf
      obtain ⟨hg13, hf⟩ := xifn hf
      obtain ⟨hm14, hf⟩ := xmoE hf
      have hFc := xm_free hD hS hA
      refine va_callv (va_runV (C := "ValueBenchModel") (As := [.null, xv vad8 o1.2.2.2.1]) (rest := []) ⟨hx, hb, hml, hown, htx⟩ (gM_wait l hl9 D cT aK aV H.size n aM ad6 rd gd7 vad8 o1.2.2.2.2 0 o1.2.2.2.1 o11 hq12) ⟨callB_of 2 htx (xw_goodC kw_6_112) rfl rfl rfl (htx _ kw_1_5) (htx _ kw_6_109) ⟨by decide, by decide, by decide +kernel⟩ ⟨Nat.le_of_ble_eq_true rfl, Nat.le_of_ble_eq_true rfl⟩, (htx _ kw_6_111), (htx _ kp_M_wait)⟩ ⟨xPre_blind, va_recv hK hP (ci := 5) rfl (q0 := 0) rfl, (fun U hU hW => ⟨rfl, xPre_of hZ hS hFc hP hD hK U hU hW⟩)⟩ rfl rfl hl.1 rfl (xm_room (Nat.le_of_ble_eq_true rfl)) dM_elements_43 ⟨hm14.1, hm14.2⟩) hS (fun q _ h => hFc q h) hFc (fun u9 t H1 locs ht hvm hr9 hB hz1 hk1 hS => ?_)
      obtain ⟨hP1, hK1, hD1⟩ := hB
      rw [ht] at hP1
      obtain ⟨ad16, gd17, vad18⟩ := u9
      obtain ⟨hv19, hn20⟩ := hr9
      have hP : va_P D xcl (xMw cT aM ad16 rd gd17 vad18 o11.2.2 []) H1 := hP1
      have hD : va_D A (xMw cT aM ad16 rd gd17 vad18 o11.2.2 []) := hD1.weaken (fun k q _ h => hFc q.1 h)
      generalize H1 = H at hP hS ⊢
      have hE9 : ∀ p, p < xct st → vad18 p = vad p := fun p h => (hv19 p (Nat.lt_of_lt_of_le h hN)).trans (hE p h)
      have hE := hE9
      have hN : xct st ≤ xct o11.2.2 := Nat.le_trans hN hn20
      have ev21 : xv vad8 o1.2.2.2.1 = xv vad18 o1.2.2.2.1 := xvE hv19 hg13
      have hl : lv_has ls 4 [(2, xv vad18 o1.2.2.2.1), (1, .int y1), (0, .ref aM)] := by first | exact hl | ((try (rw [← ev21])); exact hl)
      refine W.eq (g2 := F0 m 46 ls []) (by first | rfl | ((try (rw [ev21])); rfl)) ?_
      refine lv_aload_n hx hb dM_elements_46 rfl (lv_at hl 2 rfl) ?_
      obtain ⟨o22, hq23, hf⟩ := xbind hf
      have hFc := xm_free hD hS hA
      refine va_callv (va_runV (C := "ValueBenchModel") (As := []) (rest := []) ⟨hx, hb, hml, hown, htx⟩ (gM_blanks l hl9 D cT aK aV H.size n aM ad16 rd gd17 vad18 o11.2.2 o22 hq23) ⟨callB_of 0 htx (xw_goodC kw_5_229) rfl rfl rfl (htx _ kw_1_5) (htx _ kw_5_226) ⟨by decide, by decide, by decide +kernel⟩ ⟨Nat.le_of_ble_eq_true rfl, Nat.le_of_ble_eq_true rfl⟩, (htx _ kw_5_228), (htx _ kp_M_blanks)⟩ ⟨xPre_blind, va_recv hK hP (ci := 5) rfl (q0 := 0) rfl, (fun U hU hW => ⟨rfl, xPre_of hZ hS hFc hP hD hK U hU hW⟩)⟩ rfl rfl hl.1 rfl (xm_room (Nat.le_of_ble_eq_true rfl)) dM_elements_47 ⟨hm14.1, hm14.2⟩) hS (fun q _ h => hFc q h) hFc (fun u9 t H1 locs ht hvm hr9 hB hz1 hk1 hS => ?_)
      obtain ⟨hP1, hK1, hD1⟩ := hB
      rw [ht] at hP1
      have hn25 := hr9
      have hN : xct st ≤ xct o22 := Nat.le_trans hN hn25
      have hP : va_P D xcl (xMw cT aM ad16 rd gd17 vad18 o22 []) H1 := hP1
      have hD : va_D A (xMw cT aM ad16 rd gd17 vad18 o22 []) := hD1.weaken (fun k q _ h => hFc q.1 h)
      generalize H1 = H at hP hS ⊢
      refine W.eq (g2 := F0 m 50 ls []) (by first | rfl | (skip; rfl)) ?_
      refine lv_aload_n hx hb dM_elements_50 rfl (lv_at hl 2 rfl) ?_
      obtain ⟨o26, hq27, hf⟩ := xbind hf
      have hFc := xm_free hD hS hA
      refine va_calli (va_runV (C := "ValueBenchModel") (As := []) (rest := []) ⟨hx, hb, hml, hown, htx⟩ (gM_peek l hl9 D cT aK aV H.size n aM ad16 rd gd17 vad18 o22 o26 hq27) ⟨callB_of 0 htx (xw_goodC kw_5_233) rfl rfl rfl (htx _ kw_1_5) (htx _ kw_5_230) ⟨by decide, by decide, by decide +kernel⟩ ⟨Nat.le_of_ble_eq_true rfl, Nat.le_of_ble_eq_true rfl⟩, (htx _ kw_5_232), (htx _ kp_M_peek)⟩ ⟨xPre_blind, va_recv hK hP (ci := 5) rfl (q0 := 0) rfl, (fun U hU hW => ⟨rfl, xPre_of hZ hS hFc hP hD hK U hU hW⟩)⟩ rfl rfl hl.1 rfl (xm_room (Nat.le_of_ble_eq_true rfl)) dM_elements_51 ⟨hm14.1, hm14.2⟩) hS (fun q _ h => hFc q h) hFc (fun r28 u9 t H1 locs ht hvm hr9 hB hz1 hk1 hS => ?_)
      obtain ⟨hP1, hK1, hD1⟩ := hB
      rw [ht] at hP1
      have hP : va_P D xcl (xMw cT aM ad16 rd gd17 vad18 o22 []) H1 := hP1
      have hD : va_D A (xMw cT aM ad16 rd gd17 vad18 o22 []) := hD1.weaken (fun k q _ h => hFc q.1 h)
      generalize H1 = H at hP hS ⊢
      rw [hr9]
      refine W.eq (g2 := F0 m 54 ls [.int o26]) (by first | rfl | (skip; rfl)) ?_
      refine lv_istore_n (lv' := [(3, .int o26), (2, xv vad18 o1.2.2.2.1), (1, .int y1), (0, .ref aM)]) hx hb dM_elements_54 rfl hl (by decide) (by simp only [List.filter, xvcat, xrscat, xcI, xcL, xcR, xcN]; rfl) (fun ls hl => ?_)
      refine lv_iload_n hx hb dM_elements_55 rfl (lv_at hl 0 rfl) ?_
      refine lv_bipush (v := 44) hx hb dM_elements_56 (by decide) ?_
      refine lv_icmp_eq (tgt := 75) hx hb dM_elements_58 (by decide) (fun hc => ?_) (fun hc => ?_)
      · rw [if_pos hc] at hf
        refine lv_aload_n hx hb dM_elements_75 rfl (lv_at hl 3 rfl) ?_
        refine lv_dup hx hb dM_elements_76 rfl ?_
        refine xm_get (v := .int (xsi o22 16)) hx hb htx hown hK hP 16 (by decide) rfl (htx _ kw_5_103) rfl dM_elements_77 ?_
        refine lv_iconst (v := 1) hx hb dM_elements_80 (by decide) ?_
        refine lv_iadd hx hb dM_elements_81 ?_
        refine xm_put (v := .int ((xsi o22 16) + (1 : Int32))) (W' := (xMw cT aM ad16 rd gd17 vad18 (xsI o22 16 ((xsi o22 16) + (1 : Int32))) [])) (ty := .int) hx hb htx hown hK hP hD hS 16 (by decide) rfl (htx _ kw_5_103) rfl rfl (by decide +kernel) rfl rfl dM_elements_82 (fun H locs hP hD hS => ?_)
        refine lv_iload_n hx hb dM_elements_85 rfl (lv_at hl 0 rfl) ?_
        refine lv_bipush (v := 93) hx hb dM_elements_86 (by decide) ?_
        refine lv_icmp_ne (tgt := 98) hx hb dM_elements_88 (by decide) (fun hc => ?_) (fun hc => ?_)
        · rw [if_neg hc] at hf
          refine lv_goto (tgt := 35) hx hb dM_elements_98 (by decide) ?_
          exact ih (1, y1, (xsI o22 16 ((xsi o22 16) + (1 : Int32))), ((wc + o1.2.1) + o11.1), ((wn + o1.2.2.1) + o11.2.1)) _ _ ls (⟨ad16, gd17, vad18, rfl, hf, hP, hD, hS, lv_sub hl [2, 3] rfl, hE, hN⟩)
        · rw [if_pos hc] at hf
          refine lv_aload_n hx hb dM_elements_91 rfl (lv_at hl 3 rfl) ?_
          refine lv_iconst (v := 5) hx hb dM_elements_92 (by decide) ?_
          refine lv_iload_n hx hb dM_elements_93 rfl (lv_at hl 2 rfl) ?_
          obtain ⟨o29, hq30, hf⟩ := xbind hf
          have hl := lv_sub (l' := [(3, .int o26), (1, .int y1), (0, .ref aM)]) hl [0, 2, 3] rfl
          by_cases hk31 : o29.1 = 0
          · rw [if_pos hk31] at hf
            obtain ⟨hm32, hf⟩ := xmoE hf
            have hFc := xm_free hD hS hA
            refine va_callq (va_runV (C := "ValueBenchModel") (As := [.int 5, .int y1]) (rest := []) ⟨hx, hb, hml, hown, htx⟩ (gM_whole l hl9 D cT aK aV H.size n aM ad16 rd gd17 vad18 (xsI o22 16 ((xsi o22 16) + (1 : Int32))) (5 : Int32) y1 o29 hq30 hk31) ⟨callB_of 2 htx (xw_goodC kw_6_106) rfl rfl rfl (htx _ kw_1_5) (htx _ kw_6_103) ⟨by decide, by decide, by decide +kernel⟩ ⟨Nat.le_of_ble_eq_true rfl, Nat.le_of_ble_eq_true rfl⟩, (htx _ kw_6_105), (htx _ kp_M_whole)⟩ ⟨xPre_blind, va_recv hK hP (ci := 5) rfl (q0 := 0) rfl, (fun U hU hW => ⟨rfl, xPre_of hZ hS hFc hP hD hK U hU hW⟩)⟩ rfl rfl hl.1 rfl (xm_room (Nat.le_of_ble_eq_true rfl)) dM_elements_94 ⟨hm32.1, hm32.2⟩) hS (fun q _ h => hFc q h) hFc (fun r33 u9 t H1 locs ht hvm hr9 hB hz1 hk1 hS => ?_)
            obtain ⟨hP1, hK1, hD1⟩ := hB
            rw [ht] at hP1
            obtain ⟨ad34, gd35, vad36⟩ := u9
            obtain ⟨hr9, hv37, hn38⟩ := hr9
            have hP : va_P D xcl (xMw cT aM ad34 rd gd35 vad36 o29.2.2.2.2 []) H1 := hP1
            have hD : va_D A (xMw cT aM ad34 rd gd35 vad36 o29.2.2.2.2 []) := hD1.weaken (fun k q _ h => hFc q.1 h)
            generalize H1 = H at hP hS ⊢
            have hE9 : ∀ p, p < xct st → vad36 p = vad p := fun p h => (hv37 p (Nat.lt_of_lt_of_le h hN)).trans (hE p h)
            have hE := hE9
            have hN : xct st ≤ xct o29.2.2.2.2 := Nat.le_trans hN hn38
            rw [hr9]
            refine W.eq (g2 := F0 m 97 ls [xv vad36 o29.2.2.2.1]) (by first | rfl | (skip; rfl)) ?_
            obtain rfl := Option.some.inj hf
            exact W.aret (v := xv vad36 o29.2.2.2.1) hx hb hr (Or.inl ⟨_, rfl⟩) (xvor _ _) (fun t ht hW => ⟨⟨xca vad36 o29.2.2.2.1, (ad34, gd35, vad36), rfl, ⟨rfl, hE, hN⟩, by rw [ht]; exact hP, va_K.moved hW.alike hK, hD⟩, hS.F ht⟩) hS.2.2 dM_elements_97
          rw [if_neg hk31] at hf
          by_cases hk39 : o29.1 = 1
          · rw [if_pos hk39] at hf
            obtain ⟨hm40, hf⟩ := xmoE hf
            obtain rfl := Option.some.inj hf
            exact absurd (show (1 : Nat) = 0 from hkd) (by decide)
          rw [if_neg hk39] at hf
          exact nomatch hf
      · rw [if_neg hc] at hf
        refine lv_iload_n hx hb dM_elements_61 rfl (lv_at hl 0 rfl) ?_
        refine lv_bipush (v := 93) hx hb dM_elements_62 (by decide) ?_
        refine lv_icmp_eq (tgt := 75) hx hb dM_elements_64 (by decide) (fun hc => ?_) (fun hc => ?_)
        · rw [if_pos hc] at hf
          refine lv_aload_n hx hb dM_elements_75 rfl (lv_at hl 3 rfl) ?_
          refine lv_dup hx hb dM_elements_76 rfl ?_
          refine xm_get (v := .int (xsi o22 16)) hx hb htx hown hK hP 16 (by decide) rfl (htx _ kw_5_103) rfl dM_elements_77 ?_
          refine lv_iconst (v := 1) hx hb dM_elements_80 (by decide) ?_
          refine lv_iadd hx hb dM_elements_81 ?_
          refine xm_put (v := .int ((xsi o22 16) + (1 : Int32))) (W' := (xMw cT aM ad16 rd gd17 vad18 (xsI o22 16 ((xsi o22 16) + (1 : Int32))) [])) (ty := .int) hx hb htx hown hK hP hD hS 16 (by decide) rfl (htx _ kw_5_103) rfl rfl (by decide +kernel) rfl rfl dM_elements_82 (fun H locs hP hD hS => ?_)
          refine lv_iload_n hx hb dM_elements_85 rfl (lv_at hl 0 rfl) ?_
          refine lv_bipush (v := 93) hx hb dM_elements_86 (by decide) ?_
          refine lv_icmp_ne (tgt := 98) hx hb dM_elements_88 (by decide) (fun hc => ?_) (fun hc => ?_)
          · rw [if_neg hc] at hf
            refine lv_goto (tgt := 35) hx hb dM_elements_98 (by decide) ?_
            exact ih (1, y1, (xsI o22 16 ((xsi o22 16) + (1 : Int32))), ((wc + o1.2.1) + o11.1), ((wn + o1.2.2.1) + o11.2.1)) _ _ ls (⟨ad16, gd17, vad18, rfl, hf, hP, hD, hS, lv_sub hl [2, 3] rfl, hE, hN⟩)
          · rw [if_pos hc] at hf
            refine lv_aload_n hx hb dM_elements_91 rfl (lv_at hl 3 rfl) ?_
            refine lv_iconst (v := 5) hx hb dM_elements_92 (by decide) ?_
            refine lv_iload_n hx hb dM_elements_93 rfl (lv_at hl 2 rfl) ?_
            obtain ⟨o29, hq30, hf⟩ := xbind hf
            have hl := lv_sub (l' := [(3, .int o26), (1, .int y1), (0, .ref aM)]) hl [0, 2, 3] rfl
            by_cases hk31 : o29.1 = 0
            · rw [if_pos hk31] at hf
              obtain ⟨hm32, hf⟩ := xmoE hf
              have hFc := xm_free hD hS hA
              refine va_callq (va_runV (C := "ValueBenchModel") (As := [.int 5, .int y1]) (rest := []) ⟨hx, hb, hml, hown, htx⟩ (gM_whole l hl9 D cT aK aV H.size n aM ad16 rd gd17 vad18 (xsI o22 16 ((xsi o22 16) + (1 : Int32))) (5 : Int32) y1 o29 hq30 hk31) ⟨callB_of 2 htx (xw_goodC kw_6_106) rfl rfl rfl (htx _ kw_1_5) (htx _ kw_6_103) ⟨by decide, by decide, by decide +kernel⟩ ⟨Nat.le_of_ble_eq_true rfl, Nat.le_of_ble_eq_true rfl⟩, (htx _ kw_6_105), (htx _ kp_M_whole)⟩ ⟨xPre_blind, va_recv hK hP (ci := 5) rfl (q0 := 0) rfl, (fun U hU hW => ⟨rfl, xPre_of hZ hS hFc hP hD hK U hU hW⟩)⟩ rfl rfl hl.1 rfl (xm_room (Nat.le_of_ble_eq_true rfl)) dM_elements_94 ⟨hm32.1, hm32.2⟩) hS (fun q _ h => hFc q h) hFc (fun r33 u9 t H1 locs ht hvm hr9 hB hz1 hk1 hS => ?_)
              obtain ⟨hP1, hK1, hD1⟩ := hB
              rw [ht] at hP1
              obtain ⟨ad34, gd35, vad36⟩ := u9
              obtain ⟨hr9, hv37, hn38⟩ := hr9
              have hP : va_P D xcl (xMw cT aM ad34 rd gd35 vad36 o29.2.2.2.2 []) H1 := hP1
              have hD : va_D A (xMw cT aM ad34 rd gd35 vad36 o29.2.2.2.2 []) := hD1.weaken (fun k q _ h => hFc q.1 h)
              generalize H1 = H at hP hS ⊢
              have hE9 : ∀ p, p < xct st → vad36 p = vad p := fun p h => (hv37 p (Nat.lt_of_lt_of_le h hN)).trans (hE p h)
              have hE := hE9
              have hN : xct st ≤ xct o29.2.2.2.2 := Nat.le_trans hN hn38
              rw [hr9]
              refine W.eq (g2 := F0 m 97 ls [xv vad36 o29.2.2.2.1]) (by first | rfl | (skip; rfl)) ?_
              obtain rfl := Option.some.inj hf
              exact W.aret (v := xv vad36 o29.2.2.2.1) hx hb hr (Or.inl ⟨_, rfl⟩) (xvor _ _) (fun t ht hW => ⟨⟨xca vad36 o29.2.2.2.1, (ad34, gd35, vad36), rfl, ⟨rfl, hE, hN⟩, by rw [ht]; exact hP, va_K.moved hW.alike hK, hD⟩, hS.F ht⟩) hS.2.2 dM_elements_97
            rw [if_neg hk31] at hf
            by_cases hk39 : o29.1 = 1
            · rw [if_pos hk39] at hf
              obtain ⟨hm40, hf⟩ := xmoE hf
              obtain rfl := Option.some.inj hf
              exact absurd (show (1 : Nat) = 0 from hkd) (by decide)
            rw [if_neg hk39] at hf
            exact nomatch hf
        · rw [if_neg hc] at hf
          refine lv_aload_n hx hb dM_elements_67 rfl (lv_at hl 3 rfl) ?_
          refine lv_aload_n hx hb dM_elements_68 rfl (lv_at hl 3 rfl) ?_
          refine xm_get (v := .int (xsi o22 16)) hx hb htx hown hK hP 16 (by decide) rfl (htx _ kw_5_103) rfl dM_elements_69 ?_
          obtain ⟨o29, hq30, hf⟩ := xbind hf
          by_cases hk31 : o29.1 = 1
          · rw [if_pos hk31] at hf
            obtain ⟨hg32, hf⟩ := xifn hf
            obtain ⟨hm33, hf⟩ := xmoE hf
            obtain rfl := Option.some.inj hf
            exact absurd (show (2 : Nat) = 0 from hkd) (by decide)
          rw [if_neg hk31] at hf
          exact nomatch hf
    rw [if_neg hk3] at hf
    by_cases hk29 : o1.1 = 1
    · rw [if_pos hk29] at hf
      obtain ⟨hm30, hf⟩ := xmoE hf
      obtain rfl := Option.some.inj hf
      exact absurd (show (2 : Nat) = 0 from hkd) (by decide)
    rw [if_neg hk29] at hf
    by_cases hk37 : o1.1 = 2
    · rw [if_pos hk37] at hf
      obtain ⟨hm38, hf⟩ := xmoE hf
      obtain rfl := Option.some.inj hf
      exact absurd (show (1 : Nat) = 0 from hkd) (by decide)
    rw [if_neg hk37] at hf
    by_cases hk45 : o1.1 = 3
    · rw [if_pos hk45] at hf
      obtain ⟨hm46, hf⟩ := xmoE hf
      obtain rfl := Option.some.inj hf
      exact absurd (show (3 : Nat) = 0 from hkd) (by decide)
    rw [if_neg hk45] at hf
    exact nomatch hf
  refine lv_aload_n hx hb dM_elements_0 rfl (lv_at hl 0 rfl) ?_
  refine xm_get (v := .int (xsi st 12)) hx hb htx hown hK hP 12 (by decide) rfl (htx _ kw_5_99) rfl dM_elements_1 ?_
  refine lv_istore_n (lv' := [(1, .int (xsi st 12)), (0, .ref aM)]) hx hb dM_elements_4 rfl hl (by decide) rfl (fun ls hl => ?_)
  refine lv_aload_n hx hb dM_elements_5 rfl (lv_at hl 1 rfl) ?_
  obtain ⟨o1, hq2, hf⟩ := xbind hf
  have hFc := xm_free hD hS hA
  refine va_callv (va_runV (C := "ValueBenchModel") (As := []) (rest := []) ⟨hx, hb, hml, hown, htx⟩ (gM_blanks l hl9 D cT aK aV s.heap.size n aM ad rd gd vad st o1 hq2) ⟨callB_of 0 htx (xw_goodC kw_5_229) rfl rfl rfl (htx _ kw_1_5) (htx _ kw_5_226) ⟨by decide, by decide, by decide +kernel⟩ ⟨Nat.le_of_ble_eq_true rfl, Nat.le_of_ble_eq_true rfl⟩, (htx _ kw_5_228), (htx _ kp_M_blanks)⟩ ⟨xPre_blind, va_recv hK hP (ci := 5) rfl (q0 := 0) rfl, (fun U hU hW => ⟨rfl, xPre_of hZ hS hFc hP hD hK U hU hW⟩)⟩ rfl rfl hl.1 rfl (xm_room (Nat.le_of_ble_eq_true rfl)) dM_elements_6 ⟨Nat.zero_le _, Nat.zero_le _⟩) hS (fun q _ h => hFc q h) hFc (fun u9 t H1 locs ht hvm hr9 hB hz1 hk1 hS => ?_)
  obtain ⟨hP1, hK1, hD1⟩ := hB
  rw [ht] at hP1
  have hn4 := hr9
  have hN : xct st ≤ xct o1 := Nat.le_trans hN hn4
  have hP : va_P D xcl (xMw cT aM ad rd gd vad o1 []) H1 := hP1
  have hD : va_D A (xMw cT aM ad rd gd vad o1 []) := hD1.weaken (fun k q _ h => hFc q.1 h)
  generalize H1 = H at hP hS ⊢
  refine W.eq (g2 := F0 m 9 ls []) (by first | rfl | (skip; rfl)) ?_
  refine lv_aload_n hx hb dM_elements_9 rfl (lv_at hl 1 rfl) ?_
  obtain ⟨o5, hq6, hf⟩ := xbind hf
  have hFc := xm_free hD hS hA
  refine va_calli (va_runV (C := "ValueBenchModel") (As := []) (rest := []) ⟨hx, hb, hml, hown, htx⟩ (gM_peek l hl9 D cT aK aV H.size n aM ad rd gd vad o1 o5 hq6) ⟨callB_of 0 htx (xw_goodC kw_5_233) rfl rfl rfl (htx _ kw_1_5) (htx _ kw_5_230) ⟨by decide, by decide, by decide +kernel⟩ ⟨Nat.le_of_ble_eq_true rfl, Nat.le_of_ble_eq_true rfl⟩, (htx _ kw_5_232), (htx _ kp_M_peek)⟩ ⟨xPre_blind, va_recv hK hP (ci := 5) rfl (q0 := 0) rfl, (fun U hU hW => ⟨rfl, xPre_of hZ hS hFc hP hD hK U hU hW⟩)⟩ rfl rfl hl.1 rfl (xm_room (Nat.le_of_ble_eq_true rfl)) dM_elements_10 ⟨Nat.zero_le _, Nat.zero_le _⟩) hS (fun q _ h => hFc q h) hFc (fun r7 u9 t H1 locs ht hvm hr9 hB hz1 hk1 hS => ?_)
  obtain ⟨hP1, hK1, hD1⟩ := hB
  rw [ht] at hP1
  have hP : va_P D xcl (xMw cT aM ad rd gd vad o1 []) H1 := hP1
  have hD : va_D A (xMw cT aM ad rd gd vad o1 []) := hD1.weaken (fun k q _ h => hFc q.1 h)
  generalize H1 = H at hP hS ⊢
  rw [hr9]
  refine W.eq (g2 := F0 m 13 ls [.int o5]) (by first | rfl | (skip; rfl)) ?_
  refine lv_bipush (v := 93) hx hb dM_elements_13 (by decide) ?_
  refine lv_icmp_ne (tgt := 35) hx hb dM_elements_15 (by decide) (fun hc => ?_) (fun hc => ?_)
  · rw [if_neg hc] at hf
    exact key n (1, (xsi st 12), o1, 0, 0) _ _ ls (⟨ad, gd, vad, rfl, hf, hP, hD, hS, lv_sub hl [0, 1] rfl, hE, hN⟩)
  · rw [if_pos hc] at hf
    refine lv_aload_n hx hb dM_elements_18 rfl (lv_at hl 1 rfl) ?_
    refine lv_dup hx hb dM_elements_19 rfl ?_
    refine xm_get (v := .int (xsi o1 16)) hx hb htx hown hK hP 16 (by decide) rfl (htx _ kw_5_103) rfl dM_elements_20 ?_
    refine lv_iconst (v := 1) hx hb dM_elements_23 (by decide) ?_
    refine lv_iadd hx hb dM_elements_24 ?_
    refine xm_put (v := .int ((xsi o1 16) + (1 : Int32))) (W' := (xMw cT aM ad rd gd vad (xsI o1 16 ((xsi o1 16) + (1 : Int32))) [])) (ty := .int) hx hb htx hown hK hP hD hS 16 (by decide) rfl (htx _ kw_5_103) rfl rfl (by decide +kernel) rfl rfl dM_elements_25 (fun H locs hP hD hS => ?_)
    refine lv_aload_n hx hb dM_elements_28 rfl (lv_at hl 1 rfl) ?_
    refine lv_iconst (v := 5) hx hb dM_elements_29 (by decide) ?_
    refine lv_iload_n hx hb dM_elements_30 rfl (lv_at hl 0 rfl) ?_
    obtain ⟨o8, hq9, hf⟩ := xbind hf
    by_cases hk10 : o8.1 = 0
    · rw [if_pos hk10] at hf
      obtain ⟨hm11, hf⟩ := xmoE hf
      have hFc := xm_free hD hS hA
      refine va_callq (va_runV (C := "ValueBenchModel") (As := [.int 5, .int (xsi st 12)]) (rest := []) ⟨hx, hb, hml, hown, htx⟩ (gM_whole l hl9 D cT aK aV H.size n aM ad rd gd vad (xsI o1 16 ((xsi o1 16) + (1 : Int32))) (5 : Int32) (xsi st 12) o8 hq9 hk10) ⟨callB_of 2 htx (xw_goodC kw_6_106) rfl rfl rfl (htx _ kw_1_5) (htx _ kw_6_103) ⟨by decide, by decide, by decide +kernel⟩ ⟨Nat.le_of_ble_eq_true rfl, Nat.le_of_ble_eq_true rfl⟩, (htx _ kw_6_105), (htx _ kp_M_whole)⟩ ⟨xPre_blind, va_recv hK hP (ci := 5) rfl (q0 := 0) rfl, (fun U hU hW => ⟨rfl, xPre_of hZ hS hFc hP hD hK U hU hW⟩)⟩ rfl rfl hl.1 rfl (xm_room (Nat.le_of_ble_eq_true rfl)) dM_elements_31 ⟨hm11.1, hm11.2⟩) hS (fun q _ h => hFc q h) hFc (fun r12 u9 t H1 locs ht hvm hr9 hB hz1 hk1 hS => ?_)
      obtain ⟨hP1, hK1, hD1⟩ := hB
      rw [ht] at hP1
      obtain ⟨ad13, gd14, vad15⟩ := u9
      obtain ⟨hr9, hv16, hn17⟩ := hr9
      have hP : va_P D xcl (xMw cT aM ad13 rd gd14 vad15 o8.2.2.2.2 []) H1 := hP1
      have hD : va_D A (xMw cT aM ad13 rd gd14 vad15 o8.2.2.2.2 []) := hD1.weaken (fun k q _ h => hFc q.1 h)
      generalize H1 = H at hP hS ⊢
      have hE9 : ∀ p, p < xct st → vad15 p = vad p := fun p h => (hv16 p (Nat.lt_of_lt_of_le h hN)).trans (hE p h)
      have hE := hE9
      have hN : xct st ≤ xct o8.2.2.2.2 := Nat.le_trans hN hn17
      rw [hr9]
      refine W.eq (g2 := F0 m 34 ls [xv vad15 o8.2.2.2.1]) (by first | rfl | (skip; rfl)) ?_
      obtain rfl := Option.some.inj hf
      exact W.aret (v := xv vad15 o8.2.2.2.1) hx hb hr (Or.inl ⟨_, rfl⟩) (xvor _ _) (fun t ht hW => ⟨⟨xca vad15 o8.2.2.2.1, (ad13, gd14, vad15), rfl, ⟨rfl, hE, hN⟩, by rw [ht]; exact hP, va_K.moved hW.alike hK, hD⟩, hS.F ht⟩) hS.2.2 dM_elements_34
    rw [if_neg hk10] at hf
    by_cases hk18 : o8.1 = 1
    · rw [if_pos hk18] at hf
      obtain ⟨hm19, hf⟩ := xmoE hf
      obtain rfl := Option.some.inj hf
      exact absurd (show (1 : Nat) = 0 from hkd) (by decide)
    rw [if_neg hk18] at hf
    exact nomatch hf
set_option maxHeartbeats 400000000 in
set_option maxRecDepth 100000 in
theorem gM_elements_1 (l : Launch) (hl9 : l.stackTraces = false) (D : va_G) (cT : Nat → ClassId) (aK aV : Nat → Nat) (fr lo : Nat) (rec : xS → Option (Nat × Nat × Nat × Nat × xS)) (hrec : ∀ (sz aM : Nat) (ad rd gd vad : Nat → Nat) (st : xS) (out : Nat × Nat × Nat × Nat × xS), rec st = some out → (out.1 = 0 → xMet l yM_value wyM_value fr out.2.1 out.2.2.1 lo D cT aK aV sz [.ref aM] (xMw cT aM ad rd gd vad st []) (fun A => va_Qq (fun (r : Option Nat) (u : xU) => r = xca u.2.2 out.2.2.2.1 ∧ xE vad st out.2.2.2.2 u) (fun u t => xB D xcl cT A (xMw cT aM u.1 rd u.2.1 u.2.2 out.2.2.2.2 []) t) A)) ∧ (out.1 = 1 → xMetY l yM_value wyM_value fr out.2.1 out.2.2.1 lo D cT aK aV sz [.ref aM] (xMw cT aM ad rd gd vad st []) "java/lang/UnsupportedOperationException" (fun u => xE vad st out.2.2.2.2 u) (fun A u t => xB D xcl cT A (xMw cT aM u.1 rd u.2.1 u.2.2 out.2.2.2.2 []) t)) ∧ (out.1 = 2 → xMetY l yM_value wyM_value fr out.2.1 out.2.2.1 lo D cT aK aV sz [.ref aM] (xMw cT aM ad rd gd vad st []) "java/lang/IndexOutOfBoundsException" (fun u => xE vad st out.2.2.2.2 u) (fun A u t => xB D xcl cT A (xMw cT aM u.1 rd u.2.1 u.2.2 out.2.2.2.2 []) t)) ∧ (out.1 = 3 → xMetY l yM_value wyM_value fr out.2.1 out.2.2.1 lo D cT aK aV sz [.ref aM] (xMw cT aM ad rd gd vad st []) "java/lang/ArithmeticException" (fun u => xE vad st out.2.2.2.2 u) (fun A u t => xB D xcl cT A (xMw cT aM u.1 rd u.2.1 u.2.2 out.2.2.2.2 []) t))) (sz n : Nat) (aM : Nat) (ad rd gd vad : Nat → Nat) (st : xS) (out : Nat × Nat × Nat × Nat × xS) (hf : fM_elements rec n st = some out) (hkd : out.1 = 1) : xMetY l yM_elements wyM_elements (fr + 8) out.2.1 out.2.2.1 (lo + 147) D cT aK aV sz [.ref aM] (xMw cT aM ad rd gd vad st []) "java/lang/IndexOutOfBoundsException" (fun u => xE vad st out.2.2.2.2 u) (fun A u t => xB D xcl cT A (xMw cT aM u.1 rd u.2.1 u.2.2 out.2.2.2.2 []) t) := by
  refine vx_ofW (cc := prog_13_method_39_code) (maxL := 4) (ret := (some (.object "ValueBenchModel$V"))) (by decide) rfl ?_
  intro p e s m args below meth c s₁ B hml hne hv
  obtain ⟨rfl, hsz, hZ, hP, hK, hD0⟩ := hv
  have hx := B.exec
  have hb := B.bytes
  have hr := B.returns
  have hts := atoms_spec (ws := wyM_elements) B.pre
  have htx := fun w h => hts w (List.mem_cons_of_mem _ h)
  have hown : s.vm.findClass "ValueBenchModel" = some m.cls := findClass_of_methodNamed B.named
  have hlocks := B.notSynchronized
  subst hsz
  have hD := hD0.self (sz := s.heap.size)
  generalize hAe : va_A (xMw cT aM ad rd gd vad st []) s.heap.size = A at hD hZ ⊢
  have hA : ∀ q : Nat, s.heap.size ≤ q → A q := fun q h => by rw [← hAe]; exact Or.inr h
  have hS : va_S A s.heap s.heap [] := va_S.rf
  have hl := lv_entry ([.ref aM]) (n := 4) (by simp [lg_sl, xvcat, xrscat, xcI, xcL, xcR, xcN])
  rw [show lv_args 0 [.ref aM] = [(0, .ref aM)] from by simp [lv_args, xvcat, xrscat, xcI, xcL, xcR, xcN]] at hl
  rw [lg_entry_eq]
  generalize (lg_sl ([.ref aM]) ++ List.replicate (4 - (lg_sl ([.ref aM])).length) Slot.unset).toArray = ls at hl ⊢
  have hl : lv_has ls 4 [(0, .ref aM)] := hl
  have hE : ∀ p, p < xct st → vad p = vad p := fun _ _ => rfl
  have hN : xct st ≤ xct st := Nat.le_refl _
  unfold fM_elements at hf
  refine xloopM (σ := Nat × Int32 × xS × Nat × Nat) (fun n x H locs ls => (∃ (adL gdL vadL : Nat → Nat), x.1 = 1 ∧ fM_elements_b rec n x.1 x.2.1 x.2.2.1 x.2.2.2.1 x.2.2.2.2 = some out ∧ va_P D xcl (xMw cT aM adL rd gdL vadL x.2.2.1 []) H ∧ va_D A (xMw cT aM adL rd gdL vadL x.2.2.1 []) ∧ va_S A s.heap H locs ∧ lv_has ls 4 [(1, .int x.2.1), (0, .ref aM)] ∧ (∀ p, p < xct st → vadL p = vad p) ∧ xct st ≤ xct x.2.2.1)) (fun x => 35) (fun x => x.2.2.2.1) (fun x => x.2.2.2.2) (fun x H locs ls h => by (obtain ⟨_, _, _, h⟩ := h; exact absurd h.2.1 (by rw [fM_elements_b]; exact fun h => nomatch h))) (fun n ih x H locs ls hv => ?_) (fun key => ?_)
  · obtain ⟨lb, y1, ws9, wc, wn⟩ := x
    rcases hv with ⟨adL, gdL, vadL, hj, hf, hP, hD, hS, hl, hE, hN⟩
    subst hj
    have hf : fM_elements_b rec (n + 1) 1 y1 ws9 wc wn = some out := hf
    rw [fM_elements_b] at hf
    obtain ⟨hP, hD⟩ : xPD D xcl A (xMw cT aM adL rd gdL vadL ws9 []) H := ⟨hP, hD⟩
    have hl : lv_has ls 4 [(1, .int y1), (0, .ref aM)] := hl
    refine W.eq (g2 := F0 m 35 ls []) rfl ?_
    show W p l e _ s m _ below meth c H locs wc wn _ _
    obtain ⟨hm0, hf⟩ := xmoE hf
    refine lv_aload_n hx hb dM_elements_35 rfl (lv_at hl 1 rfl) ?_
    obtain ⟨o1, hq2, hf⟩ := xbind hf
    by_cases hk3 : o1.1 = 0
    · rw [if_pos hk3] at hf
      obtain ⟨hm4, hf⟩ := xmoE hf
      have hFc := xm_free hD hS hA
      refine va_callq (va_runV (C := "ValueBenchModel") (As := []) (rest := []) ⟨hx, hb, hml, hown, htx⟩ ((hrec H.size aM adL rd gdL vadL ws9 o1 hq2).1 hk3) ⟨callB_of 0 htx (xw_goodC kw_5_225) rfl rfl rfl (htx _ kw_1_5) (htx _ kw_5_222) ⟨by decide, by decide, by decide +kernel⟩ ⟨(by show (fr) + 1 ≤ fr + 8; omega), (by show 8 + (3 + 11) + (lo) ≤ lo + 147; omega)⟩, (htx _ kw_5_224), (htx _ kp_M_value)⟩ ⟨xPre_blind, va_recv hK hP (ci := 5) rfl (q0 := 0) rfl, (fun U hU hW => ⟨rfl, xPre_of hZ hS hFc hP hD hK U hU hW⟩)⟩ rfl rfl hl.1 rfl (xm_room (Nat.le_of_ble_eq_true rfl)) dM_elements_36 ⟨hm4.1, hm4.2⟩) hS (fun q _ h => hFc q h) hFc (fun r5 u9 t H1 locs ht hvm hr9 hB hz1 hk1 hS => ?_)
      obtain ⟨hP1, hK1, hD1⟩ := hB
      rw [ht] at hP1
      obtain ⟨ad6, gd7, vad8⟩ := u9
      obtain ⟨hr9, hv9, hn10⟩ := hr9
      have hP : va_P D xcl (xMw cT aM ad6 rd gd7 vad8 o1.2.2.2.2 []) H1 := hP1
      have hD : va_D A (xMw cT aM ad6 rd gd7 vad8 o1.2.2.2.2 []) := hD1.weaken (fun k q _ h => hFc q.1 h)
      generalize H1 = H at hP hS ⊢
      have hE9 : ∀ p, p < xct st → vad8 p = vad p := fun p h => (hv9 p (Nat.lt_of_lt_of_le h hN)).trans (hE p h)
      have hE := hE9
      have hN : xct st ≤ xct o1.2.2.2.2 := Nat.le_trans hN hn10
      rw [hr9]
      refine W.eq (g2 := F0 m 39 ls [xv vad8 o1.2.2.2.1]) (by first | rfl | (skip; rfl)) ?_
      refine xm_astore_n (lv' := [(2, xv vad8 o1.2.2.2.1), (1, .int y1), (0, .ref aM)]) hx hb (xvor _ _) dM_elements_39 rfl hl (by decide) rfl (fun ls hl => ?_)
      refine lv_aload_n hx hb dM_elements_40 rfl (lv_at hl 2 rfl) ?_
      refine lv_null hx hb dM_elements_41 ?_
      refine xm_aload_n hx hb (xvor _ _) dM_elements_42 rfl (lv_at hl 0 rfl) ?_
      obtain ⟨o11, hq12, hf⟩ := xbind hf
      obtain ⟨hg13, hf⟩ := xifn hf
      obtain ⟨hm14, hf⟩ := xmoE hf
      have hFc := xm_free hD hS hA
      refine va_callv (va_runV (C := "ValueBenchModel") (As := [.null, xv vad8 o1.2.2.2.1]) (rest := []) ⟨hx, hb, hml, hown, htx⟩ (gM_wait l hl9 D cT aK aV H.size n aM ad6 rd gd7 vad8 o1.2.2.2.2 0 o1.2.2.2.1 o11 hq12) ⟨callB_of 2 htx (xw_goodC kw_6_112) rfl rfl rfl (htx _ kw_1_5) (htx _ kw_6_109) ⟨by decide, by decide, by decide +kernel⟩ ⟨Nat.le_of_ble_eq_true rfl, Nat.le_of_ble_eq_true rfl⟩, (htx _ kw_6_111), (htx _ kp_M_wait)⟩ ⟨xPre_blind, va_recv hK hP (ci := 5) rfl (q0 := 0) rfl, (fun U hU hW => ⟨rfl, xPre_of hZ hS hFc hP hD hK U hU hW⟩)⟩ rfl rfl hl.1 rfl (xm_room (Nat.le_of_ble_eq_true rfl)) dM_elements_43 ⟨hm14.1, hm14.2⟩) hS (fun q _ h => hFc q h) hFc (fun u9 t H1 locs ht hvm hr9 hB hz1 hk1 hS => ?_)
      obtain ⟨hP1, hK1, hD1⟩ := hB
      rw [ht] at hP1
      obtain ⟨ad16, gd17, vad18⟩ := u9
      obtain ⟨hv19, hn20⟩ := hr9
      have hP : va_P D xcl (xMw cT aM ad16 rd gd17 vad18 o11.2.2 []) H1 := hP1
      have hD : va_D A (xMw cT aM ad16 rd gd17 vad18 o11.2.2 []) := hD1.weaken (fun k q _ h => hFc q.1 h)
      generalize H1 = H at hP hS ⊢
      have hE9 : ∀ p, p < xct st → vad18 p = vad p := fun p h => (hv19 p (Nat.lt_of_lt_of_le h hN)).trans (hE p h)
      have hE := hE9
      have hN : xct st ≤ xct o11.2.2 := Nat.le_trans hN hn20
      have ev21 : xv vad8 o1.2.2.2.1 = xv vad18 o1.2.2.2.1 := xvE hv19 hg13
      have hl : lv_has ls 4 [(2, xv vad18 o1.2.2.2.1), (1, .int y1), (0, .ref aM)] := by first | exact hl | ((try (rw [← ev21])); exact hl)
      refine W.eq (g2 := F0 m 46 ls []) (by first | rfl | ((try (rw [ev21])); rfl)) ?_
      refine lv_aload_n hx hb dM_elements_46 rfl (lv_at hl 2 rfl) ?_
      obtain ⟨o22, hq23, hf⟩ := xbind hf
      have hFc := xm_free hD hS hA
      refine va_callv (va_runV (C := "ValueBenchModel") (As := []) (rest := []) ⟨hx, hb, hml, hown, htx⟩ (gM_blanks l hl9 D cT aK aV H.size n aM ad16 rd gd17 vad18 o11.2.2 o22 hq23) ⟨callB_of 0 htx (xw_goodC kw_5_229) rfl rfl rfl (htx _ kw_1_5) (htx _ kw_5_226) ⟨by decide, by decide, by decide +kernel⟩ ⟨Nat.le_of_ble_eq_true rfl, Nat.le_of_ble_eq_true rfl⟩, (htx _ kw_5_228), (htx _ kp_M_blanks)⟩ ⟨xPre_blind, va_recv hK hP (ci := 5) rfl (q0 := 0) rfl, (fun U hU hW => ⟨rfl, xPre_of hZ hS hFc hP hD hK U hU hW⟩)⟩ rfl rfl hl.1 rfl (xm_room (Nat.le_of_ble_eq_true rfl)) dM_elements_47 ⟨hm14.1, hm14.2⟩) hS (fun q _ h => hFc q h) hFc (fun u9 t H1 locs ht hvm hr9 hB hz1 hk1 hS => ?_)
      obtain ⟨hP1, hK1, hD1⟩ := hB
      rw [ht] at hP1
      have hn25 := hr9
      have hN : xct st ≤ xct o22 := Nat.le_trans hN hn25
      have hP : va_P D xcl (xMw cT aM ad16 rd gd17 vad18 o22 []) H1 := hP1
      have hD : va_D A (xMw cT aM ad16 rd gd17 vad18 o22 []) := hD1.weaken (fun k q _ h => hFc q.1 h)
      generalize H1 = H at hP hS ⊢
      refine W.eq (g2 := F0 m 50 ls []) (by first | rfl | (skip; rfl)) ?_
      refine lv_aload_n hx hb dM_elements_50 rfl (lv_at hl 2 rfl) ?_
      obtain ⟨o26, hq27, hf⟩ := xbind hf
      have hFc := xm_free hD hS hA
      refine va_calli (va_runV (C := "ValueBenchModel") (As := []) (rest := []) ⟨hx, hb, hml, hown, htx⟩ (gM_peek l hl9 D cT aK aV H.size n aM ad16 rd gd17 vad18 o22 o26 hq27) ⟨callB_of 0 htx (xw_goodC kw_5_233) rfl rfl rfl (htx _ kw_1_5) (htx _ kw_5_230) ⟨by decide, by decide, by decide +kernel⟩ ⟨Nat.le_of_ble_eq_true rfl, Nat.le_of_ble_eq_true rfl⟩, (htx _ kw_5_232), (htx _ kp_M_peek)⟩ ⟨xPre_blind, va_recv hK hP (ci := 5) rfl (q0 := 0) rfl, (fun U hU hW => ⟨rfl, xPre_of hZ hS hFc hP hD hK U hU hW⟩)⟩ rfl rfl hl.1 rfl (xm_room (Nat.le_of_ble_eq_true rfl)) dM_elements_51 ⟨hm14.1, hm14.2⟩) hS (fun q _ h => hFc q h) hFc (fun r28 u9 t H1 locs ht hvm hr9 hB hz1 hk1 hS => ?_)
      obtain ⟨hP1, hK1, hD1⟩ := hB
      rw [ht] at hP1
      have hP : va_P D xcl (xMw cT aM ad16 rd gd17 vad18 o22 []) H1 := hP1
      have hD : va_D A (xMw cT aM ad16 rd gd17 vad18 o22 []) := hD1.weaken (fun k q _ h => hFc q.1 h)
      generalize H1 = H at hP hS ⊢
      rw [hr9]
      refine W.eq (g2 := F0 m 54 ls [.int o26]) (by first | rfl | (skip; rfl)) ?_
      refine lv_istore_n (lv' := [(3, .int o26), (2, xv vad18 o1.2.2.2.1), (1, .int y1), (0, .ref aM)]) hx hb dM_elements_54 rfl hl (by decide) (by simp only [List.filter, xvcat, xrscat, xcI, xcL, xcR, xcN]; rfl) (fun ls hl => ?_)
      refine lv_iload_n hx hb dM_elements_55 rfl (lv_at hl 0 rfl) ?_
      refine lv_bipush (v := 44) hx hb dM_elements_56 (by decide) ?_
      refine lv_icmp_eq (tgt := 75) hx hb dM_elements_58 (by decide) (fun hc => ?_) (fun hc => ?_)
      · rw [if_pos hc] at hf
        refine lv_aload_n hx hb dM_elements_75 rfl (lv_at hl 3 rfl) ?_
        refine lv_dup hx hb dM_elements_76 rfl ?_
        refine xm_get (v := .int (xsi o22 16)) hx hb htx hown hK hP 16 (by decide) rfl (htx _ kw_5_103) rfl dM_elements_77 ?_
        refine lv_iconst (v := 1) hx hb dM_elements_80 (by decide) ?_
        refine lv_iadd hx hb dM_elements_81 ?_
        refine xm_put (v := .int ((xsi o22 16) + (1 : Int32))) (W' := (xMw cT aM ad16 rd gd17 vad18 (xsI o22 16 ((xsi o22 16) + (1 : Int32))) [])) (ty := .int) hx hb htx hown hK hP hD hS 16 (by decide) rfl (htx _ kw_5_103) rfl rfl (by decide +kernel) rfl rfl dM_elements_82 (fun H locs hP hD hS => ?_)
        refine lv_iload_n hx hb dM_elements_85 rfl (lv_at hl 0 rfl) ?_
        refine lv_bipush (v := 93) hx hb dM_elements_86 (by decide) ?_
        refine lv_icmp_ne (tgt := 98) hx hb dM_elements_88 (by decide) (fun hc => ?_) (fun hc => ?_)
        · rw [if_neg hc] at hf
          refine lv_goto (tgt := 35) hx hb dM_elements_98 (by decide) ?_
          exact ih (1, y1, (xsI o22 16 ((xsi o22 16) + (1 : Int32))), ((wc + o1.2.1) + o11.1), ((wn + o1.2.2.1) + o11.2.1)) _ _ ls (⟨ad16, gd17, vad18, rfl, hf, hP, hD, hS, lv_sub hl [2, 3] rfl, hE, hN⟩)
        · rw [if_pos hc] at hf
          refine lv_aload_n hx hb dM_elements_91 rfl (lv_at hl 3 rfl) ?_
          refine lv_iconst (v := 5) hx hb dM_elements_92 (by decide) ?_
          refine lv_iload_n hx hb dM_elements_93 rfl (lv_at hl 2 rfl) ?_
          obtain ⟨o29, hq30, hf⟩ := xbind hf
          have hl := lv_sub (l' := [(3, .int o26), (1, .int y1), (0, .ref aM)]) hl [0, 2, 3] rfl
          by_cases hk31 : o29.1 = 0
          · rw [if_pos hk31] at hf
            obtain ⟨hm32, hf⟩ := xmoE hf
            have hFc := xm_free hD hS hA
            refine va_callq (va_runV (C := "ValueBenchModel") (As := [.int 5, .int y1]) (rest := []) ⟨hx, hb, hml, hown, htx⟩ (gM_whole l hl9 D cT aK aV H.size n aM ad16 rd gd17 vad18 (xsI o22 16 ((xsi o22 16) + (1 : Int32))) (5 : Int32) y1 o29 hq30 hk31) ⟨callB_of 2 htx (xw_goodC kw_6_106) rfl rfl rfl (htx _ kw_1_5) (htx _ kw_6_103) ⟨by decide, by decide, by decide +kernel⟩ ⟨Nat.le_of_ble_eq_true rfl, Nat.le_of_ble_eq_true rfl⟩, (htx _ kw_6_105), (htx _ kp_M_whole)⟩ ⟨xPre_blind, va_recv hK hP (ci := 5) rfl (q0 := 0) rfl, (fun U hU hW => ⟨rfl, xPre_of hZ hS hFc hP hD hK U hU hW⟩)⟩ rfl rfl hl.1 rfl (xm_room (Nat.le_of_ble_eq_true rfl)) dM_elements_94 ⟨hm32.1, hm32.2⟩) hS (fun q _ h => hFc q h) hFc (fun r33 u9 t H1 locs ht hvm hr9 hB hz1 hk1 hS => ?_)
            obtain ⟨hP1, hK1, hD1⟩ := hB
            rw [ht] at hP1
            obtain ⟨ad34, gd35, vad36⟩ := u9
            obtain ⟨hr9, hv37, hn38⟩ := hr9
            have hP : va_P D xcl (xMw cT aM ad34 rd gd35 vad36 o29.2.2.2.2 []) H1 := hP1
            have hD : va_D A (xMw cT aM ad34 rd gd35 vad36 o29.2.2.2.2 []) := hD1.weaken (fun k q _ h => hFc q.1 h)
            generalize H1 = H at hP hS ⊢
            have hE9 : ∀ p, p < xct st → vad36 p = vad p := fun p h => (hv37 p (Nat.lt_of_lt_of_le h hN)).trans (hE p h)
            have hE := hE9
            have hN : xct st ≤ xct o29.2.2.2.2 := Nat.le_trans hN hn38
            rw [hr9]
            refine W.eq (g2 := F0 m 97 ls [xv vad36 o29.2.2.2.1]) (by first | rfl | (skip; rfl)) ?_
            obtain rfl := Option.some.inj hf
            exact absurd (show (0 : Nat) = 1 from hkd) (by decide)
          rw [if_neg hk31] at hf
          by_cases hk39 : o29.1 = 1
          · rw [if_pos hk39] at hf
            obtain ⟨hm40, hf⟩ := xmoE hf
            have hFc := xm_free hD hS hA
            refine xx_thr (vx_runV (C := "ValueBenchModel") (As := [.int 5, .int y1]) (rest := []) ⟨hx, hb, hml, hown, htx⟩ (gM_whole_1 l hl9 D cT aK aV H.size n aM ad16 rd gd17 vad18 (xsI o22 16 ((xsi o22 16) + (1 : Int32))) (5 : Int32) y1 o29 hq30 hk39) ⟨callB_of 2 htx (xw_goodC kw_6_106) rfl rfl rfl (htx _ kw_1_5) (htx _ kw_6_103) ⟨by decide, by decide, by decide +kernel⟩ ⟨Nat.le_of_ble_eq_true rfl, Nat.le_of_ble_eq_true rfl⟩, (htx _ kw_6_105), (htx _ kp_M_whole)⟩ ⟨xPre_blind, va_recv hK hP (ci := 5) rfl (q0 := 0) rfl, (fun U hU hW => ⟨rfl, xPre_of hZ hS hFc hP hD hK U hU hW⟩)⟩ rfl rfl hl.1 rfl (xm_room (Nat.le_of_ble_eq_true rfl)) dM_elements_94 ⟨hm40.1, hm40.2⟩) hS hFc (fun q _ h => hFc q h) (fun E ce q9 u9 t H1 locs ht hvm hr9 hB hz1 hk1 hS hce hcv hcl => ?_)
            obtain ⟨rfl, hP1, hK1, hD1⟩ := hB
            rw [ht] at hP1
            obtain ⟨ad42, gd43, vad44⟩ := u9
            obtain ⟨hv45, hn46⟩ := hr9
            have hP : va_P D xcl (xMw cT aM ad42 rd gd43 vad44 o29.2.2.2.2 []) H1 := hP1
            have hD : va_D A (xMw cT aM ad42 rd gd43 vad44 o29.2.2.2.2 []) := hD1.weaken (fun k q _ h => hFc q.1 h)
            generalize H1 = H at hP hS hce ⊢
            have hE9 : ∀ p, p < xct st → vad44 p = vad p := fun p h => (hv45 p (Nat.lt_of_lt_of_le h hN)).trans (hE p h)
            have hE := hE9
            have hN : xct st ≤ xct o29.2.2.2.2 := Nat.le_trans hN hn46
            obtain rfl := Option.some.inj hf
            exact vx_out (E := "java/lang/IndexOutOfBoundsException") (fun x h => (hne x h).elim) hlocks hce hcv hcl (fun t ht ha => ⟨(ad42, gd43, vad44), ⟨hE, hN⟩, ⟨rfl, by rw [ht]; exact hP, va_K.moved ha hK, hD⟩, hS.F ht⟩) hS.2.2 (Nat.le_refl _) (Nat.le_refl _)
          rw [if_neg hk39] at hf
          exact nomatch hf
      · rw [if_neg hc] at hf
        refine lv_iload_n hx hb dM_elements_61 rfl (lv_at hl 0 rfl) ?_
        refine lv_bipush (v := 93) hx hb dM_elements_62 (by decide) ?_
        refine lv_icmp_eq (tgt := 75) hx hb dM_elements_64 (by decide) (fun hc => ?_) (fun hc => ?_)
        · rw [if_pos hc] at hf
          refine lv_aload_n hx hb dM_elements_75 rfl (lv_at hl 3 rfl) ?_
          refine lv_dup hx hb dM_elements_76 rfl ?_
          refine xm_get (v := .int (xsi o22 16)) hx hb htx hown hK hP 16 (by decide) rfl (htx _ kw_5_103) rfl dM_elements_77 ?_
          refine lv_iconst (v := 1) hx hb dM_elements_80 (by decide) ?_
          refine lv_iadd hx hb dM_elements_81 ?_
          refine xm_put (v := .int ((xsi o22 16) + (1 : Int32))) (W' := (xMw cT aM ad16 rd gd17 vad18 (xsI o22 16 ((xsi o22 16) + (1 : Int32))) [])) (ty := .int) hx hb htx hown hK hP hD hS 16 (by decide) rfl (htx _ kw_5_103) rfl rfl (by decide +kernel) rfl rfl dM_elements_82 (fun H locs hP hD hS => ?_)
          refine lv_iload_n hx hb dM_elements_85 rfl (lv_at hl 0 rfl) ?_
          refine lv_bipush (v := 93) hx hb dM_elements_86 (by decide) ?_
          refine lv_icmp_ne (tgt := 98) hx hb dM_elements_88 (by decide) (fun hc => ?_) (fun hc => ?_)
          · rw [if_neg hc] at hf
            refine lv_goto (tgt := 35) hx hb dM_elements_98 (by decide) ?_
            exact ih (1, y1, (xsI o22 16 ((xsi o22 16) + (1 : Int32))), ((wc + o1.2.1) + o11.1), ((wn + o1.2.2.1) + o11.2.1)) _ _ ls (⟨ad16, gd17, vad18, rfl, hf, hP, hD, hS, lv_sub hl [2, 3] rfl, hE, hN⟩)
          · rw [if_pos hc] at hf
            refine lv_aload_n hx hb dM_elements_91 rfl (lv_at hl 3 rfl) ?_
            refine lv_iconst (v := 5) hx hb dM_elements_92 (by decide) ?_
            refine lv_iload_n hx hb dM_elements_93 rfl (lv_at hl 2 rfl) ?_
            obtain ⟨o29, hq30, hf⟩ := xbind hf
            have hl := lv_sub (l' := [(3, .int o26), (1, .int y1), (0, .ref aM)]) hl [0, 2, 3] rfl
            by_cases hk31 : o29.1 = 0
            · rw [if_pos hk31] at hf
              obtain ⟨hm32, hf⟩ := xmoE hf
              have hFc := xm_free hD hS hA
              refine va_callq (va_runV (C := "ValueBenchModel") (As := [.int 5, .int y1]) (rest := []) ⟨hx, hb, hml, hown, htx⟩ (gM_whole l hl9 D cT aK aV H.size n aM ad16 rd gd17 vad18 (xsI o22 16 ((xsi o22 16) + (1 : Int32))) (5 : Int32) y1 o29 hq30 hk31) ⟨callB_of 2 htx (xw_goodC kw_6_106) rfl rfl rfl (htx _ kw_1_5) (htx _ kw_6_103) ⟨by decide, by decide, by decide +kernel⟩ ⟨Nat.le_of_ble_eq_true rfl, Nat.le_of_ble_eq_true rfl⟩, (htx _ kw_6_105), (htx _ kp_M_whole)⟩ ⟨xPre_blind, va_recv hK hP (ci := 5) rfl (q0 := 0) rfl, (fun U hU hW => ⟨rfl, xPre_of hZ hS hFc hP hD hK U hU hW⟩)⟩ rfl rfl hl.1 rfl (xm_room (Nat.le_of_ble_eq_true rfl)) dM_elements_94 ⟨hm32.1, hm32.2⟩) hS (fun q _ h => hFc q h) hFc (fun r33 u9 t H1 locs ht hvm hr9 hB hz1 hk1 hS => ?_)
              obtain ⟨hP1, hK1, hD1⟩ := hB
              rw [ht] at hP1
              obtain ⟨ad34, gd35, vad36⟩ := u9
              obtain ⟨hr9, hv37, hn38⟩ := hr9
              have hP : va_P D xcl (xMw cT aM ad34 rd gd35 vad36 o29.2.2.2.2 []) H1 := hP1
              have hD : va_D A (xMw cT aM ad34 rd gd35 vad36 o29.2.2.2.2 []) := hD1.weaken (fun k q _ h => hFc q.1 h)
              generalize H1 = H at hP hS ⊢
              have hE9 : ∀ p, p < xct st → vad36 p = vad p := fun p h => (hv37 p (Nat.lt_of_lt_of_le h hN)).trans (hE p h)
              have hE := hE9
              have hN : xct st ≤ xct o29.2.2.2.2 := Nat.le_trans hN hn38
              rw [hr9]
              refine W.eq (g2 := F0 m 97 ls [xv vad36 o29.2.2.2.1]) (by first | rfl | (skip; rfl)) ?_
              obtain rfl := Option.some.inj hf
              exact absurd (show (0 : Nat) = 1 from hkd) (by decide)
            rw [if_neg hk31] at hf
            by_cases hk39 : o29.1 = 1
            · rw [if_pos hk39] at hf
              obtain ⟨hm40, hf⟩ := xmoE hf
              have hFc := xm_free hD hS hA
              refine xx_thr (vx_runV (C := "ValueBenchModel") (As := [.int 5, .int y1]) (rest := []) ⟨hx, hb, hml, hown, htx⟩ (gM_whole_1 l hl9 D cT aK aV H.size n aM ad16 rd gd17 vad18 (xsI o22 16 ((xsi o22 16) + (1 : Int32))) (5 : Int32) y1 o29 hq30 hk39) ⟨callB_of 2 htx (xw_goodC kw_6_106) rfl rfl rfl (htx _ kw_1_5) (htx _ kw_6_103) ⟨by decide, by decide, by decide +kernel⟩ ⟨Nat.le_of_ble_eq_true rfl, Nat.le_of_ble_eq_true rfl⟩, (htx _ kw_6_105), (htx _ kp_M_whole)⟩ ⟨xPre_blind, va_recv hK hP (ci := 5) rfl (q0 := 0) rfl, (fun U hU hW => ⟨rfl, xPre_of hZ hS hFc hP hD hK U hU hW⟩)⟩ rfl rfl hl.1 rfl (xm_room (Nat.le_of_ble_eq_true rfl)) dM_elements_94 ⟨hm40.1, hm40.2⟩) hS hFc (fun q _ h => hFc q h) (fun E ce q9 u9 t H1 locs ht hvm hr9 hB hz1 hk1 hS hce hcv hcl => ?_)
              obtain ⟨rfl, hP1, hK1, hD1⟩ := hB
              rw [ht] at hP1
              obtain ⟨ad42, gd43, vad44⟩ := u9
              obtain ⟨hv45, hn46⟩ := hr9
              have hP : va_P D xcl (xMw cT aM ad42 rd gd43 vad44 o29.2.2.2.2 []) H1 := hP1
              have hD : va_D A (xMw cT aM ad42 rd gd43 vad44 o29.2.2.2.2 []) := hD1.weaken (fun k q _ h => hFc q.1 h)
              generalize H1 = H at hP hS hce ⊢
              have hE9 : ∀ p, p < xct st → vad44 p = vad p := fun p h => (hv45 p (Nat.lt_of_lt_of_le h hN)).trans (hE p h)
              have hE := hE9
              have hN : xct st ≤ xct o29.2.2.2.2 := Nat.le_trans hN hn46
              obtain rfl := Option.some.inj hf
              exact vx_out (E := "java/lang/IndexOutOfBoundsException") (fun x h => (hne x h).elim) hlocks hce hcv hcl (fun t ht ha => ⟨(ad42, gd43, vad44), ⟨hE, hN⟩, ⟨rfl, by rw [ht]; exact hP, va_K.moved ha hK, hD⟩, hS.F ht⟩) hS.2.2 (Nat.le_refl _) (Nat.le_refl _)
            rw [if_neg hk39] at hf
            exact nomatch hf
        · rw [if_neg hc] at hf
          refine lv_aload_n hx hb dM_elements_67 rfl (lv_at hl 3 rfl) ?_
          refine lv_aload_n hx hb dM_elements_68 rfl (lv_at hl 3 rfl) ?_
          refine xm_get (v := .int (xsi o22 16)) hx hb htx hown hK hP 16 (by decide) rfl (htx _ kw_5_103) rfl dM_elements_69 ?_
          obtain ⟨o29, hq30, hf⟩ := xbind hf
          by_cases hk31 : o29.1 = 1
          · rw [if_pos hk31] at hf
            obtain ⟨hg32, hf⟩ := xifn hf
            obtain ⟨hm33, hf⟩ := xmoE hf
            obtain rfl := Option.some.inj hf
            exact absurd (show (2 : Nat) = 1 from hkd) (by decide)
          rw [if_neg hk31] at hf
          exact nomatch hf
    rw [if_neg hk3] at hf
    by_cases hk29 : o1.1 = 1
    · rw [if_pos hk29] at hf
      obtain ⟨hm30, hf⟩ := xmoE hf
      obtain rfl := Option.some.inj hf
      exact absurd (show (2 : Nat) = 1 from hkd) (by decide)
    rw [if_neg hk29] at hf
    by_cases hk37 : o1.1 = 2
    · rw [if_pos hk37] at hf
      obtain ⟨hm38, hf⟩ := xmoE hf
      have hFc := xm_free hD hS hA
      refine xx_thr (vx_runV (C := "ValueBenchModel") (As := []) (rest := []) ⟨hx, hb, hml, hown, htx⟩ ((hrec H.size aM adL rd gdL vadL ws9 o1 hq2).2.2.1 hk37) ⟨callB_of 0 htx (xw_goodC kw_5_225) rfl rfl rfl (htx _ kw_1_5) (htx _ kw_5_222) ⟨by decide, by decide, by decide +kernel⟩ ⟨(by show (fr) + 1 ≤ fr + 8; omega), (by show 8 + (3 + 11) + (lo) ≤ lo + 147; omega)⟩, (htx _ kw_5_224), (htx _ kp_M_value)⟩ ⟨xPre_blind, va_recv hK hP (ci := 5) rfl (q0 := 0) rfl, (fun U hU hW => ⟨rfl, xPre_of hZ hS hFc hP hD hK U hU hW⟩)⟩ rfl rfl hl.1 rfl (xm_room (Nat.le_of_ble_eq_true rfl)) dM_elements_36 ⟨hm38.1, hm38.2⟩) hS hFc (fun q _ h => hFc q h) (fun E ce q9 u9 t H1 locs ht hvm hr9 hB hz1 hk1 hS hce hcv hcl => ?_)
      obtain ⟨rfl, hP1, hK1, hD1⟩ := hB
      rw [ht] at hP1
      obtain ⟨ad40, gd41, vad42⟩ := u9
      obtain ⟨hv43, hn44⟩ := hr9
      have hP : va_P D xcl (xMw cT aM ad40 rd gd41 vad42 o1.2.2.2.2 []) H1 := hP1
      have hD : va_D A (xMw cT aM ad40 rd gd41 vad42 o1.2.2.2.2 []) := hD1.weaken (fun k q _ h => hFc q.1 h)
      generalize H1 = H at hP hS hce ⊢
      have hE9 : ∀ p, p < xct st → vad42 p = vad p := fun p h => (hv43 p (Nat.lt_of_lt_of_le h hN)).trans (hE p h)
      have hE := hE9
      have hN : xct st ≤ xct o1.2.2.2.2 := Nat.le_trans hN hn44
      obtain rfl := Option.some.inj hf
      exact vx_out (E := "java/lang/IndexOutOfBoundsException") (fun x h => (hne x h).elim) hlocks hce hcv hcl (fun t ht ha => ⟨(ad40, gd41, vad42), ⟨hE, hN⟩, ⟨rfl, by rw [ht]; exact hP, va_K.moved ha hK, hD⟩, hS.F ht⟩) hS.2.2 (Nat.le_refl _) (Nat.le_refl _)
    rw [if_neg hk37] at hf
    by_cases hk45 : o1.1 = 3
    · rw [if_pos hk45] at hf
      obtain ⟨hm46, hf⟩ := xmoE hf
      obtain rfl := Option.some.inj hf
      exact absurd (show (3 : Nat) = 1 from hkd) (by decide)
    rw [if_neg hk45] at hf
    exact nomatch hf
  refine lv_aload_n hx hb dM_elements_0 rfl (lv_at hl 0 rfl) ?_
  refine xm_get (v := .int (xsi st 12)) hx hb htx hown hK hP 12 (by decide) rfl (htx _ kw_5_99) rfl dM_elements_1 ?_
  refine lv_istore_n (lv' := [(1, .int (xsi st 12)), (0, .ref aM)]) hx hb dM_elements_4 rfl hl (by decide) rfl (fun ls hl => ?_)
  refine lv_aload_n hx hb dM_elements_5 rfl (lv_at hl 1 rfl) ?_
  obtain ⟨o1, hq2, hf⟩ := xbind hf
  have hFc := xm_free hD hS hA
  refine va_callv (va_runV (C := "ValueBenchModel") (As := []) (rest := []) ⟨hx, hb, hml, hown, htx⟩ (gM_blanks l hl9 D cT aK aV s.heap.size n aM ad rd gd vad st o1 hq2) ⟨callB_of 0 htx (xw_goodC kw_5_229) rfl rfl rfl (htx _ kw_1_5) (htx _ kw_5_226) ⟨by decide, by decide, by decide +kernel⟩ ⟨Nat.le_of_ble_eq_true rfl, Nat.le_of_ble_eq_true rfl⟩, (htx _ kw_5_228), (htx _ kp_M_blanks)⟩ ⟨xPre_blind, va_recv hK hP (ci := 5) rfl (q0 := 0) rfl, (fun U hU hW => ⟨rfl, xPre_of hZ hS hFc hP hD hK U hU hW⟩)⟩ rfl rfl hl.1 rfl (xm_room (Nat.le_of_ble_eq_true rfl)) dM_elements_6 ⟨Nat.zero_le _, Nat.zero_le _⟩) hS (fun q _ h => hFc q h) hFc (fun u9 t H1 locs ht hvm hr9 hB hz1 hk1 hS => ?_)
  obtain ⟨hP1, hK1, hD1⟩ := hB
  rw [ht] at hP1
  have hn4 := hr9
  have hN : xct st ≤ xct o1 := Nat.le_trans hN hn4
  have hP : va_P D xcl (xMw cT aM ad rd gd vad o1 []) H1 := hP1
  have hD : va_D A (xMw cT aM ad rd gd vad o1 []) := hD1.weaken (fun k q _ h => hFc q.1 h)
  generalize H1 = H at hP hS ⊢
  refine W.eq (g2 := F0 m 9 ls []) (by first | rfl | (skip; rfl)) ?_
  refine lv_aload_n hx hb dM_elements_9 rfl (lv_at hl 1 rfl) ?_
  obtain ⟨o5, hq6, hf⟩ := xbind hf
  have hFc := xm_free hD hS hA
  refine va_calli (va_runV (C := "ValueBenchModel") (As := []) (rest := []) ⟨hx, hb, hml, hown, htx⟩ (gM_peek l hl9 D cT aK aV H.size n aM ad rd gd vad o1 o5 hq6) ⟨callB_of 0 htx (xw_goodC kw_5_233) rfl rfl rfl (htx _ kw_1_5) (htx _ kw_5_230) ⟨by decide, by decide, by decide +kernel⟩ ⟨Nat.le_of_ble_eq_true rfl, Nat.le_of_ble_eq_true rfl⟩, (htx _ kw_5_232), (htx _ kp_M_peek)⟩ ⟨xPre_blind, va_recv hK hP (ci := 5) rfl (q0 := 0) rfl, (fun U hU hW => ⟨rfl, xPre_of hZ hS hFc hP hD hK U hU hW⟩)⟩ rfl rfl hl.1 rfl (xm_room (Nat.le_of_ble_eq_true rfl)) dM_elements_10 ⟨Nat.zero_le _, Nat.zero_le _⟩) hS (fun q _ h => hFc q h) hFc (fun r7 u9 t H1 locs ht hvm hr9 hB hz1 hk1 hS => ?_)
  obtain ⟨hP1, hK1, hD1⟩ := hB
  rw [ht] at hP1
  have hP : va_P D xcl (xMw cT aM ad rd gd vad o1 []) H1 := hP1
  have hD : va_D A (xMw cT aM ad rd gd vad o1 []) := hD1.weaken (fun k q _ h => hFc q.1 h)
  generalize H1 = H at hP hS ⊢
  rw [hr9]
  refine W.eq (g2 := F0 m 13 ls [.int o5]) (by first | rfl | (skip; rfl)) ?_
  refine lv_bipush (v := 93) hx hb dM_elements_13 (by decide) ?_
  refine lv_icmp_ne (tgt := 35) hx hb dM_elements_15 (by decide) (fun hc => ?_) (fun hc => ?_)
  · rw [if_neg hc] at hf
    exact key n (1, (xsi st 12), o1, 0, 0) _ _ ls (⟨ad, gd, vad, rfl, hf, hP, hD, hS, lv_sub hl [0, 1] rfl, hE, hN⟩)
  · rw [if_pos hc] at hf
    refine lv_aload_n hx hb dM_elements_18 rfl (lv_at hl 1 rfl) ?_
    refine lv_dup hx hb dM_elements_19 rfl ?_
    refine xm_get (v := .int (xsi o1 16)) hx hb htx hown hK hP 16 (by decide) rfl (htx _ kw_5_103) rfl dM_elements_20 ?_
    refine lv_iconst (v := 1) hx hb dM_elements_23 (by decide) ?_
    refine lv_iadd hx hb dM_elements_24 ?_
    refine xm_put (v := .int ((xsi o1 16) + (1 : Int32))) (W' := (xMw cT aM ad rd gd vad (xsI o1 16 ((xsi o1 16) + (1 : Int32))) [])) (ty := .int) hx hb htx hown hK hP hD hS 16 (by decide) rfl (htx _ kw_5_103) rfl rfl (by decide +kernel) rfl rfl dM_elements_25 (fun H locs hP hD hS => ?_)
    refine lv_aload_n hx hb dM_elements_28 rfl (lv_at hl 1 rfl) ?_
    refine lv_iconst (v := 5) hx hb dM_elements_29 (by decide) ?_
    refine lv_iload_n hx hb dM_elements_30 rfl (lv_at hl 0 rfl) ?_
    obtain ⟨o8, hq9, hf⟩ := xbind hf
    by_cases hk10 : o8.1 = 0
    · rw [if_pos hk10] at hf
      obtain ⟨hm11, hf⟩ := xmoE hf
      have hFc := xm_free hD hS hA
      refine va_callq (va_runV (C := "ValueBenchModel") (As := [.int 5, .int (xsi st 12)]) (rest := []) ⟨hx, hb, hml, hown, htx⟩ (gM_whole l hl9 D cT aK aV H.size n aM ad rd gd vad (xsI o1 16 ((xsi o1 16) + (1 : Int32))) (5 : Int32) (xsi st 12) o8 hq9 hk10) ⟨callB_of 2 htx (xw_goodC kw_6_106) rfl rfl rfl (htx _ kw_1_5) (htx _ kw_6_103) ⟨by decide, by decide, by decide +kernel⟩ ⟨Nat.le_of_ble_eq_true rfl, Nat.le_of_ble_eq_true rfl⟩, (htx _ kw_6_105), (htx _ kp_M_whole)⟩ ⟨xPre_blind, va_recv hK hP (ci := 5) rfl (q0 := 0) rfl, (fun U hU hW => ⟨rfl, xPre_of hZ hS hFc hP hD hK U hU hW⟩)⟩ rfl rfl hl.1 rfl (xm_room (Nat.le_of_ble_eq_true rfl)) dM_elements_31 ⟨hm11.1, hm11.2⟩) hS (fun q _ h => hFc q h) hFc (fun r12 u9 t H1 locs ht hvm hr9 hB hz1 hk1 hS => ?_)
      obtain ⟨hP1, hK1, hD1⟩ := hB
      rw [ht] at hP1
      obtain ⟨ad13, gd14, vad15⟩ := u9
      obtain ⟨hr9, hv16, hn17⟩ := hr9
      have hP : va_P D xcl (xMw cT aM ad13 rd gd14 vad15 o8.2.2.2.2 []) H1 := hP1
      have hD : va_D A (xMw cT aM ad13 rd gd14 vad15 o8.2.2.2.2 []) := hD1.weaken (fun k q _ h => hFc q.1 h)
      generalize H1 = H at hP hS ⊢
      have hE9 : ∀ p, p < xct st → vad15 p = vad p := fun p h => (hv16 p (Nat.lt_of_lt_of_le h hN)).trans (hE p h)
      have hE := hE9
      have hN : xct st ≤ xct o8.2.2.2.2 := Nat.le_trans hN hn17
      rw [hr9]
      refine W.eq (g2 := F0 m 34 ls [xv vad15 o8.2.2.2.1]) (by first | rfl | (skip; rfl)) ?_
      obtain rfl := Option.some.inj hf
      exact absurd (show (0 : Nat) = 1 from hkd) (by decide)
    rw [if_neg hk10] at hf
    by_cases hk18 : o8.1 = 1
    · rw [if_pos hk18] at hf
      obtain ⟨hm19, hf⟩ := xmoE hf
      have hFc := xm_free hD hS hA
      refine xx_thr (vx_runV (C := "ValueBenchModel") (As := [.int 5, .int (xsi st 12)]) (rest := []) ⟨hx, hb, hml, hown, htx⟩ (gM_whole_1 l hl9 D cT aK aV H.size n aM ad rd gd vad (xsI o1 16 ((xsi o1 16) + (1 : Int32))) (5 : Int32) (xsi st 12) o8 hq9 hk18) ⟨callB_of 2 htx (xw_goodC kw_6_106) rfl rfl rfl (htx _ kw_1_5) (htx _ kw_6_103) ⟨by decide, by decide, by decide +kernel⟩ ⟨Nat.le_of_ble_eq_true rfl, Nat.le_of_ble_eq_true rfl⟩, (htx _ kw_6_105), (htx _ kp_M_whole)⟩ ⟨xPre_blind, va_recv hK hP (ci := 5) rfl (q0 := 0) rfl, (fun U hU hW => ⟨rfl, xPre_of hZ hS hFc hP hD hK U hU hW⟩)⟩ rfl rfl hl.1 rfl (xm_room (Nat.le_of_ble_eq_true rfl)) dM_elements_31 ⟨hm19.1, hm19.2⟩) hS hFc (fun q _ h => hFc q h) (fun E ce q9 u9 t H1 locs ht hvm hr9 hB hz1 hk1 hS hce hcv hcl => ?_)
      obtain ⟨rfl, hP1, hK1, hD1⟩ := hB
      rw [ht] at hP1
      obtain ⟨ad21, gd22, vad23⟩ := u9
      obtain ⟨hv24, hn25⟩ := hr9
      have hP : va_P D xcl (xMw cT aM ad21 rd gd22 vad23 o8.2.2.2.2 []) H1 := hP1
      have hD : va_D A (xMw cT aM ad21 rd gd22 vad23 o8.2.2.2.2 []) := hD1.weaken (fun k q _ h => hFc q.1 h)
      generalize H1 = H at hP hS hce ⊢
      have hE9 : ∀ p, p < xct st → vad23 p = vad p := fun p h => (hv24 p (Nat.lt_of_lt_of_le h hN)).trans (hE p h)
      have hE := hE9
      have hN : xct st ≤ xct o8.2.2.2.2 := Nat.le_trans hN hn25
      obtain rfl := Option.some.inj hf
      exact vx_out (E := "java/lang/IndexOutOfBoundsException") (fun x h => (hne x h).elim) hlocks hce hcv hcl (fun t ht ha => ⟨(ad21, gd22, vad23), ⟨hE, hN⟩, ⟨rfl, by rw [ht]; exact hP, va_K.moved ha hK, hD⟩, hS.F ht⟩) hS.2.2 (Nat.le_refl _) (Nat.le_refl _)
    rw [if_neg hk18] at hf
    exact nomatch hf
