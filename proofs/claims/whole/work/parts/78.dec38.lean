set_option maxHeartbeats 400000000 in
set_option maxRecDepth 100000 in
theorem gM_elements_2 (l : Launch) (hl9 : l.stackTraces = false) (D : va_G) (cT : Nat → ClassId) (aK aV : Nat → Nat) (fr lo : Nat) (rec : xS → Option (Nat × Nat × Nat × Nat × xS)) (hrec : ∀ (sz aM : Nat) (ad rd gd vad : Nat → Nat) (st : xS) (out : Nat × Nat × Nat × Nat × xS), rec st = some out → (out.1 = 0 → xMet l yM_value wyM_value fr out.2.1 out.2.2.1 lo D cT aK aV sz [.ref aM] (xMw cT aM ad rd gd vad st []) (fun A => va_Qq (fun (r : Option Nat) (u : xU) => r = xca u.2.2 out.2.2.2.1 ∧ xE vad st out.2.2.2.2 u) (fun u t => xB D xcl cT A (xMw cT aM u.1 rd u.2.1 u.2.2 out.2.2.2.2 []) t) A)) ∧ (out.1 = 1 → xMetY l yM_value wyM_value fr out.2.1 out.2.2.1 lo D cT aK aV sz [.ref aM] (xMw cT aM ad rd gd vad st []) "java/lang/UnsupportedOperationException" (fun u => xE vad st out.2.2.2.2 u) (fun A u t => xB D xcl cT A (xMw cT aM u.1 rd u.2.1 u.2.2 out.2.2.2.2 []) t)) ∧ (out.1 = 2 → xMetY l yM_value wyM_value fr out.2.1 out.2.2.1 lo D cT aK aV sz [.ref aM] (xMw cT aM ad rd gd vad st []) "java/lang/IndexOutOfBoundsException" (fun u => xE vad st out.2.2.2.2 u) (fun A u t => xB D xcl cT A (xMw cT aM u.1 rd u.2.1 u.2.2 out.2.2.2.2 []) t)) ∧ (out.1 = 3 → xMetY l yM_value wyM_value fr out.2.1 out.2.2.1 lo D cT aK aV sz [.ref aM] (xMw cT aM ad rd gd vad st []) "java/lang/ArithmeticException" (fun u => xE vad st out.2.2.2.2 u) (fun A u t => xB D xcl cT A (xMw cT aM u.1 rd u.2.1 u.2.2 out.2.2.2.2 []) t))) (sz n : Nat) (aM : Nat) (ad rd gd vad : Nat → Nat) (st : xS) (out : Nat × Nat × Nat × Nat × xS) (hf : fM_elements rec n st = some out) (hkd : out.1 = 2) : xMetY l yM_elements wyM_elements (fr + 8) out.2.1 out.2.2.1 (lo + 147) D cT aK aV sz [.ref aM] (xMw cT aM ad rd gd vad st []) "java/lang/UnsupportedOperationException" (fun u => xE vad st out.2.2.2.2 u) (fun A u t => xB D xcl cT A (xMw cT aM u.1 rd u.2.1 u.2.2 out.2.2.2.2 []) t) := by
  refine vx_ofW (cc := prog_13_method_39_code) (maxL := 4) (ret := (some (.object "ValueBenchModel$V"))) (by decide) rfl ?_
  intro p e s m args below meth c s₁ B hml hne hv
  obtain ⟨rfl, hsz, hZ, hP, hK, hD0⟩ := hv
  have hx := B.exec
  have hb := B.bytes
  have hr := B.returns
  have hts := atoms_spec (ws := wyM_elements) B.pre
  have htx := fun w h => hts w (List.mem_cons_of_mem _ h)
  have hown : s.vm.findClass "ValueBenchModel" = some m.cls := findClass_of_methodNamed B.named
  have hlocks := B.notSynchronized
  subst hsz
  have hD := hD0.self (sz := s.heap.size)
  generalize hAe : va_A (xMw cT aM ad rd gd vad st []) s.heap.size = A at hD hZ ⊢
  have hA : ∀ q : Nat, s.heap.size ≤ q → A q := fun q h => by rw [← hAe]; exact Or.inr h
  have hS : va_S A s.heap s.heap [] := va_S.rf
  have hl := lv_entry ([.ref aM]) (n := 4) (by simp [lg_sl, xvcat, xrscat, xcI, xcL, xcR, xcN])
  rw [show lv_args 0 [.ref aM] = [(0, .ref aM)] from by simp [lv_args, xvcat, xrscat, xcI, xcL, xcR, xcN]] at hl
  rw [lg_entry_eq]
  generalize (lg_sl ([.ref aM]) ++ List.replicate (4 - (lg_sl ([.ref aM])).length) Slot.unset).toArray = ls at hl ⊢
  have hl : lv_has ls 4 [(0, .ref aM)] := hl
  have hE : ∀ p, p < xct st → vad p = vad p := fun _ _ => rfl
  have hN : xct st ≤ xct st := Nat.le_refl _
  unfold fM_elements at hf
  refine xloopM (σ := Nat × Int32 × xS × Nat × Nat) (fun n x H locs ls => (∃ (adL gdL vadL : Nat → Nat), x.1 = 1 ∧ fM_elements_b rec n x.1 x.2.1 x.2.2.1 x.2.2.2.1 x.2.2.2.2 = some out ∧ va_P D xcl (xMw cT aM adL rd gdL vadL x.2.2.1 []) H ∧ va_D A (xMw cT aM adL rd gdL vadL x.2.2.1 []) ∧ va_S A s.heap H locs ∧ lv_has ls 4 [(1, .int x.2.1), (0, .ref aM)] ∧ (∀ p, p < xct st → vadL p = vad p) ∧ xct st ≤ xct x.2.2.1)) (fun x => 35) (fun x => x.2.2.2.1) (fun x => x.2.2.2.2) (fun x H locs ls h => by (obtain ⟨_, _, _, h⟩ := h; exact absurd h.2.1 (by rw [fM_elements_b]; exact fun h => nomatch h))) (fun n ih x H locs ls hv => ?_) (fun key => ?_)
  · obtain ⟨lb, y1, ws9, wc, wn⟩ := x
    rcases hv with ⟨adL, gdL, vadL, hj, hf, hP, hD, hS, hl, hE, hN⟩
    subst hj
    have hf : fM_elements_b rec (n + 1) 1 y1 ws9 wc wn = some out := hf
    rw [fM_elements_b] at hf
    obtain ⟨hP, hD⟩ : xPD D xcl A (xMw cT aM adL rd gdL vadL ws9 []) H := ⟨hP, hD⟩
    have hl : lv_has ls 4 [(1, .int y1), (0, .ref aM)] := hl
    refine W.eq (g2 := F0 m 35 ls []) rfl ?_
    show W p l e _ s m _ below meth c H locs wc wn _ _
    obtain ⟨hm0, hf⟩ := xmoE hf
    refine lv_aload_n hx hb dM_elements_35 rfl (lv_at hl 1 rfl) ?_
    obtain ⟨o1, hq2, hf⟩ := xbind hf
    by_cases hk3 : o1.1 = 0
    · rw [if_pos hk3] at hf
      obtain ⟨hm4, hf⟩ := xmoE hf
      have hFc := xm_free hD hS hA
      refine va_callq (va_runV (C := "ValueBenchModel") (As := []) (rest := []) ⟨hx, hb, hml, hown, htx⟩ ((hrec H.size aM adL rd gdL vadL ws9 o1 hq2).1 hk3) ⟨callB_of 0 htx (xw_goodC kw_5_225) rfl rfl rfl (htx _ kw_1_5) (htx _ kw_5_222) ⟨by decide, by decide, by decide +kernel⟩ ⟨(by show (fr) + 1 ≤ fr + 8; omega), (by show 8 + (3 + 11) + (lo) ≤ lo + 147; omega)⟩, (htx _ kw_5_224), (htx _ kp_M_value)⟩ ⟨xPre_blind, va_recv hK hP (ci := 5) rfl (q0 := 0) rfl, (fun U hU hW => ⟨rfl, xPre_of hZ hS hFc hP hD hK U hU hW⟩)⟩ rfl rfl hl.1 rfl (xm_room (Nat.le_of_ble_eq_true rfl)) dM_elements_36 ⟨hm4.1, hm4.2⟩) hS (fun q _ h => hFc q h) hFc (fun r5 u9 t H1 locs ht hvm hr9 hB hz1 hk1 hS => ?_)
      obtain ⟨hP1, hK1, hD1⟩ := hB
      rw [ht] at hP1
      obtain ⟨ad6, gd7, vad8⟩ := u9
      obtain ⟨hr9, hv9, hn10⟩ := hr9
      have hP : va_P D xcl (xMw cT aM ad6 rd gd7 vad8 o1.2.2.2.2 []) H1 := hP1
      have hD : va_D A (xMw cT aM ad6 rd gd7 vad8 o1.2.2.2.2 []) := hD1.weaken (fun k q _ h => hFc q.1 h)
      generalize H1 = H at hP hS ⊢
      have hE9 : ∀ p, p < xct st → vad8 p = vad p := fun p h => (hv9 p (Nat.lt_of_lt_of_le h hN)).trans (hE p h)
      have hE := hE9
      have hN : xct st ≤ xct o1.2.2.2.2 := Nat.le_trans hN hn10
      rw [hr9]
      refine W.eq (g2 := F0 m 39 ls [xv vad8 o1.2.2.2.1]) (by first | rfl | (skip; rfl)) ?_
      refine xm_astore_n (lv' := [(2, xv vad8 o1.2.2.2.1), (1, .int y1), (0, .ref aM)]) hx hb (xvor _ _) dM_elements_39 rfl hl (by decide) rfl (fun ls hl => ?_)
      refine lv_aload_n hx hb dM_elements_40 rfl (lv_at hl 2 rfl) ?_
      refine lv_null hx hb dM_elements_41 ?_
      refine xm_aload_n hx hb (xvor _ _) dM_elements_42 rfl (lv_at hl 0 rfl) ?_
      obtain ⟨o11, hq12, hf⟩ := xbind hf
      obtain ⟨hg13, hf⟩ := xifn hf
      obtain ⟨hm14, hf⟩ := xmoE hf
      have hFc := xm_free hD hS hA
      refine va_callv (va_runV (C := "ValueBenchModel") (As := [.null, xv vad8 o1.2.2.2.1]) (rest := []) ⟨hx, hb, hml, hown, htx⟩ (gM_wait l hl9 D cT aK aV H.size n aM ad6 rd gd7 vad8 o1.2.2.2.2 0 o1.2.2.2.1 o11 hq12) ⟨callB_of 2 htx (xw_goodC kw_6_112) rfl rfl rfl (htx _ kw_1_5) (htx _ kw_6_109) ⟨by decide, by decide, by decide +kernel⟩ ⟨Nat.le_of_ble_eq_true rfl, Nat.le_of_ble_eq_true rfl⟩, (htx _ kw_6_111), (htx _ kp_M_wait)⟩ ⟨xPre_blind, va_recv hK hP (ci := 5) rfl (q0 := 0) rfl, (fun U hU hW => ⟨rfl, xPre_of hZ hS hFc hP hD hK U hU hW⟩)⟩ rfl rfl hl.1 rfl (xm_room (Nat.le_of_ble_eq_true rfl)) dM_elements_43 ⟨hm14.1, hm14.2⟩) hS (fun q _ h => hFc q h) hFc (fun u9 t H1 locs ht hvm hr9 hB hz1 hk1 hS => ?_)
      obtain ⟨hP1, hK1, hD1⟩ := hB
      rw [ht] at hP1
      obtain ⟨ad16, gd17, vad18⟩ := u9
      obtain ⟨hv19, hn20⟩ := hr9
      have hP : va_P D xcl (xMw cT aM ad16 rd gd17 vad18 o11.2.2 []) H1 := hP1
      have hD : va_D A (xMw cT aM ad16 rd gd17 vad18 o11.2.2 []) := hD1.weaken (fun k q _ h => hFc q.1 h)
      generalize H1 = H at hP hS ⊢
      have hE9 : ∀ p, p < xct st → vad18 p = vad p := fun p h => (hv19 p (Nat.lt_of_lt_of_le h hN)).trans (hE p h)
      have hE := hE9
      have hN : xct st ≤ xct o11.2.2 := Nat.le_trans hN hn20
      have ev21 : xv vad8 o1.2.2.2.1 = xv vad18 o1.2.2.2.1 := xvE hv19 hg13
      have hl : lv_has ls 4 [(2, xv vad18 o1.2.2.2.1), (1, .int y1), (0, .ref aM)] := by first | exact hl | ((try (rw [← ev21])); exact hl)
      refine W.eq (g2 := F0 m 46 ls []) (by first | rfl | ((try (rw [ev21])); rfl)) ?_
      refine lv_aload_n hx hb dM_elements_46 rfl (lv_at hl 2 rfl) ?_
      obtain ⟨o22, hq23, hf⟩ := xbind hf
      have hFc := xm_free hD hS hA
      refine va_callv (va_runV (C := "ValueBenchModel") (As := []) (rest := []) ⟨hx, hb, hml, hown, htx⟩ (gM_blanks l hl9 D cT aK aV H.size n aM ad16 rd gd17 vad18 o11.2.2 o22 hq23) ⟨callB_of 0 htx (xw_goodC kw_5_229) rfl rfl rfl (htx _ kw_1_5) (htx _ kw_5_226) ⟨by decide, by decide, by decide +kernel⟩ ⟨Nat.le_of_ble_eq_true rfl, Nat.le_of_ble_eq_true rfl⟩, (htx _ kw_5_228), (htx _ kp_M_blanks)⟩ ⟨xPre_blind, va_recv hK hP (ci := 5) rfl (q0 := 0) rfl, (fun U hU hW => ⟨rfl, xPre_of hZ hS hFc hP hD hK U hU hW⟩)⟩ rfl rfl hl.1 rfl (xm_room (Nat.le_of_ble_eq_true rfl)) dM_elements_47 ⟨hm14.1, hm14.2⟩) hS (fun q _ h => hFc q h) hFc (fun u9 t H1 locs ht hvm hr9 hB hz1 hk1 hS => ?_)
      obtain ⟨hP1, hK1, hD1⟩ := hB
      rw [ht] at hP1
      have hn25 := hr9
      have hN : xct st ≤ xct o22 := Nat.le_trans hN hn25
      have hP : va_P D xcl (xMw cT aM ad16 rd gd17 vad18 o22 []) H1 := hP1
      have hD : va_D A (xMw cT aM ad16 rd gd17 vad18 o22 []) := hD1.weaken (fun k q _ h => hFc q.1 h)
      generalize H1 = H at hP hS ⊢
      refine W.eq (g2 := F0 m 50 ls []) (by first | rfl | (skip; rfl)) ?_
      refine lv_aload_n hx hb dM_elements_50 rfl (lv_at hl 2 rfl) ?_
      obtain ⟨o26, hq27, hf⟩ := xbind hf
      have hFc := xm_free hD hS hA
      refine va_calli (va_runV (C := "ValueBenchModel") (As := []) (rest := []) ⟨hx, hb, hml, hown, htx⟩ (gM_peek l hl9 D cT aK aV H.size n aM ad16 rd gd17 vad18 o22 o26 hq27) ⟨callB_of 0 htx (xw_goodC kw_5_233) rfl rfl rfl (htx _ kw_1_5) (htx _ kw_5_230) ⟨by decide, by decide, by decide +kernel⟩ ⟨Nat.le_of_ble_eq_true rfl, Nat.le_of_ble_eq_true rfl⟩, (htx _ kw_5_232), (htx _ kp_M_peek)⟩ ⟨xPre_blind, va_recv hK hP (ci := 5) rfl (q0 := 0) rfl, (fun U hU hW => ⟨rfl, xPre_of hZ hS hFc hP hD hK U hU hW⟩)⟩ rfl rfl hl.1 rfl (xm_room (Nat.le_of_ble_eq_true rfl)) dM_elements_51 ⟨hm14.1, hm14.2⟩) hS (fun q _ h => hFc q h) hFc (fun r28 u9 t H1 locs ht hvm hr9 hB hz1 hk1 hS => ?_)
      obtain ⟨hP1, hK1, hD1⟩ := hB
      rw [ht] at hP1
      have hP : va_P D xcl (xMw cT aM ad16 rd gd17 vad18 o22 []) H1 := hP1
      have hD : va_D A (xMw cT aM ad16 rd gd17 vad18 o22 []) := hD1.weaken (fun k q _ h => hFc q.1 h)
      generalize H1 = H at hP hS ⊢
      rw [hr9]
      refine W.eq (g2 := F0 m 54 ls [.int o26]) (by first | rfl | (skip; rfl)) ?_
      refine lv_istore_n (lv' := [(3, .int o26), (2, xv vad18 o1.2.2.2.1), (1, .int y1), (0, .ref aM)]) hx hb dM_elements_54 rfl hl (by decide) (by simp only [List.filter, xvcat, xrscat, xcI, xcL, xcR, xcN]; rfl) (fun ls hl => ?_)
      refine lv_iload_n hx hb dM_elements_55 rfl (lv_at hl 0 rfl) ?_
      refine lv_bipush (v := 44) hx hb dM_elements_56 (by decide) ?_
      refine lv_icmp_eq (tgt := 75) hx hb dM_elements_58 (by decide) (fun hc => ?_) (fun hc => ?_)
      · rw [if_pos hc] at hf
        refine lv_aload_n hx hb dM_elements_75 rfl (lv_at hl 3 rfl) ?_
        refine lv_dup hx hb dM_elements_76 rfl ?_
        refine xm_get (v := .int (xsi o22 16)) hx hb htx hown hK hP 16 (by decide) rfl (htx _ kw_5_103) rfl dM_elements_77 ?_
        refine lv_iconst (v := 1) hx hb dM_elements_80 (by decide) ?_
        refine lv_iadd hx hb dM_elements_81 ?_
        refine xm_put (v := .int ((xsi o22 16) + (1 : Int32))) (W' := (xMw cT aM ad16 rd gd17 vad18 (xsI o22 16 ((xsi o22 16) + (1 : Int32))) [])) (ty := .int) hx hb htx hown hK hP hD hS 16 (by decide) rfl (htx _ kw_5_103) rfl rfl (by decide +kernel) rfl rfl dM_elements_82 (fun H locs hP hD hS => ?_)
        refine lv_iload_n hx hb dM_elements_85 rfl (lv_at hl 0 rfl) ?_
        refine lv_bipush (v := 93) hx hb dM_elements_86 (by decide) ?_
        refine lv_icmp_ne (tgt := 98) hx hb dM_elements_88 (by decide) (fun hc => ?_) (fun hc => ?_)
        · rw [if_neg hc] at hf
          refine lv_goto (tgt := 35) hx hb dM_elements_98 (by decide) ?_
          exact ih (1, y1, (xsI o22 16 ((xsi o22 16) + (1 : Int32))), ((wc + o1.2.1) + o11.1), ((wn + o1.2.2.1) + o11.2.1)) _ _ ls (⟨ad16, gd17, vad18, rfl, hf, hP, hD, hS, lv_sub hl [2, 3] rfl, hE, hN⟩)
        · rw [if_pos hc] at hf
          refine lv_aload_n hx hb dM_elements_91 rfl (lv_at hl 3 rfl) ?_
          refine lv_iconst (v := 5) hx hb dM_elements_92 (by decide) ?_
          refine lv_iload_n hx hb dM_elements_93 rfl (lv_at hl 2 rfl) ?_
          obtain ⟨o29, hq30, hf⟩ := xbind hf
          have hl := lv_sub (l' := [(3, .int o26), (1, .int y1), (0, .ref aM)]) hl [0, 2, 3] rfl
          by_cases hk31 : o29.1 = 0
          · rw [if_pos hk31] at hf
            obtain ⟨hm32, hf⟩ := xmoE hf
            have hFc := xm_free hD hS hA
            refine va_callq (va_runV (C := "ValueBenchModel") (As := [.int 5, .int y1]) (rest := []) ⟨hx, hb, hml, hown, htx⟩ (gM_whole l hl9 D cT aK aV H.size n aM ad16 rd gd17 vad18 (xsI o22 16 ((xsi o22 16) + (1 : Int32))) (5 : Int32) y1 o29 hq30 hk31) ⟨callB_of 2 htx (xw_goodC kw_6_106) rfl rfl rfl (htx _ kw_1_5) (htx _ kw_6_103) ⟨by decide, by decide, by decide +kernel⟩ ⟨Nat.le_of_ble_eq_true rfl, Nat.le_of_ble_eq_true rfl⟩, (htx _ kw_6_105), (htx _ kp_M_whole)⟩ ⟨xPre_blind, va_recv hK hP (ci := 5) rfl (q0 := 0) rfl, (fun U hU hW => ⟨rfl, xPre_of hZ hS hFc hP hD hK U hU hW⟩)⟩ rfl rfl hl.1 rfl (xm_room (Nat.le_of_ble_eq_true rfl)) dM_elements_94 ⟨hm32.1, hm32.2⟩) hS (fun q _ h => hFc q h) hFc (fun r33 u9 t H1 locs ht hvm hr9 hB hz1 hk1 hS => ?_)
            obtain ⟨hP1, hK1, hD1⟩ := hB
            rw [ht] at hP1
            obtain ⟨ad34, gd35, vad36⟩ := u9
            obtain ⟨hr9, hv37, hn38⟩ := hr9
            have hP : va_P D xcl (xMw cT aM ad34 rd gd35 vad36 o29.2.2.2.2 []) H1 := hP1
            have hD : va_D A (xMw cT aM ad34 rd gd35 vad36 o29.2.2.2.2 []) := hD1.weaken (fun k q _ h => hFc q.1 h)
            generalize H1 = H at hP hS ⊢
            have hE9 : ∀ p, p < xct st → vad36 p = vad p := fun p h => (hv37 p (Nat.lt_of_lt_of_le h hN)).trans (hE p h)
            have hE := hE9
            have hN : xct st ≤ xct o29.2.2.2.2 := Nat.le_trans hN hn38
            rw [hr9]
            refine W.eq (g2 := F0 m 97 ls [xv vad36 o29.2.2.2.1]) (by first | rfl | (skip; rfl)) ?_
            obtain rfl := Option.some.inj hf
            exact absurd (show (0 : Nat) = 2 from hkd) (by decide)
          rw [if_neg hk31] at hf
          by_cases hk39 : o29.1 = 1
          · rw [if_pos hk39] at hf
            obtain ⟨hm40, hf⟩ := xmoE hf
            obtain rfl := Option.some.inj hf
            exact absurd (show (1 : Nat) = 2 from hkd) (by decide)
          rw [if_neg hk39] at hf
          exact nomatch hf
      · rw [if_neg hc] at hf
        refine lv_iload_n hx hb dM_elements_61 rfl (lv_at hl 0 rfl) ?_
        refine lv_bipush (v := 93) hx hb dM_elements_62 (by decide) ?_
        refine lv_icmp_eq (tgt := 75) hx hb dM_elements_64 (by decide) (fun hc => ?_) (fun hc => ?_)
        · rw [if_pos hc] at hf
          refine lv_aload_n hx hb dM_elements_75 rfl (lv_at hl 3 rfl) ?_
          refine lv_dup hx hb dM_elements_76 rfl ?_
          refine xm_get (v := .int (xsi o22 16)) hx hb htx hown hK hP 16 (by decide) rfl (htx _ kw_5_103) rfl dM_elements_77 ?_
          refine lv_iconst (v := 1) hx hb dM_elements_80 (by decide) ?_
          refine lv_iadd hx hb dM_elements_81 ?_
          refine xm_put (v := .int ((xsi o22 16) + (1 : Int32))) (W' := (xMw cT aM ad16 rd gd17 vad18 (xsI o22 16 ((xsi o22 16) + (1 : Int32))) [])) (ty := .int) hx hb htx hown hK hP hD hS 16 (by decide) rfl (htx _ kw_5_103) rfl rfl (by decide +kernel) rfl rfl dM_elements_82 (fun H locs hP hD hS => ?_)
          refine lv_iload_n hx hb dM_elements_85 rfl (lv_at hl 0 rfl) ?_
          refine lv_bipush (v := 93) hx hb dM_elements_86 (by decide) ?_
          refine lv_icmp_ne (tgt := 98) hx hb dM_elements_88 (by decide) (fun hc => ?_) (fun hc => ?_)
          · rw [if_neg hc] at hf
            refine lv_goto (tgt := 35) hx hb dM_elements_98 (by decide) ?_
            exact ih (1, y1, (xsI o22 16 ((xsi o22 16) + (1 : Int32))), ((wc + o1.2.1) + o11.1), ((wn + o1.2.2.1) + o11.2.1)) _ _ ls (⟨ad16, gd17, vad18, rfl, hf, hP, hD, hS, lv_sub hl [2, 3] rfl, hE, hN⟩)
          · rw [if_pos hc] at hf
            refine lv_aload_n hx hb dM_elements_91 rfl (lv_at hl 3 rfl) ?_
            refine lv_iconst (v := 5) hx hb dM_elements_92 (by decide) ?_
            refine lv_iload_n hx hb dM_elements_93 rfl (lv_at hl 2 rfl) ?_
            obtain ⟨o29, hq30, hf⟩ := xbind hf
            have hl := lv_sub (l' := [(3, .int o26), (1, .int y1), (0, .ref aM)]) hl [0, 2, 3] rfl
            by_cases hk31 : o29.1 = 0
            · rw [if_pos hk31] at hf
              obtain ⟨hm32, hf⟩ := xmoE hf
              have hFc := xm_free hD hS hA
              refine va_callq (va_runV (C := "ValueBenchModel") (As := [.int 5, .int y1]) (rest := []) ⟨hx, hb, hml, hown, htx⟩ (gM_whole l hl9 D cT aK aV H.size n aM ad16 rd gd17 vad18 (xsI o22 16 ((xsi o22 16) + (1 : Int32))) (5 : Int32) y1 o29 hq30 hk31) ⟨callB_of 2 htx (xw_goodC kw_6_106) rfl rfl rfl (htx _ kw_1_5) (htx _ kw_6_103) ⟨by decide, by decide, by decide +kernel⟩ ⟨Nat.le_of_ble_eq_true rfl, Nat.le_of_ble_eq_true rfl⟩, (htx _ kw_6_105), (htx _ kp_M_whole)⟩ ⟨xPre_blind, va_recv hK hP (ci := 5) rfl (q0 := 0) rfl, (fun U hU hW => ⟨rfl, xPre_of hZ hS hFc hP hD hK U hU hW⟩)⟩ rfl rfl hl.1 rfl (xm_room (Nat.le_of_ble_eq_true rfl)) dM_elements_94 ⟨hm32.1, hm32.2⟩) hS (fun q _ h => hFc q h) hFc (fun r33 u9 t H1 locs ht hvm hr9 hB hz1 hk1 hS => ?_)
              obtain ⟨hP1, hK1, hD1⟩ := hB
              rw [ht] at hP1
              obtain ⟨ad34, gd35, vad36⟩ := u9
              obtain ⟨hr9, hv37, hn38⟩ := hr9
              have hP : va_P D xcl (xMw cT aM ad34 rd gd35 vad36 o29.2.2.2.2 []) H1 := hP1
              have hD : va_D A (xMw cT aM ad34 rd gd35 vad36 o29.2.2.2.2 []) := hD1.weaken (fun k q _ h => hFc q.1 h)
              generalize H1 = H at hP hS ⊢
              have hE9 : ∀ p, p < xct st → vad36 p = vad p := fun p h => (hv37 p (Nat.lt_of_lt_of_le h hN)).trans (hE p h)
              have hE := hE9
              have hN : xct st ≤ xct o29.2.2.2.2 := Nat.le_trans hN hn38
              rw [hr9]
              refine W.eq (g2 := F0 m 97 ls [xv vad36 o29.2.2.2.1]) (by first | rfl | (skip; rfl)) ?_
              obtain rfl := Option.some.inj hf
              exact absurd (show (0 : Nat) = 2 from hkd) (by decide)
            rw [if_neg hk31] at hf
            by_cases hk39 : o29.1 = 1
            · rw [if_pos hk39] at hf
              obtain ⟨hm40, hf⟩ := xmoE hf
              obtain rfl := Option.some.inj hf
              exact absurd (show (1 : Nat) = 2 from hkd) (by decide)
            rw [if_neg hk39] at hf
            exact nomatch hf
        · rw [if_neg hc] at hf
          refine lv_aload_n hx hb dM_elements_67 rfl (lv_at hl 3 rfl) ?_
          refine lv_aload_n hx hb dM_elements_68 rfl (lv_at hl 3 rfl) ?_
          refine xm_get (v := .int (xsi o22 16)) hx hb htx hown hK hP 16 (by decide) rfl (htx _ kw_5_103) rfl dM_elements_69 ?_
          obtain ⟨o29, hq30, hf⟩ := xbind hf
          by_cases hk31 : o29.1 = 1
          · rw [if_pos hk31] at hf
            obtain ⟨hg32, hf⟩ := xifn hf
            obtain ⟨hm33, hf⟩ := xmoE hf
            have hFc := xm_free hD hS hA
            refine xx_thr (vx_runV (C := "ValueBenchModel") (As := [.int (xsi o22 16)]) (rest := []) ⟨hx, hb, hml, hown, htx⟩ (gM_bad_1 l hl9 D cT aK aV H.size n aM ad16 rd gd17 vad18 o22 (xsi o22 16) o29 hq30 hk31) ⟨callB_of 1 htx (xw_goodC kw_6_2) rfl rfl rfl (htx _ kw_1_5) (htx _ kw_5_239) ⟨by decide, by decide, by decide +kernel⟩ ⟨Nat.le_of_ble_eq_true rfl, Nat.le_of_ble_eq_true rfl⟩, (htx _ kw_6_1), (htx _ kp_M_bad)⟩ ⟨xPre_blind, va_recv hK hP (ci := 5) rfl (q0 := 0) rfl, (fun U hU hW => ⟨rfl, xPre_of hZ hS hFc hP hD hK U hU hW⟩)⟩ rfl rfl hl.1 rfl (xm_room (Nat.le_of_ble_eq_true rfl)) dM_elements_72 ⟨hm33.1, hm33.2⟩) hS hFc (fun q _ h => hFc q h) (fun E ce q9 u9 t H1 locs ht hvm hr9 hB hz1 hk1 hS hce hcv hcl => ?_)
            obtain ⟨rfl, hP1, hK1, hD1⟩ := hB
            rw [ht] at hP1
            obtain ⟨ad35, gd36, vad37⟩ := u9
            obtain ⟨hv38, hn39⟩ := hr9
            have hP : va_P D xcl (xMw cT aM ad35 rd gd36 vad37 o29.2.2.2 []) H1 := hP1
            have hD : va_D A (xMw cT aM ad35 rd gd36 vad37 o29.2.2.2 []) := hD1.weaken (fun k q _ h => hFc q.1 h)
            generalize H1 = H at hP hS hce ⊢
            have hE9 : ∀ p, p < xct st → vad37 p = vad p := fun p h => (hv38 p (Nat.lt_of_lt_of_le h hN)).trans (hE p h)
            have hE := hE9
            have hN : xct st ≤ xct o29.2.2.2 := Nat.le_trans hN hn39
            have ev40 : xv vad18 o1.2.2.2.1 = xv vad37 o1.2.2.2.1 := xvE hv38 hg32
            have hl : lv_has ls 4 [(3, .int o26), (2, xv vad37 o1.2.2.2.1), (1, .int y1), (0, .ref aM)] := by first | exact hl | ((try (rw [← ev40])); exact hl)
            obtain rfl := Option.some.inj hf
            exact vx_out (E := "java/lang/UnsupportedOperationException") (fun x h => (hne x h).elim) hlocks hce hcv hcl (fun t ht ha => ⟨(ad35, gd36, vad37), ⟨hE, hN⟩, ⟨rfl, by rw [ht]; exact hP, va_K.moved ha hK, hD⟩, hS.F ht⟩) hS.2.2 (Nat.le_refl _) (Nat.le_refl _)
          rw [if_neg hk31] at hf
          exact nomatch hf
    rw [if_neg hk3] at hf
    by_cases hk29 : o1.1 = 1
    · rw [if_pos hk29] at hf
      obtain ⟨hm30, hf⟩ := xmoE hf
      have hFc := xm_free hD hS hA
      refine xx_thr (vx_runV (C := "ValueBenchModel") (As := []) (rest := []) ⟨hx, hb, hml, hown, htx⟩ ((hrec H.size aM adL rd gdL vadL ws9 o1 hq2).2.1 hk29) ⟨callB_of 0 htx (xw_goodC kw_5_225) rfl rfl rfl (htx _ kw_1_5) (htx _ kw_5_222) ⟨by decide, by decide, by decide +kernel⟩ ⟨(by show (fr) + 1 ≤ fr + 8; omega), (by show 8 + (3 + 11) + (lo) ≤ lo + 147; omega)⟩, (htx _ kw_5_224), (htx _ kp_M_value)⟩ ⟨xPre_blind, va_recv hK hP (ci := 5) rfl (q0 := 0) rfl, (fun U hU hW => ⟨rfl, xPre_of hZ hS hFc hP hD hK U hU hW⟩)⟩ rfl rfl hl.1 rfl (xm_room (Nat.le_of_ble_eq_true rfl)) dM_elements_36 ⟨hm30.1, hm30.2⟩) hS hFc (fun q _ h => hFc q h) (fun E ce q9 u9 t H1 locs ht hvm hr9 hB hz1 hk1 hS hce hcv hcl => ?_)
      obtain ⟨rfl, hP1, hK1, hD1⟩ := hB
      rw [ht] at hP1
      obtain ⟨ad32, gd33, vad34⟩ := u9
      obtain ⟨hv35, hn36⟩ := hr9
      have hP : va_P D xcl (xMw cT aM ad32 rd gd33 vad34 o1.2.2.2.2 []) H1 := hP1
      have hD : va_D A (xMw cT aM ad32 rd gd33 vad34 o1.2.2.2.2 []) := hD1.weaken (fun k q _ h => hFc q.1 h)
      generalize H1 = H at hP hS hce ⊢
      have hE9 : ∀ p, p < xct st → vad34 p = vad p := fun p h => (hv35 p (Nat.lt_of_lt_of_le h hN)).trans (hE p h)
      have hE := hE9
      have hN : xct st ≤ xct o1.2.2.2.2 := Nat.le_trans hN hn36
      obtain rfl := Option.some.inj hf
      exact vx_out (E := "java/lang/UnsupportedOperationException") (fun x h => (hne x h).elim) hlocks hce hcv hcl (fun t ht ha => ⟨(ad32, gd33, vad34), ⟨hE, hN⟩, ⟨rfl, by rw [ht]; exact hP, va_K.moved ha hK, hD⟩, hS.F ht⟩) hS.2.2 (Nat.le_refl _) (Nat.le_refl _)
    rw [if_neg hk29] at hf
    by_cases hk37 : o1.1 = 2
    · rw [if_pos hk37] at hf
      obtain ⟨hm38, hf⟩ := xmoE hf
      obtain rfl := Option.some.inj hf
      exact absurd (show (1 : Nat) = 2 from hkd) (by decide)
    rw [if_neg hk37] at hf
    by_cases hk45 : o1.1 = 3
    · rw [if_pos hk45] at hf
      obtain ⟨hm46, hf⟩ := xmoE hf
      obtain rfl := Option.some.inj hf
      exact absurd (show (3 : Nat) = 2 from hkd) (by decide)
    rw [if_neg hk45] at hf
    exact nomatch hf
  refine lv_aload_n hx hb dM_elements_0 rfl (lv_at hl 0 rfl) ?_
  refine xm_get (v := .int (xsi st 12)) hx hb htx hown hK hP 12 (by decide) rfl (htx _ kw_5_99) rfl dM_elements_1 ?_
  refine lv_istore_n (lv' := [(1, .int (xsi st 12)), (0, .ref aM)]) hx hb dM_elements_4 rfl hl (by decide) rfl (fun ls hl => ?_)
  refine lv_aload_n hx hb dM_elements_5 rfl (lv_at hl 1 rfl) ?_
  obtain ⟨o1, hq2, hf⟩ := xbind hf
  have hFc := xm_free hD hS hA
  refine va_callv (va_runV (C := "ValueBenchModel") (As := []) (rest := []) ⟨hx, hb, hml, hown, htx⟩ (gM_blanks l hl9 D cT aK aV s.heap.size n aM ad rd gd vad st o1 hq2) ⟨callB_of 0 htx (xw_goodC kw_5_229) rfl rfl rfl (htx _ kw_1_5) (htx _ kw_5_226) ⟨by decide, by decide, by decide +kernel⟩ ⟨Nat.le_of_ble_eq_true rfl, Nat.le_of_ble_eq_true rfl⟩, (htx _ kw_5_228), (htx _ kp_M_blanks)⟩ ⟨xPre_blind, va_recv hK hP (ci := 5) rfl (q0 := 0) rfl, (fun U hU hW => ⟨rfl, xPre_of hZ hS hFc hP hD hK U hU hW⟩)⟩ rfl rfl hl.1 rfl (xm_room (Nat.le_of_ble_eq_true rfl)) dM_elements_6 ⟨Nat.zero_le _, Nat.zero_le _⟩) hS (fun q _ h => hFc q h) hFc (fun u9 t H1 locs ht hvm hr9 hB hz1 hk1 hS => ?_)
  obtain ⟨hP1, hK1, hD1⟩ := hB
  rw [ht] at hP1
  have hn4 := hr9
  have hN : xct st ≤ xct o1 := Nat.le_trans hN hn4
  have hP : va_P D xcl (xMw cT aM ad rd gd vad o1 []) H1 := hP1
  have hD : va_D A (xMw cT aM ad rd gd vad o1 []) := hD1.weaken (fun k q _ h => hFc q.1 h)
  generalize H1 = H at hP hS ⊢
  refine W.eq (g2 := F0 m 9 ls []) (by first | rfl | (skip; rfl)) ?_
  refine lv_aload_n hx hb dM_elements_9 rfl (lv_at hl 1 rfl) ?_
  obtain ⟨o5, hq6, hf⟩ := xbind hf
  have hFc := xm_free hD hS hA
  refine va_calli (va_runV (C := "ValueBenchModel") (As := []) (rest := []) ⟨hx, hb, hml, hown, htx⟩ (gM_peek l hl9 D cT aK aV H.size n aM ad rd gd vad o1 o5 hq6) ⟨callB_of 0 htx (xw_goodC kw_5_233) rfl rfl rfl (htx _ kw_1_5) (htx _ kw_5_230) ⟨by decide, by decide, by decide +kernel⟩ ⟨Nat.le_of_ble_eq_true rfl, Nat.le_of_ble_eq_true rfl⟩, (htx _ kw_5_232), (htx _ kp_M_peek)⟩ ⟨xPre_blind, va_recv hK hP (ci := 5) rfl (q0 := 0) rfl, (fun U hU hW => ⟨rfl, xPre_of hZ hS hFc hP hD hK U hU hW⟩)⟩ rfl rfl hl.1 rfl (xm_room (Nat.le_of_ble_eq_true rfl)) dM_elements_10 ⟨Nat.zero_le _, Nat.zero_le _⟩) hS (fun q _ h => hFc q h) hFc (fun r7 u9 t H1 locs ht hvm hr9 hB hz1 hk1 hS => ?_)
  obtain ⟨hP1, hK1, hD1⟩ := hB
  rw [ht] at hP1
  have hP : va_P D xcl (xMw cT aM ad rd gd vad o1 []) H1 := hP1
  have hD : va_D A (xMw cT aM ad rd gd vad o1 []) := hD1.weaken (fun k q _ h => hFc q.1 h)
  generalize H1 = H at hP hS ⊢
  rw [hr9]
  refine W.eq (g2 := F0 m 13 ls [.int o5]) (by first | rfl | (skip; rfl)) ?_
  refine lv_bipush (v := 93) hx hb dM_elements_13 (by decide) ?_
  refine lv_icmp_ne (tgt := 35) hx hb dM_elements_15 (by decide) (fun hc => ?_) (fun hc => ?_)
  · rw [if_neg hc] at hf
    exact key n (1, (xsi st 12), o1, 0, 0) _ _ ls (⟨ad, gd, vad, rfl, hf, hP, hD, hS, lv_sub hl [0, 1] rfl, hE, hN⟩)
  · rw [if_pos hc] at hf
    refine lv_aload_n hx hb dM_elements_18 rfl (lv_at hl 1 rfl) ?_
    refine lv_dup hx hb dM_elements_19 rfl ?_
    refine xm_get (v := .int (xsi o1 16)) hx hb htx hown hK hP 16 (by decide) rfl (htx _ kw_5_103) rfl dM_elements_20 ?_
    refine lv_iconst (v := 1) hx hb dM_elements_23 (by decide) ?_
    refine lv_iadd hx hb dM_elements_24 ?_
    refine xm_put (v := .int ((xsi o1 16) + (1 : Int32))) (W' := (xMw cT aM ad rd gd vad (xsI o1 16 ((xsi o1 16) + (1 : Int32))) [])) (ty := .int) hx hb htx hown hK hP hD hS 16 (by decide) rfl (htx _ kw_5_103) rfl rfl (by decide +kernel) rfl rfl dM_elements_25 (fun H locs hP hD hS => ?_)
    refine lv_aload_n hx hb dM_elements_28 rfl (lv_at hl 1 rfl) ?_
    refine lv_iconst (v := 5) hx hb dM_elements_29 (by decide) ?_
    refine lv_iload_n hx hb dM_elements_30 rfl (lv_at hl 0 rfl) ?_
    obtain ⟨o8, hq9, hf⟩ := xbind hf
    by_cases hk10 : o8.1 = 0
    · rw [if_pos hk10] at hf
      obtain ⟨hm11, hf⟩ := xmoE hf
      have hFc := xm_free hD hS hA
      refine va_callq (va_runV (C := "ValueBenchModel") (As := [.int 5, .int (xsi st 12)]) (rest := []) ⟨hx, hb, hml, hown, htx⟩ (gM_whole l hl9 D cT aK aV H.size n aM ad rd gd vad (xsI o1 16 ((xsi o1 16) + (1 : Int32))) (5 : Int32) (xsi st 12) o8 hq9 hk10) ⟨callB_of 2 htx (xw_goodC kw_6_106) rfl rfl rfl (htx _ kw_1_5) (htx _ kw_6_103) ⟨by decide, by decide, by decide +kernel⟩ ⟨Nat.le_of_ble_eq_true rfl, Nat.le_of_ble_eq_true rfl⟩, (htx _ kw_6_105), (htx _ kp_M_whole)⟩ ⟨xPre_blind, va_recv hK hP (ci := 5) rfl (q0 := 0) rfl, (fun U hU hW => ⟨rfl, xPre_of hZ hS hFc hP hD hK U hU hW⟩)⟩ rfl rfl hl.1 rfl (xm_room (Nat.le_of_ble_eq_true rfl)) dM_elements_31 ⟨hm11.1, hm11.2⟩) hS (fun q _ h => hFc q h) hFc (fun r12 u9 t H1 locs ht hvm hr9 hB hz1 hk1 hS => ?_)
      obtain ⟨hP1, hK1, hD1⟩ := hB
      rw [ht] at hP1
      obtain ⟨ad13, gd14, vad15⟩ := u9
      obtain ⟨hr9, hv16, hn17⟩ := hr9
      have hP : va_P D xcl (xMw cT aM ad13 rd gd14 vad15 o8.2.2.2.2 []) H1 := hP1
      have hD : va_D A (xMw cT aM ad13 rd gd14 vad15 o8.2.2.2.2 []) := hD1.weaken (fun k q _ h => hFc q.1 h)
      generalize H1 = H at hP hS ⊢
      have hE9 : ∀ p, p < xct st → vad15 p = vad p := fun p h => (hv16 p (Nat.lt_of_lt_of_le h hN)).trans (hE p h)
      have hE := hE9
      have hN : xct st ≤ xct o8.2.2.2.2 := Nat.le_trans hN hn17
      rw [hr9]
      refine W.eq (g2 := F0 m 34 ls [xv vad15 o8.2.2.2.1]) (by first | rfl | (skip; rfl)) ?_
      obtain rfl := Option.some.inj hf
      exact absurd (show (0 : Nat) = 2 from hkd) (by decide)
    rw [if_neg hk10] at hf
    by_cases hk18 : o8.1 = 1
    · rw [if_pos hk18] at hf
      obtain ⟨hm19, hf⟩ := xmoE hf
      obtain rfl := Option.some.inj hf
      exact absurd (show (1 : Nat) = 2 from hkd) (by decide)
    rw [if_neg hk18] at hf
    exact nomatch hf
set_option maxHeartbeats 400000000 in
set_option maxRecDepth 100000 in
theorem gM_elements_3 (l : Launch) (hl9 : l.stackTraces = false) (D : va_G) (cT : Nat → ClassId) (aK aV : Nat → Nat) (fr lo : Nat) (rec : xS → Option (Nat × Nat × Nat × Nat × xS)) (hrec : ∀ (sz aM : Nat) (ad rd gd vad : Nat → Nat) (st : xS) (out : Nat × Nat × Nat × Nat × xS), rec st = some out → (out.1 = 0 → xMet l yM_value wyM_value fr out.2.1 out.2.2.1 lo D cT aK aV sz [.ref aM] (xMw cT aM ad rd gd vad st []) (fun A => va_Qq (fun (r : Option Nat) (u : xU) => r = xca u.2.2 out.2.2.2.1 ∧ xE vad st out.2.2.2.2 u) (fun u t => xB D xcl cT A (xMw cT aM u.1 rd u.2.1 u.2.2 out.2.2.2.2 []) t) A)) ∧ (out.1 = 1 → xMetY l yM_value wyM_value fr out.2.1 out.2.2.1 lo D cT aK aV sz [.ref aM] (xMw cT aM ad rd gd vad st []) "java/lang/UnsupportedOperationException" (fun u => xE vad st out.2.2.2.2 u) (fun A u t => xB D xcl cT A (xMw cT aM u.1 rd u.2.1 u.2.2 out.2.2.2.2 []) t)) ∧ (out.1 = 2 → xMetY l yM_value wyM_value fr out.2.1 out.2.2.1 lo D cT aK aV sz [.ref aM] (xMw cT aM ad rd gd vad st []) "java/lang/IndexOutOfBoundsException" (fun u => xE vad st out.2.2.2.2 u) (fun A u t => xB D xcl cT A (xMw cT aM u.1 rd u.2.1 u.2.2 out.2.2.2.2 []) t)) ∧ (out.1 = 3 → xMetY l yM_value wyM_value fr out.2.1 out.2.2.1 lo D cT aK aV sz [.ref aM] (xMw cT aM ad rd gd vad st []) "java/lang/ArithmeticException" (fun u => xE vad st out.2.2.2.2 u) (fun A u t => xB D xcl cT A (xMw cT aM u.1 rd u.2.1 u.2.2 out.2.2.2.2 []) t))) (sz n : Nat) (aM : Nat) (ad rd gd vad : Nat → Nat) (st : xS) (out : Nat × Nat × Nat × Nat × xS) (hf : fM_elements rec n st = some out) (hkd : out.1 = 3) : xMetY l yM_elements wyM_elements (fr + 8) out.2.1 out.2.2.1 (lo + 147) D cT aK aV sz [.ref aM] (xMw cT aM ad rd gd vad st []) "java/lang/ArithmeticException" (fun u => xE vad st out.2.2.2.2 u) (fun A u t => xB D xcl cT A (xMw cT aM u.1 rd u.2.1 u.2.2 out.2.2.2.2 []) t) := by
  refine vx_ofW (cc := prog_13_method_39_code) (maxL := 4) (ret := (some (.object "ValueBenchModel$V"))) (by decide) rfl ?_
  intro p e s m args below meth c s₁ B hml hne hv
  obtain ⟨rfl, hsz, hZ, hP, hK, hD0⟩ := hv
  have hx := B.exec
  have hb := B.bytes
  have hr := B.returns
  have hts := atoms_spec (ws := wyM_elements) B.pre
  have htx := fun w h => hts w (List.mem_cons_of_mem _ h)
  have hown : s.vm.findClass "ValueBenchModel" = some m.cls := findClass_of_methodNamed B.named
  have hlocks := B.notSynchronized
  subst hsz
  have hD := hD0.self (sz := s.heap.size)
  generalize hAe : va_A (xMw cT aM ad rd gd vad st []) s.heap.size = A at hD hZ ⊢
  have hA : ∀ q : Nat, s.heap.size ≤ q → A q := fun q h => by rw [← hAe]; exact Or.inr h
  have hS : va_S A s.heap s.heap [] := va_S.rf
  have hl := lv_entry ([.ref aM]) (n := 4) (by simp [lg_sl, xvcat, xrscat, xcI, xcL, xcR, xcN])
  rw [show lv_args 0 [.ref aM] = [(0, .ref aM)] from by simp [lv_args, xvcat, xrscat, xcI, xcL, xcR, xcN]] at hl
  rw [lg_entry_eq]
  generalize (lg_sl ([.ref aM]) ++ List.replicate (4 - (lg_sl ([.ref aM])).length) Slot.unset).toArray = ls at hl ⊢
  have hl : lv_has ls 4 [(0, .ref aM)] := hl
  have hE : ∀ p, p < xct st → vad p = vad p := fun _ _ => rfl
  have hN : xct st ≤ xct st := Nat.le_refl _
  unfold fM_elements at hf
  refine xloopM (σ := Nat × Int32 × xS × Nat × Nat) (fun n x H locs ls => (∃ (adL gdL vadL : Nat → Nat), x.1 = 1 ∧ fM_elements_b rec n x.1 x.2.1 x.2.2.1 x.2.2.2.1 x.2.2.2.2 = some out ∧ va_P D xcl (xMw cT aM adL rd gdL vadL x.2.2.1 []) H ∧ va_D A (xMw cT aM adL rd gdL vadL x.2.2.1 []) ∧ va_S A s.heap H locs ∧ lv_has ls 4 [(1, .int x.2.1), (0, .ref aM)] ∧ (∀ p, p < xct st → vadL p = vad p) ∧ xct st ≤ xct x.2.2.1)) (fun x => 35) (fun x => x.2.2.2.1) (fun x => x.2.2.2.2) (fun x H locs ls h => by (obtain ⟨_, _, _, h⟩ := h; exact absurd h.2.1 (by rw [fM_elements_b]; exact fun h => nomatch h))) (fun n ih x H locs ls hv => ?_) (fun key => ?_)
  · obtain ⟨lb, y1, ws9, wc, wn⟩ := x
    rcases hv with ⟨adL, gdL, vadL, hj, hf, hP, hD, hS, hl, hE, hN⟩
    subst hj
    have hf : fM_elements_b rec (n + 1) 1 y1 ws9 wc wn = some out := hf
    rw [fM_elements_b] at hf
    obtain ⟨hP, hD⟩ : xPD D xcl A (xMw cT aM adL rd gdL vadL ws9 []) H := ⟨hP, hD⟩
    have hl : lv_has ls 4 [(1, .int y1), (0, .ref aM)] := hl
    refine W.eq (g2 := F0 m 35 ls []) rfl ?_
    show W p l e _ s m _ below meth c H locs wc wn _ _
    obtain ⟨hm0, hf⟩ := xmoE hf
    refine lv_aload_n hx hb dM_elements_35 rfl (lv_at hl 1 rfl) ?_
    obtain ⟨o1, hq2, hf⟩ := xbind hf
    by_cases hk3 : o1.1 = 0
    · rw [if_pos hk3] at hf
      obtain ⟨hm4, hf⟩ := xmoE hf
      have hFc := xm_free hD hS hA
      refine va_callq (va_runV (C := "ValueBenchModel") (As := []) (rest := []) ⟨hx, hb, hml, hown, htx⟩ ((hrec H.size aM adL rd gdL vadL ws9 o1 hq2).1 hk3) ⟨callB_of 0 htx (xw_goodC kw_5_225) rfl rfl rfl (htx _ kw_1_5) (htx _ kw_5_222) ⟨by decide, by decide, by decide +kernel⟩ ⟨(by show (fr) + 1 ≤ fr + 8; omega), (by show 8 + (3 + 11) + (lo) ≤ lo + 147; omega)⟩, (htx _ kw_5_224), (htx _ kp_M_value)⟩ ⟨xPre_blind, va_recv hK hP (ci := 5) rfl (q0 := 0) rfl, (fun U hU hW => ⟨rfl, xPre_of hZ hS hFc hP hD hK U hU hW⟩)⟩ rfl rfl hl.1 rfl (xm_room (Nat.le_of_ble_eq_true rfl)) dM_elements_36 ⟨hm4.1, hm4.2⟩) hS (fun q _ h => hFc q h) hFc (fun r5 u9 t H1 locs ht hvm hr9 hB hz1 hk1 hS => ?_)
      obtain ⟨hP1, hK1, hD1⟩ := hB
      rw [ht] at hP1
      obtain ⟨ad6, gd7, vad8⟩ := u9
      obtain ⟨hr9, hv9, hn10⟩ := hr9
      have hP : va_P D xcl (xMw cT aM ad6 rd gd7 vad8 o1.2.2.2.2 []) H1 := hP1
      have hD : va_D A (xMw cT aM ad6 rd gd7 vad8 o1.2.2.2.2 []) := hD1.weaken (fun k q _ h => hFc q.1 h)
      generalize H1 = H at hP hS ⊢
      have hE9 : ∀ p, p < xct st → vad8 p = vad p := fun p h => (hv9 p (Nat.lt_of_lt_of_le h hN)).trans (hE p h)
      have hE := hE9
      have hN : xct st ≤ xct o1.2.2.2.2 := Nat.le_trans hN hn10
      rw [hr9]
      refine W.eq (g2 := F0 m 39 ls [xv vad8 o1.2.2.2.1]) (by first | rfl | (skip; rfl)) ?_
      refine xm_astore_n (lv' := [(2, xv vad8 o1.2.2.2.1), (1, .int y1), (0, .ref aM)]) hx hb (xvor _ _) dM_elements_39 rfl hl (by decide) rfl (fun ls hl => ?_)
      refine lv_aload_n hx hb dM_elements_40 rfl (lv_at hl 2 rfl) ?_
      refine lv_null hx hb dM_elements_41 ?_
      refine xm_aload_n hx hb (xvor _ _) dM_elements_42 rfl (lv_at hl 0 rfl) ?_
      obtain ⟨o11, hq12, hf⟩ := xbind hf
      obtain ⟨hg13, hf⟩ := xifn hf
      obtain ⟨hm14, hf⟩ := xmoE hf
      have hFc := xm_free hD hS hA
      refine va_callv (va_runV (C := "ValueBenchModel") (As := [.null, xv vad8 o1.2.2.2.1]) (rest := []) ⟨hx, hb, hml, hown, htx⟩ (gM_wait l hl9 D cT aK aV H.size n aM ad6 rd gd7 vad8 o1.2.2.2.2 0 o1.2.2.2.1 o11 hq12) ⟨callB_of 2 htx (xw_goodC kw_6_112) rfl rfl rfl (htx _ kw_1_5) (htx _ kw_6_109) ⟨by decide, by decide, by decide +kernel⟩ ⟨Nat.le_of_ble_eq_true rfl, Nat.le_of_ble_eq_true rfl⟩, (htx _ kw_6_111), (htx _ kp_M_wait)⟩ ⟨xPre_blind, va_recv hK hP (ci := 5) rfl (q0 := 0) rfl, (fun U hU hW => ⟨rfl, xPre_of hZ hS hFc hP hD hK U hU hW⟩)⟩ rfl rfl hl.1 rfl (xm_room (Nat.le_of_ble_eq_true rfl)) dM_elements_43 ⟨hm14.1, hm14.2⟩) hS (fun q _ h => hFc q h) hFc (fun u9 t H1 locs ht hvm hr9 hB hz1 hk1 hS => ?_)
      obtain ⟨hP1, hK1, hD1⟩ := hB
      rw [ht] at hP1
      obtain ⟨ad16, gd17, vad18⟩ := u9
      obtain ⟨hv19, hn20⟩ := hr9
      have hP : va_P D xcl (xMw cT aM ad16 rd gd17 vad18 o11.2.2 []) H1 := hP1
      have hD : va_D A (xMw cT aM ad16 rd gd17 vad18 o11.2.2 []) := hD1.weaken (fun k q _ h => hFc q.1 h)
      generalize H1 = H at hP hS ⊢
      have hE9 : ∀ p, p < xct st → vad18 p = vad p := fun p h => (hv19 p (Nat.lt_of_lt_of_le h hN)).trans (hE p h)
      have hE := hE9
      have hN : xct st ≤ xct o11.2.2 := Nat.le_trans hN hn20
      have ev21 : xv vad8 o1.2.2.2.1 = xv vad18 o1.2.2.2.1 := xvE hv19 hg13
      have hl : lv_has ls 4 [(2, xv vad18 o1.2.2.2.1), (1, .int y1), (0, .ref aM)] := by first | exact hl | ((try (rw [← ev21])); exact hl)
      refine W.eq (g2 := F0 m 46 ls []) (by first | rfl | ((try (rw [ev21])); rfl)) ?_
      refine lv_aload_n hx hb dM_elements_46 rfl (lv_at hl 2 rfl) ?_
      obtain ⟨o22, hq23, hf⟩ := xbind hf
      have hFc := xm_free hD hS hA
      refine va_callv (va_runV (C := "ValueBenchModel") (As := []) (rest := []) ⟨hx, hb, hml, hown, htx⟩ (gM_blanks l hl9 D cT aK aV H.size n aM ad16 rd gd17 vad18 o11.2.2 o22 hq23) ⟨callB_of 0 htx (xw_goodC kw_5_229) rfl rfl rfl (htx _ kw_1_5) (htx _ kw_5_226) ⟨by decide, by decide, by decide +kernel⟩ ⟨Nat.le_of_ble_eq_true rfl, Nat.le_of_ble_eq_true rfl⟩, (htx _ kw_5_228), (htx _ kp_M_blanks)⟩ ⟨xPre_blind, va_recv hK hP (ci := 5) rfl (q0 := 0) rfl, (fun U hU hW => ⟨rfl, xPre_of hZ hS hFc hP hD hK U hU hW⟩)⟩ rfl rfl hl.1 rfl (xm_room (Nat.le_of_ble_eq_true rfl)) dM_elements_47 ⟨hm14.1, hm14.2⟩) hS (fun q _ h => hFc q h) hFc (fun u9 t H1 locs ht hvm hr9 hB hz1 hk1 hS => ?_)
      obtain ⟨hP1, hK1, hD1⟩ := hB
      rw [ht] at hP1
      have hn25 := hr9
      have hN : xct st ≤ xct o22 := Nat.le_trans hN hn25
      have hP : va_P D xcl (xMw cT aM ad16 rd gd17 vad18 o22 []) H1 := hP1
      have hD : va_D A (xMw cT aM ad16 rd gd17 vad18 o22 []) := hD1.weaken (fun k q _ h => hFc q.1 h)
      generalize H1 = H at hP hS ⊢
      refine W.eq (g2 := F0 m 50 ls []) (by first | rfl | (skip; rfl)) ?_
      refine lv_aload_n hx hb dM_elements_50 rfl (lv_at hl 2 rfl) ?_
      obtain ⟨o26, hq27, hf⟩ := xbind hf
      have hFc := xm_free hD hS hA
      refine va_calli (va_runV (C := "ValueBenchModel") (As := []) (rest := []) ⟨hx, hb, hml, hown, htx⟩ (gM_peek l hl9 D cT aK aV H.size n aM ad16 rd gd17 vad18 o22 o26 hq27) ⟨callB_of 0 htx (xw_goodC kw_5_233) rfl rfl rfl (htx _ kw_1_5) (htx _ kw_5_230) ⟨by decide, by decide, by decide +kernel⟩ ⟨Nat.le_of_ble_eq_true rfl, Nat.le_of_ble_eq_true rfl⟩, (htx _ kw_5_232), (htx _ kp_M_peek)⟩ ⟨xPre_blind, va_recv hK hP (ci := 5) rfl (q0 := 0) rfl, (fun U hU hW => ⟨rfl, xPre_of hZ hS hFc hP hD hK U hU hW⟩)⟩ rfl rfl hl.1 rfl (xm_room (Nat.le_of_ble_eq_true rfl)) dM_elements_51 ⟨hm14.1, hm14.2⟩) hS (fun q _ h => hFc q h) hFc (fun r28 u9 t H1 locs ht hvm hr9 hB hz1 hk1 hS => ?_)
      obtain ⟨hP1, hK1, hD1⟩ := hB
      rw [ht] at hP1
      have hP : va_P D xcl (xMw cT aM ad16 rd gd17 vad18 o22 []) H1 := hP1
      have hD : va_D A (xMw cT aM ad16 rd gd17 vad18 o22 []) := hD1.weaken (fun k q _ h => hFc q.1 h)
      generalize H1 = H at hP hS ⊢
      rw [hr9]
      refine W.eq (g2 := F0 m 54 ls [.int o26]) (by first | rfl | (skip; rfl)) ?_
      refine lv_istore_n (lv' := [(3, .int o26), (2, xv vad18 o1.2.2.2.1), (1, .int y1), (0, .ref aM)]) hx hb dM_elements_54 rfl hl (by decide) (by simp only [List.filter, xvcat, xrscat, xcI, xcL, xcR, xcN]; rfl) (fun ls hl => ?_)
      refine lv_iload_n hx hb dM_elements_55 rfl (lv_at hl 0 rfl) ?_
      refine lv_bipush (v := 44) hx hb dM_elements_56 (by decide) ?_
      refine lv_icmp_eq (tgt := 75) hx hb dM_elements_58 (by decide) (fun hc => ?_) (fun hc => ?_)
      · rw [if_pos hc] at hf
        refine lv_aload_n hx hb dM_elements_75 rfl (lv_at hl 3 rfl) ?_
        refine lv_dup hx hb dM_elements_76 rfl ?_
        refine xm_get (v := .int (xsi o22 16)) hx hb htx hown hK hP 16 (by decide) rfl (htx _ kw_5_103) rfl dM_elements_77 ?_
        refine lv_iconst (v := 1) hx hb dM_elements_80 (by decide) ?_
        refine lv_iadd hx hb dM_elements_81 ?_
        refine xm_put (v := .int ((xsi o22 16) + (1 : Int32))) (W' := (xMw cT aM ad16 rd gd17 vad18 (xsI o22 16 ((xsi o22 16) + (1 : Int32))) [])) (ty := .int) hx hb htx hown hK hP hD hS 16 (by decide) rfl (htx _ kw_5_103) rfl rfl (by decide +kernel) rfl rfl dM_elements_82 (fun H locs hP hD hS => ?_)
        refine lv_iload_n hx hb dM_elements_85 rfl (lv_at hl 0 rfl) ?_
        refine lv_bipush (v := 93) hx hb dM_elements_86 (by decide) ?_
        refine lv_icmp_ne (tgt := 98) hx hb dM_elements_88 (by decide) (fun hc => ?_) (fun hc => ?_)
        · rw [if_neg hc] at hf
          refine lv_goto (tgt := 35) hx hb dM_elements_98 (by decide) ?_
          exact ih (1, y1, (xsI o22 16 ((xsi o22 16) + (1 : Int32))), ((wc + o1.2.1) + o11.1), ((wn + o1.2.2.1) + o11.2.1)) _ _ ls (⟨ad16, gd17, vad18, rfl, hf, hP, hD, hS, lv_sub hl [2, 3] rfl, hE, hN⟩)
        · rw [if_pos hc] at hf
          refine lv_aload_n hx hb dM_elements_91 rfl (lv_at hl 3 rfl) ?_
          refine lv_iconst (v := 5) hx hb dM_elements_92 (by decide) ?_
          refine lv_iload_n hx hb dM_elements_93 rfl (lv_at hl 2 rfl) ?_
          obtain ⟨o29, hq30, hf⟩ := xbind hf
          have hl := lv_sub (l' := [(3, .int o26), (1, .int y1), (0, .ref aM)]) hl [0, 2, 3] rfl
          by_cases hk31 : o29.1 = 0
          · rw [if_pos hk31] at hf
            obtain ⟨hm32, hf⟩ := xmoE hf
            have hFc := xm_free hD hS hA
            refine va_callq (va_runV (C := "ValueBenchModel") (As := [.int 5, .int y1]) (rest := []) ⟨hx, hb, hml, hown, htx⟩ (gM_whole l hl9 D cT aK aV H.size n aM ad16 rd gd17 vad18 (xsI o22 16 ((xsi o22 16) + (1 : Int32))) (5 : Int32) y1 o29 hq30 hk31) ⟨callB_of 2 htx (xw_goodC kw_6_106) rfl rfl rfl (htx _ kw_1_5) (htx _ kw_6_103) ⟨by decide, by decide, by decide +kernel⟩ ⟨Nat.le_of_ble_eq_true rfl, Nat.le_of_ble_eq_true rfl⟩, (htx _ kw_6_105), (htx _ kp_M_whole)⟩ ⟨xPre_blind, va_recv hK hP (ci := 5) rfl (q0 := 0) rfl, (fun U hU hW => ⟨rfl, xPre_of hZ hS hFc hP hD hK U hU hW⟩)⟩ rfl rfl hl.1 rfl (xm_room (Nat.le_of_ble_eq_true rfl)) dM_elements_94 ⟨hm32.1, hm32.2⟩) hS (fun q _ h => hFc q h) hFc (fun r33 u9 t H1 locs ht hvm hr9 hB hz1 hk1 hS => ?_)
            obtain ⟨hP1, hK1, hD1⟩ := hB
            rw [ht] at hP1
            obtain ⟨ad34, gd35, vad36⟩ := u9
            obtain ⟨hr9, hv37, hn38⟩ := hr9
            have hP : va_P D xcl (xMw cT aM ad34 rd gd35 vad36 o29.2.2.2.2 []) H1 := hP1
            have hD : va_D A (xMw cT aM ad34 rd gd35 vad36 o29.2.2.2.2 []) := hD1.weaken (fun k q _ h => hFc q.1 h)
            generalize H1 = H at hP hS ⊢
            have hE9 : ∀ p, p < xct st → vad36 p = vad p := fun p h => (hv37 p (Nat.lt_of_lt_of_le h hN)).trans (hE p h)
            have hE := hE9
            have hN : xct st ≤ xct o29.2.2.2.2 := Nat.le_trans hN hn38
            rw [hr9]
            refine W.eq (g2 := F0 m 97 ls [xv vad36 o29.2.2.2.1]) (by first | rfl | (skip; rfl)) ?_
            obtain rfl := Option.some.inj hf
            exact absurd (show (0 : Nat) = 3 from hkd) (by decide)
          rw [if_neg hk31] at hf
          by_cases hk39 : o29.1 = 1
          · rw [if_pos hk39] at hf
            obtain ⟨hm40, hf⟩ := xmoE hf
            obtain rfl := Option.some.inj hf
            exact absurd (show (1 : Nat) = 3 from hkd) (by decide)
          rw [if_neg hk39] at hf
          exact nomatch hf
      · rw [if_neg hc] at hf
        refine lv_iload_n hx hb dM_elements_61 rfl (lv_at hl 0 rfl) ?_
        refine lv_bipush (v := 93) hx hb dM_elements_62 (by decide) ?_
        refine lv_icmp_eq (tgt := 75) hx hb dM_elements_64 (by decide) (fun hc => ?_) (fun hc => ?_)
        · rw [if_pos hc] at hf
          refine lv_aload_n hx hb dM_elements_75 rfl (lv_at hl 3 rfl) ?_
          refine lv_dup hx hb dM_elements_76 rfl ?_
          refine xm_get (v := .int (xsi o22 16)) hx hb htx hown hK hP 16 (by decide) rfl (htx _ kw_5_103) rfl dM_elements_77 ?_
          refine lv_iconst (v := 1) hx hb dM_elements_80 (by decide) ?_
          refine lv_iadd hx hb dM_elements_81 ?_
          refine xm_put (v := .int ((xsi o22 16) + (1 : Int32))) (W' := (xMw cT aM ad16 rd gd17 vad18 (xsI o22 16 ((xsi o22 16) + (1 : Int32))) [])) (ty := .int) hx hb htx hown hK hP hD hS 16 (by decide) rfl (htx _ kw_5_103) rfl rfl (by decide +kernel) rfl rfl dM_elements_82 (fun H locs hP hD hS => ?_)
          refine lv_iload_n hx hb dM_elements_85 rfl (lv_at hl 0 rfl) ?_
          refine lv_bipush (v := 93) hx hb dM_elements_86 (by decide) ?_
          refine lv_icmp_ne (tgt := 98) hx hb dM_elements_88 (by decide) (fun hc => ?_) (fun hc => ?_)
          · rw [if_neg hc] at hf
            refine lv_goto (tgt := 35) hx hb dM_elements_98 (by decide) ?_
            exact ih (1, y1, (xsI o22 16 ((xsi o22 16) + (1 : Int32))), ((wc + o1.2.1) + o11.1), ((wn + o1.2.2.1) + o11.2.1)) _ _ ls (⟨ad16, gd17, vad18, rfl, hf, hP, hD, hS, lv_sub hl [2, 3] rfl, hE, hN⟩)
          · rw [if_pos hc] at hf
            refine lv_aload_n hx hb dM_elements_91 rfl (lv_at hl 3 rfl) ?_
            refine lv_iconst (v := 5) hx hb dM_elements_92 (by decide) ?_
            refine lv_iload_n hx hb dM_elements_93 rfl (lv_at hl 2 rfl) ?_
            obtain ⟨o29, hq30, hf⟩ := xbind hf
            have hl := lv_sub (l' := [(3, .int o26), (1, .int y1), (0, .ref aM)]) hl [0, 2, 3] rfl
            by_cases hk31 : o29.1 = 0
            · rw [if_pos hk31] at hf
              obtain ⟨hm32, hf⟩ := xmoE hf
              have hFc := xm_free hD hS hA
              refine va_callq (va_runV (C := "ValueBenchModel") (As := [.int 5, .int y1]) (rest := []) ⟨hx, hb, hml, hown, htx⟩ (gM_whole l hl9 D cT aK aV H.size n aM ad16 rd gd17 vad18 (xsI o22 16 ((xsi o22 16) + (1 : Int32))) (5 : Int32) y1 o29 hq30 hk31) ⟨callB_of 2 htx (xw_goodC kw_6_106) rfl rfl rfl (htx _ kw_1_5) (htx _ kw_6_103) ⟨by decide, by decide, by decide +kernel⟩ ⟨Nat.le_of_ble_eq_true rfl, Nat.le_of_ble_eq_true rfl⟩, (htx _ kw_6_105), (htx _ kp_M_whole)⟩ ⟨xPre_blind, va_recv hK hP (ci := 5) rfl (q0 := 0) rfl, (fun U hU hW => ⟨rfl, xPre_of hZ hS hFc hP hD hK U hU hW⟩)⟩ rfl rfl hl.1 rfl (xm_room (Nat.le_of_ble_eq_true rfl)) dM_elements_94 ⟨hm32.1, hm32.2⟩) hS (fun q _ h => hFc q h) hFc (fun r33 u9 t H1 locs ht hvm hr9 hB hz1 hk1 hS => ?_)
              obtain ⟨hP1, hK1, hD1⟩ := hB
              rw [ht] at hP1
              obtain ⟨ad34, gd35, vad36⟩ := u9
              obtain ⟨hr9, hv37, hn38⟩ := hr9
              have hP : va_P D xcl (xMw cT aM ad34 rd gd35 vad36 o29.2.2.2.2 []) H1 := hP1
              have hD : va_D A (xMw cT aM ad34 rd gd35 vad36 o29.2.2.2.2 []) := hD1.weaken (fun k q _ h => hFc q.1 h)
              generalize H1 = H at hP hS ⊢
              have hE9 : ∀ p, p < xct st → vad36 p = vad p := fun p h => (hv37 p (Nat.lt_of_lt_of_le h hN)).trans (hE p h)
              have hE := hE9
              have hN : xct st ≤ xct o29.2.2.2.2 := Nat.le_trans hN hn38
              rw [hr9]
              refine W.eq (g2 := F0 m 97 ls [xv vad36 o29.2.2.2.1]) (by first | rfl | (skip; rfl)) ?_
              obtain rfl := Option.some.inj hf
              exact absurd (show (0 : Nat) = 3 from hkd) (by decide)
            rw [if_neg hk31] at hf
            by_cases hk39 : o29.1 = 1
            · rw [if_pos hk39] at hf
              obtain ⟨hm40, hf⟩ := xmoE hf
              obtain rfl := Option.some.inj hf
              exact absurd (show (1 : Nat) = 3 from hkd) (by decide)
            rw [if_neg hk39] at hf
            exact nomatch hf
        · rw [if_neg hc] at hf
          refine lv_aload_n hx hb dM_elements_67 rfl (lv_at hl 3 rfl) ?_
          refine lv_aload_n hx hb dM_elements_68 rfl (lv_at hl 3 rfl) ?_
          refine xm_get (v := .int (xsi o22 16)) hx hb htx hown hK hP 16 (by decide) rfl (htx _ kw_5_103) rfl dM_elements_69 ?_
          obtain ⟨o29, hq30, hf⟩ := xbind hf
          by_cases hk31 : o29.1 = 1
          · rw [if_pos hk31] at hf
            obtain ⟨hg32, hf⟩ := xifn hf
            obtain ⟨hm33, hf⟩ := xmoE hf
            obtain rfl := Option.some.inj hf
            exact absurd (show (2 : Nat) = 3 from hkd) (by decide)
          rw [if_neg hk31] at hf
          exact nomatch hf
    rw [if_neg hk3] at hf
    by_cases hk29 : o1.1 = 1
    · rw [if_pos hk29] at hf
      obtain ⟨hm30, hf⟩ := xmoE hf
      obtain rfl := Option.some.inj hf
      exact absurd (show (2 : Nat) = 3 from hkd) (by decide)
    rw [if_neg hk29] at hf
    by_cases hk37 : o1.1 = 2
    · rw [if_pos hk37] at hf
      obtain ⟨hm38, hf⟩ := xmoE hf
      obtain rfl := Option.some.inj hf
      exact absurd (show (1 : Nat) = 3 from hkd) (by decide)
    rw [if_neg hk37] at hf
    by_cases hk45 : o1.1 = 3
    · rw [if_pos hk45] at hf
      obtain ⟨hm46, hf⟩ := xmoE hf
      have hFc := xm_free hD hS hA
      refine xx_thr (vx_runV (C := "ValueBenchModel") (As := []) (rest := []) ⟨hx, hb, hml, hown, htx⟩ ((hrec H.size aM adL rd gdL vadL ws9 o1 hq2).2.2.2 hk45) ⟨callB_of 0 htx (xw_goodC kw_5_225) rfl rfl rfl (htx _ kw_1_5) (htx _ kw_5_222) ⟨by decide, by decide, by decide +kernel⟩ ⟨(by show (fr) + 1 ≤ fr + 8; omega), (by show 8 + (3 + 11) + (lo) ≤ lo + 147; omega)⟩, (htx _ kw_5_224), (htx _ kp_M_value)⟩ ⟨xPre_blind, va_recv hK hP (ci := 5) rfl (q0 := 0) rfl, (fun U hU hW => ⟨rfl, xPre_of hZ hS hFc hP hD hK U hU hW⟩)⟩ rfl rfl hl.1 rfl (xm_room (Nat.le_of_ble_eq_true rfl)) dM_elements_36 ⟨hm46.1, hm46.2⟩) hS hFc (fun q _ h => hFc q h) (fun E ce q9 u9 t H1 locs ht hvm hr9 hB hz1 hk1 hS hce hcv hcl => ?_)
      obtain ⟨rfl, hP1, hK1, hD1⟩ := hB
      rw [ht] at hP1
      obtain ⟨ad48, gd49, vad50⟩ := u9
      obtain ⟨hv51, hn52⟩ := hr9
      have hP : va_P D xcl (xMw cT aM ad48 rd gd49 vad50 o1.2.2.2.2 []) H1 := hP1
      have hD : va_D A (xMw cT aM ad48 rd gd49 vad50 o1.2.2.2.2 []) := hD1.weaken (fun k q _ h => hFc q.1 h)
      generalize H1 = H at hP hS hce ⊢
      have hE9 : ∀ p, p < xct st → vad50 p = vad p := fun p h => (hv51 p (Nat.lt_of_lt_of_le h hN)).trans (hE p h)
      have hE := hE9
      have hN : xct st ≤ xct o1.2.2.2.2 := Nat.le_trans hN hn52
      obtain rfl := Option.some.inj hf
      exact vx_out (E := "java/lang/ArithmeticException") (fun x h => (hne x h).elim) hlocks hce hcv hcl (fun t ht ha => ⟨(ad48, gd49, vad50), ⟨hE, hN⟩, ⟨rfl, by rw [ht]; exact hP, va_K.moved ha hK, hD⟩, hS.F ht⟩) hS.2.2 (Nat.le_refl _) (Nat.le_refl _)
    rw [if_neg hk45] at hf
    exact nomatch hf
  refine lv_aload_n hx hb dM_elements_0 rfl (lv_at hl 0 rfl) ?_
  refine xm_get (v := .int (xsi st 12)) hx hb htx hown hK hP 12 (by decide) rfl (htx _ kw_5_99) rfl dM_elements_1 ?_
  refine lv_istore_n (lv' := [(1, .int (xsi st 12)), (0, .ref aM)]) hx hb dM_elements_4 rfl hl (by decide) rfl (fun ls hl => ?_)
  refine lv_aload_n hx hb dM_elements_5 rfl (lv_at hl 1 rfl) ?_
  obtain ⟨o1, hq2, hf⟩ := xbind hf
  have hFc := xm_free hD hS hA
  refine va_callv (va_runV (C := "ValueBenchModel") (As := []) (rest := []) ⟨hx, hb, hml, hown, htx⟩ (gM_blanks l hl9 D cT aK aV s.heap.size n aM ad rd gd vad st o1 hq2) ⟨callB_of 0 htx (xw_goodC kw_5_229) rfl rfl rfl (htx _ kw_1_5) (htx _ kw_5_226) ⟨by decide, by decide, by decide +kernel⟩ ⟨Nat.le_of_ble_eq_true rfl, Nat.le_of_ble_eq_true rfl⟩, (htx _ kw_5_228), (htx _ kp_M_blanks)⟩ ⟨xPre_blind, va_recv hK hP (ci := 5) rfl (q0 := 0) rfl, (fun U hU hW => ⟨rfl, xPre_of hZ hS hFc hP hD hK U hU hW⟩)⟩ rfl rfl hl.1 rfl (xm_room (Nat.le_of_ble_eq_true rfl)) dM_elements_6 ⟨Nat.zero_le _, Nat.zero_le _⟩) hS (fun q _ h => hFc q h) hFc (fun u9 t H1 locs ht hvm hr9 hB hz1 hk1 hS => ?_)
  obtain ⟨hP1, hK1, hD1⟩ := hB
  rw [ht] at hP1
  have hn4 := hr9
  have hN : xct st ≤ xct o1 := Nat.le_trans hN hn4
  have hP : va_P D xcl (xMw cT aM ad rd gd vad o1 []) H1 := hP1
  have hD : va_D A (xMw cT aM ad rd gd vad o1 []) := hD1.weaken (fun k q _ h => hFc q.1 h)
  generalize H1 = H at hP hS ⊢
  refine W.eq (g2 := F0 m 9 ls []) (by first | rfl | (skip; rfl)) ?_
  refine lv_aload_n hx hb dM_elements_9 rfl (lv_at hl 1 rfl) ?_
  obtain ⟨o5, hq6, hf⟩ := xbind hf
  have hFc := xm_free hD hS hA
  refine va_calli (va_runV (C := "ValueBenchModel") (As := []) (rest := []) ⟨hx, hb, hml, hown, htx⟩ (gM_peek l hl9 D cT aK aV H.size n aM ad rd gd vad o1 o5 hq6) ⟨callB_of 0 htx (xw_goodC kw_5_233) rfl rfl rfl (htx _ kw_1_5) (htx _ kw_5_230) ⟨by decide, by decide, by decide +kernel⟩ ⟨Nat.le_of_ble_eq_true rfl, Nat.le_of_ble_eq_true rfl⟩, (htx _ kw_5_232), (htx _ kp_M_peek)⟩ ⟨xPre_blind, va_recv hK hP (ci := 5) rfl (q0 := 0) rfl, (fun U hU hW => ⟨rfl, xPre_of hZ hS hFc hP hD hK U hU hW⟩)⟩ rfl rfl hl.1 rfl (xm_room (Nat.le_of_ble_eq_true rfl)) dM_elements_10 ⟨Nat.zero_le _, Nat.zero_le _⟩) hS (fun q _ h => hFc q h) hFc (fun r7 u9 t H1 locs ht hvm hr9 hB hz1 hk1 hS => ?_)
  obtain ⟨hP1, hK1, hD1⟩ := hB
  rw [ht] at hP1
  have hP : va_P D xcl (xMw cT aM ad rd gd vad o1 []) H1 := hP1
  have hD : va_D A (xMw cT aM ad rd gd vad o1 []) := hD1.weaken (fun k q _ h => hFc q.1 h)
  generalize H1 = H at hP hS ⊢
  rw [hr9]
  refine W.eq (g2 := F0 m 13 ls [.int o5]) (by first | rfl | (skip; rfl)) ?_
  refine lv_bipush (v := 93) hx hb dM_elements_13 (by decide) ?_
  refine lv_icmp_ne (tgt := 35) hx hb dM_elements_15 (by decide) (fun hc => ?_) (fun hc => ?_)
  · rw [if_neg hc] at hf
    exact key n (1, (xsi st 12), o1, 0, 0) _ _ ls (⟨ad, gd, vad, rfl, hf, hP, hD, hS, lv_sub hl [0, 1] rfl, hE, hN⟩)
  · rw [if_pos hc] at hf
    refine lv_aload_n hx hb dM_elements_18 rfl (lv_at hl 1 rfl) ?_
    refine lv_dup hx hb dM_elements_19 rfl ?_
    refine xm_get (v := .int (xsi o1 16)) hx hb htx hown hK hP 16 (by decide) rfl (htx _ kw_5_103) rfl dM_elements_20 ?_
    refine lv_iconst (v := 1) hx hb dM_elements_23 (by decide) ?_
    refine lv_iadd hx hb dM_elements_24 ?_
    refine xm_put (v := .int ((xsi o1 16) + (1 : Int32))) (W' := (xMw cT aM ad rd gd vad (xsI o1 16 ((xsi o1 16) + (1 : Int32))) [])) (ty := .int) hx hb htx hown hK hP hD hS 16 (by decide) rfl (htx _ kw_5_103) rfl rfl (by decide +kernel) rfl rfl dM_elements_25 (fun H locs hP hD hS => ?_)
    refine lv_aload_n hx hb dM_elements_28 rfl (lv_at hl 1 rfl) ?_
    refine lv_iconst (v := 5) hx hb dM_elements_29 (by decide) ?_
    refine lv_iload_n hx hb dM_elements_30 rfl (lv_at hl 0 rfl) ?_
    obtain ⟨o8, hq9, hf⟩ := xbind hf
    by_cases hk10 : o8.1 = 0
    · rw [if_pos hk10] at hf
      obtain ⟨hm11, hf⟩ := xmoE hf
      have hFc := xm_free hD hS hA
      refine va_callq (va_runV (C := "ValueBenchModel") (As := [.int 5, .int (xsi st 12)]) (rest := []) ⟨hx, hb, hml, hown, htx⟩ (gM_whole l hl9 D cT aK aV H.size n aM ad rd gd vad (xsI o1 16 ((xsi o1 16) + (1 : Int32))) (5 : Int32) (xsi st 12) o8 hq9 hk10) ⟨callB_of 2 htx (xw_goodC kw_6_106) rfl rfl rfl (htx _ kw_1_5) (htx _ kw_6_103) ⟨by decide, by decide, by decide +kernel⟩ ⟨Nat.le_of_ble_eq_true rfl, Nat.le_of_ble_eq_true rfl⟩, (htx _ kw_6_105), (htx _ kp_M_whole)⟩ ⟨xPre_blind, va_recv hK hP (ci := 5) rfl (q0 := 0) rfl, (fun U hU hW => ⟨rfl, xPre_of hZ hS hFc hP hD hK U hU hW⟩)⟩ rfl rfl hl.1 rfl (xm_room (Nat.le_of_ble_eq_true rfl)) dM_elements_31 ⟨hm11.1, hm11.2⟩) hS (fun q _ h => hFc q h) hFc (fun r12 u9 t H1 locs ht hvm hr9 hB hz1 hk1 hS => ?_)
      obtain ⟨hP1, hK1, hD1⟩ := hB
      rw [ht] at hP1
      obtain ⟨ad13, gd14, vad15⟩ := u9
      obtain ⟨hr9, hv16, hn17⟩ := hr9
      have hP : va_P D xcl (xMw cT aM ad13 rd gd14 vad15 o8.2.2.2.2 []) H1 := hP1
      have hD : va_D A (xMw cT aM ad13 rd gd14 vad15 o8.2.2.2.2 []) := hD1.weaken (fun k q _ h => hFc q.1 h)
      generalize H1 = H at hP hS ⊢
      have hE9 : ∀ p, p < xct st → vad15 p = vad p := fun p h => (hv16 p (Nat.lt_of_lt_of_le h hN)).trans (hE p h)
      have hE := hE9
      have hN : xct st ≤ xct o8.2.2.2.2 := Nat.le_trans hN hn17
      rw [hr9]
      refine W.eq (g2 := F0 m 34 ls [xv vad15 o8.2.2.2.1]) (by first | rfl | (skip; rfl)) ?_
      obtain rfl := Option.some.inj hf
      exact absurd (show (0 : Nat) = 3 from hkd) (by decide)
    rw [if_neg hk10] at hf
    by_cases hk18 : o8.1 = 1
    · rw [if_pos hk18] at hf
      obtain ⟨hm19, hf⟩ := xmoE hf
      obtain rfl := Option.some.inj hf
      exact absurd (show (1 : Nat) = 3 from hkd) (by decide)
    rw [if_neg hk18] at hf
    exact nomatch hf
set_option maxHeartbeats 400000000 in
set_option maxRecDepth 100000 in
theorem gM_says (l : Launch) (hl9 : l.stackTraces = false) (D : va_G) (cT : Nat → ClassId) (aK aV : Nat → Nat) (sz n : Nat) (aM : Nat) (ad rd gd vad : Nat → Nat) (st : xS) (x1 : Int32) (out : Nat × Nat × Nat × Nat × xS) (hf : fM_says n st x1 = some out) (hkd : out.1 = 0) : xMet l yM_says wyM_says 7 out.2.1 out.2.2.1 121 D cT aK aV sz [.ref aM, .ref (aK 11), .int x1] (xMw cT aM ad rd gd vad st []) (fun A => va_Qq (fun (r : Option Nat) (u : xU) => r = xca u.2.2 out.2.2.2.1 ∧ xE vad st out.2.2.2.2 u) (fun u t => xB D xcl cT A (xMw cT aM u.1 rd u.2.1 u.2.2 out.2.2.2.2 []) t) A) := by
  refine Met.ofW (cc := prog_13_method_33_code) (maxL := 4) (ret := (some (.object "ValueBenchModel$V"))) (by decide) rfl ?_
  intro p e s m args below meth c s₁ B hml hv
  obtain ⟨rfl, hsz, hZ, hP, hK, hD0⟩ := hv
  have hx := B.exec
  have hb := B.bytes
  have hr := B.returns
  have hts := atoms_spec (ws := wyM_says) B.pre
  have htx := fun w h => hts w (List.mem_cons_of_mem _ h)
  have hown : s.vm.findClass "ValueBenchModel" = some m.cls := findClass_of_methodNamed B.named
  have hlocks := B.notSynchronized
  subst hsz
  have hD := hD0.self (sz := s.heap.size)
  generalize hAe : va_A (xMw cT aM ad rd gd vad st []) s.heap.size = A at hD hZ ⊢
  have hA : ∀ q : Nat, s.heap.size ≤ q → A q := fun q h => by rw [← hAe]; exact Or.inr h
  have hS : va_S A s.heap s.heap [] := va_S.rf
  have hl := lv_entry ([.ref aM, .ref (aK 11), .int x1]) (n := 4) (by simp [lg_sl, xvcat, xrscat, xcI, xcL, xcR, xcN])
  rw [show lv_args 0 [.ref aM, .ref (aK 11), .int x1] = [(0, .ref aM), (1, .ref (aK 11)), (2, .int x1)] from by simp [lv_args, xvcat, xrscat, xcI, xcL, xcR, xcN]] at hl
  rw [lg_entry_eq]
  generalize (lg_sl ([.ref aM, .ref (aK 11), .int x1]) ++ List.replicate (4 - (lg_sl ([.ref aM, .ref (aK 11), .int x1])).length) Slot.unset).toArray = ls at hl ⊢
  have hl : lv_has ls 4 [(0, .ref aM), (1, .ref (aK 11)), (2, .int x1)] := hl
  have hE : ∀ p, p < xct st → vad p = vad p := fun _ _ => rfl
  have hN : xct st ≤ xct st := Nat.le_refl _
  unfold fM_says at hf
  refine lv_iconst (v := 0) hx hb dM_says_0 (by decide) ?_
  refine lv_istore_n (lv' := [(3, .int 0), (0, .ref aM), (1, .ref (aK 11)), (2, .int x1)]) hx hb dM_says_1 rfl hl (by decide) rfl (fun ls hl => ?_)
  refine lv_iload_n hx hb dM_says_2 rfl (lv_at hl 0 rfl) ?_
  refine lv_aload_n hx hb dM_says_3 rfl (lv_at hl 2 rfl) ?_
  refine va_calli (va_runV (C := "java/lang/String") (As := []) (rest := [.int 0]) ⟨hx, hb, hml, hown, htx⟩ (cJS_length_1 l hl9 D cT aK aV s.heap.size) ⟨callB_of 0 htx (xw_goodC kw_2_70) rfl rfl rfl (htx _ kw_1_6) (htx _ kw_5_238) ⟨by decide, by decide, by decide +kernel⟩ ⟨Nat.le_of_ble_eq_true rfl, Nat.le_of_ble_eq_true rfl⟩, (htx _ kw_2_68), (htx _ kw_2_69)⟩ ⟨xPre_blind, vk_recv hZ.2.2.2.2.2.2.2.2.2.1 (i := 11) (by decide) hS, (fun U hU hW => ⟨rfl, xPre_of hZ hS (xm_free0 hS hA) xm_Pnil xm_Dnil hK U hU hW⟩)⟩ rfl rfl hl.1 rfl (lv_room (Nat.le_of_ble_eq_true rfl)) dM_says_4 ⟨(Nat.zero_le _), (Nat.zero_le _)⟩) hS (fun q _ h => xm_free0 hS hA q h) (xm_free0 hS hA) (fun r1 u9 t H1 locs ht hvm hr9 hB hz1 hk1 hS => ?_)
  replace hP := xm_keep hP hk1
  generalize H1 = H at hP hS ⊢
  rw [hr9]
  refine W.eq (g2 := F0 m 7 ls [.int 5, .int 0]) (by first | rfl | rw [xv1 (Nat.succ_ne_zero _)]) ?_
  refine lv_icmp_ge (tgt := 46) hx hb dM_says_7 (by decide) (fun h => ((by revert h; decide : False)).elim) (fun _ => ?_)
  refine lv_aload_n hx hb dM_says_10 rfl (lv_at hl 1 rfl) ?_
  obtain ⟨o2, hq3, hf⟩ := xbind hf
  have hFc := xm_free hD hS hA
  refine va_calli (va_runV (C := "ValueBenchModel") (As := []) (rest := []) ⟨hx, hb, hml, hown, htx⟩ (gM_peek l hl9 D cT aK aV H.size n aM ad rd gd vad st o2 hq3) ⟨callB_of 0 htx (xw_goodC kw_5_233) rfl rfl rfl (htx _ kw_1_5) (htx _ kw_5_230) ⟨by decide, by decide, by decide +kernel⟩ ⟨Nat.le_of_ble_eq_true rfl, Nat.le_of_ble_eq_true rfl⟩, (htx _ kw_5_232), (htx _ kp_M_peek)⟩ ⟨xPre_blind, va_recv hK hP (ci := 5) rfl (q0 := 0) rfl, (fun U hU hW => ⟨rfl, xPre_of hZ hS hFc hP hD hK U hU hW⟩)⟩ rfl rfl hl.1 rfl (xm_room (Nat.le_of_ble_eq_true rfl)) dM_says_11 ⟨Nat.zero_le _, Nat.zero_le _⟩) hS (fun q _ h => hFc q h) hFc (fun r4 u9 t H1 locs ht hvm hr9 hB hz1 hk1 hS => ?_)
  obtain ⟨hP1, hK1, hD1⟩ := hB
  rw [ht] at hP1
  have hP : va_P D xcl (xMw cT aM ad rd gd vad st []) H1 := hP1
  have hD : va_D A (xMw cT aM ad rd gd vad st []) := hD1.weaken (fun k q _ h => hFc q.1 h)
  generalize H1 = H at hP hS ⊢
  rw [hr9]
  refine W.eq (g2 := F0 m 14 ls [.int o2]) (by first | rfl | (skip; rfl)) ?_
  refine lv_aload_n hx hb dM_says_14 rfl (lv_at hl 2 rfl) ?_
  refine lv_iload_n hx hb dM_says_15 rfl (lv_at hl 0 rfl) ?_
  refine va_calli (va_runV (C := "java/lang/String") (As := [.int 0]) (rest := [.int o2]) ⟨hx, hb, hml, hown, htx⟩ (cJS_charAt_4 l hl9 D cT aK aV H.size) ⟨callB_of 1 htx (xw_goodC kw_2_80) rfl rfl rfl (htx _ kw_1_6) (htx _ kw_5_86) ⟨by decide, by decide, by decide +kernel⟩ ⟨Nat.le_of_ble_eq_true rfl, Nat.le_of_ble_eq_true rfl⟩, (htx _ kw_2_78), (htx _ kw_2_79)⟩ ⟨xPre_blind, vk_recv hZ.2.2.2.2.2.2.2.2.2.1 (i := 11) (by decide) hS, (fun U hU hW => ⟨rfl, xPre_of hZ hS (xm_free0 hS hA) xm_Pnil xm_Dnil hK U hU hW⟩)⟩ rfl rfl hl.1 rfl (lv_room (Nat.le_of_ble_eq_true rfl)) dM_says_16 ⟨(Nat.zero_le _), (Nat.zero_le _)⟩) hS (fun q _ h => xm_free0 hS hA q h) (xm_free0 hS hA) (fun r5 u9 t H1 locs ht hvm hr9 hB hz1 hk1 hS => ?_)
  replace hP := xm_keep hP hk1
  generalize H1 = H at hP hS ⊢
  rw [hr9]
  refine W.eq (g2 := F0 m 19 ls [.int 102, .int o2]) (by first | rfl | rw [xv1 (Nat.succ_ne_zero _)]) ?_
  refine lv_icmp_eq (tgt := 30) hx hb dM_says_19 (by decide) (fun hc => ?_) (fun hc => ?_)
  · rw [if_pos hc] at hf
    refine lv_aload_n hx hb dM_says_30 rfl (lv_at hl 1 rfl) ?_
    refine lv_dup hx hb dM_says_31 rfl ?_
    refine xm_get (v := .int (xsi st 16)) hx hb htx hown hK hP 16 (by decide) rfl (htx _ kw_5_103) rfl dM_says_32 ?_
    refine lv_iconst (v := 1) hx hb dM_says_35 (by decide) ?_
    refine lv_iadd hx hb dM_says_36 ?_
    refine xm_put (v := .int ((xsi st 16) + (1 : Int32))) (W' := (xMw cT aM ad rd gd vad (xsI st 16 ((xsi st 16) + (1 : Int32))) [])) (ty := .int) hx hb htx hown hK hP hD hS 16 (by decide) rfl (htx _ kw_5_103) rfl rfl (by decide +kernel) rfl rfl dM_says_37 (fun H locs hP hD hS => ?_)
    refine lv_iinc (v := 1) (lv' := [(3, .int 1), (0, .ref aM), (1, .ref (aK 11)), (2, .int x1)]) hx hb dM_says_40 hl (k := 0) rfl rfl (by decide) rfl (fun ls hl => ?_)
    refine lv_goto (tgt := 2) hx hb dM_says_43 (by decide) ?_
    refine lv_iload_n hx hb dM_says_2 rfl (lv_at hl 0 rfl) ?_
    refine lv_aload_n hx hb dM_says_3 rfl (lv_at hl 2 rfl) ?_
    refine va_calli (va_runV (C := "java/lang/String") (As := []) (rest := [.int 1]) ⟨hx, hb, hml, hown, htx⟩ (cJS_length_1 l hl9 D cT aK aV H.size) ⟨callB_of 0 htx (xw_goodC kw_2_70) rfl rfl rfl (htx _ kw_1_6) (htx _ kw_5_238) ⟨by decide, by decide, by decide +kernel⟩ ⟨Nat.le_of_ble_eq_true rfl, Nat.le_of_ble_eq_true rfl⟩, (htx _ kw_2_68), (htx _ kw_2_69)⟩ ⟨xPre_blind, vk_recv hZ.2.2.2.2.2.2.2.2.2.1 (i := 11) (by decide) hS, (fun U hU hW => ⟨rfl, xPre_of hZ hS (xm_free0 hS hA) xm_Pnil xm_Dnil hK U hU hW⟩)⟩ rfl rfl hl.1 rfl (lv_room (Nat.le_of_ble_eq_true rfl)) dM_says_4 ⟨(Nat.zero_le _), (Nat.zero_le _)⟩) hS (fun q _ h => xm_free0 hS hA q h) (xm_free0 hS hA) (fun r6 u9 t H1 locs ht hvm hr9 hB hz1 hk1 hS => ?_)
    replace hP := xm_keep hP hk1
    generalize H1 = H at hP hS ⊢
    rw [hr9]
    refine W.eq (g2 := F0 m 7 ls [.int 5, .int 1]) (by first | rfl | rw [xv1 (Nat.succ_ne_zero _)]) ?_
    refine lv_icmp_ge (tgt := 46) hx hb dM_says_7 (by decide) (fun h => ((by revert h; decide : False)).elim) (fun _ => ?_)
    refine lv_aload_n hx hb dM_says_10 rfl (lv_at hl 1 rfl) ?_
    obtain ⟨o7, hq8, hf⟩ := xbind hf
    have hFc := xm_free hD hS hA
    refine va_calli (va_runV (C := "ValueBenchModel") (As := []) (rest := []) ⟨hx, hb, hml, hown, htx⟩ (gM_peek l hl9 D cT aK aV H.size n aM ad rd gd vad (xsI st 16 ((xsi st 16) + (1 : Int32))) o7 hq8) ⟨callB_of 0 htx (xw_goodC kw_5_233) rfl rfl rfl (htx _ kw_1_5) (htx _ kw_5_230) ⟨by decide, by decide, by decide +kernel⟩ ⟨Nat.le_of_ble_eq_true rfl, Nat.le_of_ble_eq_true rfl⟩, (htx _ kw_5_232), (htx _ kp_M_peek)⟩ ⟨xPre_blind, va_recv hK hP (ci := 5) rfl (q0 := 0) rfl, (fun U hU hW => ⟨rfl, xPre_of hZ hS hFc hP hD hK U hU hW⟩)⟩ rfl rfl hl.1 rfl (xm_room (Nat.le_of_ble_eq_true rfl)) dM_says_11 ⟨Nat.zero_le _, Nat.zero_le _⟩) hS (fun q _ h => hFc q h) hFc (fun r9 u9 t H1 locs ht hvm hr9 hB hz1 hk1 hS => ?_)
    obtain ⟨hP1, hK1, hD1⟩ := hB
    rw [ht] at hP1
    have hP : va_P D xcl (xMw cT aM ad rd gd vad (xsI st 16 ((xsi st 16) + (1 : Int32))) []) H1 := hP1
    have hD : va_D A (xMw cT aM ad rd gd vad (xsI st 16 ((xsi st 16) + (1 : Int32))) []) := hD1.weaken (fun k q _ h => hFc q.1 h)
    generalize H1 = H at hP hS ⊢
    rw [hr9]
    refine W.eq (g2 := F0 m 14 ls [.int o7]) (by first | rfl | (skip; rfl)) ?_
    refine lv_aload_n hx hb dM_says_14 rfl (lv_at hl 2 rfl) ?_
    refine lv_iload_n hx hb dM_says_15 rfl (lv_at hl 0 rfl) ?_
    refine va_calli (va_runV (C := "java/lang/String") (As := [.int 1]) (rest := [.int o7]) ⟨hx, hb, hml, hown, htx⟩ (cJS_charAt_5 l hl9 D cT aK aV H.size) ⟨callB_of 1 htx (xw_goodC kw_2_80) rfl rfl rfl (htx _ kw_1_6) (htx _ kw_5_86) ⟨by decide, by decide, by decide +kernel⟩ ⟨Nat.le_of_ble_eq_true rfl, Nat.le_of_ble_eq_true rfl⟩, (htx _ kw_2_78), (htx _ kw_2_79)⟩ ⟨xPre_blind, vk_recv hZ.2.2.2.2.2.2.2.2.2.1 (i := 11) (by decide) hS, (fun U hU hW => ⟨rfl, xPre_of hZ hS (xm_free0 hS hA) xm_Pnil xm_Dnil hK U hU hW⟩)⟩ rfl rfl hl.1 rfl (lv_room (Nat.le_of_ble_eq_true rfl)) dM_says_16 ⟨(Nat.zero_le _), (Nat.zero_le _)⟩) hS (fun q _ h => xm_free0 hS hA q h) (xm_free0 hS hA) (fun r10 u9 t H1 locs ht hvm hr9 hB hz1 hk1 hS => ?_)
    replace hP := xm_keep hP hk1
    generalize H1 = H at hP hS ⊢
    rw [hr9]
    refine W.eq (g2 := F0 m 19 ls [.int 97, .int o7]) (by first | rfl | rw [xv1 (Nat.succ_ne_zero _)]) ?_
    refine lv_icmp_eq (tgt := 30) hx hb dM_says_19 (by decide) (fun hc => ?_) (fun hc => ?_)
    · rw [if_pos hc] at hf
      refine lv_aload_n hx hb dM_says_30 rfl (lv_at hl 1 rfl) ?_
      refine lv_dup hx hb dM_says_31 rfl ?_
      refine xm_get (v := .int ((xsi st 16) + (1 : Int32))) hx hb htx hown hK hP 16 (by decide) rfl (htx _ kw_5_103) rfl dM_says_32 ?_
      refine lv_iconst (v := 1) hx hb dM_says_35 (by decide) ?_
      refine lv_iadd hx hb dM_says_36 ?_
      refine xm_put (v := .int (((xsi st 16) + (1 : Int32)) + (1 : Int32))) (W' := (xMw cT aM ad rd gd vad (xsI (xsI st 16 ((xsi st 16) + (1 : Int32))) 16 (((xsi st 16) + (1 : Int32)) + (1 : Int32))) [])) (ty := .int) hx hb htx hown hK hP hD hS 16 (by decide) rfl (htx _ kw_5_103) rfl rfl (by decide +kernel) rfl rfl dM_says_37 (fun H locs hP hD hS => ?_)
      refine lv_iinc (v := 2) (lv' := [(3, .int 2), (0, .ref aM), (1, .ref (aK 11)), (2, .int x1)]) hx hb dM_says_40 hl (k := 0) rfl rfl (by decide) rfl (fun ls hl => ?_)
      refine lv_goto (tgt := 2) hx hb dM_says_43 (by decide) ?_
      refine lv_iload_n hx hb dM_says_2 rfl (lv_at hl 0 rfl) ?_
      refine lv_aload_n hx hb dM_says_3 rfl (lv_at hl 2 rfl) ?_
      refine va_calli (va_runV (C := "java/lang/String") (As := []) (rest := [.int 2]) ⟨hx, hb, hml, hown, htx⟩ (cJS_length_1 l hl9 D cT aK aV H.size) ⟨callB_of 0 htx (xw_goodC kw_2_70) rfl rfl rfl (htx _ kw_1_6) (htx _ kw_5_238) ⟨by decide, by decide, by decide +kernel⟩ ⟨Nat.le_of_ble_eq_true rfl, Nat.le_of_ble_eq_true rfl⟩, (htx _ kw_2_68), (htx _ kw_2_69)⟩ ⟨xPre_blind, vk_recv hZ.2.2.2.2.2.2.2.2.2.1 (i := 11) (by decide) hS, (fun U hU hW => ⟨rfl, xPre_of hZ hS (xm_free0 hS hA) xm_Pnil xm_Dnil hK U hU hW⟩)⟩ rfl rfl hl.1 rfl (lv_room (Nat.le_of_ble_eq_true rfl)) dM_says_4 ⟨(Nat.zero_le _), (Nat.zero_le _)⟩) hS (fun q _ h => xm_free0 hS hA q h) (xm_free0 hS hA) (fun r11 u9 t H1 locs ht hvm hr9 hB hz1 hk1 hS => ?_)
      replace hP := xm_keep hP hk1
      generalize H1 = H at hP hS ⊢
      rw [hr9]
      refine W.eq (g2 := F0 m 7 ls [.int 5, .int 2]) (by first | rfl | rw [xv1 (Nat.succ_ne_zero _)]) ?_
      refine lv_icmp_ge (tgt := 46) hx hb dM_says_7 (by decide) (fun h => ((by revert h; decide : False)).elim) (fun _ => ?_)
      refine lv_aload_n hx hb dM_says_10 rfl (lv_at hl 1 rfl) ?_
      obtain ⟨o12, hq13, hf⟩ := xbind hf
      have hFc := xm_free hD hS hA
      refine va_calli (va_runV (C := "ValueBenchModel") (As := []) (rest := []) ⟨hx, hb, hml, hown, htx⟩ (gM_peek l hl9 D cT aK aV H.size n aM ad rd gd vad (xsI (xsI st 16 ((xsi st 16) + (1 : Int32))) 16 (((xsi st 16) + (1 : Int32)) + (1 : Int32))) o12 hq13) ⟨callB_of 0 htx (xw_goodC kw_5_233) rfl rfl rfl (htx _ kw_1_5) (htx _ kw_5_230) ⟨by decide, by decide, by decide +kernel⟩ ⟨Nat.le_of_ble_eq_true rfl, Nat.le_of_ble_eq_true rfl⟩, (htx _ kw_5_232), (htx _ kp_M_peek)⟩ ⟨xPre_blind, va_recv hK hP (ci := 5) rfl (q0 := 0) rfl, (fun U hU hW => ⟨rfl, xPre_of hZ hS hFc hP hD hK U hU hW⟩)⟩ rfl rfl hl.1 rfl (xm_room (Nat.le_of_ble_eq_true rfl)) dM_says_11 ⟨Nat.zero_le _, Nat.zero_le _⟩) hS (fun q _ h => hFc q h) hFc (fun r14 u9 t H1 locs ht hvm hr9 hB hz1 hk1 hS => ?_)
      obtain ⟨hP1, hK1, hD1⟩ := hB
      rw [ht] at hP1
      have hP : va_P D xcl (xMw cT aM ad rd gd vad (xsI (xsI st 16 ((xsi st 16) + (1 : Int32))) 16 (((xsi st 16) + (1 : Int32)) + (1 : Int32))) []) H1 := hP1
      have hD : va_D A (xMw cT aM ad rd gd vad (xsI (xsI st 16 ((xsi st 16) + (1 : Int32))) 16 (((xsi st 16) + (1 : Int32)) + (1 : Int32))) []) := hD1.weaken (fun k q _ h => hFc q.1 h)
      generalize H1 = H at hP hS ⊢
      rw [hr9]
      refine W.eq (g2 := F0 m 14 ls [.int o12]) (by first | rfl | (skip; rfl)) ?_
      refine lv_aload_n hx hb dM_says_14 rfl (lv_at hl 2 rfl) ?_
      refine lv_iload_n hx hb dM_says_15 rfl (lv_at hl 0 rfl) ?_
      refine va_calli (va_runV (C := "java/lang/String") (As := [.int 2]) (rest := [.int o12]) ⟨hx, hb, hml, hown, htx⟩ (cJS_charAt_6 l hl9 D cT aK aV H.size) ⟨callB_of 1 htx (xw_goodC kw_2_80) rfl rfl rfl (htx _ kw_1_6) (htx _ kw_5_86) ⟨by decide, by decide, by decide +kernel⟩ ⟨Nat.le_of_ble_eq_true rfl, Nat.le_of_ble_eq_true rfl⟩, (htx _ kw_2_78), (htx _ kw_2_79)⟩ ⟨xPre_blind, vk_recv hZ.2.2.2.2.2.2.2.2.2.1 (i := 11) (by decide) hS, (fun U hU hW => ⟨rfl, xPre_of hZ hS (xm_free0 hS hA) xm_Pnil xm_Dnil hK U hU hW⟩)⟩ rfl rfl hl.1 rfl (lv_room (Nat.le_of_ble_eq_true rfl)) dM_says_16 ⟨(Nat.zero_le _), (Nat.zero_le _)⟩) hS (fun q _ h => xm_free0 hS hA q h) (xm_free0 hS hA) (fun r15 u9 t H1 locs ht hvm hr9 hB hz1 hk1 hS => ?_)
      replace hP := xm_keep hP hk1
      generalize H1 = H at hP hS ⊢
      rw [hr9]
      refine W.eq (g2 := F0 m 19 ls [.int 108, .int o12]) (by first | rfl | rw [xv1 (Nat.succ_ne_zero _)]) ?_
      refine lv_icmp_eq (tgt := 30) hx hb dM_says_19 (by decide) (fun hc => ?_) (fun hc => ?_)
      · rw [if_pos hc] at hf
        refine lv_aload_n hx hb dM_says_30 rfl (lv_at hl 1 rfl) ?_
        refine lv_dup hx hb dM_says_31 rfl ?_
        refine xm_get (v := .int (((xsi st 16) + (1 : Int32)) + (1 : Int32))) hx hb htx hown hK hP 16 (by decide) rfl (htx _ kw_5_103) rfl dM_says_32 ?_
        refine lv_iconst (v := 1) hx hb dM_says_35 (by decide) ?_
        refine lv_iadd hx hb dM_says_36 ?_
        refine xm_put (v := .int ((((xsi st 16) + (1 : Int32)) + (1 : Int32)) + (1 : Int32))) (W' := (xMw cT aM ad rd gd vad (xsI (xsI (xsI st 16 ((xsi st 16) + (1 : Int32))) 16 (((xsi st 16) + (1 : Int32)) + (1 : Int32))) 16 ((((xsi st 16) + (1 : Int32)) + (1 : Int32)) + (1 : Int32))) [])) (ty := .int) hx hb htx hown hK hP hD hS 16 (by decide) rfl (htx _ kw_5_103) rfl rfl (by decide +kernel) rfl rfl dM_says_37 (fun H locs hP hD hS => ?_)
        refine lv_iinc (v := 3) (lv' := [(3, .int 3), (0, .ref aM), (1, .ref (aK 11)), (2, .int x1)]) hx hb dM_says_40 hl (k := 0) rfl rfl (by decide) rfl (fun ls hl => ?_)
        refine lv_goto (tgt := 2) hx hb dM_says_43 (by decide) ?_
        refine lv_iload_n hx hb dM_says_2 rfl (lv_at hl 0 rfl) ?_
        refine lv_aload_n hx hb dM_says_3 rfl (lv_at hl 2 rfl) ?_
        refine va_calli (va_runV (C := "java/lang/String") (As := []) (rest := [.int 3]) ⟨hx, hb, hml, hown, htx⟩ (cJS_length_1 l hl9 D cT aK aV H.size) ⟨callB_of 0 htx (xw_goodC kw_2_70) rfl rfl rfl (htx _ kw_1_6) (htx _ kw_5_238) ⟨by decide, by decide, by decide +kernel⟩ ⟨Nat.le_of_ble_eq_true rfl, Nat.le_of_ble_eq_true rfl⟩, (htx _ kw_2_68), (htx _ kw_2_69)⟩ ⟨xPre_blind, vk_recv hZ.2.2.2.2.2.2.2.2.2.1 (i := 11) (by decide) hS, (fun U hU hW => ⟨rfl, xPre_of hZ hS (xm_free0 hS hA) xm_Pnil xm_Dnil hK U hU hW⟩)⟩ rfl rfl hl.1 rfl (lv_room (Nat.le_of_ble_eq_true rfl)) dM_says_4 ⟨(Nat.zero_le _), (Nat.zero_le _)⟩) hS (fun q _ h => xm_free0 hS hA q h) (xm_free0 hS hA) (fun r16 u9 t H1 locs ht hvm hr9 hB hz1 hk1 hS => ?_)
        replace hP := xm_keep hP hk1
        generalize H1 = H at hP hS ⊢
        rw [hr9]
        refine W.eq (g2 := F0 m 7 ls [.int 5, .int 3]) (by first | rfl | rw [xv1 (Nat.succ_ne_zero _)]) ?_
        refine lv_icmp_ge (tgt := 46) hx hb dM_says_7 (by decide) (fun h => ((by revert h; decide : False)).elim) (fun _ => ?_)
        refine lv_aload_n hx hb dM_says_10 rfl (lv_at hl 1 rfl) ?_
        obtain ⟨o17, hq18, hf⟩ := xbind hf
        have hFc := xm_free hD hS hA
        refine va_calli (va_runV (C := "ValueBenchModel") (As := []) (rest := []) ⟨hx, hb, hml, hown, htx⟩ (gM_peek l hl9 D cT aK aV H.size n aM ad rd gd vad (xsI (xsI (xsI st 16 ((xsi st 16) + (1 : Int32))) 16 (((xsi st 16) + (1 : Int32)) + (1 : Int32))) 16 ((((xsi st 16) + (1 : Int32)) + (1 : Int32)) + (1 : Int32))) o17 hq18) ⟨callB_of 0 htx (xw_goodC kw_5_233) rfl rfl rfl (htx _ kw_1_5) (htx _ kw_5_230) ⟨by decide, by decide, by decide +kernel⟩ ⟨Nat.le_of_ble_eq_true rfl, Nat.le_of_ble_eq_true rfl⟩, (htx _ kw_5_232), (htx _ kp_M_peek)⟩ ⟨xPre_blind, va_recv hK hP (ci := 5) rfl (q0 := 0) rfl, (fun U hU hW => ⟨rfl, xPre_of hZ hS hFc hP hD hK U hU hW⟩)⟩ rfl rfl hl.1 rfl (xm_room (Nat.le_of_ble_eq_true rfl)) dM_says_11 ⟨Nat.zero_le _, Nat.zero_le _⟩) hS (fun q _ h => hFc q h) hFc (fun r19 u9 t H1 locs ht hvm hr9 hB hz1 hk1 hS => ?_)
        obtain ⟨hP1, hK1, hD1⟩ := hB
        rw [ht] at hP1
        have hP : va_P D xcl (xMw cT aM ad rd gd vad (xsI (xsI (xsI st 16 ((xsi st 16) + (1 : Int32))) 16 (((xsi st 16) + (1 : Int32)) + (1 : Int32))) 16 ((((xsi st 16) + (1 : Int32)) + (1 : Int32)) + (1 : Int32))) []) H1 := hP1
        have hD : va_D A (xMw cT aM ad rd gd vad (xsI (xsI (xsI st 16 ((xsi st 16) + (1 : Int32))) 16 (((xsi st 16) + (1 : Int32)) + (1 : Int32))) 16 ((((xsi st 16) + (1 : Int32)) + (1 : Int32)) + (1 : Int32))) []) := hD1.weaken (fun k q _ h => hFc q.1 h)
        generalize H1 = H at hP hS ⊢
        rw [hr9]
        refine W.eq (g2 := F0 m 14 ls [.int o17]) (by first | rfl | (skip; rfl)) ?_
        refine lv_aload_n hx hb dM_says_14 rfl (lv_at hl 2 rfl) ?_
        refine lv_iload_n hx hb dM_says_15 rfl (lv_at hl 0 rfl) ?_
        refine va_calli (va_runV (C := "java/lang/String") (As := [.int 3]) (rest := [.int o17]) ⟨hx, hb, hml, hown, htx⟩ (cJS_charAt_7 l hl9 D cT aK aV H.size) ⟨callB_of 1 htx (xw_goodC kw_2_80) rfl rfl rfl (htx _ kw_1_6) (htx _ kw_5_86) ⟨by decide, by decide, by decide +kernel⟩ ⟨Nat.le_of_ble_eq_true rfl, Nat.le_of_ble_eq_true rfl⟩, (htx _ kw_2_78), (htx _ kw_2_79)⟩ ⟨xPre_blind, vk_recv hZ.2.2.2.2.2.2.2.2.2.1 (i := 11) (by decide) hS, (fun U hU hW => ⟨rfl, xPre_of hZ hS (xm_free0 hS hA) xm_Pnil xm_Dnil hK U hU hW⟩)⟩ rfl rfl hl.1 rfl (lv_room (Nat.le_of_ble_eq_true rfl)) dM_says_16 ⟨(Nat.zero_le _), (Nat.zero_le _)⟩) hS (fun q _ h => xm_free0 hS hA q h) (xm_free0 hS hA) (fun r20 u9 t H1 locs ht hvm hr9 hB hz1 hk1 hS => ?_)
        replace hP := xm_keep hP hk1
        generalize H1 = H at hP hS ⊢
        rw [hr9]
        refine W.eq (g2 := F0 m 19 ls [.int 115, .int o17]) (by first | rfl | rw [xv1 (Nat.succ_ne_zero _)]) ?_
        refine lv_icmp_eq (tgt := 30) hx hb dM_says_19 (by decide) (fun hc => ?_) (fun hc => ?_)
        · rw [if_pos hc] at hf
          refine lv_aload_n hx hb dM_says_30 rfl (lv_at hl 1 rfl) ?_
          refine lv_dup hx hb dM_says_31 rfl ?_
          refine xm_get (v := .int ((((xsi st 16) + (1 : Int32)) + (1 : Int32)) + (1 : Int32))) hx hb htx hown hK hP 16 (by decide) rfl (htx _ kw_5_103) rfl dM_says_32 ?_
          refine lv_iconst (v := 1) hx hb dM_says_35 (by decide) ?_
          refine lv_iadd hx hb dM_says_36 ?_
          refine xm_put (v := .int (((((xsi st 16) + (1 : Int32)) + (1 : Int32)) + (1 : Int32)) + (1 : Int32))) (W' := (xMw cT aM ad rd gd vad (xsI (xsI (xsI (xsI st 16 ((xsi st 16) + (1 : Int32))) 16 (((xsi st 16) + (1 : Int32)) + (1 : Int32))) 16 ((((xsi st 16) + (1 : Int32)) + (1 : Int32)) + (1 : Int32))) 16 (((((xsi st 16) + (1 : Int32)) + (1 : Int32)) + (1 : Int32)) + (1 : Int32))) [])) (ty := .int) hx hb htx hown hK hP hD hS 16 (by decide) rfl (htx _ kw_5_103) rfl rfl (by decide +kernel) rfl rfl dM_says_37 (fun H locs hP hD hS => ?_)
          refine lv_iinc (v := 4) (lv' := [(3, .int 4), (0, .ref aM), (1, .ref (aK 11)), (2, .int x1)]) hx hb dM_says_40 hl (k := 0) rfl rfl (by decide) rfl (fun ls hl => ?_)
          refine lv_goto (tgt := 2) hx hb dM_says_43 (by decide) ?_
          refine lv_iload_n hx hb dM_says_2 rfl (lv_at hl 0 rfl) ?_
          refine lv_aload_n hx hb dM_says_3 rfl (lv_at hl 2 rfl) ?_
          refine va_calli (va_runV (C := "java/lang/String") (As := []) (rest := [.int 4]) ⟨hx, hb, hml, hown, htx⟩ (cJS_length_1 l hl9 D cT aK aV H.size) ⟨callB_of 0 htx (xw_goodC kw_2_70) rfl rfl rfl (htx _ kw_1_6) (htx _ kw_5_238) ⟨by decide, by decide, by decide +kernel⟩ ⟨Nat.le_of_ble_eq_true rfl, Nat.le_of_ble_eq_true rfl⟩, (htx _ kw_2_68), (htx _ kw_2_69)⟩ ⟨xPre_blind, vk_recv hZ.2.2.2.2.2.2.2.2.2.1 (i := 11) (by decide) hS, (fun U hU hW => ⟨rfl, xPre_of hZ hS (xm_free0 hS hA) xm_Pnil xm_Dnil hK U hU hW⟩)⟩ rfl rfl hl.1 rfl (lv_room (Nat.le_of_ble_eq_true rfl)) dM_says_4 ⟨(Nat.zero_le _), (Nat.zero_le _)⟩) hS (fun q _ h => xm_free0 hS hA q h) (xm_free0 hS hA) (fun r21 u9 t H1 locs ht hvm hr9 hB hz1 hk1 hS => ?_)
          replace hP := xm_keep hP hk1
          generalize H1 = H at hP hS ⊢
          rw [hr9]
          refine W.eq (g2 := F0 m 7 ls [.int 5, .int 4]) (by first | rfl | rw [xv1 (Nat.succ_ne_zero _)]) ?_
          refine lv_icmp_ge (tgt := 46) hx hb dM_says_7 (by decide) (fun h => ((by revert h; decide : False)).elim) (fun _ => ?_)
          refine lv_aload_n hx hb dM_says_10 rfl (lv_at hl 1 rfl) ?_
          obtain ⟨o22, hq23, hf⟩ := xbind hf
          have hFc := xm_free hD hS hA
          refine va_calli (va_runV (C := "ValueBenchModel") (As := []) (rest := []) ⟨hx, hb, hml, hown, htx⟩ (gM_peek l hl9 D cT aK aV H.size n aM ad rd gd vad (xsI (xsI (xsI (xsI st 16 ((xsi st 16) + (1 : Int32))) 16 (((xsi st 16) + (1 : Int32)) + (1 : Int32))) 16 ((((xsi st 16) + (1 : Int32)) + (1 : Int32)) + (1 : Int32))) 16 (((((xsi st 16) + (1 : Int32)) + (1 : Int32)) + (1 : Int32)) + (1 : Int32))) o22 hq23) ⟨callB_of 0 htx (xw_goodC kw_5_233) rfl rfl rfl (htx _ kw_1_5) (htx _ kw_5_230) ⟨by decide, by decide, by decide +kernel⟩ ⟨Nat.le_of_ble_eq_true rfl, Nat.le_of_ble_eq_true rfl⟩, (htx _ kw_5_232), (htx _ kp_M_peek)⟩ ⟨xPre_blind, va_recv hK hP (ci := 5) rfl (q0 := 0) rfl, (fun U hU hW => ⟨rfl, xPre_of hZ hS hFc hP hD hK U hU hW⟩)⟩ rfl rfl hl.1 rfl (xm_room (Nat.le_of_ble_eq_true rfl)) dM_says_11 ⟨Nat.zero_le _, Nat.zero_le _⟩) hS (fun q _ h => hFc q h) hFc (fun r24 u9 t H1 locs ht hvm hr9 hB hz1 hk1 hS => ?_)
          obtain ⟨hP1, hK1, hD1⟩ := hB
          rw [ht] at hP1
          have hP : va_P D xcl (xMw cT aM ad rd gd vad (xsI (xsI (xsI (xsI st 16 ((xsi st 16) + (1 : Int32))) 16 (((xsi st 16) + (1 : Int32)) + (1 : Int32))) 16 ((((xsi st 16) + (1 : Int32)) + (1 : Int32)) + (1 : Int32))) 16 (((((xsi st 16) + (1 : Int32)) + (1 : Int32)) + (1 : Int32)) + (1 : Int32))) []) H1 := hP1
          have hD : va_D A (xMw cT aM ad rd gd vad (xsI (xsI (xsI (xsI st 16 ((xsi st 16) + (1 : Int32))) 16 (((xsi st 16) + (1 : Int32)) + (1 : Int32))) 16 ((((xsi st 16) + (1 : Int32)) + (1 : Int32)) + (1 : Int32))) 16 (((((xsi st 16) + (1 : Int32)) + (1 : Int32)) + (1 : Int32)) + (1 : Int32))) []) := hD1.weaken (fun k q _ h => hFc q.1 h)
          generalize H1 = H at hP hS ⊢
          rw [hr9]
          refine W.eq (g2 := F0 m 14 ls [.int o22]) (by first | rfl | (skip; rfl)) ?_
          refine lv_aload_n hx hb dM_says_14 rfl (lv_at hl 2 rfl) ?_
          refine lv_iload_n hx hb dM_says_15 rfl (lv_at hl 0 rfl) ?_
          refine va_calli (va_runV (C := "java/lang/String") (As := [.int 4]) (rest := [.int o22]) ⟨hx, hb, hml, hown, htx⟩ (cJS_charAt_8 l hl9 D cT aK aV H.size) ⟨callB_of 1 htx (xw_goodC kw_2_80) rfl rfl rfl (htx _ kw_1_6) (htx _ kw_5_86) ⟨by decide, by decide, by decide +kernel⟩ ⟨Nat.le_of_ble_eq_true rfl, Nat.le_of_ble_eq_true rfl⟩, (htx _ kw_2_78), (htx _ kw_2_79)⟩ ⟨xPre_blind, vk_recv hZ.2.2.2.2.2.2.2.2.2.1 (i := 11) (by decide) hS, (fun U hU hW => ⟨rfl, xPre_of hZ hS (xm_free0 hS hA) xm_Pnil xm_Dnil hK U hU hW⟩)⟩ rfl rfl hl.1 rfl (lv_room (Nat.le_of_ble_eq_true rfl)) dM_says_16 ⟨(Nat.zero_le _), (Nat.zero_le _)⟩) hS (fun q _ h => xm_free0 hS hA q h) (xm_free0 hS hA) (fun r25 u9 t H1 locs ht hvm hr9 hB hz1 hk1 hS => ?_)
          replace hP := xm_keep hP hk1
          generalize H1 = H at hP hS ⊢
          rw [hr9]
          refine W.eq (g2 := F0 m 19 ls [.int 101, .int o22]) (by first | rfl | rw [xv1 (Nat.succ_ne_zero _)]) ?_
          refine lv_icmp_eq (tgt := 30) hx hb dM_says_19 (by decide) (fun hc => ?_) (fun hc => ?_)
          · rw [if_pos hc] at hf
            refine lv_aload_n hx hb dM_says_30 rfl (lv_at hl 1 rfl) ?_
            refine lv_dup hx hb dM_says_31 rfl ?_
            refine xm_get (v := .int (((((xsi st 16) + (1 : Int32)) + (1 : Int32)) + (1 : Int32)) + (1 : Int32))) hx hb htx hown hK hP 16 (by decide) rfl (htx _ kw_5_103) rfl dM_says_32 ?_
            refine lv_iconst (v := 1) hx hb dM_says_35 (by decide) ?_
            refine lv_iadd hx hb dM_says_36 ?_
            refine xm_put (v := .int ((((((xsi st 16) + (1 : Int32)) + (1 : Int32)) + (1 : Int32)) + (1 : Int32)) + (1 : Int32))) (W' := (xMw cT aM ad rd gd vad (xsI (xsI (xsI (xsI (xsI st 16 ((xsi st 16) + (1 : Int32))) 16 (((xsi st 16) + (1 : Int32)) + (1 : Int32))) 16 ((((xsi st 16) + (1 : Int32)) + (1 : Int32)) + (1 : Int32))) 16 (((((xsi st 16) + (1 : Int32)) + (1 : Int32)) + (1 : Int32)) + (1 : Int32))) 16 ((((((xsi st 16) + (1 : Int32)) + (1 : Int32)) + (1 : Int32)) + (1 : Int32)) + (1 : Int32))) [])) (ty := .int) hx hb htx hown hK hP hD hS 16 (by decide) rfl (htx _ kw_5_103) rfl rfl (by decide +kernel) rfl rfl dM_says_37 (fun H locs hP hD hS => ?_)
            refine lv_iinc (v := 5) (lv' := [(3, .int 5), (0, .ref aM), (1, .ref (aK 11)), (2, .int x1)]) hx hb dM_says_40 hl (k := 0) rfl rfl (by decide) rfl (fun ls hl => ?_)
            refine lv_goto (tgt := 2) hx hb dM_says_43 (by decide) ?_
            refine lv_iload_n hx hb dM_says_2 rfl (lv_at hl 0 rfl) ?_
            refine lv_aload_n hx hb dM_says_3 rfl (lv_at hl 2 rfl) ?_
            refine va_calli (va_runV (C := "java/lang/String") (As := []) (rest := [.int 5]) ⟨hx, hb, hml, hown, htx⟩ (cJS_length_1 l hl9 D cT aK aV H.size) ⟨callB_of 0 htx (xw_goodC kw_2_70) rfl rfl rfl (htx _ kw_1_6) (htx _ kw_5_238) ⟨by decide, by decide, by decide +kernel⟩ ⟨Nat.le_of_ble_eq_true rfl, Nat.le_of_ble_eq_true rfl⟩, (htx _ kw_2_68), (htx _ kw_2_69)⟩ ⟨xPre_blind, vk_recv hZ.2.2.2.2.2.2.2.2.2.1 (i := 11) (by decide) hS, (fun U hU hW => ⟨rfl, xPre_of hZ hS (xm_free0 hS hA) xm_Pnil xm_Dnil hK U hU hW⟩)⟩ rfl rfl hl.1 rfl (lv_room (Nat.le_of_ble_eq_true rfl)) dM_says_4 ⟨(Nat.zero_le _), (Nat.zero_le _)⟩) hS (fun q _ h => xm_free0 hS hA q h) (xm_free0 hS hA) (fun r26 u9 t H1 locs ht hvm hr9 hB hz1 hk1 hS => ?_)
            replace hP := xm_keep hP hk1
            generalize H1 = H at hP hS ⊢
            rw [hr9]
            refine W.eq (g2 := F0 m 7 ls [.int 5, .int 5]) (by first | rfl | rw [xv1 (Nat.succ_ne_zero _)]) ?_
            refine lv_icmp_ge (tgt := 46) hx hb dM_says_7 (by decide) (fun _ => ?_) (fun h => ((by revert h; decide : False)).elim)
            refine lv_aload_n hx hb dM_says_46 rfl (lv_at hl 1 rfl) ?_
            refine lv_iload_n hx hb dM_says_47 rfl (lv_at hl 3 rfl) ?_
            obtain ⟨o27, hq28, hf⟩ := xbind hf
            obtain ⟨hm29, hf⟩ := xmoE hf
            have hFc := xm_free hD hS hA
            refine va_callq (va_runV (C := "ValueBenchModel") (As := [.int x1]) (rest := []) ⟨hx, hb, hml, hown, htx⟩ (gM_fresh l hl9 D cT aK aV H.size n aM ad rd gd vad (xsI (xsI (xsI (xsI (xsI st 16 ((xsi st 16) + (1 : Int32))) 16 (((xsi st 16) + (1 : Int32)) + (1 : Int32))) 16 ((((xsi st 16) + (1 : Int32)) + (1 : Int32)) + (1 : Int32))) 16 (((((xsi st 16) + (1 : Int32)) + (1 : Int32)) + (1 : Int32)) + (1 : Int32))) 16 ((((((xsi st 16) + (1 : Int32)) + (1 : Int32)) + (1 : Int32)) + (1 : Int32)) + (1 : Int32))) x1 o27 hq28) ⟨callB_of 1 htx (xw_goodC kw_6_16) rfl rfl rfl (htx _ kw_1_5) (htx _ kw_6_13) ⟨by decide, by decide, by decide +kernel⟩ ⟨Nat.le_of_ble_eq_true rfl, Nat.le_of_ble_eq_true rfl⟩, (htx _ kw_6_15), (htx _ kp_M_fresh)⟩ ⟨xPre_blind, va_recv hK hP (ci := 5) rfl (q0 := 0) rfl, (fun U hU hW => ⟨rfl, xPre_of hZ hS hFc hP hD hK U hU hW⟩)⟩ rfl rfl hl.1 rfl (xm_room (Nat.le_of_ble_eq_true rfl)) dM_says_48 ⟨hm29.1, hm29.2⟩) hS (fun q _ h => hFc q h) hFc (fun r30 u9 t H1 locs ht hvm hr9 hB hz1 hk1 hS => ?_)
            obtain ⟨hP1, hK1, hD1⟩ := hB
            rw [ht] at hP1
            obtain ⟨ad31, gd32, vad33⟩ := u9
            obtain ⟨hr9, hv34, hn35⟩ := hr9
            have hP : va_P D xcl (xMw cT aM ad31 rd gd32 vad33 o27.2.2.2 []) H1 := hP1
            have hD : va_D A (xMw cT aM ad31 rd gd32 vad33 o27.2.2.2 []) := hD1.weaken (fun k q _ h => hFc q.1 h)
            generalize H1 = H at hP hS ⊢
            have hE9 : ∀ p, p < xct st → vad33 p = vad p := fun p h => (hv34 p (Nat.lt_of_lt_of_le h hN)).trans (hE p h)
            have hE := hE9
            have hN : xct st ≤ xct o27.2.2.2 := Nat.le_trans hN hn35
            rw [hr9]
            refine W.eq (g2 := F0 m 51 ls [xv vad33 o27.2.2.1]) (by first | rfl | (skip; rfl)) ?_
            obtain rfl := Option.some.inj hf
            exact W.aret (v := xv vad33 o27.2.2.1) hx hb hr (Or.inl ⟨_, rfl⟩) (xvor _ _) (fun t ht hW => ⟨⟨xca vad33 o27.2.2.1, (ad31, gd32, vad33), rfl, ⟨rfl, hE, hN⟩, by rw [ht]; exact hP, va_K.moved hW.alike hK, hD⟩, hS.F ht⟩) hS.2.2 dM_says_51
          · rw [if_neg hc] at hf
            refine lv_aload_n hx hb dM_says_22 rfl (lv_at hl 1 rfl) ?_
            refine lv_aload_n hx hb dM_says_23 rfl (lv_at hl 1 rfl) ?_
            refine xm_get (v := .int (((((xsi st 16) + (1 : Int32)) + (1 : Int32)) + (1 : Int32)) + (1 : Int32))) hx hb htx hown hK hP 16 (by decide) rfl (htx _ kw_5_103) rfl dM_says_24 ?_
            obtain ⟨o26, hq27, hf⟩ := xbind hf
            by_cases hk28 : o26.1 = 1
            · rw [if_pos hk28] at hf
              obtain ⟨hm29, hf⟩ := xmoE hf
              obtain rfl := Option.some.inj hf
              exact absurd (show (1 : Nat) = 0 from hkd) (by decide)
            rw [if_neg hk28] at hf
            exact nomatch hf
        · rw [if_neg hc] at hf
          refine lv_aload_n hx hb dM_says_22 rfl (lv_at hl 1 rfl) ?_
          refine lv_aload_n hx hb dM_says_23 rfl (lv_at hl 1 rfl) ?_
          refine xm_get (v := .int ((((xsi st 16) + (1 : Int32)) + (1 : Int32)) + (1 : Int32))) hx hb htx hown hK hP 16 (by decide) rfl (htx _ kw_5_103) rfl dM_says_24 ?_
          obtain ⟨o21, hq22, hf⟩ := xbind hf
          by_cases hk23 : o21.1 = 1
          · rw [if_pos hk23] at hf
            obtain ⟨hm24, hf⟩ := xmoE hf
            obtain rfl := Option.some.inj hf
            exact absurd (show (1 : Nat) = 0 from hkd) (by decide)
          rw [if_neg hk23] at hf
          exact nomatch hf
      · rw [if_neg hc] at hf
        refine lv_aload_n hx hb dM_says_22 rfl (lv_at hl 1 rfl) ?_
        refine lv_aload_n hx hb dM_says_23 rfl (lv_at hl 1 rfl) ?_
        refine xm_get (v := .int (((xsi st 16) + (1 : Int32)) + (1 : Int32))) hx hb htx hown hK hP 16 (by decide) rfl (htx _ kw_5_103) rfl dM_says_24 ?_
        obtain ⟨o16, hq17, hf⟩ := xbind hf
        by_cases hk18 : o16.1 = 1
        · rw [if_pos hk18] at hf
          obtain ⟨hm19, hf⟩ := xmoE hf
          obtain rfl := Option.some.inj hf
          exact absurd (show (1 : Nat) = 0 from hkd) (by decide)
        rw [if_neg hk18] at hf
        exact nomatch hf
    · rw [if_neg hc] at hf
      refine lv_aload_n hx hb dM_says_22 rfl (lv_at hl 1 rfl) ?_
      refine lv_aload_n hx hb dM_says_23 rfl (lv_at hl 1 rfl) ?_
      refine xm_get (v := .int ((xsi st 16) + (1 : Int32))) hx hb htx hown hK hP 16 (by decide) rfl (htx _ kw_5_103) rfl dM_says_24 ?_
      obtain ⟨o11, hq12, hf⟩ := xbind hf
      by_cases hk13 : o11.1 = 1
      · rw [if_pos hk13] at hf
        obtain ⟨hm14, hf⟩ := xmoE hf
        obtain rfl := Option.some.inj hf
        exact absurd (show (1 : Nat) = 0 from hkd) (by decide)
      rw [if_neg hk13] at hf
      exact nomatch hf
  · rw [if_neg hc] at hf
    refine lv_aload_n hx hb dM_says_22 rfl (lv_at hl 1 rfl) ?_
    refine lv_aload_n hx hb dM_says_23 rfl (lv_at hl 1 rfl) ?_
    refine xm_get (v := .int (xsi st 16)) hx hb htx hown hK hP 16 (by decide) rfl (htx _ kw_5_103) rfl dM_says_24 ?_
    obtain ⟨o6, hq7, hf⟩ := xbind hf
    by_cases hk8 : o6.1 = 1
    · rw [if_pos hk8] at hf
      obtain ⟨hm9, hf⟩ := xmoE hf
      obtain rfl := Option.some.inj hf
      exact absurd (show (1 : Nat) = 0 from hkd) (by decide)
    rw [if_neg hk8] at hf
    exact nomatch hf
set_option maxHeartbeats 400000000 in
set_option maxRecDepth 100000 in
theorem gM_says_1 (l : Launch) (hl9 : l.stackTraces = false) (D : va_G) (cT : Nat → ClassId) (aK aV : Nat → Nat) (sz n : Nat) (aM : Nat) (ad rd gd vad : Nat → Nat) (st : xS) (x1 : Int32) (out : Nat × Nat × Nat × Nat × xS) (hf : fM_says n st x1 = some out) (hkd : out.1 = 1) : xMetY l yM_says wyM_says 7 out.2.1 out.2.2.1 121 D cT aK aV sz [.ref aM, .ref (aK 11), .int x1] (xMw cT aM ad rd gd vad st []) "java/lang/UnsupportedOperationException" (fun u => xE vad st out.2.2.2.2 u) (fun A u t => xB D xcl cT A (xMw cT aM u.1 rd u.2.1 u.2.2 out.2.2.2.2 []) t) := by
  refine vx_ofW (cc := prog_13_method_33_code) (maxL := 4) (ret := (some (.object "ValueBenchModel$V"))) (by decide) rfl ?_
  intro p e s m args below meth c s₁ B hml hne hv
  obtain ⟨rfl, hsz, hZ, hP, hK, hD0⟩ := hv
  have hx := B.exec
  have hb := B.bytes
  have hr := B.returns
  have hts := atoms_spec (ws := wyM_says) B.pre
  have htx := fun w h => hts w (List.mem_cons_of_mem _ h)
  have hown : s.vm.findClass "ValueBenchModel" = some m.cls := findClass_of_methodNamed B.named
  have hlocks := B.notSynchronized
  subst hsz
  have hD := hD0.self (sz := s.heap.size)
  generalize hAe : va_A (xMw cT aM ad rd gd vad st []) s.heap.size = A at hD hZ ⊢
  have hA : ∀ q : Nat, s.heap.size ≤ q → A q := fun q h => by rw [← hAe]; exact Or.inr h
  have hS : va_S A s.heap s.heap [] := va_S.rf
  have hl := lv_entry ([.ref aM, .ref (aK 11), .int x1]) (n := 4) (by simp [lg_sl, xvcat, xrscat, xcI, xcL, xcR, xcN])
  rw [show lv_args 0 [.ref aM, .ref (aK 11), .int x1] = [(0, .ref aM), (1, .ref (aK 11)), (2, .int x1)] from by simp [lv_args, xvcat, xrscat, xcI, xcL, xcR, xcN]] at hl
  rw [lg_entry_eq]
  generalize (lg_sl ([.ref aM, .ref (aK 11), .int x1]) ++ List.replicate (4 - (lg_sl ([.ref aM, .ref (aK 11), .int x1])).length) Slot.unset).toArray = ls at hl ⊢
  have hl : lv_has ls 4 [(0, .ref aM), (1, .ref (aK 11)), (2, .int x1)] := hl
  have hE : ∀ p, p < xct st → vad p = vad p := fun _ _ => rfl
  have hN : xct st ≤ xct st := Nat.le_refl _
  unfold fM_says at hf
  refine lv_iconst (v := 0) hx hb dM_says_0 (by decide) ?_
  refine lv_istore_n (lv' := [(3, .int 0), (0, .ref aM), (1, .ref (aK 11)), (2, .int x1)]) hx hb dM_says_1 rfl hl (by decide) rfl (fun ls hl => ?_)
  refine lv_iload_n hx hb dM_says_2 rfl (lv_at hl 0 rfl) ?_
  refine lv_aload_n hx hb dM_says_3 rfl (lv_at hl 2 rfl) ?_
  refine va_calli (va_runV (C := "java/lang/String") (As := []) (rest := [.int 0]) ⟨hx, hb, hml, hown, htx⟩ (cJS_length_1 l hl9 D cT aK aV s.heap.size) ⟨callB_of 0 htx (xw_goodC kw_2_70) rfl rfl rfl (htx _ kw_1_6) (htx _ kw_5_238) ⟨by decide, by decide, by decide +kernel⟩ ⟨Nat.le_of_ble_eq_true rfl, Nat.le_of_ble_eq_true rfl⟩, (htx _ kw_2_68), (htx _ kw_2_69)⟩ ⟨xPre_blind, vk_recv hZ.2.2.2.2.2.2.2.2.2.1 (i := 11) (by decide) hS, (fun U hU hW => ⟨rfl, xPre_of hZ hS (xm_free0 hS hA) xm_Pnil xm_Dnil hK U hU hW⟩)⟩ rfl rfl hl.1 rfl (lv_room (Nat.le_of_ble_eq_true rfl)) dM_says_4 ⟨(Nat.zero_le _), (Nat.zero_le _)⟩) hS (fun q _ h => xm_free0 hS hA q h) (xm_free0 hS hA) (fun r1 u9 t H1 locs ht hvm hr9 hB hz1 hk1 hS => ?_)
  replace hP := xm_keep hP hk1
  generalize H1 = H at hP hS ⊢
  rw [hr9]
  refine W.eq (g2 := F0 m 7 ls [.int 5, .int 0]) (by first | rfl | rw [xv1 (Nat.succ_ne_zero _)]) ?_
  refine lv_icmp_ge (tgt := 46) hx hb dM_says_7 (by decide) (fun h => ((by revert h; decide : False)).elim) (fun _ => ?_)
  refine lv_aload_n hx hb dM_says_10 rfl (lv_at hl 1 rfl) ?_
  obtain ⟨o2, hq3, hf⟩ := xbind hf
  have hFc := xm_free hD hS hA
  refine va_calli (va_runV (C := "ValueBenchModel") (As := []) (rest := []) ⟨hx, hb, hml, hown, htx⟩ (gM_peek l hl9 D cT aK aV H.size n aM ad rd gd vad st o2 hq3) ⟨callB_of 0 htx (xw_goodC kw_5_233) rfl rfl rfl (htx _ kw_1_5) (htx _ kw_5_230) ⟨by decide, by decide, by decide +kernel⟩ ⟨Nat.le_of_ble_eq_true rfl, Nat.le_of_ble_eq_true rfl⟩, (htx _ kw_5_232), (htx _ kp_M_peek)⟩ ⟨xPre_blind, va_recv hK hP (ci := 5) rfl (q0 := 0) rfl, (fun U hU hW => ⟨rfl, xPre_of hZ hS hFc hP hD hK U hU hW⟩)⟩ rfl rfl hl.1 rfl (xm_room (Nat.le_of_ble_eq_true rfl)) dM_says_11 ⟨Nat.zero_le _, Nat.zero_le _⟩) hS (fun q _ h => hFc q h) hFc (fun r4 u9 t H1 locs ht hvm hr9 hB hz1 hk1 hS => ?_)
  obtain ⟨hP1, hK1, hD1⟩ := hB
  rw [ht] at hP1
  have hP : va_P D xcl (xMw cT aM ad rd gd vad st []) H1 := hP1
  have hD : va_D A (xMw cT aM ad rd gd vad st []) := hD1.weaken (fun k q _ h => hFc q.1 h)
  generalize H1 = H at hP hS ⊢
  rw [hr9]
  refine W.eq (g2 := F0 m 14 ls [.int o2]) (by first | rfl | (skip; rfl)) ?_
  refine lv_aload_n hx hb dM_says_14 rfl (lv_at hl 2 rfl) ?_
  refine lv_iload_n hx hb dM_says_15 rfl (lv_at hl 0 rfl) ?_
  refine va_calli (va_runV (C := "java/lang/String") (As := [.int 0]) (rest := [.int o2]) ⟨hx, hb, hml, hown, htx⟩ (cJS_charAt_4 l hl9 D cT aK aV H.size) ⟨callB_of 1 htx (xw_goodC kw_2_80) rfl rfl rfl (htx _ kw_1_6) (htx _ kw_5_86) ⟨by decide, by decide, by decide +kernel⟩ ⟨Nat.le_of_ble_eq_true rfl, Nat.le_of_ble_eq_true rfl⟩, (htx _ kw_2_78), (htx _ kw_2_79)⟩ ⟨xPre_blind, vk_recv hZ.2.2.2.2.2.2.2.2.2.1 (i := 11) (by decide) hS, (fun U hU hW => ⟨rfl, xPre_of hZ hS (xm_free0 hS hA) xm_Pnil xm_Dnil hK U hU hW⟩)⟩ rfl rfl hl.1 rfl (lv_room (Nat.le_of_ble_eq_true rfl)) dM_says_16 ⟨(Nat.zero_le _), (Nat.zero_le _)⟩) hS (fun q _ h => xm_free0 hS hA q h) (xm_free0 hS hA) (fun r5 u9 t H1 locs ht hvm hr9 hB hz1 hk1 hS => ?_)
  replace hP := xm_keep hP hk1
  generalize H1 = H at hP hS ⊢
  rw [hr9]
  refine W.eq (g2 := F0 m 19 ls [.int 102, .int o2]) (by first | rfl | rw [xv1 (Nat.succ_ne_zero _)]) ?_
  refine lv_icmp_eq (tgt := 30) hx hb dM_says_19 (by decide) (fun hc => ?_) (fun hc => ?_)
  · rw [if_pos hc] at hf
    refine lv_aload_n hx hb dM_says_30 rfl (lv_at hl 1 rfl) ?_
    refine lv_dup hx hb dM_says_31 rfl ?_
    refine xm_get (v := .int (xsi st 16)) hx hb htx hown hK hP 16 (by decide) rfl (htx _ kw_5_103) rfl dM_says_32 ?_
    refine lv_iconst (v := 1) hx hb dM_says_35 (by decide) ?_
    refine lv_iadd hx hb dM_says_36 ?_
    refine xm_put (v := .int ((xsi st 16) + (1 : Int32))) (W' := (xMw cT aM ad rd gd vad (xsI st 16 ((xsi st 16) + (1 : Int32))) [])) (ty := .int) hx hb htx hown hK hP hD hS 16 (by decide) rfl (htx _ kw_5_103) rfl rfl (by decide +kernel) rfl rfl dM_says_37 (fun H locs hP hD hS => ?_)
    refine lv_iinc (v := 1) (lv' := [(3, .int 1), (0, .ref aM), (1, .ref (aK 11)), (2, .int x1)]) hx hb dM_says_40 hl (k := 0) rfl rfl (by decide) rfl (fun ls hl => ?_)
    refine lv_goto (tgt := 2) hx hb dM_says_43 (by decide) ?_
    refine lv_iload_n hx hb dM_says_2 rfl (lv_at hl 0 rfl) ?_
    refine lv_aload_n hx hb dM_says_3 rfl (lv_at hl 2 rfl) ?_
    refine va_calli (va_runV (C := "java/lang/String") (As := []) (rest := [.int 1]) ⟨hx, hb, hml, hown, htx⟩ (cJS_length_1 l hl9 D cT aK aV H.size) ⟨callB_of 0 htx (xw_goodC kw_2_70) rfl rfl rfl (htx _ kw_1_6) (htx _ kw_5_238) ⟨by decide, by decide, by decide +kernel⟩ ⟨Nat.le_of_ble_eq_true rfl, Nat.le_of_ble_eq_true rfl⟩, (htx _ kw_2_68), (htx _ kw_2_69)⟩ ⟨xPre_blind, vk_recv hZ.2.2.2.2.2.2.2.2.2.1 (i := 11) (by decide) hS, (fun U hU hW => ⟨rfl, xPre_of hZ hS (xm_free0 hS hA) xm_Pnil xm_Dnil hK U hU hW⟩)⟩ rfl rfl hl.1 rfl (lv_room (Nat.le_of_ble_eq_true rfl)) dM_says_4 ⟨(Nat.zero_le _), (Nat.zero_le _)⟩) hS (fun q _ h => xm_free0 hS hA q h) (xm_free0 hS hA) (fun r6 u9 t H1 locs ht hvm hr9 hB hz1 hk1 hS => ?_)
    replace hP := xm_keep hP hk1
    generalize H1 = H at hP hS ⊢
    rw [hr9]
    refine W.eq (g2 := F0 m 7 ls [.int 5, .int 1]) (by first | rfl | rw [xv1 (Nat.succ_ne_zero _)]) ?_
    refine lv_icmp_ge (tgt := 46) hx hb dM_says_7 (by decide) (fun h => ((by revert h; decide : False)).elim) (fun _ => ?_)
    refine lv_aload_n hx hb dM_says_10 rfl (lv_at hl 1 rfl) ?_
    obtain ⟨o7, hq8, hf⟩ := xbind hf
    have hFc := xm_free hD hS hA
    refine va_calli (va_runV (C := "ValueBenchModel") (As := []) (rest := []) ⟨hx, hb, hml, hown, htx⟩ (gM_peek l hl9 D cT aK aV H.size n aM ad rd gd vad (xsI st 16 ((xsi st 16) + (1 : Int32))) o7 hq8) ⟨callB_of 0 htx (xw_goodC kw_5_233) rfl rfl rfl (htx _ kw_1_5) (htx _ kw_5_230) ⟨by decide, by decide, by decide +kernel⟩ ⟨Nat.le_of_ble_eq_true rfl, Nat.le_of_ble_eq_true rfl⟩, (htx _ kw_5_232), (htx _ kp_M_peek)⟩ ⟨xPre_blind, va_recv hK hP (ci := 5) rfl (q0 := 0) rfl, (fun U hU hW => ⟨rfl, xPre_of hZ hS hFc hP hD hK U hU hW⟩)⟩ rfl rfl hl.1 rfl (xm_room (Nat.le_of_ble_eq_true rfl)) dM_says_11 ⟨Nat.zero_le _, Nat.zero_le _⟩) hS (fun q _ h => hFc q h) hFc (fun r9 u9 t H1 locs ht hvm hr9 hB hz1 hk1 hS => ?_)
    obtain ⟨hP1, hK1, hD1⟩ := hB
    rw [ht] at hP1
    have hP : va_P D xcl (xMw cT aM ad rd gd vad (xsI st 16 ((xsi st 16) + (1 : Int32))) []) H1 := hP1
    have hD : va_D A (xMw cT aM ad rd gd vad (xsI st 16 ((xsi st 16) + (1 : Int32))) []) := hD1.weaken (fun k q _ h => hFc q.1 h)
    generalize H1 = H at hP hS ⊢
    rw [hr9]
    refine W.eq (g2 := F0 m 14 ls [.int o7]) (by first | rfl | (skip; rfl)) ?_
    refine lv_aload_n hx hb dM_says_14 rfl (lv_at hl 2 rfl) ?_
    refine lv_iload_n hx hb dM_says_15 rfl (lv_at hl 0 rfl) ?_
    refine va_calli (va_runV (C := "java/lang/String") (As := [.int 1]) (rest := [.int o7]) ⟨hx, hb, hml, hown, htx⟩ (cJS_charAt_5 l hl9 D cT aK aV H.size) ⟨callB_of 1 htx (xw_goodC kw_2_80) rfl rfl rfl (htx _ kw_1_6) (htx _ kw_5_86) ⟨by decide, by decide, by decide +kernel⟩ ⟨Nat.le_of_ble_eq_true rfl, Nat.le_of_ble_eq_true rfl⟩, (htx _ kw_2_78), (htx _ kw_2_79)⟩ ⟨xPre_blind, vk_recv hZ.2.2.2.2.2.2.2.2.2.1 (i := 11) (by decide) hS, (fun U hU hW => ⟨rfl, xPre_of hZ hS (xm_free0 hS hA) xm_Pnil xm_Dnil hK U hU hW⟩)⟩ rfl rfl hl.1 rfl (lv_room (Nat.le_of_ble_eq_true rfl)) dM_says_16 ⟨(Nat.zero_le _), (Nat.zero_le _)⟩) hS (fun q _ h => xm_free0 hS hA q h) (xm_free0 hS hA) (fun r10 u9 t H1 locs ht hvm hr9 hB hz1 hk1 hS => ?_)
    replace hP := xm_keep hP hk1
    generalize H1 = H at hP hS ⊢
    rw [hr9]
    refine W.eq (g2 := F0 m 19 ls [.int 97, .int o7]) (by first | rfl | rw [xv1 (Nat.succ_ne_zero _)]) ?_
    refine lv_icmp_eq (tgt := 30) hx hb dM_says_19 (by decide) (fun hc => ?_) (fun hc => ?_)
    · rw [if_pos hc] at hf
      refine lv_aload_n hx hb dM_says_30 rfl (lv_at hl 1 rfl) ?_
      refine lv_dup hx hb dM_says_31 rfl ?_
      refine xm_get (v := .int ((xsi st 16) + (1 : Int32))) hx hb htx hown hK hP 16 (by decide) rfl (htx _ kw_5_103) rfl dM_says_32 ?_
      refine lv_iconst (v := 1) hx hb dM_says_35 (by decide) ?_
      refine lv_iadd hx hb dM_says_36 ?_
      refine xm_put (v := .int (((xsi st 16) + (1 : Int32)) + (1 : Int32))) (W' := (xMw cT aM ad rd gd vad (xsI (xsI st 16 ((xsi st 16) + (1 : Int32))) 16 (((xsi st 16) + (1 : Int32)) + (1 : Int32))) [])) (ty := .int) hx hb htx hown hK hP hD hS 16 (by decide) rfl (htx _ kw_5_103) rfl rfl (by decide +kernel) rfl rfl dM_says_37 (fun H locs hP hD hS => ?_)
      refine lv_iinc (v := 2) (lv' := [(3, .int 2), (0, .ref aM), (1, .ref (aK 11)), (2, .int x1)]) hx hb dM_says_40 hl (k := 0) rfl rfl (by decide) rfl (fun ls hl => ?_)
      refine lv_goto (tgt := 2) hx hb dM_says_43 (by decide) ?_
      refine lv_iload_n hx hb dM_says_2 rfl (lv_at hl 0 rfl) ?_
      refine lv_aload_n hx hb dM_says_3 rfl (lv_at hl 2 rfl) ?_
      refine va_calli (va_runV (C := "java/lang/String") (As := []) (rest := [.int 2]) ⟨hx, hb, hml, hown, htx⟩ (cJS_length_1 l hl9 D cT aK aV H.size) ⟨callB_of 0 htx (xw_goodC kw_2_70) rfl rfl rfl (htx _ kw_1_6) (htx _ kw_5_238) ⟨by decide, by decide, by decide +kernel⟩ ⟨Nat.le_of_ble_eq_true rfl, Nat.le_of_ble_eq_true rfl⟩, (htx _ kw_2_68), (htx _ kw_2_69)⟩ ⟨xPre_blind, vk_recv hZ.2.2.2.2.2.2.2.2.2.1 (i := 11) (by decide) hS, (fun U hU hW => ⟨rfl, xPre_of hZ hS (xm_free0 hS hA) xm_Pnil xm_Dnil hK U hU hW⟩)⟩ rfl rfl hl.1 rfl (lv_room (Nat.le_of_ble_eq_true rfl)) dM_says_4 ⟨(Nat.zero_le _), (Nat.zero_le _)⟩) hS (fun q _ h => xm_free0 hS hA q h) (xm_free0 hS hA) (fun r11 u9 t H1 locs ht hvm hr9 hB hz1 hk1 hS => ?_)
      replace hP := xm_keep hP hk1
      generalize H1 = H at hP hS ⊢
      rw [hr9]
      refine W.eq (g2 := F0 m 7 ls [.int 5, .int 2]) (by first | rfl | rw [xv1 (Nat.succ_ne_zero _)]) ?_
      refine lv_icmp_ge (tgt := 46) hx hb dM_says_7 (by decide) (fun h => ((by revert h; decide : False)).elim) (fun _ => ?_)
      refine lv_aload_n hx hb dM_says_10 rfl (lv_at hl 1 rfl) ?_
      obtain ⟨o12, hq13, hf⟩ := xbind hf
      have hFc := xm_free hD hS hA
      refine va_calli (va_runV (C := "ValueBenchModel") (As := []) (rest := []) ⟨hx, hb, hml, hown, htx⟩ (gM_peek l hl9 D cT aK aV H.size n aM ad rd gd vad (xsI (xsI st 16 ((xsi st 16) + (1 : Int32))) 16 (((xsi st 16) + (1 : Int32)) + (1 : Int32))) o12 hq13) ⟨callB_of 0 htx (xw_goodC kw_5_233) rfl rfl rfl (htx _ kw_1_5) (htx _ kw_5_230) ⟨by decide, by decide, by decide +kernel⟩ ⟨Nat.le_of_ble_eq_true rfl, Nat.le_of_ble_eq_true rfl⟩, (htx _ kw_5_232), (htx _ kp_M_peek)⟩ ⟨xPre_blind, va_recv hK hP (ci := 5) rfl (q0 := 0) rfl, (fun U hU hW => ⟨rfl, xPre_of hZ hS hFc hP hD hK U hU hW⟩)⟩ rfl rfl hl.1 rfl (xm_room (Nat.le_of_ble_eq_true rfl)) dM_says_11 ⟨Nat.zero_le _, Nat.zero_le _⟩) hS (fun q _ h => hFc q h) hFc (fun r14 u9 t H1 locs ht hvm hr9 hB hz1 hk1 hS => ?_)
      obtain ⟨hP1, hK1, hD1⟩ := hB
      rw [ht] at hP1
      have hP : va_P D xcl (xMw cT aM ad rd gd vad (xsI (xsI st 16 ((xsi st 16) + (1 : Int32))) 16 (((xsi st 16) + (1 : Int32)) + (1 : Int32))) []) H1 := hP1
      have hD : va_D A (xMw cT aM ad rd gd vad (xsI (xsI st 16 ((xsi st 16) + (1 : Int32))) 16 (((xsi st 16) + (1 : Int32)) + (1 : Int32))) []) := hD1.weaken (fun k q _ h => hFc q.1 h)
      generalize H1 = H at hP hS ⊢
      rw [hr9]
      refine W.eq (g2 := F0 m 14 ls [.int o12]) (by first | rfl | (skip; rfl)) ?_
      refine lv_aload_n hx hb dM_says_14 rfl (lv_at hl 2 rfl) ?_
      refine lv_iload_n hx hb dM_says_15 rfl (lv_at hl 0 rfl) ?_
      refine va_calli (va_runV (C := "java/lang/String") (As := [.int 2]) (rest := [.int o12]) ⟨hx, hb, hml, hown, htx⟩ (cJS_charAt_6 l hl9 D cT aK aV H.size) ⟨callB_of 1 htx (xw_goodC kw_2_80) rfl rfl rfl (htx _ kw_1_6) (htx _ kw_5_86) ⟨by decide, by decide, by decide +kernel⟩ ⟨Nat.le_of_ble_eq_true rfl, Nat.le_of_ble_eq_true rfl⟩, (htx _ kw_2_78), (htx _ kw_2_79)⟩ ⟨xPre_blind, vk_recv hZ.2.2.2.2.2.2.2.2.2.1 (i := 11) (by decide) hS, (fun U hU hW => ⟨rfl, xPre_of hZ hS (xm_free0 hS hA) xm_Pnil xm_Dnil hK U hU hW⟩)⟩ rfl rfl hl.1 rfl (lv_room (Nat.le_of_ble_eq_true rfl)) dM_says_16 ⟨(Nat.zero_le _), (Nat.zero_le _)⟩) hS (fun q _ h => xm_free0 hS hA q h) (xm_free0 hS hA) (fun r15 u9 t H1 locs ht hvm hr9 hB hz1 hk1 hS => ?_)
      replace hP := xm_keep hP hk1
      generalize H1 = H at hP hS ⊢
      rw [hr9]
      refine W.eq (g2 := F0 m 19 ls [.int 108, .int o12]) (by first | rfl | rw [xv1 (Nat.succ_ne_zero _)]) ?_
      refine lv_icmp_eq (tgt := 30) hx hb dM_says_19 (by decide) (fun hc => ?_) (fun hc => ?_)
      · rw [if_pos hc] at hf
        refine lv_aload_n hx hb dM_says_30 rfl (lv_at hl 1 rfl) ?_
        refine lv_dup hx hb dM_says_31 rfl ?_
        refine xm_get (v := .int (((xsi st 16) + (1 : Int32)) + (1 : Int32))) hx hb htx hown hK hP 16 (by decide) rfl (htx _ kw_5_103) rfl dM_says_32 ?_
        refine lv_iconst (v := 1) hx hb dM_says_35 (by decide) ?_
        refine lv_iadd hx hb dM_says_36 ?_
        refine xm_put (v := .int ((((xsi st 16) + (1 : Int32)) + (1 : Int32)) + (1 : Int32))) (W' := (xMw cT aM ad rd gd vad (xsI (xsI (xsI st 16 ((xsi st 16) + (1 : Int32))) 16 (((xsi st 16) + (1 : Int32)) + (1 : Int32))) 16 ((((xsi st 16) + (1 : Int32)) + (1 : Int32)) + (1 : Int32))) [])) (ty := .int) hx hb htx hown hK hP hD hS 16 (by decide) rfl (htx _ kw_5_103) rfl rfl (by decide +kernel) rfl rfl dM_says_37 (fun H locs hP hD hS => ?_)
        refine lv_iinc (v := 3) (lv' := [(3, .int 3), (0, .ref aM), (1, .ref (aK 11)), (2, .int x1)]) hx hb dM_says_40 hl (k := 0) rfl rfl (by decide) rfl (fun ls hl => ?_)
        refine lv_goto (tgt := 2) hx hb dM_says_43 (by decide) ?_
        refine lv_iload_n hx hb dM_says_2 rfl (lv_at hl 0 rfl) ?_
        refine lv_aload_n hx hb dM_says_3 rfl (lv_at hl 2 rfl) ?_
        refine va_calli (va_runV (C := "java/lang/String") (As := []) (rest := [.int 3]) ⟨hx, hb, hml, hown, htx⟩ (cJS_length_1 l hl9 D cT aK aV H.size) ⟨callB_of 0 htx (xw_goodC kw_2_70) rfl rfl rfl (htx _ kw_1_6) (htx _ kw_5_238) ⟨by decide, by decide, by decide +kernel⟩ ⟨Nat.le_of_ble_eq_true rfl, Nat.le_of_ble_eq_true rfl⟩, (htx _ kw_2_68), (htx _ kw_2_69)⟩ ⟨xPre_blind, vk_recv hZ.2.2.2.2.2.2.2.2.2.1 (i := 11) (by decide) hS, (fun U hU hW => ⟨rfl, xPre_of hZ hS (xm_free0 hS hA) xm_Pnil xm_Dnil hK U hU hW⟩)⟩ rfl rfl hl.1 rfl (lv_room (Nat.le_of_ble_eq_true rfl)) dM_says_4 ⟨(Nat.zero_le _), (Nat.zero_le _)⟩) hS (fun q _ h => xm_free0 hS hA q h) (xm_free0 hS hA) (fun r16 u9 t H1 locs ht hvm hr9 hB hz1 hk1 hS => ?_)
        replace hP := xm_keep hP hk1
        generalize H1 = H at hP hS ⊢
        rw [hr9]
        refine W.eq (g2 := F0 m 7 ls [.int 5, .int 3]) (by first | rfl | rw [xv1 (Nat.succ_ne_zero _)]) ?_
        refine lv_icmp_ge (tgt := 46) hx hb dM_says_7 (by decide) (fun h => ((by revert h; decide : False)).elim) (fun _ => ?_)
        refine lv_aload_n hx hb dM_says_10 rfl (lv_at hl 1 rfl) ?_
        obtain ⟨o17, hq18, hf⟩ := xbind hf
        have hFc := xm_free hD hS hA
        refine va_calli (va_runV (C := "ValueBenchModel") (As := []) (rest := []) ⟨hx, hb, hml, hown, htx⟩ (gM_peek l hl9 D cT aK aV H.size n aM ad rd gd vad (xsI (xsI (xsI st 16 ((xsi st 16) + (1 : Int32))) 16 (((xsi st 16) + (1 : Int32)) + (1 : Int32))) 16 ((((xsi st 16) + (1 : Int32)) + (1 : Int32)) + (1 : Int32))) o17 hq18) ⟨callB_of 0 htx (xw_goodC kw_5_233) rfl rfl rfl (htx _ kw_1_5) (htx _ kw_5_230) ⟨by decide, by decide, by decide +kernel⟩ ⟨Nat.le_of_ble_eq_true rfl, Nat.le_of_ble_eq_true rfl⟩, (htx _ kw_5_232), (htx _ kp_M_peek)⟩ ⟨xPre_blind, va_recv hK hP (ci := 5) rfl (q0 := 0) rfl, (fun U hU hW => ⟨rfl, xPre_of hZ hS hFc hP hD hK U hU hW⟩)⟩ rfl rfl hl.1 rfl (xm_room (Nat.le_of_ble_eq_true rfl)) dM_says_11 ⟨Nat.zero_le _, Nat.zero_le _⟩) hS (fun q _ h => hFc q h) hFc (fun r19 u9 t H1 locs ht hvm hr9 hB hz1 hk1 hS => ?_)
        obtain ⟨hP1, hK1, hD1⟩ := hB
        rw [ht] at hP1
        have hP : va_P D xcl (xMw cT aM ad rd gd vad (xsI (xsI (xsI st 16 ((xsi st 16) + (1 : Int32))) 16 (((xsi st 16) + (1 : Int32)) + (1 : Int32))) 16 ((((xsi st 16) + (1 : Int32)) + (1 : Int32)) + (1 : Int32))) []) H1 := hP1
        have hD : va_D A (xMw cT aM ad rd gd vad (xsI (xsI (xsI st 16 ((xsi st 16) + (1 : Int32))) 16 (((xsi st 16) + (1 : Int32)) + (1 : Int32))) 16 ((((xsi st 16) + (1 : Int32)) + (1 : Int32)) + (1 : Int32))) []) := hD1.weaken (fun k q _ h => hFc q.1 h)
        generalize H1 = H at hP hS ⊢
        rw [hr9]
        refine W.eq (g2 := F0 m 14 ls [.int o17]) (by first | rfl | (skip; rfl)) ?_
        refine lv_aload_n hx hb dM_says_14 rfl (lv_at hl 2 rfl) ?_
        refine lv_iload_n hx hb dM_says_15 rfl (lv_at hl 0 rfl) ?_
        refine va_calli (va_runV (C := "java/lang/String") (As := [.int 3]) (rest := [.int o17]) ⟨hx, hb, hml, hown, htx⟩ (cJS_charAt_7 l hl9 D cT aK aV H.size) ⟨callB_of 1 htx (xw_goodC kw_2_80) rfl rfl rfl (htx _ kw_1_6) (htx _ kw_5_86) ⟨by decide, by decide, by decide +kernel⟩ ⟨Nat.le_of_ble_eq_true rfl, Nat.le_of_ble_eq_true rfl⟩, (htx _ kw_2_78), (htx _ kw_2_79)⟩ ⟨xPre_blind, vk_recv hZ.2.2.2.2.2.2.2.2.2.1 (i := 11) (by decide) hS, (fun U hU hW => ⟨rfl, xPre_of hZ hS (xm_free0 hS hA) xm_Pnil xm_Dnil hK U hU hW⟩)⟩ rfl rfl hl.1 rfl (lv_room (Nat.le_of_ble_eq_true rfl)) dM_says_16 ⟨(Nat.zero_le _), (Nat.zero_le _)⟩) hS (fun q _ h => xm_free0 hS hA q h) (xm_free0 hS hA) (fun r20 u9 t H1 locs ht hvm hr9 hB hz1 hk1 hS => ?_)
        replace hP := xm_keep hP hk1
        generalize H1 = H at hP hS ⊢
        rw [hr9]
        refine W.eq (g2 := F0 m 19 ls [.int 115, .int o17]) (by first | rfl | rw [xv1 (Nat.succ_ne_zero _)]) ?_
        refine lv_icmp_eq (tgt := 30) hx hb dM_says_19 (by decide) (fun hc => ?_) (fun hc => ?_)
        · rw [if_pos hc] at hf
          refine lv_aload_n hx hb dM_says_30 rfl (lv_at hl 1 rfl) ?_
          refine lv_dup hx hb dM_says_31 rfl ?_
          refine xm_get (v := .int ((((xsi st 16) + (1 : Int32)) + (1 : Int32)) + (1 : Int32))) hx hb htx hown hK hP 16 (by decide) rfl (htx _ kw_5_103) rfl dM_says_32 ?_
          refine lv_iconst (v := 1) hx hb dM_says_35 (by decide) ?_
          refine lv_iadd hx hb dM_says_36 ?_
          refine xm_put (v := .int (((((xsi st 16) + (1 : Int32)) + (1 : Int32)) + (1 : Int32)) + (1 : Int32))) (W' := (xMw cT aM ad rd gd vad (xsI (xsI (xsI (xsI st 16 ((xsi st 16) + (1 : Int32))) 16 (((xsi st 16) + (1 : Int32)) + (1 : Int32))) 16 ((((xsi st 16) + (1 : Int32)) + (1 : Int32)) + (1 : Int32))) 16 (((((xsi st 16) + (1 : Int32)) + (1 : Int32)) + (1 : Int32)) + (1 : Int32))) [])) (ty := .int) hx hb htx hown hK hP hD hS 16 (by decide) rfl (htx _ kw_5_103) rfl rfl (by decide +kernel) rfl rfl dM_says_37 (fun H locs hP hD hS => ?_)
          refine lv_iinc (v := 4) (lv' := [(3, .int 4), (0, .ref aM), (1, .ref (aK 11)), (2, .int x1)]) hx hb dM_says_40 hl (k := 0) rfl rfl (by decide) rfl (fun ls hl => ?_)
          refine lv_goto (tgt := 2) hx hb dM_says_43 (by decide) ?_
          refine lv_iload_n hx hb dM_says_2 rfl (lv_at hl 0 rfl) ?_
          refine lv_aload_n hx hb dM_says_3 rfl (lv_at hl 2 rfl) ?_
          refine va_calli (va_runV (C := "java/lang/String") (As := []) (rest := [.int 4]) ⟨hx, hb, hml, hown, htx⟩ (cJS_length_1 l hl9 D cT aK aV H.size) ⟨callB_of 0 htx (xw_goodC kw_2_70) rfl rfl rfl (htx _ kw_1_6) (htx _ kw_5_238) ⟨by decide, by decide, by decide +kernel⟩ ⟨Nat.le_of_ble_eq_true rfl, Nat.le_of_ble_eq_true rfl⟩, (htx _ kw_2_68), (htx _ kw_2_69)⟩ ⟨xPre_blind, vk_recv hZ.2.2.2.2.2.2.2.2.2.1 (i := 11) (by decide) hS, (fun U hU hW => ⟨rfl, xPre_of hZ hS (xm_free0 hS hA) xm_Pnil xm_Dnil hK U hU hW⟩)⟩ rfl rfl hl.1 rfl (lv_room (Nat.le_of_ble_eq_true rfl)) dM_says_4 ⟨(Nat.zero_le _), (Nat.zero_le _)⟩) hS (fun q _ h => xm_free0 hS hA q h) (xm_free0 hS hA) (fun r21 u9 t H1 locs ht hvm hr9 hB hz1 hk1 hS => ?_)
          replace hP := xm_keep hP hk1
          generalize H1 = H at hP hS ⊢
          rw [hr9]
          refine W.eq (g2 := F0 m 7 ls [.int 5, .int 4]) (by first | rfl | rw [xv1 (Nat.succ_ne_zero _)]) ?_
          refine lv_icmp_ge (tgt := 46) hx hb dM_says_7 (by decide) (fun h => ((by revert h; decide : False)).elim) (fun _ => ?_)
          refine lv_aload_n hx hb dM_says_10 rfl (lv_at hl 1 rfl) ?_
          obtain ⟨o22, hq23, hf⟩ := xbind hf
          have hFc := xm_free hD hS hA
          refine va_calli (va_runV (C := "ValueBenchModel") (As := []) (rest := []) ⟨hx, hb, hml, hown, htx⟩ (gM_peek l hl9 D cT aK aV H.size n aM ad rd gd vad (xsI (xsI (xsI (xsI st 16 ((xsi st 16) + (1 : Int32))) 16 (((xsi st 16) + (1 : Int32)) + (1 : Int32))) 16 ((((xsi st 16) + (1 : Int32)) + (1 : Int32)) + (1 : Int32))) 16 (((((xsi st 16) + (1 : Int32)) + (1 : Int32)) + (1 : Int32)) + (1 : Int32))) o22 hq23) ⟨callB_of 0 htx (xw_goodC kw_5_233) rfl rfl rfl (htx _ kw_1_5) (htx _ kw_5_230) ⟨by decide, by decide, by decide +kernel⟩ ⟨Nat.le_of_ble_eq_true rfl, Nat.le_of_ble_eq_true rfl⟩, (htx _ kw_5_232), (htx _ kp_M_peek)⟩ ⟨xPre_blind, va_recv hK hP (ci := 5) rfl (q0 := 0) rfl, (fun U hU hW => ⟨rfl, xPre_of hZ hS hFc hP hD hK U hU hW⟩)⟩ rfl rfl hl.1 rfl (xm_room (Nat.le_of_ble_eq_true rfl)) dM_says_11 ⟨Nat.zero_le _, Nat.zero_le _⟩) hS (fun q _ h => hFc q h) hFc (fun r24 u9 t H1 locs ht hvm hr9 hB hz1 hk1 hS => ?_)
          obtain ⟨hP1, hK1, hD1⟩ := hB
          rw [ht] at hP1
          have hP : va_P D xcl (xMw cT aM ad rd gd vad (xsI (xsI (xsI (xsI st 16 ((xsi st 16) + (1 : Int32))) 16 (((xsi st 16) + (1 : Int32)) + (1 : Int32))) 16 ((((xsi st 16) + (1 : Int32)) + (1 : Int32)) + (1 : Int32))) 16 (((((xsi st 16) + (1 : Int32)) + (1 : Int32)) + (1 : Int32)) + (1 : Int32))) []) H1 := hP1
          have hD : va_D A (xMw cT aM ad rd gd vad (xsI (xsI (xsI (xsI st 16 ((xsi st 16) + (1 : Int32))) 16 (((xsi st 16) + (1 : Int32)) + (1 : Int32))) 16 ((((xsi st 16) + (1 : Int32)) + (1 : Int32)) + (1 : Int32))) 16 (((((xsi st 16) + (1 : Int32)) + (1 : Int32)) + (1 : Int32)) + (1 : Int32))) []) := hD1.weaken (fun k q _ h => hFc q.1 h)
          generalize H1 = H at hP hS ⊢
          rw [hr9]
          refine W.eq (g2 := F0 m 14 ls [.int o22]) (by first | rfl | (skip; rfl)) ?_
          refine lv_aload_n hx hb dM_says_14 rfl (lv_at hl 2 rfl) ?_
          refine lv_iload_n hx hb dM_says_15 rfl (lv_at hl 0 rfl) ?_
          refine va_calli (va_runV (C := "java/lang/String") (As := [.int 4]) (rest := [.int o22]) ⟨hx, hb, hml, hown, htx⟩ (cJS_charAt_8 l hl9 D cT aK aV H.size) ⟨callB_of 1 htx (xw_goodC kw_2_80) rfl rfl rfl (htx _ kw_1_6) (htx _ kw_5_86) ⟨by decide, by decide, by decide +kernel⟩ ⟨Nat.le_of_ble_eq_true rfl, Nat.le_of_ble_eq_true rfl⟩, (htx _ kw_2_78), (htx _ kw_2_79)⟩ ⟨xPre_blind, vk_recv hZ.2.2.2.2.2.2.2.2.2.1 (i := 11) (by decide) hS, (fun U hU hW => ⟨rfl, xPre_of hZ hS (xm_free0 hS hA) xm_Pnil xm_Dnil hK U hU hW⟩)⟩ rfl rfl hl.1 rfl (lv_room (Nat.le_of_ble_eq_true rfl)) dM_says_16 ⟨(Nat.zero_le _), (Nat.zero_le _)⟩) hS (fun q _ h => xm_free0 hS hA q h) (xm_free0 hS hA) (fun r25 u9 t H1 locs ht hvm hr9 hB hz1 hk1 hS => ?_)
          replace hP := xm_keep hP hk1
          generalize H1 = H at hP hS ⊢
          rw [hr9]
          refine W.eq (g2 := F0 m 19 ls [.int 101, .int o22]) (by first | rfl | rw [xv1 (Nat.succ_ne_zero _)]) ?_
          refine lv_icmp_eq (tgt := 30) hx hb dM_says_19 (by decide) (fun hc => ?_) (fun hc => ?_)
          · rw [if_pos hc] at hf
            refine lv_aload_n hx hb dM_says_30 rfl (lv_at hl 1 rfl) ?_
            refine lv_dup hx hb dM_says_31 rfl ?_
            refine xm_get (v := .int (((((xsi st 16) + (1 : Int32)) + (1 : Int32)) + (1 : Int32)) + (1 : Int32))) hx hb htx hown hK hP 16 (by decide) rfl (htx _ kw_5_103) rfl dM_says_32 ?_
            refine lv_iconst (v := 1) hx hb dM_says_35 (by decide) ?_
            refine lv_iadd hx hb dM_says_36 ?_
            refine xm_put (v := .int ((((((xsi st 16) + (1 : Int32)) + (1 : Int32)) + (1 : Int32)) + (1 : Int32)) + (1 : Int32))) (W' := (xMw cT aM ad rd gd vad (xsI (xsI (xsI (xsI (xsI st 16 ((xsi st 16) + (1 : Int32))) 16 (((xsi st 16) + (1 : Int32)) + (1 : Int32))) 16 ((((xsi st 16) + (1 : Int32)) + (1 : Int32)) + (1 : Int32))) 16 (((((xsi st 16) + (1 : Int32)) + (1 : Int32)) + (1 : Int32)) + (1 : Int32))) 16 ((((((xsi st 16) + (1 : Int32)) + (1 : Int32)) + (1 : Int32)) + (1 : Int32)) + (1 : Int32))) [])) (ty := .int) hx hb htx hown hK hP hD hS 16 (by decide) rfl (htx _ kw_5_103) rfl rfl (by decide +kernel) rfl rfl dM_says_37 (fun H locs hP hD hS => ?_)
            refine lv_iinc (v := 5) (lv' := [(3, .int 5), (0, .ref aM), (1, .ref (aK 11)), (2, .int x1)]) hx hb dM_says_40 hl (k := 0) rfl rfl (by decide) rfl (fun ls hl => ?_)
            refine lv_goto (tgt := 2) hx hb dM_says_43 (by decide) ?_
            refine lv_iload_n hx hb dM_says_2 rfl (lv_at hl 0 rfl) ?_
            refine lv_aload_n hx hb dM_says_3 rfl (lv_at hl 2 rfl) ?_
            refine va_calli (va_runV (C := "java/lang/String") (As := []) (rest := [.int 5]) ⟨hx, hb, hml, hown, htx⟩ (cJS_length_1 l hl9 D cT aK aV H.size) ⟨callB_of 0 htx (xw_goodC kw_2_70) rfl rfl rfl (htx _ kw_1_6) (htx _ kw_5_238) ⟨by decide, by decide, by decide +kernel⟩ ⟨Nat.le_of_ble_eq_true rfl, Nat.le_of_ble_eq_true rfl⟩, (htx _ kw_2_68), (htx _ kw_2_69)⟩ ⟨xPre_blind, vk_recv hZ.2.2.2.2.2.2.2.2.2.1 (i := 11) (by decide) hS, (fun U hU hW => ⟨rfl, xPre_of hZ hS (xm_free0 hS hA) xm_Pnil xm_Dnil hK U hU hW⟩)⟩ rfl rfl hl.1 rfl (lv_room (Nat.le_of_ble_eq_true rfl)) dM_says_4 ⟨(Nat.zero_le _), (Nat.zero_le _)⟩) hS (fun q _ h => xm_free0 hS hA q h) (xm_free0 hS hA) (fun r26 u9 t H1 locs ht hvm hr9 hB hz1 hk1 hS => ?_)
            replace hP := xm_keep hP hk1
            generalize H1 = H at hP hS ⊢
            rw [hr9]
            refine W.eq (g2 := F0 m 7 ls [.int 5, .int 5]) (by first | rfl | rw [xv1 (Nat.succ_ne_zero _)]) ?_
            refine lv_icmp_ge (tgt := 46) hx hb dM_says_7 (by decide) (fun _ => ?_) (fun h => ((by revert h; decide : False)).elim)
            refine lv_aload_n hx hb dM_says_46 rfl (lv_at hl 1 rfl) ?_
            refine lv_iload_n hx hb dM_says_47 rfl (lv_at hl 3 rfl) ?_
            obtain ⟨o27, hq28, hf⟩ := xbind hf
            obtain ⟨hm29, hf⟩ := xmoE hf
            have hFc := xm_free hD hS hA
            refine va_callq (va_runV (C := "ValueBenchModel") (As := [.int x1]) (rest := []) ⟨hx, hb, hml, hown, htx⟩ (gM_fresh l hl9 D cT aK aV H.size n aM ad rd gd vad (xsI (xsI (xsI (xsI (xsI st 16 ((xsi st 16) + (1 : Int32))) 16 (((xsi st 16) + (1 : Int32)) + (1 : Int32))) 16 ((((xsi st 16) + (1 : Int32)) + (1 : Int32)) + (1 : Int32))) 16 (((((xsi st 16) + (1 : Int32)) + (1 : Int32)) + (1 : Int32)) + (1 : Int32))) 16 ((((((xsi st 16) + (1 : Int32)) + (1 : Int32)) + (1 : Int32)) + (1 : Int32)) + (1 : Int32))) x1 o27 hq28) ⟨callB_of 1 htx (xw_goodC kw_6_16) rfl rfl rfl (htx _ kw_1_5) (htx _ kw_6_13) ⟨by decide, by decide, by decide +kernel⟩ ⟨Nat.le_of_ble_eq_true rfl, Nat.le_of_ble_eq_true rfl⟩, (htx _ kw_6_15), (htx _ kp_M_fresh)⟩ ⟨xPre_blind, va_recv hK hP (ci := 5) rfl (q0 := 0) rfl, (fun U hU hW => ⟨rfl, xPre_of hZ hS hFc hP hD hK U hU hW⟩)⟩ rfl rfl hl.1 rfl (xm_room (Nat.le_of_ble_eq_true rfl)) dM_says_48 ⟨hm29.1, hm29.2⟩) hS (fun q _ h => hFc q h) hFc (fun r30 u9 t H1 locs ht hvm hr9 hB hz1 hk1 hS => ?_)
            obtain ⟨hP1, hK1, hD1⟩ := hB
            rw [ht] at hP1
            obtain ⟨ad31, gd32, vad33⟩ := u9
            obtain ⟨hr9, hv34, hn35⟩ := hr9
            have hP : va_P D xcl (xMw cT aM ad31 rd gd32 vad33 o27.2.2.2 []) H1 := hP1
            have hD : va_D A (xMw cT aM ad31 rd gd32 vad33 o27.2.2.2 []) := hD1.weaken (fun k q _ h => hFc q.1 h)
            generalize H1 = H at hP hS ⊢
            have hE9 : ∀ p, p < xct st → vad33 p = vad p := fun p h => (hv34 p (Nat.lt_of_lt_of_le h hN)).trans (hE p h)
            have hE := hE9
            have hN : xct st ≤ xct o27.2.2.2 := Nat.le_trans hN hn35
            rw [hr9]
            refine W.eq (g2 := F0 m 51 ls [xv vad33 o27.2.2.1]) (by first | rfl | (skip; rfl)) ?_
            obtain rfl := Option.some.inj hf
            exact absurd (show (0 : Nat) = 1 from hkd) (by decide)
          · rw [if_neg hc] at hf
            refine lv_aload_n hx hb dM_says_22 rfl (lv_at hl 1 rfl) ?_
            refine lv_aload_n hx hb dM_says_23 rfl (lv_at hl 1 rfl) ?_
            refine xm_get (v := .int (((((xsi st 16) + (1 : Int32)) + (1 : Int32)) + (1 : Int32)) + (1 : Int32))) hx hb htx hown hK hP 16 (by decide) rfl (htx _ kw_5_103) rfl dM_says_24 ?_
            obtain ⟨o26, hq27, hf⟩ := xbind hf
            by_cases hk28 : o26.1 = 1
            · rw [if_pos hk28] at hf
              obtain ⟨hm29, hf⟩ := xmoE hf
              have hFc := xm_free hD hS hA
              refine xx_thr (vx_runV (C := "ValueBenchModel") (As := [.int (((((xsi st 16) + (1 : Int32)) + (1 : Int32)) + (1 : Int32)) + (1 : Int32))]) (rest := []) ⟨hx, hb, hml, hown, htx⟩ (gM_bad_1 l hl9 D cT aK aV H.size n aM ad rd gd vad (xsI (xsI (xsI (xsI st 16 ((xsi st 16) + (1 : Int32))) 16 (((xsi st 16) + (1 : Int32)) + (1 : Int32))) 16 ((((xsi st 16) + (1 : Int32)) + (1 : Int32)) + (1 : Int32))) 16 (((((xsi st 16) + (1 : Int32)) + (1 : Int32)) + (1 : Int32)) + (1 : Int32))) (((((xsi st 16) + (1 : Int32)) + (1 : Int32)) + (1 : Int32)) + (1 : Int32)) o26 hq27 hk28) ⟨callB_of 1 htx (xw_goodC kw_6_2) rfl rfl rfl (htx _ kw_1_5) (htx _ kw_5_239) ⟨by decide, by decide, by decide +kernel⟩ ⟨Nat.le_of_ble_eq_true rfl, Nat.le_of_ble_eq_true rfl⟩, (htx _ kw_6_1), (htx _ kp_M_bad)⟩ ⟨xPre_blind, va_recv hK hP (ci := 5) rfl (q0 := 0) rfl, (fun U hU hW => ⟨rfl, xPre_of hZ hS hFc hP hD hK U hU hW⟩)⟩ rfl rfl hl.1 rfl (xm_room (Nat.le_of_ble_eq_true rfl)) dM_says_27 ⟨hm29.1, hm29.2⟩) hS hFc (fun q _ h => hFc q h) (fun E ce q9 u9 t H1 locs ht hvm hr9 hB hz1 hk1 hS hce hcv hcl => ?_)
              obtain ⟨rfl, hP1, hK1, hD1⟩ := hB
              rw [ht] at hP1
              obtain ⟨ad31, gd32, vad33⟩ := u9
              obtain ⟨hv34, hn35⟩ := hr9
              have hP : va_P D xcl (xMw cT aM ad31 rd gd32 vad33 o26.2.2.2 []) H1 := hP1
              have hD : va_D A (xMw cT aM ad31 rd gd32 vad33 o26.2.2.2 []) := hD1.weaken (fun k q _ h => hFc q.1 h)
              generalize H1 = H at hP hS hce ⊢
              have hE9 : ∀ p, p < xct st → vad33 p = vad p := fun p h => (hv34 p (Nat.lt_of_lt_of_le h hN)).trans (hE p h)
              have hE := hE9
              have hN : xct st ≤ xct o26.2.2.2 := Nat.le_trans hN hn35
              obtain rfl := Option.some.inj hf
              exact vx_out (E := "java/lang/UnsupportedOperationException") (fun x h => (hne x h).elim) hlocks hce hcv hcl (fun t ht ha => ⟨(ad31, gd32, vad33), ⟨hE, hN⟩, ⟨rfl, by rw [ht]; exact hP, va_K.moved ha hK, hD⟩, hS.F ht⟩) hS.2.2 (Nat.le_refl _) (Nat.le_refl _)
            rw [if_neg hk28] at hf
            exact nomatch hf
        · rw [if_neg hc] at hf
          refine lv_aload_n hx hb dM_says_22 rfl (lv_at hl 1 rfl) ?_
          refine lv_aload_n hx hb dM_says_23 rfl (lv_at hl 1 rfl) ?_
          refine xm_get (v := .int ((((xsi st 16) + (1 : Int32)) + (1 : Int32)) + (1 : Int32))) hx hb htx hown hK hP 16 (by decide) rfl (htx _ kw_5_103) rfl dM_says_24 ?_
          obtain ⟨o21, hq22, hf⟩ := xbind hf
          by_cases hk23 : o21.1 = 1
          · rw [if_pos hk23] at hf
            obtain ⟨hm24, hf⟩ := xmoE hf
            have hFc := xm_free hD hS hA
            refine xx_thr (vx_runV (C := "ValueBenchModel") (As := [.int ((((xsi st 16) + (1 : Int32)) + (1 : Int32)) + (1 : Int32))]) (rest := []) ⟨hx, hb, hml, hown, htx⟩ (gM_bad_1 l hl9 D cT aK aV H.size n aM ad rd gd vad (xsI (xsI (xsI st 16 ((xsi st 16) + (1 : Int32))) 16 (((xsi st 16) + (1 : Int32)) + (1 : Int32))) 16 ((((xsi st 16) + (1 : Int32)) + (1 : Int32)) + (1 : Int32))) ((((xsi st 16) + (1 : Int32)) + (1 : Int32)) + (1 : Int32)) o21 hq22 hk23) ⟨callB_of 1 htx (xw_goodC kw_6_2) rfl rfl rfl (htx _ kw_1_5) (htx _ kw_5_239) ⟨by decide, by decide, by decide +kernel⟩ ⟨Nat.le_of_ble_eq_true rfl, Nat.le_of_ble_eq_true rfl⟩, (htx _ kw_6_1), (htx _ kp_M_bad)⟩ ⟨xPre_blind, va_recv hK hP (ci := 5) rfl (q0 := 0) rfl, (fun U hU hW => ⟨rfl, xPre_of hZ hS hFc hP hD hK U hU hW⟩)⟩ rfl rfl hl.1 rfl (xm_room (Nat.le_of_ble_eq_true rfl)) dM_says_27 ⟨hm24.1, hm24.2⟩) hS hFc (fun q _ h => hFc q h) (fun E ce q9 u9 t H1 locs ht hvm hr9 hB hz1 hk1 hS hce hcv hcl => ?_)
            obtain ⟨rfl, hP1, hK1, hD1⟩ := hB
            rw [ht] at hP1
            obtain ⟨ad26, gd27, vad28⟩ := u9
            obtain ⟨hv29, hn30⟩ := hr9
            have hP : va_P D xcl (xMw cT aM ad26 rd gd27 vad28 o21.2.2.2 []) H1 := hP1
            have hD : va_D A (xMw cT aM ad26 rd gd27 vad28 o21.2.2.2 []) := hD1.weaken (fun k q _ h => hFc q.1 h)
            generalize H1 = H at hP hS hce ⊢
            have hE9 : ∀ p, p < xct st → vad28 p = vad p := fun p h => (hv29 p (Nat.lt_of_lt_of_le h hN)).trans (hE p h)
            have hE := hE9
            have hN : xct st ≤ xct o21.2.2.2 := Nat.le_trans hN hn30
            obtain rfl := Option.some.inj hf
            exact vx_out (E := "java/lang/UnsupportedOperationException") (fun x h => (hne x h).elim) hlocks hce hcv hcl (fun t ht ha => ⟨(ad26, gd27, vad28), ⟨hE, hN⟩, ⟨rfl, by rw [ht]; exact hP, va_K.moved ha hK, hD⟩, hS.F ht⟩) hS.2.2 (Nat.le_refl _) (Nat.le_refl _)
          rw [if_neg hk23] at hf
          exact nomatch hf
      · rw [if_neg hc] at hf
        refine lv_aload_n hx hb dM_says_22 rfl (lv_at hl 1 rfl) ?_
        refine lv_aload_n hx hb dM_says_23 rfl (lv_at hl 1 rfl) ?_
        refine xm_get (v := .int (((xsi st 16) + (1 : Int32)) + (1 : Int32))) hx hb htx hown hK hP 16 (by decide) rfl (htx _ kw_5_103) rfl dM_says_24 ?_
        obtain ⟨o16, hq17, hf⟩ := xbind hf
        by_cases hk18 : o16.1 = 1
        · rw [if_pos hk18] at hf
          obtain ⟨hm19, hf⟩ := xmoE hf
          have hFc := xm_free hD hS hA
          refine xx_thr (vx_runV (C := "ValueBenchModel") (As := [.int (((xsi st 16) + (1 : Int32)) + (1 : Int32))]) (rest := []) ⟨hx, hb, hml, hown, htx⟩ (gM_bad_1 l hl9 D cT aK aV H.size n aM ad rd gd vad (xsI (xsI st 16 ((xsi st 16) + (1 : Int32))) 16 (((xsi st 16) + (1 : Int32)) + (1 : Int32))) (((xsi st 16) + (1 : Int32)) + (1 : Int32)) o16 hq17 hk18) ⟨callB_of 1 htx (xw_goodC kw_6_2) rfl rfl rfl (htx _ kw_1_5) (htx _ kw_5_239) ⟨by decide, by decide, by decide +kernel⟩ ⟨Nat.le_of_ble_eq_true rfl, Nat.le_of_ble_eq_true rfl⟩, (htx _ kw_6_1), (htx _ kp_M_bad)⟩ ⟨xPre_blind, va_recv hK hP (ci := 5) rfl (q0 := 0) rfl, (fun U hU hW => ⟨rfl, xPre_of hZ hS hFc hP hD hK U hU hW⟩)⟩ rfl rfl hl.1 rfl (xm_room (Nat.le_of_ble_eq_true rfl)) dM_says_27 ⟨hm19.1, hm19.2⟩) hS hFc (fun q _ h => hFc q h) (fun E ce q9 u9 t H1 locs ht hvm hr9 hB hz1 hk1 hS hce hcv hcl => ?_)
          obtain ⟨rfl, hP1, hK1, hD1⟩ := hB
          rw [ht] at hP1
          obtain ⟨ad21, gd22, vad23⟩ := u9
          obtain ⟨hv24, hn25⟩ := hr9
          have hP : va_P D xcl (xMw cT aM ad21 rd gd22 vad23 o16.2.2.2 []) H1 := hP1
          have hD : va_D A (xMw cT aM ad21 rd gd22 vad23 o16.2.2.2 []) := hD1.weaken (fun k q _ h => hFc q.1 h)
          generalize H1 = H at hP hS hce ⊢
          have hE9 : ∀ p, p < xct st → vad23 p = vad p := fun p h => (hv24 p (Nat.lt_of_lt_of_le h hN)).trans (hE p h)
          have hE := hE9
          have hN : xct st ≤ xct o16.2.2.2 := Nat.le_trans hN hn25
          obtain rfl := Option.some.inj hf
          exact vx_out (E := "java/lang/UnsupportedOperationException") (fun x h => (hne x h).elim) hlocks hce hcv hcl (fun t ht ha => ⟨(ad21, gd22, vad23), ⟨hE, hN⟩, ⟨rfl, by rw [ht]; exact hP, va_K.moved ha hK, hD⟩, hS.F ht⟩) hS.2.2 (Nat.le_refl _) (Nat.le_refl _)
        rw [if_neg hk18] at hf
        exact nomatch hf
    · rw [if_neg hc] at hf
      refine lv_aload_n hx hb dM_says_22 rfl (lv_at hl 1 rfl) ?_
      refine lv_aload_n hx hb dM_says_23 rfl (lv_at hl 1 rfl) ?_
      refine xm_get (v := .int ((xsi st 16) + (1 : Int32))) hx hb htx hown hK hP 16 (by decide) rfl (htx _ kw_5_103) rfl dM_says_24 ?_
      obtain ⟨o11, hq12, hf⟩ := xbind hf
      by_cases hk13 : o11.1 = 1
      · rw [if_pos hk13] at hf
        obtain ⟨hm14, hf⟩ := xmoE hf
        have hFc := xm_free hD hS hA
        refine xx_thr (vx_runV (C := "ValueBenchModel") (As := [.int ((xsi st 16) + (1 : Int32))]) (rest := []) ⟨hx, hb, hml, hown, htx⟩ (gM_bad_1 l hl9 D cT aK aV H.size n aM ad rd gd vad (xsI st 16 ((xsi st 16) + (1 : Int32))) ((xsi st 16) + (1 : Int32)) o11 hq12 hk13) ⟨callB_of 1 htx (xw_goodC kw_6_2) rfl rfl rfl (htx _ kw_1_5) (htx _ kw_5_239) ⟨by decide, by decide, by decide +kernel⟩ ⟨Nat.le_of_ble_eq_true rfl, Nat.le_of_ble_eq_true rfl⟩, (htx _ kw_6_1), (htx _ kp_M_bad)⟩ ⟨xPre_blind, va_recv hK hP (ci := 5) rfl (q0 := 0) rfl, (fun U hU hW => ⟨rfl, xPre_of hZ hS hFc hP hD hK U hU hW⟩)⟩ rfl rfl hl.1 rfl (xm_room (Nat.le_of_ble_eq_true rfl)) dM_says_27 ⟨hm14.1, hm14.2⟩) hS hFc (fun q _ h => hFc q h) (fun E ce q9 u9 t H1 locs ht hvm hr9 hB hz1 hk1 hS hce hcv hcl => ?_)
        obtain ⟨rfl, hP1, hK1, hD1⟩ := hB
        rw [ht] at hP1
        obtain ⟨ad16, gd17, vad18⟩ := u9
        obtain ⟨hv19, hn20⟩ := hr9
        have hP : va_P D xcl (xMw cT aM ad16 rd gd17 vad18 o11.2.2.2 []) H1 := hP1
        have hD : va_D A (xMw cT aM ad16 rd gd17 vad18 o11.2.2.2 []) := hD1.weaken (fun k q _ h => hFc q.1 h)
        generalize H1 = H at hP hS hce ⊢
        have hE9 : ∀ p, p < xct st → vad18 p = vad p := fun p h => (hv19 p (Nat.lt_of_lt_of_le h hN)).trans (hE p h)
        have hE := hE9
        have hN : xct st ≤ xct o11.2.2.2 := Nat.le_trans hN hn20
        obtain rfl := Option.some.inj hf
        exact vx_out (E := "java/lang/UnsupportedOperationException") (fun x h => (hne x h).elim) hlocks hce hcv hcl (fun t ht ha => ⟨(ad16, gd17, vad18), ⟨hE, hN⟩, ⟨rfl, by rw [ht]; exact hP, va_K.moved ha hK, hD⟩, hS.F ht⟩) hS.2.2 (Nat.le_refl _) (Nat.le_refl _)
      rw [if_neg hk13] at hf
      exact nomatch hf
  · rw [if_neg hc] at hf
    refine lv_aload_n hx hb dM_says_22 rfl (lv_at hl 1 rfl) ?_
    refine lv_aload_n hx hb dM_says_23 rfl (lv_at hl 1 rfl) ?_
    refine xm_get (v := .int (xsi st 16)) hx hb htx hown hK hP 16 (by decide) rfl (htx _ kw_5_103) rfl dM_says_24 ?_
    obtain ⟨o6, hq7, hf⟩ := xbind hf
    by_cases hk8 : o6.1 = 1
    · rw [if_pos hk8] at hf
      obtain ⟨hm9, hf⟩ := xmoE hf
      have hFc := xm_free hD hS hA
      refine xx_thr (vx_runV (C := "ValueBenchModel") (As := [.int (xsi st 16)]) (rest := []) ⟨hx, hb, hml, hown, htx⟩ (gM_bad_1 l hl9 D cT aK aV H.size n aM ad rd gd vad st (xsi st 16) o6 hq7 hk8) ⟨callB_of 1 htx (xw_goodC kw_6_2) rfl rfl rfl (htx _ kw_1_5) (htx _ kw_5_239) ⟨by decide, by decide, by decide +kernel⟩ ⟨Nat.le_of_ble_eq_true rfl, Nat.le_of_ble_eq_true rfl⟩, (htx _ kw_6_1), (htx _ kp_M_bad)⟩ ⟨xPre_blind, va_recv hK hP (ci := 5) rfl (q0 := 0) rfl, (fun U hU hW => ⟨rfl, xPre_of hZ hS hFc hP hD hK U hU hW⟩)⟩ rfl rfl hl.1 rfl (xm_room (Nat.le_of_ble_eq_true rfl)) dM_says_27 ⟨hm9.1, hm9.2⟩) hS hFc (fun q _ h => hFc q h) (fun E ce q9 u9 t H1 locs ht hvm hr9 hB hz1 hk1 hS hce hcv hcl => ?_)
      obtain ⟨rfl, hP1, hK1, hD1⟩ := hB
      rw [ht] at hP1
      obtain ⟨ad11, gd12, vad13⟩ := u9
      obtain ⟨hv14, hn15⟩ := hr9
      have hP : va_P D xcl (xMw cT aM ad11 rd gd12 vad13 o6.2.2.2 []) H1 := hP1
      have hD : va_D A (xMw cT aM ad11 rd gd12 vad13 o6.2.2.2 []) := hD1.weaken (fun k q _ h => hFc q.1 h)
      generalize H1 = H at hP hS hce ⊢
      have hE9 : ∀ p, p < xct st → vad13 p = vad p := fun p h => (hv14 p (Nat.lt_of_lt_of_le h hN)).trans (hE p h)
      have hE := hE9
      have hN : xct st ≤ xct o6.2.2.2 := Nat.le_trans hN hn15
      obtain rfl := Option.some.inj hf
      exact vx_out (E := "java/lang/UnsupportedOperationException") (fun x h => (hne x h).elim) hlocks hce hcv hcl (fun t ht ha => ⟨(ad11, gd12, vad13), ⟨hE, hN⟩, ⟨rfl, by rw [ht]; exact hP, va_K.moved ha hK, hD⟩, hS.F ht⟩) hS.2.2 (Nat.le_refl _) (Nat.le_refl _)
    rw [if_neg hk8] at hf
    exact nomatch hf
set_option maxHeartbeats 400000000 in
set_option maxRecDepth 100000 in
theorem gM_saysa (l : Launch) (hl9 : l.stackTraces = false) (D : va_G) (cT : Nat → ClassId) (aK aV : Nat → Nat) (sz n : Nat) (aM : Nat) (ad rd gd vad : Nat → Nat) (st : xS) (x1 : Int32) (out : Nat × Nat × Nat × Nat × xS) (hf : fM_saysa n st x1 = some out) (hkd : out.1 = 0) : xMet l yM_says wyM_says 7 out.2.1 out.2.2.1 121 D cT aK aV sz [.ref aM, .ref (aK 12), .int x1] (xMw cT aM ad rd gd vad st []) (fun A => va_Qq (fun (r : Option Nat) (u : xU) => r = xca u.2.2 out.2.2.2.1 ∧ xE vad st out.2.2.2.2 u) (fun u t => xB D xcl cT A (xMw cT aM u.1 rd u.2.1 u.2.2 out.2.2.2.2 []) t) A) := by
  refine Met.ofW (cc := prog_13_method_33_code) (maxL := 4) (ret := (some (.object "ValueBenchModel$V"))) (by decide) rfl ?_
  intro p e s m args below meth c s₁ B hml hv
  obtain ⟨rfl, hsz, hZ, hP, hK, hD0⟩ := hv
  have hx := B.exec
  have hb := B.bytes
  have hr := B.returns
  have hts := atoms_spec (ws := wyM_says) B.pre
  have htx := fun w h => hts w (List.mem_cons_of_mem _ h)
  have hown : s.vm.findClass "ValueBenchModel" = some m.cls := findClass_of_methodNamed B.named
  have hlocks := B.notSynchronized
  subst hsz
  have hD := hD0.self (sz := s.heap.size)
  generalize hAe : va_A (xMw cT aM ad rd gd vad st []) s.heap.size = A at hD hZ ⊢
  have hA : ∀ q : Nat, s.heap.size ≤ q → A q := fun q h => by rw [← hAe]; exact Or.inr h
  have hS : va_S A s.heap s.heap [] := va_S.rf
  have hl := lv_entry ([.ref aM, .ref (aK 12), .int x1]) (n := 4) (by simp [lg_sl, xvcat, xrscat, xcI, xcL, xcR, xcN])
  rw [show lv_args 0 [.ref aM, .ref (aK 12), .int x1] = [(0, .ref aM), (1, .ref (aK 12)), (2, .int x1)] from by simp [lv_args, xvcat, xrscat, xcI, xcL, xcR, xcN]] at hl
  rw [lg_entry_eq]
  generalize (lg_sl ([.ref aM, .ref (aK 12), .int x1]) ++ List.replicate (4 - (lg_sl ([.ref aM, .ref (aK 12), .int x1])).length) Slot.unset).toArray = ls at hl ⊢
  have hl : lv_has ls 4 [(0, .ref aM), (1, .ref (aK 12)), (2, .int x1)] := hl
  have hE : ∀ p, p < xct st → vad p = vad p := fun _ _ => rfl
  have hN : xct st ≤ xct st := Nat.le_refl _
  unfold fM_saysa at hf
  refine lv_iconst (v := 0) hx hb dM_says_0 (by decide) ?_
  refine lv_istore_n (lv' := [(3, .int 0), (0, .ref aM), (1, .ref (aK 12)), (2, .int x1)]) hx hb dM_says_1 rfl hl (by decide) rfl (fun ls hl => ?_)
  refine lv_iload_n hx hb dM_says_2 rfl (lv_at hl 0 rfl) ?_
  refine lv_aload_n hx hb dM_says_3 rfl (lv_at hl 2 rfl) ?_
  refine va_calli (va_runV (C := "java/lang/String") (As := []) (rest := [.int 0]) ⟨hx, hb, hml, hown, htx⟩ (cJS_length_2 l hl9 D cT aK aV s.heap.size) ⟨callB_of 0 htx (xw_goodC kw_2_70) rfl rfl rfl (htx _ kw_1_6) (htx _ kw_5_238) ⟨by decide, by decide, by decide +kernel⟩ ⟨Nat.le_of_ble_eq_true rfl, Nat.le_of_ble_eq_true rfl⟩, (htx _ kw_2_68), (htx _ kw_2_69)⟩ ⟨xPre_blind, vk_recv hZ.2.2.2.2.2.2.2.2.2.1 (i := 12) (by decide) hS, (fun U hU hW => ⟨rfl, xPre_of hZ hS (xm_free0 hS hA) xm_Pnil xm_Dnil hK U hU hW⟩)⟩ rfl rfl hl.1 rfl (lv_room (Nat.le_of_ble_eq_true rfl)) dM_says_4 ⟨(Nat.zero_le _), (Nat.zero_le _)⟩) hS (fun q _ h => xm_free0 hS hA q h) (xm_free0 hS hA) (fun r1 u9 t H1 locs ht hvm hr9 hB hz1 hk1 hS => ?_)
  replace hP := xm_keep hP hk1
  generalize H1 = H at hP hS ⊢
  rw [hr9]
  refine W.eq (g2 := F0 m 7 ls [.int 4, .int 0]) (by first | rfl | rw [xv1 (Nat.succ_ne_zero _)]) ?_
  refine lv_icmp_ge (tgt := 46) hx hb dM_says_7 (by decide) (fun h => ((by revert h; decide : False)).elim) (fun _ => ?_)
  refine lv_aload_n hx hb dM_says_10 rfl (lv_at hl 1 rfl) ?_
  obtain ⟨o2, hq3, hf⟩ := xbind hf
  have hFc := xm_free hD hS hA
  refine va_calli (va_runV (C := "ValueBenchModel") (As := []) (rest := []) ⟨hx, hb, hml, hown, htx⟩ (gM_peek l hl9 D cT aK aV H.size n aM ad rd gd vad st o2 hq3) ⟨callB_of 0 htx (xw_goodC kw_5_233) rfl rfl rfl (htx _ kw_1_5) (htx _ kw_5_230) ⟨by decide, by decide, by decide +kernel⟩ ⟨Nat.le_of_ble_eq_true rfl, Nat.le_of_ble_eq_true rfl⟩, (htx _ kw_5_232), (htx _ kp_M_peek)⟩ ⟨xPre_blind, va_recv hK hP (ci := 5) rfl (q0 := 0) rfl, (fun U hU hW => ⟨rfl, xPre_of hZ hS hFc hP hD hK U hU hW⟩)⟩ rfl rfl hl.1 rfl (xm_room (Nat.le_of_ble_eq_true rfl)) dM_says_11 ⟨Nat.zero_le _, Nat.zero_le _⟩) hS (fun q _ h => hFc q h) hFc (fun r4 u9 t H1 locs ht hvm hr9 hB hz1 hk1 hS => ?_)
  obtain ⟨hP1, hK1, hD1⟩ := hB
  rw [ht] at hP1
  have hP : va_P D xcl (xMw cT aM ad rd gd vad st []) H1 := hP1
  have hD : va_D A (xMw cT aM ad rd gd vad st []) := hD1.weaken (fun k q _ h => hFc q.1 h)
  generalize H1 = H at hP hS ⊢
  rw [hr9]
  refine W.eq (g2 := F0 m 14 ls [.int o2]) (by first | rfl | (skip; rfl)) ?_
  refine lv_aload_n hx hb dM_says_14 rfl (lv_at hl 2 rfl) ?_
  refine lv_iload_n hx hb dM_says_15 rfl (lv_at hl 0 rfl) ?_
  refine va_calli (va_runV (C := "java/lang/String") (As := [.int 0]) (rest := [.int o2]) ⟨hx, hb, hml, hown, htx⟩ (cJS_charAt_9 l hl9 D cT aK aV H.size) ⟨callB_of 1 htx (xw_goodC kw_2_80) rfl rfl rfl (htx _ kw_1_6) (htx _ kw_5_86) ⟨by decide, by decide, by decide +kernel⟩ ⟨Nat.le_of_ble_eq_true rfl, Nat.le_of_ble_eq_true rfl⟩, (htx _ kw_2_78), (htx _ kw_2_79)⟩ ⟨xPre_blind, vk_recv hZ.2.2.2.2.2.2.2.2.2.1 (i := 12) (by decide) hS, (fun U hU hW => ⟨rfl, xPre_of hZ hS (xm_free0 hS hA) xm_Pnil xm_Dnil hK U hU hW⟩)⟩ rfl rfl hl.1 rfl (lv_room (Nat.le_of_ble_eq_true rfl)) dM_says_16 ⟨(Nat.zero_le _), (Nat.zero_le _)⟩) hS (fun q _ h => xm_free0 hS hA q h) (xm_free0 hS hA) (fun r5 u9 t H1 locs ht hvm hr9 hB hz1 hk1 hS => ?_)
  replace hP := xm_keep hP hk1
  generalize H1 = H at hP hS ⊢
  rw [hr9]
  refine W.eq (g2 := F0 m 19 ls [.int 116, .int o2]) (by first | rfl | rw [xv1 (Nat.succ_ne_zero _)]) ?_
  refine lv_icmp_eq (tgt := 30) hx hb dM_says_19 (by decide) (fun hc => ?_) (fun hc => ?_)
  · rw [if_pos hc] at hf
    refine lv_aload_n hx hb dM_says_30 rfl (lv_at hl 1 rfl) ?_
    refine lv_dup hx hb dM_says_31 rfl ?_
    refine xm_get (v := .int (xsi st 16)) hx hb htx hown hK hP 16 (by decide) rfl (htx _ kw_5_103) rfl dM_says_32 ?_
    refine lv_iconst (v := 1) hx hb dM_says_35 (by decide) ?_
    refine lv_iadd hx hb dM_says_36 ?_
    refine xm_put (v := .int ((xsi st 16) + (1 : Int32))) (W' := (xMw cT aM ad rd gd vad (xsI st 16 ((xsi st 16) + (1 : Int32))) [])) (ty := .int) hx hb htx hown hK hP hD hS 16 (by decide) rfl (htx _ kw_5_103) rfl rfl (by decide +kernel) rfl rfl dM_says_37 (fun H locs hP hD hS => ?_)
    refine lv_iinc (v := 1) (lv' := [(3, .int 1), (0, .ref aM), (1, .ref (aK 12)), (2, .int x1)]) hx hb dM_says_40 hl (k := 0) rfl rfl (by decide) rfl (fun ls hl => ?_)
    refine lv_goto (tgt := 2) hx hb dM_says_43 (by decide) ?_
    refine lv_iload_n hx hb dM_says_2 rfl (lv_at hl 0 rfl) ?_
    refine lv_aload_n hx hb dM_says_3 rfl (lv_at hl 2 rfl) ?_
    refine va_calli (va_runV (C := "java/lang/String") (As := []) (rest := [.int 1]) ⟨hx, hb, hml, hown, htx⟩ (cJS_length_2 l hl9 D cT aK aV H.size) ⟨callB_of 0 htx (xw_goodC kw_2_70) rfl rfl rfl (htx _ kw_1_6) (htx _ kw_5_238) ⟨by decide, by decide, by decide +kernel⟩ ⟨Nat.le_of_ble_eq_true rfl, Nat.le_of_ble_eq_true rfl⟩, (htx _ kw_2_68), (htx _ kw_2_69)⟩ ⟨xPre_blind, vk_recv hZ.2.2.2.2.2.2.2.2.2.1 (i := 12) (by decide) hS, (fun U hU hW => ⟨rfl, xPre_of hZ hS (xm_free0 hS hA) xm_Pnil xm_Dnil hK U hU hW⟩)⟩ rfl rfl hl.1 rfl (lv_room (Nat.le_of_ble_eq_true rfl)) dM_says_4 ⟨(Nat.zero_le _), (Nat.zero_le _)⟩) hS (fun q _ h => xm_free0 hS hA q h) (xm_free0 hS hA) (fun r6 u9 t H1 locs ht hvm hr9 hB hz1 hk1 hS => ?_)
    replace hP := xm_keep hP hk1
    generalize H1 = H at hP hS ⊢
    rw [hr9]
    refine W.eq (g2 := F0 m 7 ls [.int 4, .int 1]) (by first | rfl | rw [xv1 (Nat.succ_ne_zero _)]) ?_
    refine lv_icmp_ge (tgt := 46) hx hb dM_says_7 (by decide) (fun h => ((by revert h; decide : False)).elim) (fun _ => ?_)
    refine lv_aload_n hx hb dM_says_10 rfl (lv_at hl 1 rfl) ?_
    obtain ⟨o7, hq8, hf⟩ := xbind hf
    have hFc := xm_free hD hS hA
    refine va_calli (va_runV (C := "ValueBenchModel") (As := []) (rest := []) ⟨hx, hb, hml, hown, htx⟩ (gM_peek l hl9 D cT aK aV H.size n aM ad rd gd vad (xsI st 16 ((xsi st 16) + (1 : Int32))) o7 hq8) ⟨callB_of 0 htx (xw_goodC kw_5_233) rfl rfl rfl (htx _ kw_1_5) (htx _ kw_5_230) ⟨by decide, by decide, by decide +kernel⟩ ⟨Nat.le_of_ble_eq_true rfl, Nat.le_of_ble_eq_true rfl⟩, (htx _ kw_5_232), (htx _ kp_M_peek)⟩ ⟨xPre_blind, va_recv hK hP (ci := 5) rfl (q0 := 0) rfl, (fun U hU hW => ⟨rfl, xPre_of hZ hS hFc hP hD hK U hU hW⟩)⟩ rfl rfl hl.1 rfl (xm_room (Nat.le_of_ble_eq_true rfl)) dM_says_11 ⟨Nat.zero_le _, Nat.zero_le _⟩) hS (fun q _ h => hFc q h) hFc (fun r9 u9 t H1 locs ht hvm hr9 hB hz1 hk1 hS => ?_)
    obtain ⟨hP1, hK1, hD1⟩ := hB
    rw [ht] at hP1
    have hP : va_P D xcl (xMw cT aM ad rd gd vad (xsI st 16 ((xsi st 16) + (1 : Int32))) []) H1 := hP1
    have hD : va_D A (xMw cT aM ad rd gd vad (xsI st 16 ((xsi st 16) + (1 : Int32))) []) := hD1.weaken (fun k q _ h => hFc q.1 h)
    generalize H1 = H at hP hS ⊢
    rw [hr9]
    refine W.eq (g2 := F0 m 14 ls [.int o7]) (by first | rfl | (skip; rfl)) ?_
    refine lv_aload_n hx hb dM_says_14 rfl (lv_at hl 2 rfl) ?_
    refine lv_iload_n hx hb dM_says_15 rfl (lv_at hl 0 rfl) ?_
    refine va_calli (va_runV (C := "java/lang/String") (As := [.int 1]) (rest := [.int o7]) ⟨hx, hb, hml, hown, htx⟩ (cJS_charAt_10 l hl9 D cT aK aV H.size) ⟨callB_of 1 htx (xw_goodC kw_2_80) rfl rfl rfl (htx _ kw_1_6) (htx _ kw_5_86) ⟨by decide, by decide, by decide +kernel⟩ ⟨Nat.le_of_ble_eq_true rfl, Nat.le_of_ble_eq_true rfl⟩, (htx _ kw_2_78), (htx _ kw_2_79)⟩ ⟨xPre_blind, vk_recv hZ.2.2.2.2.2.2.2.2.2.1 (i := 12) (by decide) hS, (fun U hU hW => ⟨rfl, xPre_of hZ hS (xm_free0 hS hA) xm_Pnil xm_Dnil hK U hU hW⟩)⟩ rfl rfl hl.1 rfl (lv_room (Nat.le_of_ble_eq_true rfl)) dM_says_16 ⟨(Nat.zero_le _), (Nat.zero_le _)⟩) hS (fun q _ h => xm_free0 hS hA q h) (xm_free0 hS hA) (fun r10 u9 t H1 locs ht hvm hr9 hB hz1 hk1 hS => ?_)
    replace hP := xm_keep hP hk1
    generalize H1 = H at hP hS ⊢
    rw [hr9]
    refine W.eq (g2 := F0 m 19 ls [.int 114, .int o7]) (by first | rfl | rw [xv1 (Nat.succ_ne_zero _)]) ?_
    refine lv_icmp_eq (tgt := 30) hx hb dM_says_19 (by decide) (fun hc => ?_) (fun hc => ?_)
    · rw [if_pos hc] at hf
      refine lv_aload_n hx hb dM_says_30 rfl (lv_at hl 1 rfl) ?_
      refine lv_dup hx hb dM_says_31 rfl ?_
      refine xm_get (v := .int ((xsi st 16) + (1 : Int32))) hx hb htx hown hK hP 16 (by decide) rfl (htx _ kw_5_103) rfl dM_says_32 ?_
      refine lv_iconst (v := 1) hx hb dM_says_35 (by decide) ?_
      refine lv_iadd hx hb dM_says_36 ?_
      refine xm_put (v := .int (((xsi st 16) + (1 : Int32)) + (1 : Int32))) (W' := (xMw cT aM ad rd gd vad (xsI (xsI st 16 ((xsi st 16) + (1 : Int32))) 16 (((xsi st 16) + (1 : Int32)) + (1 : Int32))) [])) (ty := .int) hx hb htx hown hK hP hD hS 16 (by decide) rfl (htx _ kw_5_103) rfl rfl (by decide +kernel) rfl rfl dM_says_37 (fun H locs hP hD hS => ?_)
      refine lv_iinc (v := 2) (lv' := [(3, .int 2), (0, .ref aM), (1, .ref (aK 12)), (2, .int x1)]) hx hb dM_says_40 hl (k := 0) rfl rfl (by decide) rfl (fun ls hl => ?_)
      refine lv_goto (tgt := 2) hx hb dM_says_43 (by decide) ?_
      refine lv_iload_n hx hb dM_says_2 rfl (lv_at hl 0 rfl) ?_
      refine lv_aload_n hx hb dM_says_3 rfl (lv_at hl 2 rfl) ?_
      refine va_calli (va_runV (C := "java/lang/String") (As := []) (rest := [.int 2]) ⟨hx, hb, hml, hown, htx⟩ (cJS_length_2 l hl9 D cT aK aV H.size) ⟨callB_of 0 htx (xw_goodC kw_2_70) rfl rfl rfl (htx _ kw_1_6) (htx _ kw_5_238) ⟨by decide, by decide, by decide +kernel⟩ ⟨Nat.le_of_ble_eq_true rfl, Nat.le_of_ble_eq_true rfl⟩, (htx _ kw_2_68), (htx _ kw_2_69)⟩ ⟨xPre_blind, vk_recv hZ.2.2.2.2.2.2.2.2.2.1 (i := 12) (by decide) hS, (fun U hU hW => ⟨rfl, xPre_of hZ hS (xm_free0 hS hA) xm_Pnil xm_Dnil hK U hU hW⟩)⟩ rfl rfl hl.1 rfl (lv_room (Nat.le_of_ble_eq_true rfl)) dM_says_4 ⟨(Nat.zero_le _), (Nat.zero_le _)⟩) hS (fun q _ h => xm_free0 hS hA q h) (xm_free0 hS hA) (fun r11 u9 t H1 locs ht hvm hr9 hB hz1 hk1 hS => ?_)
      replace hP := xm_keep hP hk1
      generalize H1 = H at hP hS ⊢
      rw [hr9]
      refine W.eq (g2 := F0 m 7 ls [.int 4, .int 2]) (by first | rfl | rw [xv1 (Nat.succ_ne_zero _)]) ?_
      refine lv_icmp_ge (tgt := 46) hx hb dM_says_7 (by decide) (fun h => ((by revert h; decide : False)).elim) (fun _ => ?_)
      refine lv_aload_n hx hb dM_says_10 rfl (lv_at hl 1 rfl) ?_
      obtain ⟨o12, hq13, hf⟩ := xbind hf
      have hFc := xm_free hD hS hA
      refine va_calli (va_runV (C := "ValueBenchModel") (As := []) (rest := []) ⟨hx, hb, hml, hown, htx⟩ (gM_peek l hl9 D cT aK aV H.size n aM ad rd gd vad (xsI (xsI st 16 ((xsi st 16) + (1 : Int32))) 16 (((xsi st 16) + (1 : Int32)) + (1 : Int32))) o12 hq13) ⟨callB_of 0 htx (xw_goodC kw_5_233) rfl rfl rfl (htx _ kw_1_5) (htx _ kw_5_230) ⟨by decide, by decide, by decide +kernel⟩ ⟨Nat.le_of_ble_eq_true rfl, Nat.le_of_ble_eq_true rfl⟩, (htx _ kw_5_232), (htx _ kp_M_peek)⟩ ⟨xPre_blind, va_recv hK hP (ci := 5) rfl (q0 := 0) rfl, (fun U hU hW => ⟨rfl, xPre_of hZ hS hFc hP hD hK U hU hW⟩)⟩ rfl rfl hl.1 rfl (xm_room (Nat.le_of_ble_eq_true rfl)) dM_says_11 ⟨Nat.zero_le _, Nat.zero_le _⟩) hS (fun q _ h => hFc q h) hFc (fun r14 u9 t H1 locs ht hvm hr9 hB hz1 hk1 hS => ?_)
      obtain ⟨hP1, hK1, hD1⟩ := hB
      rw [ht] at hP1
      have hP : va_P D xcl (xMw cT aM ad rd gd vad (xsI (xsI st 16 ((xsi st 16) + (1 : Int32))) 16 (((xsi st 16) + (1 : Int32)) + (1 : Int32))) []) H1 := hP1
      have hD : va_D A (xMw cT aM ad rd gd vad (xsI (xsI st 16 ((xsi st 16) + (1 : Int32))) 16 (((xsi st 16) + (1 : Int32)) + (1 : Int32))) []) := hD1.weaken (fun k q _ h => hFc q.1 h)
      generalize H1 = H at hP hS ⊢
      rw [hr9]
      refine W.eq (g2 := F0 m 14 ls [.int o12]) (by first | rfl | (skip; rfl)) ?_
      refine lv_aload_n hx hb dM_says_14 rfl (lv_at hl 2 rfl) ?_
      refine lv_iload_n hx hb dM_says_15 rfl (lv_at hl 0 rfl) ?_
      refine va_calli (va_runV (C := "java/lang/String") (As := [.int 2]) (rest := [.int o12]) ⟨hx, hb, hml, hown, htx⟩ (cJS_charAt_11 l hl9 D cT aK aV H.size) ⟨callB_of 1 htx (xw_goodC kw_2_80) rfl rfl rfl (htx _ kw_1_6) (htx _ kw_5_86) ⟨by decide, by decide, by decide +kernel⟩ ⟨Nat.le_of_ble_eq_true rfl, Nat.le_of_ble_eq_true rfl⟩, (htx _ kw_2_78), (htx _ kw_2_79)⟩ ⟨xPre_blind, vk_recv hZ.2.2.2.2.2.2.2.2.2.1 (i := 12) (by decide) hS, (fun U hU hW => ⟨rfl, xPre_of hZ hS (xm_free0 hS hA) xm_Pnil xm_Dnil hK U hU hW⟩)⟩ rfl rfl hl.1 rfl (lv_room (Nat.le_of_ble_eq_true rfl)) dM_says_16 ⟨(Nat.zero_le _), (Nat.zero_le _)⟩) hS (fun q _ h => xm_free0 hS hA q h) (xm_free0 hS hA) (fun r15 u9 t H1 locs ht hvm hr9 hB hz1 hk1 hS => ?_)
      replace hP := xm_keep hP hk1
      generalize H1 = H at hP hS ⊢
      rw [hr9]
      refine W.eq (g2 := F0 m 19 ls [.int 117, .int o12]) (by first | rfl | rw [xv1 (Nat.succ_ne_zero _)]) ?_
      refine lv_icmp_eq (tgt := 30) hx hb dM_says_19 (by decide) (fun hc => ?_) (fun hc => ?_)
      · rw [if_pos hc] at hf
        refine lv_aload_n hx hb dM_says_30 rfl (lv_at hl 1 rfl) ?_
        refine lv_dup hx hb dM_says_31 rfl ?_
        refine xm_get (v := .int (((xsi st 16) + (1 : Int32)) + (1 : Int32))) hx hb htx hown hK hP 16 (by decide) rfl (htx _ kw_5_103) rfl dM_says_32 ?_
        refine lv_iconst (v := 1) hx hb dM_says_35 (by decide) ?_
        refine lv_iadd hx hb dM_says_36 ?_
        refine xm_put (v := .int ((((xsi st 16) + (1 : Int32)) + (1 : Int32)) + (1 : Int32))) (W' := (xMw cT aM ad rd gd vad (xsI (xsI (xsI st 16 ((xsi st 16) + (1 : Int32))) 16 (((xsi st 16) + (1 : Int32)) + (1 : Int32))) 16 ((((xsi st 16) + (1 : Int32)) + (1 : Int32)) + (1 : Int32))) [])) (ty := .int) hx hb htx hown hK hP hD hS 16 (by decide) rfl (htx _ kw_5_103) rfl rfl (by decide +kernel) rfl rfl dM_says_37 (fun H locs hP hD hS => ?_)
        refine lv_iinc (v := 3) (lv' := [(3, .int 3), (0, .ref aM), (1, .ref (aK 12)), (2, .int x1)]) hx hb dM_says_40 hl (k := 0) rfl rfl (by decide) rfl (fun ls hl => ?_)
        refine lv_goto (tgt := 2) hx hb dM_says_43 (by decide) ?_
        refine lv_iload_n hx hb dM_says_2 rfl (lv_at hl 0 rfl) ?_
        refine lv_aload_n hx hb dM_says_3 rfl (lv_at hl 2 rfl) ?_
        refine va_calli (va_runV (C := "java/lang/String") (As := []) (rest := [.int 3]) ⟨hx, hb, hml, hown, htx⟩ (cJS_length_2 l hl9 D cT aK aV H.size) ⟨callB_of 0 htx (xw_goodC kw_2_70) rfl rfl rfl (htx _ kw_1_6) (htx _ kw_5_238) ⟨by decide, by decide, by decide +kernel⟩ ⟨Nat.le_of_ble_eq_true rfl, Nat.le_of_ble_eq_true rfl⟩, (htx _ kw_2_68), (htx _ kw_2_69)⟩ ⟨xPre_blind, vk_recv hZ.2.2.2.2.2.2.2.2.2.1 (i := 12) (by decide) hS, (fun U hU hW => ⟨rfl, xPre_of hZ hS (xm_free0 hS hA) xm_Pnil xm_Dnil hK U hU hW⟩)⟩ rfl rfl hl.1 rfl (lv_room (Nat.le_of_ble_eq_true rfl)) dM_says_4 ⟨(Nat.zero_le _), (Nat.zero_le _)⟩) hS (fun q _ h => xm_free0 hS hA q h) (xm_free0 hS hA) (fun r16 u9 t H1 locs ht hvm hr9 hB hz1 hk1 hS => ?_)
        replace hP := xm_keep hP hk1
        generalize H1 = H at hP hS ⊢
        rw [hr9]
        refine W.eq (g2 := F0 m 7 ls [.int 4, .int 3]) (by first | rfl | rw [xv1 (Nat.succ_ne_zero _)]) ?_
        refine lv_icmp_ge (tgt := 46) hx hb dM_says_7 (by decide) (fun h => ((by revert h; decide : False)).elim) (fun _ => ?_)
        refine lv_aload_n hx hb dM_says_10 rfl (lv_at hl 1 rfl) ?_
        obtain ⟨o17, hq18, hf⟩ := xbind hf
        have hFc := xm_free hD hS hA
        refine va_calli (va_runV (C := "ValueBenchModel") (As := []) (rest := []) ⟨hx, hb, hml, hown, htx⟩ (gM_peek l hl9 D cT aK aV H.size n aM ad rd gd vad (xsI (xsI (xsI st 16 ((xsi st 16) + (1 : Int32))) 16 (((xsi st 16) + (1 : Int32)) + (1 : Int32))) 16 ((((xsi st 16) + (1 : Int32)) + (1 : Int32)) + (1 : Int32))) o17 hq18) ⟨callB_of 0 htx (xw_goodC kw_5_233) rfl rfl rfl (htx _ kw_1_5) (htx _ kw_5_230) ⟨by decide, by decide, by decide +kernel⟩ ⟨Nat.le_of_ble_eq_true rfl, Nat.le_of_ble_eq_true rfl⟩, (htx _ kw_5_232), (htx _ kp_M_peek)⟩ ⟨xPre_blind, va_recv hK hP (ci := 5) rfl (q0 := 0) rfl, (fun U hU hW => ⟨rfl, xPre_of hZ hS hFc hP hD hK U hU hW⟩)⟩ rfl rfl hl.1 rfl (xm_room (Nat.le_of_ble_eq_true rfl)) dM_says_11 ⟨Nat.zero_le _, Nat.zero_le _⟩) hS (fun q _ h => hFc q h) hFc (fun r19 u9 t H1 locs ht hvm hr9 hB hz1 hk1 hS => ?_)
        obtain ⟨hP1, hK1, hD1⟩ := hB
        rw [ht] at hP1
        have hP : va_P D xcl (xMw cT aM ad rd gd vad (xsI (xsI (xsI st 16 ((xsi st 16) + (1 : Int32))) 16 (((xsi st 16) + (1 : Int32)) + (1 : Int32))) 16 ((((xsi st 16) + (1 : Int32)) + (1 : Int32)) + (1 : Int32))) []) H1 := hP1
        have hD : va_D A (xMw cT aM ad rd gd vad (xsI (xsI (xsI st 16 ((xsi st 16) + (1 : Int32))) 16 (((xsi st 16) + (1 : Int32)) + (1 : Int32))) 16 ((((xsi st 16) + (1 : Int32)) + (1 : Int32)) + (1 : Int32))) []) := hD1.weaken (fun k q _ h => hFc q.1 h)
        generalize H1 = H at hP hS ⊢
        rw [hr9]
        refine W.eq (g2 := F0 m 14 ls [.int o17]) (by first | rfl | (skip; rfl)) ?_
        refine lv_aload_n hx hb dM_says_14 rfl (lv_at hl 2 rfl) ?_
        refine lv_iload_n hx hb dM_says_15 rfl (lv_at hl 0 rfl) ?_
        refine va_calli (va_runV (C := "java/lang/String") (As := [.int 3]) (rest := [.int o17]) ⟨hx, hb, hml, hown, htx⟩ (cJS_charAt_12 l hl9 D cT aK aV H.size) ⟨callB_of 1 htx (xw_goodC kw_2_80) rfl rfl rfl (htx _ kw_1_6) (htx _ kw_5_86) ⟨by decide, by decide, by decide +kernel⟩ ⟨Nat.le_of_ble_eq_true rfl, Nat.le_of_ble_eq_true rfl⟩, (htx _ kw_2_78), (htx _ kw_2_79)⟩ ⟨xPre_blind, vk_recv hZ.2.2.2.2.2.2.2.2.2.1 (i := 12) (by decide) hS, (fun U hU hW => ⟨rfl, xPre_of hZ hS (xm_free0 hS hA) xm_Pnil xm_Dnil hK U hU hW⟩)⟩ rfl rfl hl.1 rfl (lv_room (Nat.le_of_ble_eq_true rfl)) dM_says_16 ⟨(Nat.zero_le _), (Nat.zero_le _)⟩) hS (fun q _ h => xm_free0 hS hA q h) (xm_free0 hS hA) (fun r20 u9 t H1 locs ht hvm hr9 hB hz1 hk1 hS => ?_)
        replace hP := xm_keep hP hk1
        generalize H1 = H at hP hS ⊢
        rw [hr9]
        refine W.eq (g2 := F0 m 19 ls [.int 101, .int o17]) (by first | rfl | rw [xv1 (Nat.succ_ne_zero _)]) ?_
        refine lv_icmp_eq (tgt := 30) hx hb dM_says_19 (by decide) (fun hc => ?_) (fun hc => ?_)
        · rw [if_pos hc] at hf
          refine lv_aload_n hx hb dM_says_30 rfl (lv_at hl 1 rfl) ?_
          refine lv_dup hx hb dM_says_31 rfl ?_
          refine xm_get (v := .int ((((xsi st 16) + (1 : Int32)) + (1 : Int32)) + (1 : Int32))) hx hb htx hown hK hP 16 (by decide) rfl (htx _ kw_5_103) rfl dM_says_32 ?_
          refine lv_iconst (v := 1) hx hb dM_says_35 (by decide) ?_
          refine lv_iadd hx hb dM_says_36 ?_
          refine xm_put (v := .int (((((xsi st 16) + (1 : Int32)) + (1 : Int32)) + (1 : Int32)) + (1 : Int32))) (W' := (xMw cT aM ad rd gd vad (xsI (xsI (xsI (xsI st 16 ((xsi st 16) + (1 : Int32))) 16 (((xsi st 16) + (1 : Int32)) + (1 : Int32))) 16 ((((xsi st 16) + (1 : Int32)) + (1 : Int32)) + (1 : Int32))) 16 (((((xsi st 16) + (1 : Int32)) + (1 : Int32)) + (1 : Int32)) + (1 : Int32))) [])) (ty := .int) hx hb htx hown hK hP hD hS 16 (by decide) rfl (htx _ kw_5_103) rfl rfl (by decide +kernel) rfl rfl dM_says_37 (fun H locs hP hD hS => ?_)
          refine lv_iinc (v := 4) (lv' := [(3, .int 4), (0, .ref aM), (1, .ref (aK 12)), (2, .int x1)]) hx hb dM_says_40 hl (k := 0) rfl rfl (by decide) rfl (fun ls hl => ?_)
          refine lv_goto (tgt := 2) hx hb dM_says_43 (by decide) ?_
          refine lv_iload_n hx hb dM_says_2 rfl (lv_at hl 0 rfl) ?_
          refine lv_aload_n hx hb dM_says_3 rfl (lv_at hl 2 rfl) ?_
          refine va_calli (va_runV (C := "java/lang/String") (As := []) (rest := [.int 4]) ⟨hx, hb, hml, hown, htx⟩ (cJS_length_2 l hl9 D cT aK aV H.size) ⟨callB_of 0 htx (xw_goodC kw_2_70) rfl rfl rfl (htx _ kw_1_6) (htx _ kw_5_238) ⟨by decide, by decide, by decide +kernel⟩ ⟨Nat.le_of_ble_eq_true rfl, Nat.le_of_ble_eq_true rfl⟩, (htx _ kw_2_68), (htx _ kw_2_69)⟩ ⟨xPre_blind, vk_recv hZ.2.2.2.2.2.2.2.2.2.1 (i := 12) (by decide) hS, (fun U hU hW => ⟨rfl, xPre_of hZ hS (xm_free0 hS hA) xm_Pnil xm_Dnil hK U hU hW⟩)⟩ rfl rfl hl.1 rfl (lv_room (Nat.le_of_ble_eq_true rfl)) dM_says_4 ⟨(Nat.zero_le _), (Nat.zero_le _)⟩) hS (fun q _ h => xm_free0 hS hA q h) (xm_free0 hS hA) (fun r21 u9 t H1 locs ht hvm hr9 hB hz1 hk1 hS => ?_)
          replace hP := xm_keep hP hk1
          generalize H1 = H at hP hS ⊢
          rw [hr9]
          refine W.eq (g2 := F0 m 7 ls [.int 4, .int 4]) (by first | rfl | rw [xv1 (Nat.succ_ne_zero _)]) ?_
          refine lv_icmp_ge (tgt := 46) hx hb dM_says_7 (by decide) (fun _ => ?_) (fun h => ((by revert h; decide : False)).elim)
          refine lv_aload_n hx hb dM_says_46 rfl (lv_at hl 1 rfl) ?_
          refine lv_iload_n hx hb dM_says_47 rfl (lv_at hl 3 rfl) ?_
          obtain ⟨o22, hq23, hf⟩ := xbind hf
          obtain ⟨hm24, hf⟩ := xmoE hf
          have hFc := xm_free hD hS hA
          refine va_callq (va_runV (C := "ValueBenchModel") (As := [.int x1]) (rest := []) ⟨hx, hb, hml, hown, htx⟩ (gM_fresh l hl9 D cT aK aV H.size n aM ad rd gd vad (xsI (xsI (xsI (xsI st 16 ((xsi st 16) + (1 : Int32))) 16 (((xsi st 16) + (1 : Int32)) + (1 : Int32))) 16 ((((xsi st 16) + (1 : Int32)) + (1 : Int32)) + (1 : Int32))) 16 (((((xsi st 16) + (1 : Int32)) + (1 : Int32)) + (1 : Int32)) + (1 : Int32))) x1 o22 hq23) ⟨callB_of 1 htx (xw_goodC kw_6_16) rfl rfl rfl (htx _ kw_1_5) (htx _ kw_6_13) ⟨by decide, by decide, by decide +kernel⟩ ⟨Nat.le_of_ble_eq_true rfl, Nat.le_of_ble_eq_true rfl⟩, (htx _ kw_6_15), (htx _ kp_M_fresh)⟩ ⟨xPre_blind, va_recv hK hP (ci := 5) rfl (q0 := 0) rfl, (fun U hU hW => ⟨rfl, xPre_of hZ hS hFc hP hD hK U hU hW⟩)⟩ rfl rfl hl.1 rfl (xm_room (Nat.le_of_ble_eq_true rfl)) dM_says_48 ⟨hm24.1, hm24.2⟩) hS (fun q _ h => hFc q h) hFc (fun r25 u9 t H1 locs ht hvm hr9 hB hz1 hk1 hS => ?_)
          obtain ⟨hP1, hK1, hD1⟩ := hB
          rw [ht] at hP1
          obtain ⟨ad26, gd27, vad28⟩ := u9
          obtain ⟨hr9, hv29, hn30⟩ := hr9
          have hP : va_P D xcl (xMw cT aM ad26 rd gd27 vad28 o22.2.2.2 []) H1 := hP1
          have hD : va_D A (xMw cT aM ad26 rd gd27 vad28 o22.2.2.2 []) := hD1.weaken (fun k q _ h => hFc q.1 h)
          generalize H1 = H at hP hS ⊢
          have hE9 : ∀ p, p < xct st → vad28 p = vad p := fun p h => (hv29 p (Nat.lt_of_lt_of_le h hN)).trans (hE p h)
          have hE := hE9
          have hN : xct st ≤ xct o22.2.2.2 := Nat.le_trans hN hn30
          rw [hr9]
          refine W.eq (g2 := F0 m 51 ls [xv vad28 o22.2.2.1]) (by first | rfl | (skip; rfl)) ?_
          obtain rfl := Option.some.inj hf
          exact W.aret (v := xv vad28 o22.2.2.1) hx hb hr (Or.inl ⟨_, rfl⟩) (xvor _ _) (fun t ht hW => ⟨⟨xca vad28 o22.2.2.1, (ad26, gd27, vad28), rfl, ⟨rfl, hE, hN⟩, by rw [ht]; exact hP, va_K.moved hW.alike hK, hD⟩, hS.F ht⟩) hS.2.2 dM_says_51
        · rw [if_neg hc] at hf
          refine lv_aload_n hx hb dM_says_22 rfl (lv_at hl 1 rfl) ?_
          refine lv_aload_n hx hb dM_says_23 rfl (lv_at hl 1 rfl) ?_
          refine xm_get (v := .int ((((xsi st 16) + (1 : Int32)) + (1 : Int32)) + (1 : Int32))) hx hb htx hown hK hP 16 (by decide) rfl (htx _ kw_5_103) rfl dM_says_24 ?_
          obtain ⟨o21, hq22, hf⟩ := xbind hf
          by_cases hk23 : o21.1 = 1
          · rw [if_pos hk23] at hf
            obtain ⟨hm24, hf⟩ := xmoE hf
            obtain rfl := Option.some.inj hf
            exact absurd (show (1 : Nat) = 0 from hkd) (by decide)
          rw [if_neg hk23] at hf
          exact nomatch hf
      · rw [if_neg hc] at hf
        refine lv_aload_n hx hb dM_says_22 rfl (lv_at hl 1 rfl) ?_
        refine lv_aload_n hx hb dM_says_23 rfl (lv_at hl 1 rfl) ?_
        refine xm_get (v := .int (((xsi st 16) + (1 : Int32)) + (1 : Int32))) hx hb htx hown hK hP 16 (by decide) rfl (htx _ kw_5_103) rfl dM_says_24 ?_
        obtain ⟨o16, hq17, hf⟩ := xbind hf
        by_cases hk18 : o16.1 = 1
        · rw [if_pos hk18] at hf
          obtain ⟨hm19, hf⟩ := xmoE hf
          obtain rfl := Option.some.inj hf
          exact absurd (show (1 : Nat) = 0 from hkd) (by decide)
        rw [if_neg hk18] at hf
        exact nomatch hf
    · rw [if_neg hc] at hf
      refine lv_aload_n hx hb dM_says_22 rfl (lv_at hl 1 rfl) ?_
      refine lv_aload_n hx hb dM_says_23 rfl (lv_at hl 1 rfl) ?_
      refine xm_get (v := .int ((xsi st 16) + (1 : Int32))) hx hb htx hown hK hP 16 (by decide) rfl (htx _ kw_5_103) rfl dM_says_24 ?_
      obtain ⟨o11, hq12, hf⟩ := xbind hf
      by_cases hk13 : o11.1 = 1
      · rw [if_pos hk13] at hf
        obtain ⟨hm14, hf⟩ := xmoE hf
        obtain rfl := Option.some.inj hf
        exact absurd (show (1 : Nat) = 0 from hkd) (by decide)
      rw [if_neg hk13] at hf
      exact nomatch hf
  · rw [if_neg hc] at hf
    refine lv_aload_n hx hb dM_says_22 rfl (lv_at hl 1 rfl) ?_
    refine lv_aload_n hx hb dM_says_23 rfl (lv_at hl 1 rfl) ?_
    refine xm_get (v := .int (xsi st 16)) hx hb htx hown hK hP 16 (by decide) rfl (htx _ kw_5_103) rfl dM_says_24 ?_
    obtain ⟨o6, hq7, hf⟩ := xbind hf
    by_cases hk8 : o6.1 = 1
    · rw [if_pos hk8] at hf
      obtain ⟨hm9, hf⟩ := xmoE hf
      obtain rfl := Option.some.inj hf
      exact absurd (show (1 : Nat) = 0 from hkd) (by decide)
    rw [if_neg hk8] at hf
    exact nomatch hf
set_option maxHeartbeats 400000000 in
set_option maxRecDepth 100000 in
theorem gM_saysa_1 (l : Launch) (hl9 : l.stackTraces = false) (D : va_G) (cT : Nat → ClassId) (aK aV : Nat → Nat) (sz n : Nat) (aM : Nat) (ad rd gd vad : Nat → Nat) (st : xS) (x1 : Int32) (out : Nat × Nat × Nat × Nat × xS) (hf : fM_saysa n st x1 = some out) (hkd : out.1 = 1) : xMetY l yM_says wyM_says 7 out.2.1 out.2.2.1 121 D cT aK aV sz [.ref aM, .ref (aK 12), .int x1] (xMw cT aM ad rd gd vad st []) "java/lang/UnsupportedOperationException" (fun u => xE vad st out.2.2.2.2 u) (fun A u t => xB D xcl cT A (xMw cT aM u.1 rd u.2.1 u.2.2 out.2.2.2.2 []) t) := by
  refine vx_ofW (cc := prog_13_method_33_code) (maxL := 4) (ret := (some (.object "ValueBenchModel$V"))) (by decide) rfl ?_
  intro p e s m args below meth c s₁ B hml hne hv
  obtain ⟨rfl, hsz, hZ, hP, hK, hD0⟩ := hv
  have hx := B.exec
  have hb := B.bytes
  have hr := B.returns
  have hts := atoms_spec (ws := wyM_says) B.pre
  have htx := fun w h => hts w (List.mem_cons_of_mem _ h)
  have hown : s.vm.findClass "ValueBenchModel" = some m.cls := findClass_of_methodNamed B.named
  have hlocks := B.notSynchronized
  subst hsz
  have hD := hD0.self (sz := s.heap.size)
  generalize hAe : va_A (xMw cT aM ad rd gd vad st []) s.heap.size = A at hD hZ ⊢
  have hA : ∀ q : Nat, s.heap.size ≤ q → A q := fun q h => by rw [← hAe]; exact Or.inr h
  have hS : va_S A s.heap s.heap [] := va_S.rf
  have hl := lv_entry ([.ref aM, .ref (aK 12), .int x1]) (n := 4) (by simp [lg_sl, xvcat, xrscat, xcI, xcL, xcR, xcN])
  rw [show lv_args 0 [.ref aM, .ref (aK 12), .int x1] = [(0, .ref aM), (1, .ref (aK 12)), (2, .int x1)] from by simp [lv_args, xvcat, xrscat, xcI, xcL, xcR, xcN]] at hl
  rw [lg_entry_eq]
  generalize (lg_sl ([.ref aM, .ref (aK 12), .int x1]) ++ List.replicate (4 - (lg_sl ([.ref aM, .ref (aK 12), .int x1])).length) Slot.unset).toArray = ls at hl ⊢
  have hl : lv_has ls 4 [(0, .ref aM), (1, .ref (aK 12)), (2, .int x1)] := hl
  have hE : ∀ p, p < xct st → vad p = vad p := fun _ _ => rfl
  have hN : xct st ≤ xct st := Nat.le_refl _
  unfold fM_saysa at hf
  refine lv_iconst (v := 0) hx hb dM_says_0 (by decide) ?_
  refine lv_istore_n (lv' := [(3, .int 0), (0, .ref aM), (1, .ref (aK 12)), (2, .int x1)]) hx hb dM_says_1 rfl hl (by decide) rfl (fun ls hl => ?_)
  refine lv_iload_n hx hb dM_says_2 rfl (lv_at hl 0 rfl) ?_
  refine lv_aload_n hx hb dM_says_3 rfl (lv_at hl 2 rfl) ?_
  refine va_calli (va_runV (C := "java/lang/String") (As := []) (rest := [.int 0]) ⟨hx, hb, hml, hown, htx⟩ (cJS_length_2 l hl9 D cT aK aV s.heap.size) ⟨callB_of 0 htx (xw_goodC kw_2_70) rfl rfl rfl (htx _ kw_1_6) (htx _ kw_5_238) ⟨by decide, by decide, by decide +kernel⟩ ⟨Nat.le_of_ble_eq_true rfl, Nat.le_of_ble_eq_true rfl⟩, (htx _ kw_2_68), (htx _ kw_2_69)⟩ ⟨xPre_blind, vk_recv hZ.2.2.2.2.2.2.2.2.2.1 (i := 12) (by decide) hS, (fun U hU hW => ⟨rfl, xPre_of hZ hS (xm_free0 hS hA) xm_Pnil xm_Dnil hK U hU hW⟩)⟩ rfl rfl hl.1 rfl (lv_room (Nat.le_of_ble_eq_true rfl)) dM_says_4 ⟨(Nat.zero_le _), (Nat.zero_le _)⟩) hS (fun q _ h => xm_free0 hS hA q h) (xm_free0 hS hA) (fun r1 u9 t H1 locs ht hvm hr9 hB hz1 hk1 hS => ?_)
  replace hP := xm_keep hP hk1
  generalize H1 = H at hP hS ⊢
  rw [hr9]
  refine W.eq (g2 := F0 m 7 ls [.int 4, .int 0]) (by first | rfl | rw [xv1 (Nat.succ_ne_zero _)]) ?_
  refine lv_icmp_ge (tgt := 46) hx hb dM_says_7 (by decide) (fun h => ((by revert h; decide : False)).elim) (fun _ => ?_)
  refine lv_aload_n hx hb dM_says_10 rfl (lv_at hl 1 rfl) ?_
  obtain ⟨o2, hq3, hf⟩ := xbind hf
  have hFc := xm_free hD hS hA
  refine va_calli (va_runV (C := "ValueBenchModel") (As := []) (rest := []) ⟨hx, hb, hml, hown, htx⟩ (gM_peek l hl9 D cT aK aV H.size n aM ad rd gd vad st o2 hq3) ⟨callB_of 0 htx (xw_goodC kw_5_233) rfl rfl rfl (htx _ kw_1_5) (htx _ kw_5_230) ⟨by decide, by decide, by decide +kernel⟩ ⟨Nat.le_of_ble_eq_true rfl, Nat.le_of_ble_eq_true rfl⟩, (htx _ kw_5_232), (htx _ kp_M_peek)⟩ ⟨xPre_blind, va_recv hK hP (ci := 5) rfl (q0 := 0) rfl, (fun U hU hW => ⟨rfl, xPre_of hZ hS hFc hP hD hK U hU hW⟩)⟩ rfl rfl hl.1 rfl (xm_room (Nat.le_of_ble_eq_true rfl)) dM_says_11 ⟨Nat.zero_le _, Nat.zero_le _⟩) hS (fun q _ h => hFc q h) hFc (fun r4 u9 t H1 locs ht hvm hr9 hB hz1 hk1 hS => ?_)
  obtain ⟨hP1, hK1, hD1⟩ := hB
  rw [ht] at hP1
  have hP : va_P D xcl (xMw cT aM ad rd gd vad st []) H1 := hP1
  have hD : va_D A (xMw cT aM ad rd gd vad st []) := hD1.weaken (fun k q _ h => hFc q.1 h)
  generalize H1 = H at hP hS ⊢
  rw [hr9]
  refine W.eq (g2 := F0 m 14 ls [.int o2]) (by first | rfl | (skip; rfl)) ?_
  refine lv_aload_n hx hb dM_says_14 rfl (lv_at hl 2 rfl) ?_
  refine lv_iload_n hx hb dM_says_15 rfl (lv_at hl 0 rfl) ?_
  refine va_calli (va_runV (C := "java/lang/String") (As := [.int 0]) (rest := [.int o2]) ⟨hx, hb, hml, hown, htx⟩ (cJS_charAt_9 l hl9 D cT aK aV H.size) ⟨callB_of 1 htx (xw_goodC kw_2_80) rfl rfl rfl (htx _ kw_1_6) (htx _ kw_5_86) ⟨by decide, by decide, by decide +kernel⟩ ⟨Nat.le_of_ble_eq_true rfl, Nat.le_of_ble_eq_true rfl⟩, (htx _ kw_2_78), (htx _ kw_2_79)⟩ ⟨xPre_blind, vk_recv hZ.2.2.2.2.2.2.2.2.2.1 (i := 12) (by decide) hS, (fun U hU hW => ⟨rfl, xPre_of hZ hS (xm_free0 hS hA) xm_Pnil xm_Dnil hK U hU hW⟩)⟩ rfl rfl hl.1 rfl (lv_room (Nat.le_of_ble_eq_true rfl)) dM_says_16 ⟨(Nat.zero_le _), (Nat.zero_le _)⟩) hS (fun q _ h => xm_free0 hS hA q h) (xm_free0 hS hA) (fun r5 u9 t H1 locs ht hvm hr9 hB hz1 hk1 hS => ?_)
  replace hP := xm_keep hP hk1
  generalize H1 = H at hP hS ⊢
  rw [hr9]
  refine W.eq (g2 := F0 m 19 ls [.int 116, .int o2]) (by first | rfl | rw [xv1 (Nat.succ_ne_zero _)]) ?_
  refine lv_icmp_eq (tgt := 30) hx hb dM_says_19 (by decide) (fun hc => ?_) (fun hc => ?_)
  · rw [if_pos hc] at hf
    refine lv_aload_n hx hb dM_says_30 rfl (lv_at hl 1 rfl) ?_
    refine lv_dup hx hb dM_says_31 rfl ?_
    refine xm_get (v := .int (xsi st 16)) hx hb htx hown hK hP 16 (by decide) rfl (htx _ kw_5_103) rfl dM_says_32 ?_
    refine lv_iconst (v := 1) hx hb dM_says_35 (by decide) ?_
    refine lv_iadd hx hb dM_says_36 ?_
    refine xm_put (v := .int ((xsi st 16) + (1 : Int32))) (W' := (xMw cT aM ad rd gd vad (xsI st 16 ((xsi st 16) + (1 : Int32))) [])) (ty := .int) hx hb htx hown hK hP hD hS 16 (by decide) rfl (htx _ kw_5_103) rfl rfl (by decide +kernel) rfl rfl dM_says_37 (fun H locs hP hD hS => ?_)
    refine lv_iinc (v := 1) (lv' := [(3, .int 1), (0, .ref aM), (1, .ref (aK 12)), (2, .int x1)]) hx hb dM_says_40 hl (k := 0) rfl rfl (by decide) rfl (fun ls hl => ?_)
    refine lv_goto (tgt := 2) hx hb dM_says_43 (by decide) ?_
    refine lv_iload_n hx hb dM_says_2 rfl (lv_at hl 0 rfl) ?_
    refine lv_aload_n hx hb dM_says_3 rfl (lv_at hl 2 rfl) ?_
    refine va_calli (va_runV (C := "java/lang/String") (As := []) (rest := [.int 1]) ⟨hx, hb, hml, hown, htx⟩ (cJS_length_2 l hl9 D cT aK aV H.size) ⟨callB_of 0 htx (xw_goodC kw_2_70) rfl rfl rfl (htx _ kw_1_6) (htx _ kw_5_238) ⟨by decide, by decide, by decide +kernel⟩ ⟨Nat.le_of_ble_eq_true rfl, Nat.le_of_ble_eq_true rfl⟩, (htx _ kw_2_68), (htx _ kw_2_69)⟩ ⟨xPre_blind, vk_recv hZ.2.2.2.2.2.2.2.2.2.1 (i := 12) (by decide) hS, (fun U hU hW => ⟨rfl, xPre_of hZ hS (xm_free0 hS hA) xm_Pnil xm_Dnil hK U hU hW⟩)⟩ rfl rfl hl.1 rfl (lv_room (Nat.le_of_ble_eq_true rfl)) dM_says_4 ⟨(Nat.zero_le _), (Nat.zero_le _)⟩) hS (fun q _ h => xm_free0 hS hA q h) (xm_free0 hS hA) (fun r6 u9 t H1 locs ht hvm hr9 hB hz1 hk1 hS => ?_)
    replace hP := xm_keep hP hk1
    generalize H1 = H at hP hS ⊢
    rw [hr9]
    refine W.eq (g2 := F0 m 7 ls [.int 4, .int 1]) (by first | rfl | rw [xv1 (Nat.succ_ne_zero _)]) ?_
    refine lv_icmp_ge (tgt := 46) hx hb dM_says_7 (by decide) (fun h => ((by revert h; decide : False)).elim) (fun _ => ?_)
    refine lv_aload_n hx hb dM_says_10 rfl (lv_at hl 1 rfl) ?_
    obtain ⟨o7, hq8, hf⟩ := xbind hf
    have hFc := xm_free hD hS hA
    refine va_calli (va_runV (C := "ValueBenchModel") (As := []) (rest := []) ⟨hx, hb, hml, hown, htx⟩ (gM_peek l hl9 D cT aK aV H.size n aM ad rd gd vad (xsI st 16 ((xsi st 16) + (1 : Int32))) o7 hq8) ⟨callB_of 0 htx (xw_goodC kw_5_233) rfl rfl rfl (htx _ kw_1_5) (htx _ kw_5_230) ⟨by decide, by decide, by decide +kernel⟩ ⟨Nat.le_of_ble_eq_true rfl, Nat.le_of_ble_eq_true rfl⟩, (htx _ kw_5_232), (htx _ kp_M_peek)⟩ ⟨xPre_blind, va_recv hK hP (ci := 5) rfl (q0 := 0) rfl, (fun U hU hW => ⟨rfl, xPre_of hZ hS hFc hP hD hK U hU hW⟩)⟩ rfl rfl hl.1 rfl (xm_room (Nat.le_of_ble_eq_true rfl)) dM_says_11 ⟨Nat.zero_le _, Nat.zero_le _⟩) hS (fun q _ h => hFc q h) hFc (fun r9 u9 t H1 locs ht hvm hr9 hB hz1 hk1 hS => ?_)
    obtain ⟨hP1, hK1, hD1⟩ := hB
    rw [ht] at hP1
    have hP : va_P D xcl (xMw cT aM ad rd gd vad (xsI st 16 ((xsi st 16) + (1 : Int32))) []) H1 := hP1
    have hD : va_D A (xMw cT aM ad rd gd vad (xsI st 16 ((xsi st 16) + (1 : Int32))) []) := hD1.weaken (fun k q _ h => hFc q.1 h)
    generalize H1 = H at hP hS ⊢
    rw [hr9]
    refine W.eq (g2 := F0 m 14 ls [.int o7]) (by first | rfl | (skip; rfl)) ?_
    refine lv_aload_n hx hb dM_says_14 rfl (lv_at hl 2 rfl) ?_
    refine lv_iload_n hx hb dM_says_15 rfl (lv_at hl 0 rfl) ?_
    refine va_calli (va_runV (C := "java/lang/String") (As := [.int 1]) (rest := [.int o7]) ⟨hx, hb, hml, hown, htx⟩ (cJS_charAt_10 l hl9 D cT aK aV H.size) ⟨callB_of 1 htx (xw_goodC kw_2_80) rfl rfl rfl (htx _ kw_1_6) (htx _ kw_5_86) ⟨by decide, by decide, by decide +kernel⟩ ⟨Nat.le_of_ble_eq_true rfl, Nat.le_of_ble_eq_true rfl⟩, (htx _ kw_2_78), (htx _ kw_2_79)⟩ ⟨xPre_blind, vk_recv hZ.2.2.2.2.2.2.2.2.2.1 (i := 12) (by decide) hS, (fun U hU hW => ⟨rfl, xPre_of hZ hS (xm_free0 hS hA) xm_Pnil xm_Dnil hK U hU hW⟩)⟩ rfl rfl hl.1 rfl (lv_room (Nat.le_of_ble_eq_true rfl)) dM_says_16 ⟨(Nat.zero_le _), (Nat.zero_le _)⟩) hS (fun q _ h => xm_free0 hS hA q h) (xm_free0 hS hA) (fun r10 u9 t H1 locs ht hvm hr9 hB hz1 hk1 hS => ?_)
    replace hP := xm_keep hP hk1
    generalize H1 = H at hP hS ⊢
    rw [hr9]
    refine W.eq (g2 := F0 m 19 ls [.int 114, .int o7]) (by first | rfl | rw [xv1 (Nat.succ_ne_zero _)]) ?_
    refine lv_icmp_eq (tgt := 30) hx hb dM_says_19 (by decide) (fun hc => ?_) (fun hc => ?_)
    · rw [if_pos hc] at hf
      refine lv_aload_n hx hb dM_says_30 rfl (lv_at hl 1 rfl) ?_
      refine lv_dup hx hb dM_says_31 rfl ?_
      refine xm_get (v := .int ((xsi st 16) + (1 : Int32))) hx hb htx hown hK hP 16 (by decide) rfl (htx _ kw_5_103) rfl dM_says_32 ?_
      refine lv_iconst (v := 1) hx hb dM_says_35 (by decide) ?_
      refine lv_iadd hx hb dM_says_36 ?_
      refine xm_put (v := .int (((xsi st 16) + (1 : Int32)) + (1 : Int32))) (W' := (xMw cT aM ad rd gd vad (xsI (xsI st 16 ((xsi st 16) + (1 : Int32))) 16 (((xsi st 16) + (1 : Int32)) + (1 : Int32))) [])) (ty := .int) hx hb htx hown hK hP hD hS 16 (by decide) rfl (htx _ kw_5_103) rfl rfl (by decide +kernel) rfl rfl dM_says_37 (fun H locs hP hD hS => ?_)
      refine lv_iinc (v := 2) (lv' := [(3, .int 2), (0, .ref aM), (1, .ref (aK 12)), (2, .int x1)]) hx hb dM_says_40 hl (k := 0) rfl rfl (by decide) rfl (fun ls hl => ?_)
      refine lv_goto (tgt := 2) hx hb dM_says_43 (by decide) ?_
      refine lv_iload_n hx hb dM_says_2 rfl (lv_at hl 0 rfl) ?_
      refine lv_aload_n hx hb dM_says_3 rfl (lv_at hl 2 rfl) ?_
      refine va_calli (va_runV (C := "java/lang/String") (As := []) (rest := [.int 2]) ⟨hx, hb, hml, hown, htx⟩ (cJS_length_2 l hl9 D cT aK aV H.size) ⟨callB_of 0 htx (xw_goodC kw_2_70) rfl rfl rfl (htx _ kw_1_6) (htx _ kw_5_238) ⟨by decide, by decide, by decide +kernel⟩ ⟨Nat.le_of_ble_eq_true rfl, Nat.le_of_ble_eq_true rfl⟩, (htx _ kw_2_68), (htx _ kw_2_69)⟩ ⟨xPre_blind, vk_recv hZ.2.2.2.2.2.2.2.2.2.1 (i := 12) (by decide) hS, (fun U hU hW => ⟨rfl, xPre_of hZ hS (xm_free0 hS hA) xm_Pnil xm_Dnil hK U hU hW⟩)⟩ rfl rfl hl.1 rfl (lv_room (Nat.le_of_ble_eq_true rfl)) dM_says_4 ⟨(Nat.zero_le _), (Nat.zero_le _)⟩) hS (fun q _ h => xm_free0 hS hA q h) (xm_free0 hS hA) (fun r11 u9 t H1 locs ht hvm hr9 hB hz1 hk1 hS => ?_)
      replace hP := xm_keep hP hk1
      generalize H1 = H at hP hS ⊢
      rw [hr9]
      refine W.eq (g2 := F0 m 7 ls [.int 4, .int 2]) (by first | rfl | rw [xv1 (Nat.succ_ne_zero _)]) ?_
      refine lv_icmp_ge (tgt := 46) hx hb dM_says_7 (by decide) (fun h => ((by revert h; decide : False)).elim) (fun _ => ?_)
      refine lv_aload_n hx hb dM_says_10 rfl (lv_at hl 1 rfl) ?_
      obtain ⟨o12, hq13, hf⟩ := xbind hf
      have hFc := xm_free hD hS hA
      refine va_calli (va_runV (C := "ValueBenchModel") (As := []) (rest := []) ⟨hx, hb, hml, hown, htx⟩ (gM_peek l hl9 D cT aK aV H.size n aM ad rd gd vad (xsI (xsI st 16 ((xsi st 16) + (1 : Int32))) 16 (((xsi st 16) + (1 : Int32)) + (1 : Int32))) o12 hq13) ⟨callB_of 0 htx (xw_goodC kw_5_233) rfl rfl rfl (htx _ kw_1_5) (htx _ kw_5_230) ⟨by decide, by decide, by decide +kernel⟩ ⟨Nat.le_of_ble_eq_true rfl, Nat.le_of_ble_eq_true rfl⟩, (htx _ kw_5_232), (htx _ kp_M_peek)⟩ ⟨xPre_blind, va_recv hK hP (ci := 5) rfl (q0 := 0) rfl, (fun U hU hW => ⟨rfl, xPre_of hZ hS hFc hP hD hK U hU hW⟩)⟩ rfl rfl hl.1 rfl (xm_room (Nat.le_of_ble_eq_true rfl)) dM_says_11 ⟨Nat.zero_le _, Nat.zero_le _⟩) hS (fun q _ h => hFc q h) hFc (fun r14 u9 t H1 locs ht hvm hr9 hB hz1 hk1 hS => ?_)
      obtain ⟨hP1, hK1, hD1⟩ := hB
      rw [ht] at hP1
      have hP : va_P D xcl (xMw cT aM ad rd gd vad (xsI (xsI st 16 ((xsi st 16) + (1 : Int32))) 16 (((xsi st 16) + (1 : Int32)) + (1 : Int32))) []) H1 := hP1
      have hD : va_D A (xMw cT aM ad rd gd vad (xsI (xsI st 16 ((xsi st 16) + (1 : Int32))) 16 (((xsi st 16) + (1 : Int32)) + (1 : Int32))) []) := hD1.weaken (fun k q _ h => hFc q.1 h)
      generalize H1 = H at hP hS ⊢
      rw [hr9]
      refine W.eq (g2 := F0 m 14 ls [.int o12]) (by first | rfl | (skip; rfl)) ?_
      refine lv_aload_n hx hb dM_says_14 rfl (lv_at hl 2 rfl) ?_
      refine lv_iload_n hx hb dM_says_15 rfl (lv_at hl 0 rfl) ?_
      refine va_calli (va_runV (C := "java/lang/String") (As := [.int 2]) (rest := [.int o12]) ⟨hx, hb, hml, hown, htx⟩ (cJS_charAt_11 l hl9 D cT aK aV H.size) ⟨callB_of 1 htx (xw_goodC kw_2_80) rfl rfl rfl (htx _ kw_1_6) (htx _ kw_5_86) ⟨by decide, by decide, by decide +kernel⟩ ⟨Nat.le_of_ble_eq_true rfl, Nat.le_of_ble_eq_true rfl⟩, (htx _ kw_2_78), (htx _ kw_2_79)⟩ ⟨xPre_blind, vk_recv hZ.2.2.2.2.2.2.2.2.2.1 (i := 12) (by decide) hS, (fun U hU hW => ⟨rfl, xPre_of hZ hS (xm_free0 hS hA) xm_Pnil xm_Dnil hK U hU hW⟩)⟩ rfl rfl hl.1 rfl (lv_room (Nat.le_of_ble_eq_true rfl)) dM_says_16 ⟨(Nat.zero_le _), (Nat.zero_le _)⟩) hS (fun q _ h => xm_free0 hS hA q h) (xm_free0 hS hA) (fun r15 u9 t H1 locs ht hvm hr9 hB hz1 hk1 hS => ?_)
      replace hP := xm_keep hP hk1
      generalize H1 = H at hP hS ⊢
      rw [hr9]
      refine W.eq (g2 := F0 m 19 ls [.int 117, .int o12]) (by first | rfl | rw [xv1 (Nat.succ_ne_zero _)]) ?_
      refine lv_icmp_eq (tgt := 30) hx hb dM_says_19 (by decide) (fun hc => ?_) (fun hc => ?_)
      · rw [if_pos hc] at hf
        refine lv_aload_n hx hb dM_says_30 rfl (lv_at hl 1 rfl) ?_
        refine lv_dup hx hb dM_says_31 rfl ?_
        refine xm_get (v := .int (((xsi st 16) + (1 : Int32)) + (1 : Int32))) hx hb htx hown hK hP 16 (by decide) rfl (htx _ kw_5_103) rfl dM_says_32 ?_
        refine lv_iconst (v := 1) hx hb dM_says_35 (by decide) ?_
        refine lv_iadd hx hb dM_says_36 ?_
        refine xm_put (v := .int ((((xsi st 16) + (1 : Int32)) + (1 : Int32)) + (1 : Int32))) (W' := (xMw cT aM ad rd gd vad (xsI (xsI (xsI st 16 ((xsi st 16) + (1 : Int32))) 16 (((xsi st 16) + (1 : Int32)) + (1 : Int32))) 16 ((((xsi st 16) + (1 : Int32)) + (1 : Int32)) + (1 : Int32))) [])) (ty := .int) hx hb htx hown hK hP hD hS 16 (by decide) rfl (htx _ kw_5_103) rfl rfl (by decide +kernel) rfl rfl dM_says_37 (fun H locs hP hD hS => ?_)
        refine lv_iinc (v := 3) (lv' := [(3, .int 3), (0, .ref aM), (1, .ref (aK 12)), (2, .int x1)]) hx hb dM_says_40 hl (k := 0) rfl rfl (by decide) rfl (fun ls hl => ?_)
        refine lv_goto (tgt := 2) hx hb dM_says_43 (by decide) ?_
        refine lv_iload_n hx hb dM_says_2 rfl (lv_at hl 0 rfl) ?_
        refine lv_aload_n hx hb dM_says_3 rfl (lv_at hl 2 rfl) ?_
        refine va_calli (va_runV (C := "java/lang/String") (As := []) (rest := [.int 3]) ⟨hx, hb, hml, hown, htx⟩ (cJS_length_2 l hl9 D cT aK aV H.size) ⟨callB_of 0 htx (xw_goodC kw_2_70) rfl rfl rfl (htx _ kw_1_6) (htx _ kw_5_238) ⟨by decide, by decide, by decide +kernel⟩ ⟨Nat.le_of_ble_eq_true rfl, Nat.le_of_ble_eq_true rfl⟩, (htx _ kw_2_68), (htx _ kw_2_69)⟩ ⟨xPre_blind, vk_recv hZ.2.2.2.2.2.2.2.2.2.1 (i := 12) (by decide) hS, (fun U hU hW => ⟨rfl, xPre_of hZ hS (xm_free0 hS hA) xm_Pnil xm_Dnil hK U hU hW⟩)⟩ rfl rfl hl.1 rfl (lv_room (Nat.le_of_ble_eq_true rfl)) dM_says_4 ⟨(Nat.zero_le _), (Nat.zero_le _)⟩) hS (fun q _ h => xm_free0 hS hA q h) (xm_free0 hS hA) (fun r16 u9 t H1 locs ht hvm hr9 hB hz1 hk1 hS => ?_)
        replace hP := xm_keep hP hk1
        generalize H1 = H at hP hS ⊢
        rw [hr9]
        refine W.eq (g2 := F0 m 7 ls [.int 4, .int 3]) (by first | rfl | rw [xv1 (Nat.succ_ne_zero _)]) ?_
        refine lv_icmp_ge (tgt := 46) hx hb dM_says_7 (by decide) (fun h => ((by revert h; decide : False)).elim) (fun _ => ?_)
        refine lv_aload_n hx hb dM_says_10 rfl (lv_at hl 1 rfl) ?_
        obtain ⟨o17, hq18, hf⟩ := xbind hf
        have hFc := xm_free hD hS hA
        refine va_calli (va_runV (C := "ValueBenchModel") (As := []) (rest := []) ⟨hx, hb, hml, hown, htx⟩ (gM_peek l hl9 D cT aK aV H.size n aM ad rd gd vad (xsI (xsI (xsI st 16 ((xsi st 16) + (1 : Int32))) 16 (((xsi st 16) + (1 : Int32)) + (1 : Int32))) 16 ((((xsi st 16) + (1 : Int32)) + (1 : Int32)) + (1 : Int32))) o17 hq18) ⟨callB_of 0 htx (xw_goodC kw_5_233) rfl rfl rfl (htx _ kw_1_5) (htx _ kw_5_230) ⟨by decide, by decide, by decide +kernel⟩ ⟨Nat.le_of_ble_eq_true rfl, Nat.le_of_ble_eq_true rfl⟩, (htx _ kw_5_232), (htx _ kp_M_peek)⟩ ⟨xPre_blind, va_recv hK hP (ci := 5) rfl (q0 := 0) rfl, (fun U hU hW => ⟨rfl, xPre_of hZ hS hFc hP hD hK U hU hW⟩)⟩ rfl rfl hl.1 rfl (xm_room (Nat.le_of_ble_eq_true rfl)) dM_says_11 ⟨Nat.zero_le _, Nat.zero_le _⟩) hS (fun q _ h => hFc q h) hFc (fun r19 u9 t H1 locs ht hvm hr9 hB hz1 hk1 hS => ?_)
        obtain ⟨hP1, hK1, hD1⟩ := hB
        rw [ht] at hP1
        have hP : va_P D xcl (xMw cT aM ad rd gd vad (xsI (xsI (xsI st 16 ((xsi st 16) + (1 : Int32))) 16 (((xsi st 16) + (1 : Int32)) + (1 : Int32))) 16 ((((xsi st 16) + (1 : Int32)) + (1 : Int32)) + (1 : Int32))) []) H1 := hP1
        have hD : va_D A (xMw cT aM ad rd gd vad (xsI (xsI (xsI st 16 ((xsi st 16) + (1 : Int32))) 16 (((xsi st 16) + (1 : Int32)) + (1 : Int32))) 16 ((((xsi st 16) + (1 : Int32)) + (1 : Int32)) + (1 : Int32))) []) := hD1.weaken (fun k q _ h => hFc q.1 h)
        generalize H1 = H at hP hS ⊢
        rw [hr9]
        refine W.eq (g2 := F0 m 14 ls [.int o17]) (by first | rfl | (skip; rfl)) ?_
        refine lv_aload_n hx hb dM_says_14 rfl (lv_at hl 2 rfl) ?_
        refine lv_iload_n hx hb dM_says_15 rfl (lv_at hl 0 rfl) ?_
        refine va_calli (va_runV (C := "java/lang/String") (As := [.int 3]) (rest := [.int o17]) ⟨hx, hb, hml, hown, htx⟩ (cJS_charAt_12 l hl9 D cT aK aV H.size) ⟨callB_of 1 htx (xw_goodC kw_2_80) rfl rfl rfl (htx _ kw_1_6) (htx _ kw_5_86) ⟨by decide, by decide, by decide +kernel⟩ ⟨Nat.le_of_ble_eq_true rfl, Nat.le_of_ble_eq_true rfl⟩, (htx _ kw_2_78), (htx _ kw_2_79)⟩ ⟨xPre_blind, vk_recv hZ.2.2.2.2.2.2.2.2.2.1 (i := 12) (by decide) hS, (fun U hU hW => ⟨rfl, xPre_of hZ hS (xm_free0 hS hA) xm_Pnil xm_Dnil hK U hU hW⟩)⟩ rfl rfl hl.1 rfl (lv_room (Nat.le_of_ble_eq_true rfl)) dM_says_16 ⟨(Nat.zero_le _), (Nat.zero_le _)⟩) hS (fun q _ h => xm_free0 hS hA q h) (xm_free0 hS hA) (fun r20 u9 t H1 locs ht hvm hr9 hB hz1 hk1 hS => ?_)
        replace hP := xm_keep hP hk1
        generalize H1 = H at hP hS ⊢
        rw [hr9]
        refine W.eq (g2 := F0 m 19 ls [.int 101, .int o17]) (by first | rfl | rw [xv1 (Nat.succ_ne_zero _)]) ?_
        refine lv_icmp_eq (tgt := 30) hx hb dM_says_19 (by decide) (fun hc => ?_) (fun hc => ?_)
        · rw [if_pos hc] at hf
          refine lv_aload_n hx hb dM_says_30 rfl (lv_at hl 1 rfl) ?_
          refine lv_dup hx hb dM_says_31 rfl ?_
          refine xm_get (v := .int ((((xsi st 16) + (1 : Int32)) + (1 : Int32)) + (1 : Int32))) hx hb htx hown hK hP 16 (by decide) rfl (htx _ kw_5_103) rfl dM_says_32 ?_
          refine lv_iconst (v := 1) hx hb dM_says_35 (by decide) ?_
          refine lv_iadd hx hb dM_says_36 ?_
          refine xm_put (v := .int (((((xsi st 16) + (1 : Int32)) + (1 : Int32)) + (1 : Int32)) + (1 : Int32))) (W' := (xMw cT aM ad rd gd vad (xsI (xsI (xsI (xsI st 16 ((xsi st 16) + (1 : Int32))) 16 (((xsi st 16) + (1 : Int32)) + (1 : Int32))) 16 ((((xsi st 16) + (1 : Int32)) + (1 : Int32)) + (1 : Int32))) 16 (((((xsi st 16) + (1 : Int32)) + (1 : Int32)) + (1 : Int32)) + (1 : Int32))) [])) (ty := .int) hx hb htx hown hK hP hD hS 16 (by decide) rfl (htx _ kw_5_103) rfl rfl (by decide +kernel) rfl rfl dM_says_37 (fun H locs hP hD hS => ?_)
          refine lv_iinc (v := 4) (lv' := [(3, .int 4), (0, .ref aM), (1, .ref (aK 12)), (2, .int x1)]) hx hb dM_says_40 hl (k := 0) rfl rfl (by decide) rfl (fun ls hl => ?_)
          refine lv_goto (tgt := 2) hx hb dM_says_43 (by decide) ?_
          refine lv_iload_n hx hb dM_says_2 rfl (lv_at hl 0 rfl) ?_
          refine lv_aload_n hx hb dM_says_3 rfl (lv_at hl 2 rfl) ?_
          refine va_calli (va_runV (C := "java/lang/String") (As := []) (rest := [.int 4]) ⟨hx, hb, hml, hown, htx⟩ (cJS_length_2 l hl9 D cT aK aV H.size) ⟨callB_of 0 htx (xw_goodC kw_2_70) rfl rfl rfl (htx _ kw_1_6) (htx _ kw_5_238) ⟨by decide, by decide, by decide +kernel⟩ ⟨Nat.le_of_ble_eq_true rfl, Nat.le_of_ble_eq_true rfl⟩, (htx _ kw_2_68), (htx _ kw_2_69)⟩ ⟨xPre_blind, vk_recv hZ.2.2.2.2.2.2.2.2.2.1 (i := 12) (by decide) hS, (fun U hU hW => ⟨rfl, xPre_of hZ hS (xm_free0 hS hA) xm_Pnil xm_Dnil hK U hU hW⟩)⟩ rfl rfl hl.1 rfl (lv_room (Nat.le_of_ble_eq_true rfl)) dM_says_4 ⟨(Nat.zero_le _), (Nat.zero_le _)⟩) hS (fun q _ h => xm_free0 hS hA q h) (xm_free0 hS hA) (fun r21 u9 t H1 locs ht hvm hr9 hB hz1 hk1 hS => ?_)
          replace hP := xm_keep hP hk1
          generalize H1 = H at hP hS ⊢
          rw [hr9]
          refine W.eq (g2 := F0 m 7 ls [.int 4, .int 4]) (by first | rfl | rw [xv1 (Nat.succ_ne_zero _)]) ?_
          refine lv_icmp_ge (tgt := 46) hx hb dM_says_7 (by decide) (fun _ => ?_) (fun h => ((by revert h; decide : False)).elim)
          refine lv_aload_n hx hb dM_says_46 rfl (lv_at hl 1 rfl) ?_
          refine lv_iload_n hx hb dM_says_47 rfl (lv_at hl 3 rfl) ?_
          obtain ⟨o22, hq23, hf⟩ := xbind hf
          obtain ⟨hm24, hf⟩ := xmoE hf
          have hFc := xm_free hD hS hA
          refine va_callq (va_runV (C := "ValueBenchModel") (As := [.int x1]) (rest := []) ⟨hx, hb, hml, hown, htx⟩ (gM_fresh l hl9 D cT aK aV H.size n aM ad rd gd vad (xsI (xsI (xsI (xsI st 16 ((xsi st 16) + (1 : Int32))) 16 (((xsi st 16) + (1 : Int32)) + (1 : Int32))) 16 ((((xsi st 16) + (1 : Int32)) + (1 : Int32)) + (1 : Int32))) 16 (((((xsi st 16) + (1 : Int32)) + (1 : Int32)) + (1 : Int32)) + (1 : Int32))) x1 o22 hq23) ⟨callB_of 1 htx (xw_goodC kw_6_16) rfl rfl rfl (htx _ kw_1_5) (htx _ kw_6_13) ⟨by decide, by decide, by decide +kernel⟩ ⟨Nat.le_of_ble_eq_true rfl, Nat.le_of_ble_eq_true rfl⟩, (htx _ kw_6_15), (htx _ kp_M_fresh)⟩ ⟨xPre_blind, va_recv hK hP (ci := 5) rfl (q0 := 0) rfl, (fun U hU hW => ⟨rfl, xPre_of hZ hS hFc hP hD hK U hU hW⟩)⟩ rfl rfl hl.1 rfl (xm_room (Nat.le_of_ble_eq_true rfl)) dM_says_48 ⟨hm24.1, hm24.2⟩) hS (fun q _ h => hFc q h) hFc (fun r25 u9 t H1 locs ht hvm hr9 hB hz1 hk1 hS => ?_)
          obtain ⟨hP1, hK1, hD1⟩ := hB
          rw [ht] at hP1
          obtain ⟨ad26, gd27, vad28⟩ := u9
          obtain ⟨hr9, hv29, hn30⟩ := hr9
          have hP : va_P D xcl (xMw cT aM ad26 rd gd27 vad28 o22.2.2.2 []) H1 := hP1
          have hD : va_D A (xMw cT aM ad26 rd gd27 vad28 o22.2.2.2 []) := hD1.weaken (fun k q _ h => hFc q.1 h)
          generalize H1 = H at hP hS ⊢
          have hE9 : ∀ p, p < xct st → vad28 p = vad p := fun p h => (hv29 p (Nat.lt_of_lt_of_le h hN)).trans (hE p h)
          have hE := hE9
          have hN : xct st ≤ xct o22.2.2.2 := Nat.le_trans hN hn30
          rw [hr9]
          refine W.eq (g2 := F0 m 51 ls [xv vad28 o22.2.2.1]) (by first | rfl | (skip; rfl)) ?_
          obtain rfl := Option.some.inj hf
          exact absurd (show (0 : Nat) = 1 from hkd) (by decide)
        · rw [if_neg hc] at hf
          refine lv_aload_n hx hb dM_says_22 rfl (lv_at hl 1 rfl) ?_
          refine lv_aload_n hx hb dM_says_23 rfl (lv_at hl 1 rfl) ?_
          refine xm_get (v := .int ((((xsi st 16) + (1 : Int32)) + (1 : Int32)) + (1 : Int32))) hx hb htx hown hK hP 16 (by decide) rfl (htx _ kw_5_103) rfl dM_says_24 ?_
          obtain ⟨o21, hq22, hf⟩ := xbind hf
          by_cases hk23 : o21.1 = 1
          · rw [if_pos hk23] at hf
            obtain ⟨hm24, hf⟩ := xmoE hf
            have hFc := xm_free hD hS hA
            refine xx_thr (vx_runV (C := "ValueBenchModel") (As := [.int ((((xsi st 16) + (1 : Int32)) + (1 : Int32)) + (1 : Int32))]) (rest := []) ⟨hx, hb, hml, hown, htx⟩ (gM_bad_1 l hl9 D cT aK aV H.size n aM ad rd gd vad (xsI (xsI (xsI st 16 ((xsi st 16) + (1 : Int32))) 16 (((xsi st 16) + (1 : Int32)) + (1 : Int32))) 16 ((((xsi st 16) + (1 : Int32)) + (1 : Int32)) + (1 : Int32))) ((((xsi st 16) + (1 : Int32)) + (1 : Int32)) + (1 : Int32)) o21 hq22 hk23) ⟨callB_of 1 htx (xw_goodC kw_6_2) rfl rfl rfl (htx _ kw_1_5) (htx _ kw_5_239) ⟨by decide, by decide, by decide +kernel⟩ ⟨Nat.le_of_ble_eq_true rfl, Nat.le_of_ble_eq_true rfl⟩, (htx _ kw_6_1), (htx _ kp_M_bad)⟩ ⟨xPre_blind, va_recv hK hP (ci := 5) rfl (q0 := 0) rfl, (fun U hU hW => ⟨rfl, xPre_of hZ hS hFc hP hD hK U hU hW⟩)⟩ rfl rfl hl.1 rfl (xm_room (Nat.le_of_ble_eq_true rfl)) dM_says_27 ⟨hm24.1, hm24.2⟩) hS hFc (fun q _ h => hFc q h) (fun E ce q9 u9 t H1 locs ht hvm hr9 hB hz1 hk1 hS hce hcv hcl => ?_)
            obtain ⟨rfl, hP1, hK1, hD1⟩ := hB
            rw [ht] at hP1
            obtain ⟨ad26, gd27, vad28⟩ := u9
            obtain ⟨hv29, hn30⟩ := hr9
            have hP : va_P D xcl (xMw cT aM ad26 rd gd27 vad28 o21.2.2.2 []) H1 := hP1
            have hD : va_D A (xMw cT aM ad26 rd gd27 vad28 o21.2.2.2 []) := hD1.weaken (fun k q _ h => hFc q.1 h)
            generalize H1 = H at hP hS hce ⊢
            have hE9 : ∀ p, p < xct st → vad28 p = vad p := fun p h => (hv29 p (Nat.lt_of_lt_of_le h hN)).trans (hE p h)
            have hE := hE9
            have hN : xct st ≤ xct o21.2.2.2 := Nat.le_trans hN hn30
            obtain rfl := Option.some.inj hf
            exact vx_out (E := "java/lang/UnsupportedOperationException") (fun x h => (hne x h).elim) hlocks hce hcv hcl (fun t ht ha => ⟨(ad26, gd27, vad28), ⟨hE, hN⟩, ⟨rfl, by rw [ht]; exact hP, va_K.moved ha hK, hD⟩, hS.F ht⟩) hS.2.2 (Nat.le_refl _) (Nat.le_refl _)
          rw [if_neg hk23] at hf
          exact nomatch hf
      · rw [if_neg hc] at hf
        refine lv_aload_n hx hb dM_says_22 rfl (lv_at hl 1 rfl) ?_
        refine lv_aload_n hx hb dM_says_23 rfl (lv_at hl 1 rfl) ?_
        refine xm_get (v := .int (((xsi st 16) + (1 : Int32)) + (1 : Int32))) hx hb htx hown hK hP 16 (by decide) rfl (htx _ kw_5_103) rfl dM_says_24 ?_
        obtain ⟨o16, hq17, hf⟩ := xbind hf
        by_cases hk18 : o16.1 = 1
        · rw [if_pos hk18] at hf
          obtain ⟨hm19, hf⟩ := xmoE hf
          have hFc := xm_free hD hS hA
          refine xx_thr (vx_runV (C := "ValueBenchModel") (As := [.int (((xsi st 16) + (1 : Int32)) + (1 : Int32))]) (rest := []) ⟨hx, hb, hml, hown, htx⟩ (gM_bad_1 l hl9 D cT aK aV H.size n aM ad rd gd vad (xsI (xsI st 16 ((xsi st 16) + (1 : Int32))) 16 (((xsi st 16) + (1 : Int32)) + (1 : Int32))) (((xsi st 16) + (1 : Int32)) + (1 : Int32)) o16 hq17 hk18) ⟨callB_of 1 htx (xw_goodC kw_6_2) rfl rfl rfl (htx _ kw_1_5) (htx _ kw_5_239) ⟨by decide, by decide, by decide +kernel⟩ ⟨Nat.le_of_ble_eq_true rfl, Nat.le_of_ble_eq_true rfl⟩, (htx _ kw_6_1), (htx _ kp_M_bad)⟩ ⟨xPre_blind, va_recv hK hP (ci := 5) rfl (q0 := 0) rfl, (fun U hU hW => ⟨rfl, xPre_of hZ hS hFc hP hD hK U hU hW⟩)⟩ rfl rfl hl.1 rfl (xm_room (Nat.le_of_ble_eq_true rfl)) dM_says_27 ⟨hm19.1, hm19.2⟩) hS hFc (fun q _ h => hFc q h) (fun E ce q9 u9 t H1 locs ht hvm hr9 hB hz1 hk1 hS hce hcv hcl => ?_)
          obtain ⟨rfl, hP1, hK1, hD1⟩ := hB
          rw [ht] at hP1
          obtain ⟨ad21, gd22, vad23⟩ := u9
          obtain ⟨hv24, hn25⟩ := hr9
          have hP : va_P D xcl (xMw cT aM ad21 rd gd22 vad23 o16.2.2.2 []) H1 := hP1
          have hD : va_D A (xMw cT aM ad21 rd gd22 vad23 o16.2.2.2 []) := hD1.weaken (fun k q _ h => hFc q.1 h)
          generalize H1 = H at hP hS hce ⊢
          have hE9 : ∀ p, p < xct st → vad23 p = vad p := fun p h => (hv24 p (Nat.lt_of_lt_of_le h hN)).trans (hE p h)
          have hE := hE9
          have hN : xct st ≤ xct o16.2.2.2 := Nat.le_trans hN hn25
          obtain rfl := Option.some.inj hf
          exact vx_out (E := "java/lang/UnsupportedOperationException") (fun x h => (hne x h).elim) hlocks hce hcv hcl (fun t ht ha => ⟨(ad21, gd22, vad23), ⟨hE, hN⟩, ⟨rfl, by rw [ht]; exact hP, va_K.moved ha hK, hD⟩, hS.F ht⟩) hS.2.2 (Nat.le_refl _) (Nat.le_refl _)
        rw [if_neg hk18] at hf
        exact nomatch hf
    · rw [if_neg hc] at hf
      refine lv_aload_n hx hb dM_says_22 rfl (lv_at hl 1 rfl) ?_
      refine lv_aload_n hx hb dM_says_23 rfl (lv_at hl 1 rfl) ?_
      refine xm_get (v := .int ((xsi st 16) + (1 : Int32))) hx hb htx hown hK hP 16 (by decide) rfl (htx _ kw_5_103) rfl dM_says_24 ?_
      obtain ⟨o11, hq12, hf⟩ := xbind hf
      by_cases hk13 : o11.1 = 1
      · rw [if_pos hk13] at hf
        obtain ⟨hm14, hf⟩ := xmoE hf
        have hFc := xm_free hD hS hA
        refine xx_thr (vx_runV (C := "ValueBenchModel") (As := [.int ((xsi st 16) + (1 : Int32))]) (rest := []) ⟨hx, hb, hml, hown, htx⟩ (gM_bad_1 l hl9 D cT aK aV H.size n aM ad rd gd vad (xsI st 16 ((xsi st 16) + (1 : Int32))) ((xsi st 16) + (1 : Int32)) o11 hq12 hk13) ⟨callB_of 1 htx (xw_goodC kw_6_2) rfl rfl rfl (htx _ kw_1_5) (htx _ kw_5_239) ⟨by decide, by decide, by decide +kernel⟩ ⟨Nat.le_of_ble_eq_true rfl, Nat.le_of_ble_eq_true rfl⟩, (htx _ kw_6_1), (htx _ kp_M_bad)⟩ ⟨xPre_blind, va_recv hK hP (ci := 5) rfl (q0 := 0) rfl, (fun U hU hW => ⟨rfl, xPre_of hZ hS hFc hP hD hK U hU hW⟩)⟩ rfl rfl hl.1 rfl (xm_room (Nat.le_of_ble_eq_true rfl)) dM_says_27 ⟨hm14.1, hm14.2⟩) hS hFc (fun q _ h => hFc q h) (fun E ce q9 u9 t H1 locs ht hvm hr9 hB hz1 hk1 hS hce hcv hcl => ?_)
        obtain ⟨rfl, hP1, hK1, hD1⟩ := hB
        rw [ht] at hP1
        obtain ⟨ad16, gd17, vad18⟩ := u9
        obtain ⟨hv19, hn20⟩ := hr9
        have hP : va_P D xcl (xMw cT aM ad16 rd gd17 vad18 o11.2.2.2 []) H1 := hP1
        have hD : va_D A (xMw cT aM ad16 rd gd17 vad18 o11.2.2.2 []) := hD1.weaken (fun k q _ h => hFc q.1 h)
        generalize H1 = H at hP hS hce ⊢
        have hE9 : ∀ p, p < xct st → vad18 p = vad p := fun p h => (hv19 p (Nat.lt_of_lt_of_le h hN)).trans (hE p h)
        have hE := hE9
        have hN : xct st ≤ xct o11.2.2.2 := Nat.le_trans hN hn20
        obtain rfl := Option.some.inj hf
        exact vx_out (E := "java/lang/UnsupportedOperationException") (fun x h => (hne x h).elim) hlocks hce hcv hcl (fun t ht ha => ⟨(ad16, gd17, vad18), ⟨hE, hN⟩, ⟨rfl, by rw [ht]; exact hP, va_K.moved ha hK, hD⟩, hS.F ht⟩) hS.2.2 (Nat.le_refl _) (Nat.le_refl _)
      rw [if_neg hk13] at hf
      exact nomatch hf
  · rw [if_neg hc] at hf
    refine lv_aload_n hx hb dM_says_22 rfl (lv_at hl 1 rfl) ?_
    refine lv_aload_n hx hb dM_says_23 rfl (lv_at hl 1 rfl) ?_
    refine xm_get (v := .int (xsi st 16)) hx hb htx hown hK hP 16 (by decide) rfl (htx _ kw_5_103) rfl dM_says_24 ?_
    obtain ⟨o6, hq7, hf⟩ := xbind hf
    by_cases hk8 : o6.1 = 1
    · rw [if_pos hk8] at hf
      obtain ⟨hm9, hf⟩ := xmoE hf
      have hFc := xm_free hD hS hA
      refine xx_thr (vx_runV (C := "ValueBenchModel") (As := [.int (xsi st 16)]) (rest := []) ⟨hx, hb, hml, hown, htx⟩ (gM_bad_1 l hl9 D cT aK aV H.size n aM ad rd gd vad st (xsi st 16) o6 hq7 hk8) ⟨callB_of 1 htx (xw_goodC kw_6_2) rfl rfl rfl (htx _ kw_1_5) (htx _ kw_5_239) ⟨by decide, by decide, by decide +kernel⟩ ⟨Nat.le_of_ble_eq_true rfl, Nat.le_of_ble_eq_true rfl⟩, (htx _ kw_6_1), (htx _ kp_M_bad)⟩ ⟨xPre_blind, va_recv hK hP (ci := 5) rfl (q0 := 0) rfl, (fun U hU hW => ⟨rfl, xPre_of hZ hS hFc hP hD hK U hU hW⟩)⟩ rfl rfl hl.1 rfl (xm_room (Nat.le_of_ble_eq_true rfl)) dM_says_27 ⟨hm9.1, hm9.2⟩) hS hFc (fun q _ h => hFc q h) (fun E ce q9 u9 t H1 locs ht hvm hr9 hB hz1 hk1 hS hce hcv hcl => ?_)
      obtain ⟨rfl, hP1, hK1, hD1⟩ := hB
      rw [ht] at hP1
      obtain ⟨ad11, gd12, vad13⟩ := u9
      obtain ⟨hv14, hn15⟩ := hr9
      have hP : va_P D xcl (xMw cT aM ad11 rd gd12 vad13 o6.2.2.2 []) H1 := hP1
      have hD : va_D A (xMw cT aM ad11 rd gd12 vad13 o6.2.2.2 []) := hD1.weaken (fun k q _ h => hFc q.1 h)
      generalize H1 = H at hP hS hce ⊢
      have hE9 : ∀ p, p < xct st → vad13 p = vad p := fun p h => (hv14 p (Nat.lt_of_lt_of_le h hN)).trans (hE p h)
      have hE := hE9
      have hN : xct st ≤ xct o6.2.2.2 := Nat.le_trans hN hn15
      obtain rfl := Option.some.inj hf
      exact vx_out (E := "java/lang/UnsupportedOperationException") (fun x h => (hne x h).elim) hlocks hce hcv hcl (fun t ht ha => ⟨(ad11, gd12, vad13), ⟨hE, hN⟩, ⟨rfl, by rw [ht]; exact hP, va_K.moved ha hK, hD⟩, hS.F ht⟩) hS.2.2 (Nat.le_refl _) (Nat.le_refl _)
    rw [if_neg hk8] at hf
    exact nomatch hf
set_option maxHeartbeats 400000000 in
set_option maxRecDepth 100000 in
theorem gM_saysb (l : Launch) (hl9 : l.stackTraces = false) (D : va_G) (cT : Nat → ClassId) (aK aV : Nat → Nat) (sz n : Nat) (aM : Nat) (ad rd gd vad : Nat → Nat) (st : xS) (x1 : Int32) (out : Nat × Nat × Nat × Nat × xS) (hf : fM_saysb n st x1 = some out) (hkd : out.1 = 0) : xMet l yM_says wyM_says 7 out.2.1 out.2.2.1 121 D cT aK aV sz [.ref aM, .ref (aK 10), .int x1] (xMw cT aM ad rd gd vad st []) (fun A => va_Qq (fun (r : Option Nat) (u : xU) => r = xca u.2.2 out.2.2.2.1 ∧ xE vad st out.2.2.2.2 u) (fun u t => xB D xcl cT A (xMw cT aM u.1 rd u.2.1 u.2.2 out.2.2.2.2 []) t) A) := by
  refine Met.ofW (cc := prog_13_method_33_code) (maxL := 4) (ret := (some (.object "ValueBenchModel$V"))) (by decide) rfl ?_
  intro p e s m args below meth c s₁ B hml hv
  obtain ⟨rfl, hsz, hZ, hP, hK, hD0⟩ := hv
  have hx := B.exec
  have hb := B.bytes
  have hr := B.returns
  have hts := atoms_spec (ws := wyM_says) B.pre
  have htx := fun w h => hts w (List.mem_cons_of_mem _ h)
  have hown : s.vm.findClass "ValueBenchModel" = some m.cls := findClass_of_methodNamed B.named
  have hlocks := B.notSynchronized
  subst hsz
  have hD := hD0.self (sz := s.heap.size)
  generalize hAe : va_A (xMw cT aM ad rd gd vad st []) s.heap.size = A at hD hZ ⊢
  have hA : ∀ q : Nat, s.heap.size ≤ q → A q := fun q h => by rw [← hAe]; exact Or.inr h
  have hS : va_S A s.heap s.heap [] := va_S.rf
  have hl := lv_entry ([.ref aM, .ref (aK 10), .int x1]) (n := 4) (by simp [lg_sl, xvcat, xrscat, xcI, xcL, xcR, xcN])
  rw [show lv_args 0 [.ref aM, .ref (aK 10), .int x1] = [(0, .ref aM), (1, .ref (aK 10)), (2, .int x1)] from by simp [lv_args, xvcat, xrscat, xcI, xcL, xcR, xcN]] at hl
  rw [lg_entry_eq]
  generalize (lg_sl ([.ref aM, .ref (aK 10), .int x1]) ++ List.replicate (4 - (lg_sl ([.ref aM, .ref (aK 10), .int x1])).length) Slot.unset).toArray = ls at hl ⊢
  have hl : lv_has ls 4 [(0, .ref aM), (1, .ref (aK 10)), (2, .int x1)] := hl
  have hE : ∀ p, p < xct st → vad p = vad p := fun _ _ => rfl
  have hN : xct st ≤ xct st := Nat.le_refl _
  unfold fM_saysb at hf
  refine lv_iconst (v := 0) hx hb dM_says_0 (by decide) ?_
  refine lv_istore_n (lv' := [(3, .int 0), (0, .ref aM), (1, .ref (aK 10)), (2, .int x1)]) hx hb dM_says_1 rfl hl (by decide) rfl (fun ls hl => ?_)
  refine lv_iload_n hx hb dM_says_2 rfl (lv_at hl 0 rfl) ?_
  refine lv_aload_n hx hb dM_says_3 rfl (lv_at hl 2 rfl) ?_
  refine va_calli (va_runV (C := "java/lang/String") (As := []) (rest := [.int 0]) ⟨hx, hb, hml, hown, htx⟩ (cJS_length_0 l hl9 D cT aK aV s.heap.size) ⟨callB_of 0 htx (xw_goodC kw_2_70) rfl rfl rfl (htx _ kw_1_6) (htx _ kw_5_238) ⟨by decide, by decide, by decide +kernel⟩ ⟨Nat.le_of_ble_eq_true rfl, Nat.le_of_ble_eq_true rfl⟩, (htx _ kw_2_68), (htx _ kw_2_69)⟩ ⟨xPre_blind, vk_recv hZ.2.2.2.2.2.2.2.2.2.1 (i := 10) (by decide) hS, (fun U hU hW => ⟨rfl, xPre_of hZ hS (xm_free0 hS hA) xm_Pnil xm_Dnil hK U hU hW⟩)⟩ rfl rfl hl.1 rfl (lv_room (Nat.le_of_ble_eq_true rfl)) dM_says_4 ⟨(Nat.zero_le _), (Nat.zero_le _)⟩) hS (fun q _ h => xm_free0 hS hA q h) (xm_free0 hS hA) (fun r1 u9 t H1 locs ht hvm hr9 hB hz1 hk1 hS => ?_)
  replace hP := xm_keep hP hk1
  generalize H1 = H at hP hS ⊢
  rw [hr9]
  refine W.eq (g2 := F0 m 7 ls [.int 4, .int 0]) (by first | rfl | rw [xv1 (Nat.succ_ne_zero _)]) ?_
  refine lv_icmp_ge (tgt := 46) hx hb dM_says_7 (by decide) (fun h => ((by revert h; decide : False)).elim) (fun _ => ?_)
  refine lv_aload_n hx hb dM_says_10 rfl (lv_at hl 1 rfl) ?_
  obtain ⟨o2, hq3, hf⟩ := xbind hf
  have hFc := xm_free hD hS hA
  refine va_calli (va_runV (C := "ValueBenchModel") (As := []) (rest := []) ⟨hx, hb, hml, hown, htx⟩ (gM_peek l hl9 D cT aK aV H.size n aM ad rd gd vad st o2 hq3) ⟨callB_of 0 htx (xw_goodC kw_5_233) rfl rfl rfl (htx _ kw_1_5) (htx _ kw_5_230) ⟨by decide, by decide, by decide +kernel⟩ ⟨Nat.le_of_ble_eq_true rfl, Nat.le_of_ble_eq_true rfl⟩, (htx _ kw_5_232), (htx _ kp_M_peek)⟩ ⟨xPre_blind, va_recv hK hP (ci := 5) rfl (q0 := 0) rfl, (fun U hU hW => ⟨rfl, xPre_of hZ hS hFc hP hD hK U hU hW⟩)⟩ rfl rfl hl.1 rfl (xm_room (Nat.le_of_ble_eq_true rfl)) dM_says_11 ⟨Nat.zero_le _, Nat.zero_le _⟩) hS (fun q _ h => hFc q h) hFc (fun r4 u9 t H1 locs ht hvm hr9 hB hz1 hk1 hS => ?_)
  obtain ⟨hP1, hK1, hD1⟩ := hB
  rw [ht] at hP1
  have hP : va_P D xcl (xMw cT aM ad rd gd vad st []) H1 := hP1
  have hD : va_D A (xMw cT aM ad rd gd vad st []) := hD1.weaken (fun k q _ h => hFc q.1 h)
  generalize H1 = H at hP hS ⊢
  rw [hr9]
  refine W.eq (g2 := F0 m 14 ls [.int o2]) (by first | rfl | (skip; rfl)) ?_
  refine lv_aload_n hx hb dM_says_14 rfl (lv_at hl 2 rfl) ?_
  refine lv_iload_n hx hb dM_says_15 rfl (lv_at hl 0 rfl) ?_
  refine va_calli (va_runV (C := "java/lang/String") (As := [.int 0]) (rest := [.int o2]) ⟨hx, hb, hml, hown, htx⟩ (cJS_charAt_0 l hl9 D cT aK aV H.size) ⟨callB_of 1 htx (xw_goodC kw_2_80) rfl rfl rfl (htx _ kw_1_6) (htx _ kw_5_86) ⟨by decide, by decide, by decide +kernel⟩ ⟨Nat.le_of_ble_eq_true rfl, Nat.le_of_ble_eq_true rfl⟩, (htx _ kw_2_78), (htx _ kw_2_79)⟩ ⟨xPre_blind, vk_recv hZ.2.2.2.2.2.2.2.2.2.1 (i := 10) (by decide) hS, (fun U hU hW => ⟨rfl, xPre_of hZ hS (xm_free0 hS hA) xm_Pnil xm_Dnil hK U hU hW⟩)⟩ rfl rfl hl.1 rfl (lv_room (Nat.le_of_ble_eq_true rfl)) dM_says_16 ⟨(Nat.zero_le _), (Nat.zero_le _)⟩) hS (fun q _ h => xm_free0 hS hA q h) (xm_free0 hS hA) (fun r5 u9 t H1 locs ht hvm hr9 hB hz1 hk1 hS => ?_)
  replace hP := xm_keep hP hk1
  generalize H1 = H at hP hS ⊢
  rw [hr9]
  refine W.eq (g2 := F0 m 19 ls [.int 110, .int o2]) (by first | rfl | rw [xv1 (Nat.succ_ne_zero _)]) ?_
  refine lv_icmp_eq (tgt := 30) hx hb dM_says_19 (by decide) (fun hc => ?_) (fun hc => ?_)
  · rw [if_pos hc] at hf
    refine lv_aload_n hx hb dM_says_30 rfl (lv_at hl 1 rfl) ?_
    refine lv_dup hx hb dM_says_31 rfl ?_
    refine xm_get (v := .int (xsi st 16)) hx hb htx hown hK hP 16 (by decide) rfl (htx _ kw_5_103) rfl dM_says_32 ?_
    refine lv_iconst (v := 1) hx hb dM_says_35 (by decide) ?_
    refine lv_iadd hx hb dM_says_36 ?_
    refine xm_put (v := .int ((xsi st 16) + (1 : Int32))) (W' := (xMw cT aM ad rd gd vad (xsI st 16 ((xsi st 16) + (1 : Int32))) [])) (ty := .int) hx hb htx hown hK hP hD hS 16 (by decide) rfl (htx _ kw_5_103) rfl rfl (by decide +kernel) rfl rfl dM_says_37 (fun H locs hP hD hS => ?_)
    refine lv_iinc (v := 1) (lv' := [(3, .int 1), (0, .ref aM), (1, .ref (aK 10)), (2, .int x1)]) hx hb dM_says_40 hl (k := 0) rfl rfl (by decide) rfl (fun ls hl => ?_)
    refine lv_goto (tgt := 2) hx hb dM_says_43 (by decide) ?_
    refine lv_iload_n hx hb dM_says_2 rfl (lv_at hl 0 rfl) ?_
    refine lv_aload_n hx hb dM_says_3 rfl (lv_at hl 2 rfl) ?_
    refine va_calli (va_runV (C := "java/lang/String") (As := []) (rest := [.int 1]) ⟨hx, hb, hml, hown, htx⟩ (cJS_length_0 l hl9 D cT aK aV H.size) ⟨callB_of 0 htx (xw_goodC kw_2_70) rfl rfl rfl (htx _ kw_1_6) (htx _ kw_5_238) ⟨by decide, by decide, by decide +kernel⟩ ⟨Nat.le_of_ble_eq_true rfl, Nat.le_of_ble_eq_true rfl⟩, (htx _ kw_2_68), (htx _ kw_2_69)⟩ ⟨xPre_blind, vk_recv hZ.2.2.2.2.2.2.2.2.2.1 (i := 10) (by decide) hS, (fun U hU hW => ⟨rfl, xPre_of hZ hS (xm_free0 hS hA) xm_Pnil xm_Dnil hK U hU hW⟩)⟩ rfl rfl hl.1 rfl (lv_room (Nat.le_of_ble_eq_true rfl)) dM_says_4 ⟨(Nat.zero_le _), (Nat.zero_le _)⟩) hS (fun q _ h => xm_free0 hS hA q h) (xm_free0 hS hA) (fun r6 u9 t H1 locs ht hvm hr9 hB hz1 hk1 hS => ?_)
    replace hP := xm_keep hP hk1
    generalize H1 = H at hP hS ⊢
    rw [hr9]
    refine W.eq (g2 := F0 m 7 ls [.int 4, .int 1]) (by first | rfl | rw [xv1 (Nat.succ_ne_zero _)]) ?_
    refine lv_icmp_ge (tgt := 46) hx hb dM_says_7 (by decide) (fun h => ((by revert h; decide : False)).elim) (fun _ => ?_)
    refine lv_aload_n hx hb dM_says_10 rfl (lv_at hl 1 rfl) ?_
    obtain ⟨o7, hq8, hf⟩ := xbind hf
    have hFc := xm_free hD hS hA
    refine va_calli (va_runV (C := "ValueBenchModel") (As := []) (rest := []) ⟨hx, hb, hml, hown, htx⟩ (gM_peek l hl9 D cT aK aV H.size n aM ad rd gd vad (xsI st 16 ((xsi st 16) + (1 : Int32))) o7 hq8) ⟨callB_of 0 htx (xw_goodC kw_5_233) rfl rfl rfl (htx _ kw_1_5) (htx _ kw_5_230) ⟨by decide, by decide, by decide +kernel⟩ ⟨Nat.le_of_ble_eq_true rfl, Nat.le_of_ble_eq_true rfl⟩, (htx _ kw_5_232), (htx _ kp_M_peek)⟩ ⟨xPre_blind, va_recv hK hP (ci := 5) rfl (q0 := 0) rfl, (fun U hU hW => ⟨rfl, xPre_of hZ hS hFc hP hD hK U hU hW⟩)⟩ rfl rfl hl.1 rfl (xm_room (Nat.le_of_ble_eq_true rfl)) dM_says_11 ⟨Nat.zero_le _, Nat.zero_le _⟩) hS (fun q _ h => hFc q h) hFc (fun r9 u9 t H1 locs ht hvm hr9 hB hz1 hk1 hS => ?_)
    obtain ⟨hP1, hK1, hD1⟩ := hB
    rw [ht] at hP1
    have hP : va_P D xcl (xMw cT aM ad rd gd vad (xsI st 16 ((xsi st 16) + (1 : Int32))) []) H1 := hP1
    have hD : va_D A (xMw cT aM ad rd gd vad (xsI st 16 ((xsi st 16) + (1 : Int32))) []) := hD1.weaken (fun k q _ h => hFc q.1 h)
    generalize H1 = H at hP hS ⊢
    rw [hr9]
    refine W.eq (g2 := F0 m 14 ls [.int o7]) (by first | rfl | (skip; rfl)) ?_
    refine lv_aload_n hx hb dM_says_14 rfl (lv_at hl 2 rfl) ?_
    refine lv_iload_n hx hb dM_says_15 rfl (lv_at hl 0 rfl) ?_
    refine va_calli (va_runV (C := "java/lang/String") (As := [.int 1]) (rest := [.int o7]) ⟨hx, hb, hml, hown, htx⟩ (cJS_charAt_1 l hl9 D cT aK aV H.size) ⟨callB_of 1 htx (xw_goodC kw_2_80) rfl rfl rfl (htx _ kw_1_6) (htx _ kw_5_86) ⟨by decide, by decide, by decide +kernel⟩ ⟨Nat.le_of_ble_eq_true rfl, Nat.le_of_ble_eq_true rfl⟩, (htx _ kw_2_78), (htx _ kw_2_79)⟩ ⟨xPre_blind, vk_recv hZ.2.2.2.2.2.2.2.2.2.1 (i := 10) (by decide) hS, (fun U hU hW => ⟨rfl, xPre_of hZ hS (xm_free0 hS hA) xm_Pnil xm_Dnil hK U hU hW⟩)⟩ rfl rfl hl.1 rfl (lv_room (Nat.le_of_ble_eq_true rfl)) dM_says_16 ⟨(Nat.zero_le _), (Nat.zero_le _)⟩) hS (fun q _ h => xm_free0 hS hA q h) (xm_free0 hS hA) (fun r10 u9 t H1 locs ht hvm hr9 hB hz1 hk1 hS => ?_)
    replace hP := xm_keep hP hk1
    generalize H1 = H at hP hS ⊢
    rw [hr9]
    refine W.eq (g2 := F0 m 19 ls [.int 117, .int o7]) (by first | rfl | rw [xv1 (Nat.succ_ne_zero _)]) ?_
    refine lv_icmp_eq (tgt := 30) hx hb dM_says_19 (by decide) (fun hc => ?_) (fun hc => ?_)
    · rw [if_pos hc] at hf
      refine lv_aload_n hx hb dM_says_30 rfl (lv_at hl 1 rfl) ?_
      refine lv_dup hx hb dM_says_31 rfl ?_
      refine xm_get (v := .int ((xsi st 16) + (1 : Int32))) hx hb htx hown hK hP 16 (by decide) rfl (htx _ kw_5_103) rfl dM_says_32 ?_
      refine lv_iconst (v := 1) hx hb dM_says_35 (by decide) ?_
      refine lv_iadd hx hb dM_says_36 ?_
      refine xm_put (v := .int (((xsi st 16) + (1 : Int32)) + (1 : Int32))) (W' := (xMw cT aM ad rd gd vad (xsI (xsI st 16 ((xsi st 16) + (1 : Int32))) 16 (((xsi st 16) + (1 : Int32)) + (1 : Int32))) [])) (ty := .int) hx hb htx hown hK hP hD hS 16 (by decide) rfl (htx _ kw_5_103) rfl rfl (by decide +kernel) rfl rfl dM_says_37 (fun H locs hP hD hS => ?_)
      refine lv_iinc (v := 2) (lv' := [(3, .int 2), (0, .ref aM), (1, .ref (aK 10)), (2, .int x1)]) hx hb dM_says_40 hl (k := 0) rfl rfl (by decide) rfl (fun ls hl => ?_)
      refine lv_goto (tgt := 2) hx hb dM_says_43 (by decide) ?_
      refine lv_iload_n hx hb dM_says_2 rfl (lv_at hl 0 rfl) ?_
      refine lv_aload_n hx hb dM_says_3 rfl (lv_at hl 2 rfl) ?_
      refine va_calli (va_runV (C := "java/lang/String") (As := []) (rest := [.int 2]) ⟨hx, hb, hml, hown, htx⟩ (cJS_length_0 l hl9 D cT aK aV H.size) ⟨callB_of 0 htx (xw_goodC kw_2_70) rfl rfl rfl (htx _ kw_1_6) (htx _ kw_5_238) ⟨by decide, by decide, by decide +kernel⟩ ⟨Nat.le_of_ble_eq_true rfl, Nat.le_of_ble_eq_true rfl⟩, (htx _ kw_2_68), (htx _ kw_2_69)⟩ ⟨xPre_blind, vk_recv hZ.2.2.2.2.2.2.2.2.2.1 (i := 10) (by decide) hS, (fun U hU hW => ⟨rfl, xPre_of hZ hS (xm_free0 hS hA) xm_Pnil xm_Dnil hK U hU hW⟩)⟩ rfl rfl hl.1 rfl (lv_room (Nat.le_of_ble_eq_true rfl)) dM_says_4 ⟨(Nat.zero_le _), (Nat.zero_le _)⟩) hS (fun q _ h => xm_free0 hS hA q h) (xm_free0 hS hA) (fun r11 u9 t H1 locs ht hvm hr9 hB hz1 hk1 hS => ?_)
      replace hP := xm_keep hP hk1
      generalize H1 = H at hP hS ⊢
      rw [hr9]
      refine W.eq (g2 := F0 m 7 ls [.int 4, .int 2]) (by first | rfl | rw [xv1 (Nat.succ_ne_zero _)]) ?_
      refine lv_icmp_ge (tgt := 46) hx hb dM_says_7 (by decide) (fun h => ((by revert h; decide : False)).elim) (fun _ => ?_)
      refine lv_aload_n hx hb dM_says_10 rfl (lv_at hl 1 rfl) ?_
      obtain ⟨o12, hq13, hf⟩ := xbind hf
      have hFc := xm_free hD hS hA
      refine va_calli (va_runV (C := "ValueBenchModel") (As := []) (rest := []) ⟨hx, hb, hml, hown, htx⟩ (gM_peek l hl9 D cT aK aV H.size n aM ad rd gd vad (xsI (xsI st 16 ((xsi st 16) + (1 : Int32))) 16 (((xsi st 16) + (1 : Int32)) + (1 : Int32))) o12 hq13) ⟨callB_of 0 htx (xw_goodC kw_5_233) rfl rfl rfl (htx _ kw_1_5) (htx _ kw_5_230) ⟨by decide, by decide, by decide +kernel⟩ ⟨Nat.le_of_ble_eq_true rfl, Nat.le_of_ble_eq_true rfl⟩, (htx _ kw_5_232), (htx _ kp_M_peek)⟩ ⟨xPre_blind, va_recv hK hP (ci := 5) rfl (q0 := 0) rfl, (fun U hU hW => ⟨rfl, xPre_of hZ hS hFc hP hD hK U hU hW⟩)⟩ rfl rfl hl.1 rfl (xm_room (Nat.le_of_ble_eq_true rfl)) dM_says_11 ⟨Nat.zero_le _, Nat.zero_le _⟩) hS (fun q _ h => hFc q h) hFc (fun r14 u9 t H1 locs ht hvm hr9 hB hz1 hk1 hS => ?_)
      obtain ⟨hP1, hK1, hD1⟩ := hB
      rw [ht] at hP1
      have hP : va_P D xcl (xMw cT aM ad rd gd vad (xsI (xsI st 16 ((xsi st 16) + (1 : Int32))) 16 (((xsi st 16) + (1 : Int32)) + (1 : Int32))) []) H1 := hP1
      have hD : va_D A (xMw cT aM ad rd gd vad (xsI (xsI st 16 ((xsi st 16) + (1 : Int32))) 16 (((xsi st 16) + (1 : Int32)) + (1 : Int32))) []) := hD1.weaken (fun k q _ h => hFc q.1 h)
      generalize H1 = H at hP hS ⊢
      rw [hr9]
      refine W.eq (g2 := F0 m 14 ls [.int o12]) (by first | rfl | (skip; rfl)) ?_
      refine lv_aload_n hx hb dM_says_14 rfl (lv_at hl 2 rfl) ?_
      refine lv_iload_n hx hb dM_says_15 rfl (lv_at hl 0 rfl) ?_
      refine va_calli (va_runV (C := "java/lang/String") (As := [.int 2]) (rest := [.int o12]) ⟨hx, hb, hml, hown, htx⟩ (cJS_charAt_2 l hl9 D cT aK aV H.size) ⟨callB_of 1 htx (xw_goodC kw_2_80) rfl rfl rfl (htx _ kw_1_6) (htx _ kw_5_86) ⟨by decide, by decide, by decide +kernel⟩ ⟨Nat.le_of_ble_eq_true rfl, Nat.le_of_ble_eq_true rfl⟩, (htx _ kw_2_78), (htx _ kw_2_79)⟩ ⟨xPre_blind, vk_recv hZ.2.2.2.2.2.2.2.2.2.1 (i := 10) (by decide) hS, (fun U hU hW => ⟨rfl, xPre_of hZ hS (xm_free0 hS hA) xm_Pnil xm_Dnil hK U hU hW⟩)⟩ rfl rfl hl.1 rfl (lv_room (Nat.le_of_ble_eq_true rfl)) dM_says_16 ⟨(Nat.zero_le _), (Nat.zero_le _)⟩) hS (fun q _ h => xm_free0 hS hA q h) (xm_free0 hS hA) (fun r15 u9 t H1 locs ht hvm hr9 hB hz1 hk1 hS => ?_)
      replace hP := xm_keep hP hk1
      generalize H1 = H at hP hS ⊢
      rw [hr9]
      refine W.eq (g2 := F0 m 19 ls [.int 108, .int o12]) (by first | rfl | rw [xv1 (Nat.succ_ne_zero _)]) ?_
      refine lv_icmp_eq (tgt := 30) hx hb dM_says_19 (by decide) (fun hc => ?_) (fun hc => ?_)
      · rw [if_pos hc] at hf
        refine lv_aload_n hx hb dM_says_30 rfl (lv_at hl 1 rfl) ?_
        refine lv_dup hx hb dM_says_31 rfl ?_
        refine xm_get (v := .int (((xsi st 16) + (1 : Int32)) + (1 : Int32))) hx hb htx hown hK hP 16 (by decide) rfl (htx _ kw_5_103) rfl dM_says_32 ?_
        refine lv_iconst (v := 1) hx hb dM_says_35 (by decide) ?_
        refine lv_iadd hx hb dM_says_36 ?_
        refine xm_put (v := .int ((((xsi st 16) + (1 : Int32)) + (1 : Int32)) + (1 : Int32))) (W' := (xMw cT aM ad rd gd vad (xsI (xsI (xsI st 16 ((xsi st 16) + (1 : Int32))) 16 (((xsi st 16) + (1 : Int32)) + (1 : Int32))) 16 ((((xsi st 16) + (1 : Int32)) + (1 : Int32)) + (1 : Int32))) [])) (ty := .int) hx hb htx hown hK hP hD hS 16 (by decide) rfl (htx _ kw_5_103) rfl rfl (by decide +kernel) rfl rfl dM_says_37 (fun H locs hP hD hS => ?_)
        refine lv_iinc (v := 3) (lv' := [(3, .int 3), (0, .ref aM), (1, .ref (aK 10)), (2, .int x1)]) hx hb dM_says_40 hl (k := 0) rfl rfl (by decide) rfl (fun ls hl => ?_)
        refine lv_goto (tgt := 2) hx hb dM_says_43 (by decide) ?_
        refine lv_iload_n hx hb dM_says_2 rfl (lv_at hl 0 rfl) ?_
        refine lv_aload_n hx hb dM_says_3 rfl (lv_at hl 2 rfl) ?_
        refine va_calli (va_runV (C := "java/lang/String") (As := []) (rest := [.int 3]) ⟨hx, hb, hml, hown, htx⟩ (cJS_length_0 l hl9 D cT aK aV H.size) ⟨callB_of 0 htx (xw_goodC kw_2_70) rfl rfl rfl (htx _ kw_1_6) (htx _ kw_5_238) ⟨by decide, by decide, by decide +kernel⟩ ⟨Nat.le_of_ble_eq_true rfl, Nat.le_of_ble_eq_true rfl⟩, (htx _ kw_2_68), (htx _ kw_2_69)⟩ ⟨xPre_blind, vk_recv hZ.2.2.2.2.2.2.2.2.2.1 (i := 10) (by decide) hS, (fun U hU hW => ⟨rfl, xPre_of hZ hS (xm_free0 hS hA) xm_Pnil xm_Dnil hK U hU hW⟩)⟩ rfl rfl hl.1 rfl (lv_room (Nat.le_of_ble_eq_true rfl)) dM_says_4 ⟨(Nat.zero_le _), (Nat.zero_le _)⟩) hS (fun q _ h => xm_free0 hS hA q h) (xm_free0 hS hA) (fun r16 u9 t H1 locs ht hvm hr9 hB hz1 hk1 hS => ?_)
        replace hP := xm_keep hP hk1
        generalize H1 = H at hP hS ⊢
        rw [hr9]
        refine W.eq (g2 := F0 m 7 ls [.int 4, .int 3]) (by first | rfl | rw [xv1 (Nat.succ_ne_zero _)]) ?_
        refine lv_icmp_ge (tgt := 46) hx hb dM_says_7 (by decide) (fun h => ((by revert h; decide : False)).elim) (fun _ => ?_)
        refine lv_aload_n hx hb dM_says_10 rfl (lv_at hl 1 rfl) ?_
        obtain ⟨o17, hq18, hf⟩ := xbind hf
        have hFc := xm_free hD hS hA
        refine va_calli (va_runV (C := "ValueBenchModel") (As := []) (rest := []) ⟨hx, hb, hml, hown, htx⟩ (gM_peek l hl9 D cT aK aV H.size n aM ad rd gd vad (xsI (xsI (xsI st 16 ((xsi st 16) + (1 : Int32))) 16 (((xsi st 16) + (1 : Int32)) + (1 : Int32))) 16 ((((xsi st 16) + (1 : Int32)) + (1 : Int32)) + (1 : Int32))) o17 hq18) ⟨callB_of 0 htx (xw_goodC kw_5_233) rfl rfl rfl (htx _ kw_1_5) (htx _ kw_5_230) ⟨by decide, by decide, by decide +kernel⟩ ⟨Nat.le_of_ble_eq_true rfl, Nat.le_of_ble_eq_true rfl⟩, (htx _ kw_5_232), (htx _ kp_M_peek)⟩ ⟨xPre_blind, va_recv hK hP (ci := 5) rfl (q0 := 0) rfl, (fun U hU hW => ⟨rfl, xPre_of hZ hS hFc hP hD hK U hU hW⟩)⟩ rfl rfl hl.1 rfl (xm_room (Nat.le_of_ble_eq_true rfl)) dM_says_11 ⟨Nat.zero_le _, Nat.zero_le _⟩) hS (fun q _ h => hFc q h) hFc (fun r19 u9 t H1 locs ht hvm hr9 hB hz1 hk1 hS => ?_)
        obtain ⟨hP1, hK1, hD1⟩ := hB
        rw [ht] at hP1
        have hP : va_P D xcl (xMw cT aM ad rd gd vad (xsI (xsI (xsI st 16 ((xsi st 16) + (1 : Int32))) 16 (((xsi st 16) + (1 : Int32)) + (1 : Int32))) 16 ((((xsi st 16) + (1 : Int32)) + (1 : Int32)) + (1 : Int32))) []) H1 := hP1
        have hD : va_D A (xMw cT aM ad rd gd vad (xsI (xsI (xsI st 16 ((xsi st 16) + (1 : Int32))) 16 (((xsi st 16) + (1 : Int32)) + (1 : Int32))) 16 ((((xsi st 16) + (1 : Int32)) + (1 : Int32)) + (1 : Int32))) []) := hD1.weaken (fun k q _ h => hFc q.1 h)
        generalize H1 = H at hP hS ⊢
        rw [hr9]
        refine W.eq (g2 := F0 m 14 ls [.int o17]) (by first | rfl | (skip; rfl)) ?_
        refine lv_aload_n hx hb dM_says_14 rfl (lv_at hl 2 rfl) ?_
        refine lv_iload_n hx hb dM_says_15 rfl (lv_at hl 0 rfl) ?_
        refine va_calli (va_runV (C := "java/lang/String") (As := [.int 3]) (rest := [.int o17]) ⟨hx, hb, hml, hown, htx⟩ (cJS_charAt_3 l hl9 D cT aK aV H.size) ⟨callB_of 1 htx (xw_goodC kw_2_80) rfl rfl rfl (htx _ kw_1_6) (htx _ kw_5_86) ⟨by decide, by decide, by decide +kernel⟩ ⟨Nat.le_of_ble_eq_true rfl, Nat.le_of_ble_eq_true rfl⟩, (htx _ kw_2_78), (htx _ kw_2_79)⟩ ⟨xPre_blind, vk_recv hZ.2.2.2.2.2.2.2.2.2.1 (i := 10) (by decide) hS, (fun U hU hW => ⟨rfl, xPre_of hZ hS (xm_free0 hS hA) xm_Pnil xm_Dnil hK U hU hW⟩)⟩ rfl rfl hl.1 rfl (lv_room (Nat.le_of_ble_eq_true rfl)) dM_says_16 ⟨(Nat.zero_le _), (Nat.zero_le _)⟩) hS (fun q _ h => xm_free0 hS hA q h) (xm_free0 hS hA) (fun r20 u9 t H1 locs ht hvm hr9 hB hz1 hk1 hS => ?_)
        replace hP := xm_keep hP hk1
        generalize H1 = H at hP hS ⊢
        rw [hr9]
        refine W.eq (g2 := F0 m 19 ls [.int 108, .int o17]) (by first | rfl | rw [xv1 (Nat.succ_ne_zero _)]) ?_
        refine lv_icmp_eq (tgt := 30) hx hb dM_says_19 (by decide) (fun hc => ?_) (fun hc => ?_)
        · rw [if_pos hc] at hf
          refine lv_aload_n hx hb dM_says_30 rfl (lv_at hl 1 rfl) ?_
          refine lv_dup hx hb dM_says_31 rfl ?_
          refine xm_get (v := .int ((((xsi st 16) + (1 : Int32)) + (1 : Int32)) + (1 : Int32))) hx hb htx hown hK hP 16 (by decide) rfl (htx _ kw_5_103) rfl dM_says_32 ?_
          refine lv_iconst (v := 1) hx hb dM_says_35 (by decide) ?_
          refine lv_iadd hx hb dM_says_36 ?_
          refine xm_put (v := .int (((((xsi st 16) + (1 : Int32)) + (1 : Int32)) + (1 : Int32)) + (1 : Int32))) (W' := (xMw cT aM ad rd gd vad (xsI (xsI (xsI (xsI st 16 ((xsi st 16) + (1 : Int32))) 16 (((xsi st 16) + (1 : Int32)) + (1 : Int32))) 16 ((((xsi st 16) + (1 : Int32)) + (1 : Int32)) + (1 : Int32))) 16 (((((xsi st 16) + (1 : Int32)) + (1 : Int32)) + (1 : Int32)) + (1 : Int32))) [])) (ty := .int) hx hb htx hown hK hP hD hS 16 (by decide) rfl (htx _ kw_5_103) rfl rfl (by decide +kernel) rfl rfl dM_says_37 (fun H locs hP hD hS => ?_)
          refine lv_iinc (v := 4) (lv' := [(3, .int 4), (0, .ref aM), (1, .ref (aK 10)), (2, .int x1)]) hx hb dM_says_40 hl (k := 0) rfl rfl (by decide) rfl (fun ls hl => ?_)
          refine lv_goto (tgt := 2) hx hb dM_says_43 (by decide) ?_
          refine lv_iload_n hx hb dM_says_2 rfl (lv_at hl 0 rfl) ?_
          refine lv_aload_n hx hb dM_says_3 rfl (lv_at hl 2 rfl) ?_
          refine va_calli (va_runV (C := "java/lang/String") (As := []) (rest := [.int 4]) ⟨hx, hb, hml, hown, htx⟩ (cJS_length_0 l hl9 D cT aK aV H.size) ⟨callB_of 0 htx (xw_goodC kw_2_70) rfl rfl rfl (htx _ kw_1_6) (htx _ kw_5_238) ⟨by decide, by decide, by decide +kernel⟩ ⟨Nat.le_of_ble_eq_true rfl, Nat.le_of_ble_eq_true rfl⟩, (htx _ kw_2_68), (htx _ kw_2_69)⟩ ⟨xPre_blind, vk_recv hZ.2.2.2.2.2.2.2.2.2.1 (i := 10) (by decide) hS, (fun U hU hW => ⟨rfl, xPre_of hZ hS (xm_free0 hS hA) xm_Pnil xm_Dnil hK U hU hW⟩)⟩ rfl rfl hl.1 rfl (lv_room (Nat.le_of_ble_eq_true rfl)) dM_says_4 ⟨(Nat.zero_le _), (Nat.zero_le _)⟩) hS (fun q _ h => xm_free0 hS hA q h) (xm_free0 hS hA) (fun r21 u9 t H1 locs ht hvm hr9 hB hz1 hk1 hS => ?_)
          replace hP := xm_keep hP hk1
          generalize H1 = H at hP hS ⊢
          rw [hr9]
          refine W.eq (g2 := F0 m 7 ls [.int 4, .int 4]) (by first | rfl | rw [xv1 (Nat.succ_ne_zero _)]) ?_
          refine lv_icmp_ge (tgt := 46) hx hb dM_says_7 (by decide) (fun _ => ?_) (fun h => ((by revert h; decide : False)).elim)
          refine lv_aload_n hx hb dM_says_46 rfl (lv_at hl 1 rfl) ?_
          refine lv_iload_n hx hb dM_says_47 rfl (lv_at hl 3 rfl) ?_
          obtain ⟨o22, hq23, hf⟩ := xbind hf
          obtain ⟨hm24, hf⟩ := xmoE hf
          have hFc := xm_free hD hS hA
          refine va_callq (va_runV (C := "ValueBenchModel") (As := [.int x1]) (rest := []) ⟨hx, hb, hml, hown, htx⟩ (gM_fresh l hl9 D cT aK aV H.size n aM ad rd gd vad (xsI (xsI (xsI (xsI st 16 ((xsi st 16) + (1 : Int32))) 16 (((xsi st 16) + (1 : Int32)) + (1 : Int32))) 16 ((((xsi st 16) + (1 : Int32)) + (1 : Int32)) + (1 : Int32))) 16 (((((xsi st 16) + (1 : Int32)) + (1 : Int32)) + (1 : Int32)) + (1 : Int32))) x1 o22 hq23) ⟨callB_of 1 htx (xw_goodC kw_6_16) rfl rfl rfl (htx _ kw_1_5) (htx _ kw_6_13) ⟨by decide, by decide, by decide +kernel⟩ ⟨Nat.le_of_ble_eq_true rfl, Nat.le_of_ble_eq_true rfl⟩, (htx _ kw_6_15), (htx _ kp_M_fresh)⟩ ⟨xPre_blind, va_recv hK hP (ci := 5) rfl (q0 := 0) rfl, (fun U hU hW => ⟨rfl, xPre_of hZ hS hFc hP hD hK U hU hW⟩)⟩ rfl rfl hl.1 rfl (xm_room (Nat.le_of_ble_eq_true rfl)) dM_says_48 ⟨hm24.1, hm24.2⟩) hS (fun q _ h => hFc q h) hFc (fun r25 u9 t H1 locs ht hvm hr9 hB hz1 hk1 hS => ?_)
          obtain ⟨hP1, hK1, hD1⟩ := hB
          rw [ht] at hP1
          obtain ⟨ad26, gd27, vad28⟩ := u9
          obtain ⟨hr9, hv29, hn30⟩ := hr9
          have hP : va_P D xcl (xMw cT aM ad26 rd gd27 vad28 o22.2.2.2 []) H1 := hP1
          have hD : va_D A (xMw cT aM ad26 rd gd27 vad28 o22.2.2.2 []) := hD1.weaken (fun k q _ h => hFc q.1 h)
          generalize H1 = H at hP hS ⊢
          have hE9 : ∀ p, p < xct st → vad28 p = vad p := fun p h => (hv29 p (Nat.lt_of_lt_of_le h hN)).trans (hE p h)
          have hE := hE9
          have hN : xct st ≤ xct o22.2.2.2 := Nat.le_trans hN hn30
          rw [hr9]
          refine W.eq (g2 := F0 m 51 ls [xv vad28 o22.2.2.1]) (by first | rfl | (skip; rfl)) ?_
          obtain rfl := Option.some.inj hf
          exact W.aret (v := xv vad28 o22.2.2.1) hx hb hr (Or.inl ⟨_, rfl⟩) (xvor _ _) (fun t ht hW => ⟨⟨xca vad28 o22.2.2.1, (ad26, gd27, vad28), rfl, ⟨rfl, hE, hN⟩, by rw [ht]; exact hP, va_K.moved hW.alike hK, hD⟩, hS.F ht⟩) hS.2.2 dM_says_51
        · rw [if_neg hc] at hf
          refine lv_aload_n hx hb dM_says_22 rfl (lv_at hl 1 rfl) ?_
          refine lv_aload_n hx hb dM_says_23 rfl (lv_at hl 1 rfl) ?_
          refine xm_get (v := .int ((((xsi st 16) + (1 : Int32)) + (1 : Int32)) + (1 : Int32))) hx hb htx hown hK hP 16 (by decide) rfl (htx _ kw_5_103) rfl dM_says_24 ?_
          obtain ⟨o21, hq22, hf⟩ := xbind hf
          by_cases hk23 : o21.1 = 1
          · rw [if_pos hk23] at hf
            obtain ⟨hm24, hf⟩ := xmoE hf
            obtain rfl := Option.some.inj hf
            exact absurd (show (1 : Nat) = 0 from hkd) (by decide)
          rw [if_neg hk23] at hf
          exact nomatch hf
      · rw [if_neg hc] at hf
        refine lv_aload_n hx hb dM_says_22 rfl (lv_at hl 1 rfl) ?_
        refine lv_aload_n hx hb dM_says_23 rfl (lv_at hl 1 rfl) ?_
        refine xm_get (v := .int (((xsi st 16) + (1 : Int32)) + (1 : Int32))) hx hb htx hown hK hP 16 (by decide) rfl (htx _ kw_5_103) rfl dM_says_24 ?_
        obtain ⟨o16, hq17, hf⟩ := xbind hf
        by_cases hk18 : o16.1 = 1
        · rw [if_pos hk18] at hf
          obtain ⟨hm19, hf⟩ := xmoE hf
          obtain rfl := Option.some.inj hf
          exact absurd (show (1 : Nat) = 0 from hkd) (by decide)
        rw [if_neg hk18] at hf
        exact nomatch hf
    · rw [if_neg hc] at hf
      refine lv_aload_n hx hb dM_says_22 rfl (lv_at hl 1 rfl) ?_
      refine lv_aload_n hx hb dM_says_23 rfl (lv_at hl 1 rfl) ?_
      refine xm_get (v := .int ((xsi st 16) + (1 : Int32))) hx hb htx hown hK hP 16 (by decide) rfl (htx _ kw_5_103) rfl dM_says_24 ?_
      obtain ⟨o11, hq12, hf⟩ := xbind hf
      by_cases hk13 : o11.1 = 1
      · rw [if_pos hk13] at hf
        obtain ⟨hm14, hf⟩ := xmoE hf
        obtain rfl := Option.some.inj hf
        exact absurd (show (1 : Nat) = 0 from hkd) (by decide)
      rw [if_neg hk13] at hf
      exact nomatch hf
  · rw [if_neg hc] at hf
    refine lv_aload_n hx hb dM_says_22 rfl (lv_at hl 1 rfl) ?_
    refine lv_aload_n hx hb dM_says_23 rfl (lv_at hl 1 rfl) ?_
    refine xm_get (v := .int (xsi st 16)) hx hb htx hown hK hP 16 (by decide) rfl (htx _ kw_5_103) rfl dM_says_24 ?_
    obtain ⟨o6, hq7, hf⟩ := xbind hf
    by_cases hk8 : o6.1 = 1
    · rw [if_pos hk8] at hf
      obtain ⟨hm9, hf⟩ := xmoE hf
      obtain rfl := Option.some.inj hf
      exact absurd (show (1 : Nat) = 0 from hkd) (by decide)
    rw [if_neg hk8] at hf
    exact nomatch hf
set_option maxHeartbeats 400000000 in
set_option maxRecDepth 100000 in
theorem gM_saysb_1 (l : Launch) (hl9 : l.stackTraces = false) (D : va_G) (cT : Nat → ClassId) (aK aV : Nat → Nat) (sz n : Nat) (aM : Nat) (ad rd gd vad : Nat → Nat) (st : xS) (x1 : Int32) (out : Nat × Nat × Nat × Nat × xS) (hf : fM_saysb n st x1 = some out) (hkd : out.1 = 1) : xMetY l yM_says wyM_says 7 out.2.1 out.2.2.1 121 D cT aK aV sz [.ref aM, .ref (aK 10), .int x1] (xMw cT aM ad rd gd vad st []) "java/lang/UnsupportedOperationException" (fun u => xE vad st out.2.2.2.2 u) (fun A u t => xB D xcl cT A (xMw cT aM u.1 rd u.2.1 u.2.2 out.2.2.2.2 []) t) := by
  refine vx_ofW (cc := prog_13_method_33_code) (maxL := 4) (ret := (some (.object "ValueBenchModel$V"))) (by decide) rfl ?_
  intro p e s m args below meth c s₁ B hml hne hv
  obtain ⟨rfl, hsz, hZ, hP, hK, hD0⟩ := hv
  have hx := B.exec
  have hb := B.bytes
  have hr := B.returns
  have hts := atoms_spec (ws := wyM_says) B.pre
  have htx := fun w h => hts w (List.mem_cons_of_mem _ h)
  have hown : s.vm.findClass "ValueBenchModel" = some m.cls := findClass_of_methodNamed B.named
  have hlocks := B.notSynchronized
  subst hsz
  have hD := hD0.self (sz := s.heap.size)
  generalize hAe : va_A (xMw cT aM ad rd gd vad st []) s.heap.size = A at hD hZ ⊢
  have hA : ∀ q : Nat, s.heap.size ≤ q → A q := fun q h => by rw [← hAe]; exact Or.inr h
  have hS : va_S A s.heap s.heap [] := va_S.rf
  have hl := lv_entry ([.ref aM, .ref (aK 10), .int x1]) (n := 4) (by simp [lg_sl, xvcat, xrscat, xcI, xcL, xcR, xcN])
  rw [show lv_args 0 [.ref aM, .ref (aK 10), .int x1] = [(0, .ref aM), (1, .ref (aK 10)), (2, .int x1)] from by simp [lv_args, xvcat, xrscat, xcI, xcL, xcR, xcN]] at hl
  rw [lg_entry_eq]
  generalize (lg_sl ([.ref aM, .ref (aK 10), .int x1]) ++ List.replicate (4 - (lg_sl ([.ref aM, .ref (aK 10), .int x1])).length) Slot.unset).toArray = ls at hl ⊢
  have hl : lv_has ls 4 [(0, .ref aM), (1, .ref (aK 10)), (2, .int x1)] := hl
  have hE : ∀ p, p < xct st → vad p = vad p := fun _ _ => rfl
  have hN : xct st ≤ xct st := Nat.le_refl _
  unfold fM_saysb at hf
  refine lv_iconst (v := 0) hx hb dM_says_0 (by decide) ?_
  refine lv_istore_n (lv' := [(3, .int 0), (0, .ref aM), (1, .ref (aK 10)), (2, .int x1)]) hx hb dM_says_1 rfl hl (by decide) rfl (fun ls hl => ?_)
  refine lv_iload_n hx hb dM_says_2 rfl (lv_at hl 0 rfl) ?_
  refine lv_aload_n hx hb dM_says_3 rfl (lv_at hl 2 rfl) ?_
  refine va_calli (va_runV (C := "java/lang/String") (As := []) (rest := [.int 0]) ⟨hx, hb, hml, hown, htx⟩ (cJS_length_0 l hl9 D cT aK aV s.heap.size) ⟨callB_of 0 htx (xw_goodC kw_2_70) rfl rfl rfl (htx _ kw_1_6) (htx _ kw_5_238) ⟨by decide, by decide, by decide +kernel⟩ ⟨Nat.le_of_ble_eq_true rfl, Nat.le_of_ble_eq_true rfl⟩, (htx _ kw_2_68), (htx _ kw_2_69)⟩ ⟨xPre_blind, vk_recv hZ.2.2.2.2.2.2.2.2.2.1 (i := 10) (by decide) hS, (fun U hU hW => ⟨rfl, xPre_of hZ hS (xm_free0 hS hA) xm_Pnil xm_Dnil hK U hU hW⟩)⟩ rfl rfl hl.1 rfl (lv_room (Nat.le_of_ble_eq_true rfl)) dM_says_4 ⟨(Nat.zero_le _), (Nat.zero_le _)⟩) hS (fun q _ h => xm_free0 hS hA q h) (xm_free0 hS hA) (fun r1 u9 t H1 locs ht hvm hr9 hB hz1 hk1 hS => ?_)
  replace hP := xm_keep hP hk1
  generalize H1 = H at hP hS ⊢
  rw [hr9]
  refine W.eq (g2 := F0 m 7 ls [.int 4, .int 0]) (by first | rfl | rw [xv1 (Nat.succ_ne_zero _)]) ?_
  refine lv_icmp_ge (tgt := 46) hx hb dM_says_7 (by decide) (fun h => ((by revert h; decide : False)).elim) (fun _ => ?_)
  refine lv_aload_n hx hb dM_says_10 rfl (lv_at hl 1 rfl) ?_
  obtain ⟨o2, hq3, hf⟩ := xbind hf
  have hFc := xm_free hD hS hA
  refine va_calli (va_runV (C := "ValueBenchModel") (As := []) (rest := []) ⟨hx, hb, hml, hown, htx⟩ (gM_peek l hl9 D cT aK aV H.size n aM ad rd gd vad st o2 hq3) ⟨callB_of 0 htx (xw_goodC kw_5_233) rfl rfl rfl (htx _ kw_1_5) (htx _ kw_5_230) ⟨by decide, by decide, by decide +kernel⟩ ⟨Nat.le_of_ble_eq_true rfl, Nat.le_of_ble_eq_true rfl⟩, (htx _ kw_5_232), (htx _ kp_M_peek)⟩ ⟨xPre_blind, va_recv hK hP (ci := 5) rfl (q0 := 0) rfl, (fun U hU hW => ⟨rfl, xPre_of hZ hS hFc hP hD hK U hU hW⟩)⟩ rfl rfl hl.1 rfl (xm_room (Nat.le_of_ble_eq_true rfl)) dM_says_11 ⟨Nat.zero_le _, Nat.zero_le _⟩) hS (fun q _ h => hFc q h) hFc (fun r4 u9 t H1 locs ht hvm hr9 hB hz1 hk1 hS => ?_)
  obtain ⟨hP1, hK1, hD1⟩ := hB
  rw [ht] at hP1
  have hP : va_P D xcl (xMw cT aM ad rd gd vad st []) H1 := hP1
  have hD : va_D A (xMw cT aM ad rd gd vad st []) := hD1.weaken (fun k q _ h => hFc q.1 h)
  generalize H1 = H at hP hS ⊢
  rw [hr9]
  refine W.eq (g2 := F0 m 14 ls [.int o2]) (by first | rfl | (skip; rfl)) ?_
  refine lv_aload_n hx hb dM_says_14 rfl (lv_at hl 2 rfl) ?_
  refine lv_iload_n hx hb dM_says_15 rfl (lv_at hl 0 rfl) ?_
  refine va_calli (va_runV (C := "java/lang/String") (As := [.int 0]) (rest := [.int o2]) ⟨hx, hb, hml, hown, htx⟩ (cJS_charAt_0 l hl9 D cT aK aV H.size) ⟨callB_of 1 htx (xw_goodC kw_2_80) rfl rfl rfl (htx _ kw_1_6) (htx _ kw_5_86) ⟨by decide, by decide, by decide +kernel⟩ ⟨Nat.le_of_ble_eq_true rfl, Nat.le_of_ble_eq_true rfl⟩, (htx _ kw_2_78), (htx _ kw_2_79)⟩ ⟨xPre_blind, vk_recv hZ.2.2.2.2.2.2.2.2.2.1 (i := 10) (by decide) hS, (fun U hU hW => ⟨rfl, xPre_of hZ hS (xm_free0 hS hA) xm_Pnil xm_Dnil hK U hU hW⟩)⟩ rfl rfl hl.1 rfl (lv_room (Nat.le_of_ble_eq_true rfl)) dM_says_16 ⟨(Nat.zero_le _), (Nat.zero_le _)⟩) hS (fun q _ h => xm_free0 hS hA q h) (xm_free0 hS hA) (fun r5 u9 t H1 locs ht hvm hr9 hB hz1 hk1 hS => ?_)
  replace hP := xm_keep hP hk1
  generalize H1 = H at hP hS ⊢
  rw [hr9]
  refine W.eq (g2 := F0 m 19 ls [.int 110, .int o2]) (by first | rfl | rw [xv1 (Nat.succ_ne_zero _)]) ?_
  refine lv_icmp_eq (tgt := 30) hx hb dM_says_19 (by decide) (fun hc => ?_) (fun hc => ?_)
  · rw [if_pos hc] at hf
    refine lv_aload_n hx hb dM_says_30 rfl (lv_at hl 1 rfl) ?_
    refine lv_dup hx hb dM_says_31 rfl ?_
    refine xm_get (v := .int (xsi st 16)) hx hb htx hown hK hP 16 (by decide) rfl (htx _ kw_5_103) rfl dM_says_32 ?_
    refine lv_iconst (v := 1) hx hb dM_says_35 (by decide) ?_
    refine lv_iadd hx hb dM_says_36 ?_
    refine xm_put (v := .int ((xsi st 16) + (1 : Int32))) (W' := (xMw cT aM ad rd gd vad (xsI st 16 ((xsi st 16) + (1 : Int32))) [])) (ty := .int) hx hb htx hown hK hP hD hS 16 (by decide) rfl (htx _ kw_5_103) rfl rfl (by decide +kernel) rfl rfl dM_says_37 (fun H locs hP hD hS => ?_)
    refine lv_iinc (v := 1) (lv' := [(3, .int 1), (0, .ref aM), (1, .ref (aK 10)), (2, .int x1)]) hx hb dM_says_40 hl (k := 0) rfl rfl (by decide) rfl (fun ls hl => ?_)
    refine lv_goto (tgt := 2) hx hb dM_says_43 (by decide) ?_
    refine lv_iload_n hx hb dM_says_2 rfl (lv_at hl 0 rfl) ?_
    refine lv_aload_n hx hb dM_says_3 rfl (lv_at hl 2 rfl) ?_
    refine va_calli (va_runV (C := "java/lang/String") (As := []) (rest := [.int 1]) ⟨hx, hb, hml, hown, htx⟩ (cJS_length_0 l hl9 D cT aK aV H.size) ⟨callB_of 0 htx (xw_goodC kw_2_70) rfl rfl rfl (htx _ kw_1_6) (htx _ kw_5_238) ⟨by decide, by decide, by decide +kernel⟩ ⟨Nat.le_of_ble_eq_true rfl, Nat.le_of_ble_eq_true rfl⟩, (htx _ kw_2_68), (htx _ kw_2_69)⟩ ⟨xPre_blind, vk_recv hZ.2.2.2.2.2.2.2.2.2.1 (i := 10) (by decide) hS, (fun U hU hW => ⟨rfl, xPre_of hZ hS (xm_free0 hS hA) xm_Pnil xm_Dnil hK U hU hW⟩)⟩ rfl rfl hl.1 rfl (lv_room (Nat.le_of_ble_eq_true rfl)) dM_says_4 ⟨(Nat.zero_le _), (Nat.zero_le _)⟩) hS (fun q _ h => xm_free0 hS hA q h) (xm_free0 hS hA) (fun r6 u9 t H1 locs ht hvm hr9 hB hz1 hk1 hS => ?_)
    replace hP := xm_keep hP hk1
    generalize H1 = H at hP hS ⊢
    rw [hr9]
    refine W.eq (g2 := F0 m 7 ls [.int 4, .int 1]) (by first | rfl | rw [xv1 (Nat.succ_ne_zero _)]) ?_
    refine lv_icmp_ge (tgt := 46) hx hb dM_says_7 (by decide) (fun h => ((by revert h; decide : False)).elim) (fun _ => ?_)
    refine lv_aload_n hx hb dM_says_10 rfl (lv_at hl 1 rfl) ?_
    obtain ⟨o7, hq8, hf⟩ := xbind hf
    have hFc := xm_free hD hS hA
    refine va_calli (va_runV (C := "ValueBenchModel") (As := []) (rest := []) ⟨hx, hb, hml, hown, htx⟩ (gM_peek l hl9 D cT aK aV H.size n aM ad rd gd vad (xsI st 16 ((xsi st 16) + (1 : Int32))) o7 hq8) ⟨callB_of 0 htx (xw_goodC kw_5_233) rfl rfl rfl (htx _ kw_1_5) (htx _ kw_5_230) ⟨by decide, by decide, by decide +kernel⟩ ⟨Nat.le_of_ble_eq_true rfl, Nat.le_of_ble_eq_true rfl⟩, (htx _ kw_5_232), (htx _ kp_M_peek)⟩ ⟨xPre_blind, va_recv hK hP (ci := 5) rfl (q0 := 0) rfl, (fun U hU hW => ⟨rfl, xPre_of hZ hS hFc hP hD hK U hU hW⟩)⟩ rfl rfl hl.1 rfl (xm_room (Nat.le_of_ble_eq_true rfl)) dM_says_11 ⟨Nat.zero_le _, Nat.zero_le _⟩) hS (fun q _ h => hFc q h) hFc (fun r9 u9 t H1 locs ht hvm hr9 hB hz1 hk1 hS => ?_)
    obtain ⟨hP1, hK1, hD1⟩ := hB
    rw [ht] at hP1
    have hP : va_P D xcl (xMw cT aM ad rd gd vad (xsI st 16 ((xsi st 16) + (1 : Int32))) []) H1 := hP1
    have hD : va_D A (xMw cT aM ad rd gd vad (xsI st 16 ((xsi st 16) + (1 : Int32))) []) := hD1.weaken (fun k q _ h => hFc q.1 h)
    generalize H1 = H at hP hS ⊢
    rw [hr9]
    refine W.eq (g2 := F0 m 14 ls [.int o7]) (by first | rfl | (skip; rfl)) ?_
    refine lv_aload_n hx hb dM_says_14 rfl (lv_at hl 2 rfl) ?_
    refine lv_iload_n hx hb dM_says_15 rfl (lv_at hl 0 rfl) ?_
    refine va_calli (va_runV (C := "java/lang/String") (As := [.int 1]) (rest := [.int o7]) ⟨hx, hb, hml, hown, htx⟩ (cJS_charAt_1 l hl9 D cT aK aV H.size) ⟨callB_of 1 htx (xw_goodC kw_2_80) rfl rfl rfl (htx _ kw_1_6) (htx _ kw_5_86) ⟨by decide, by decide, by decide +kernel⟩ ⟨Nat.le_of_ble_eq_true rfl, Nat.le_of_ble_eq_true rfl⟩, (htx _ kw_2_78), (htx _ kw_2_79)⟩ ⟨xPre_blind, vk_recv hZ.2.2.2.2.2.2.2.2.2.1 (i := 10) (by decide) hS, (fun U hU hW => ⟨rfl, xPre_of hZ hS (xm_free0 hS hA) xm_Pnil xm_Dnil hK U hU hW⟩)⟩ rfl rfl hl.1 rfl (lv_room (Nat.le_of_ble_eq_true rfl)) dM_says_16 ⟨(Nat.zero_le _), (Nat.zero_le _)⟩) hS (fun q _ h => xm_free0 hS hA q h) (xm_free0 hS hA) (fun r10 u9 t H1 locs ht hvm hr9 hB hz1 hk1 hS => ?_)
    replace hP := xm_keep hP hk1
    generalize H1 = H at hP hS ⊢
    rw [hr9]
    refine W.eq (g2 := F0 m 19 ls [.int 117, .int o7]) (by first | rfl | rw [xv1 (Nat.succ_ne_zero _)]) ?_
    refine lv_icmp_eq (tgt := 30) hx hb dM_says_19 (by decide) (fun hc => ?_) (fun hc => ?_)
    · rw [if_pos hc] at hf
      refine lv_aload_n hx hb dM_says_30 rfl (lv_at hl 1 rfl) ?_
      refine lv_dup hx hb dM_says_31 rfl ?_
      refine xm_get (v := .int ((xsi st 16) + (1 : Int32))) hx hb htx hown hK hP 16 (by decide) rfl (htx _ kw_5_103) rfl dM_says_32 ?_
      refine lv_iconst (v := 1) hx hb dM_says_35 (by decide) ?_
      refine lv_iadd hx hb dM_says_36 ?_
      refine xm_put (v := .int (((xsi st 16) + (1 : Int32)) + (1 : Int32))) (W' := (xMw cT aM ad rd gd vad (xsI (xsI st 16 ((xsi st 16) + (1 : Int32))) 16 (((xsi st 16) + (1 : Int32)) + (1 : Int32))) [])) (ty := .int) hx hb htx hown hK hP hD hS 16 (by decide) rfl (htx _ kw_5_103) rfl rfl (by decide +kernel) rfl rfl dM_says_37 (fun H locs hP hD hS => ?_)
      refine lv_iinc (v := 2) (lv' := [(3, .int 2), (0, .ref aM), (1, .ref (aK 10)), (2, .int x1)]) hx hb dM_says_40 hl (k := 0) rfl rfl (by decide) rfl (fun ls hl => ?_)
      refine lv_goto (tgt := 2) hx hb dM_says_43 (by decide) ?_
      refine lv_iload_n hx hb dM_says_2 rfl (lv_at hl 0 rfl) ?_
      refine lv_aload_n hx hb dM_says_3 rfl (lv_at hl 2 rfl) ?_
      refine va_calli (va_runV (C := "java/lang/String") (As := []) (rest := [.int 2]) ⟨hx, hb, hml, hown, htx⟩ (cJS_length_0 l hl9 D cT aK aV H.size) ⟨callB_of 0 htx (xw_goodC kw_2_70) rfl rfl rfl (htx _ kw_1_6) (htx _ kw_5_238) ⟨by decide, by decide, by decide +kernel⟩ ⟨Nat.le_of_ble_eq_true rfl, Nat.le_of_ble_eq_true rfl⟩, (htx _ kw_2_68), (htx _ kw_2_69)⟩ ⟨xPre_blind, vk_recv hZ.2.2.2.2.2.2.2.2.2.1 (i := 10) (by decide) hS, (fun U hU hW => ⟨rfl, xPre_of hZ hS (xm_free0 hS hA) xm_Pnil xm_Dnil hK U hU hW⟩)⟩ rfl rfl hl.1 rfl (lv_room (Nat.le_of_ble_eq_true rfl)) dM_says_4 ⟨(Nat.zero_le _), (Nat.zero_le _)⟩) hS (fun q _ h => xm_free0 hS hA q h) (xm_free0 hS hA) (fun r11 u9 t H1 locs ht hvm hr9 hB hz1 hk1 hS => ?_)
      replace hP := xm_keep hP hk1
      generalize H1 = H at hP hS ⊢
      rw [hr9]
      refine W.eq (g2 := F0 m 7 ls [.int 4, .int 2]) (by first | rfl | rw [xv1 (Nat.succ_ne_zero _)]) ?_
      refine lv_icmp_ge (tgt := 46) hx hb dM_says_7 (by decide) (fun h => ((by revert h; decide : False)).elim) (fun _ => ?_)
      refine lv_aload_n hx hb dM_says_10 rfl (lv_at hl 1 rfl) ?_
      obtain ⟨o12, hq13, hf⟩ := xbind hf
      have hFc := xm_free hD hS hA
      refine va_calli (va_runV (C := "ValueBenchModel") (As := []) (rest := []) ⟨hx, hb, hml, hown, htx⟩ (gM_peek l hl9 D cT aK aV H.size n aM ad rd gd vad (xsI (xsI st 16 ((xsi st 16) + (1 : Int32))) 16 (((xsi st 16) + (1 : Int32)) + (1 : Int32))) o12 hq13) ⟨callB_of 0 htx (xw_goodC kw_5_233) rfl rfl rfl (htx _ kw_1_5) (htx _ kw_5_230) ⟨by decide, by decide, by decide +kernel⟩ ⟨Nat.le_of_ble_eq_true rfl, Nat.le_of_ble_eq_true rfl⟩, (htx _ kw_5_232), (htx _ kp_M_peek)⟩ ⟨xPre_blind, va_recv hK hP (ci := 5) rfl (q0 := 0) rfl, (fun U hU hW => ⟨rfl, xPre_of hZ hS hFc hP hD hK U hU hW⟩)⟩ rfl rfl hl.1 rfl (xm_room (Nat.le_of_ble_eq_true rfl)) dM_says_11 ⟨Nat.zero_le _, Nat.zero_le _⟩) hS (fun q _ h => hFc q h) hFc (fun r14 u9 t H1 locs ht hvm hr9 hB hz1 hk1 hS => ?_)
      obtain ⟨hP1, hK1, hD1⟩ := hB
      rw [ht] at hP1
      have hP : va_P D xcl (xMw cT aM ad rd gd vad (xsI (xsI st 16 ((xsi st 16) + (1 : Int32))) 16 (((xsi st 16) + (1 : Int32)) + (1 : Int32))) []) H1 := hP1
      have hD : va_D A (xMw cT aM ad rd gd vad (xsI (xsI st 16 ((xsi st 16) + (1 : Int32))) 16 (((xsi st 16) + (1 : Int32)) + (1 : Int32))) []) := hD1.weaken (fun k q _ h => hFc q.1 h)
      generalize H1 = H at hP hS ⊢
      rw [hr9]
      refine W.eq (g2 := F0 m 14 ls [.int o12]) (by first | rfl | (skip; rfl)) ?_
      refine lv_aload_n hx hb dM_says_14 rfl (lv_at hl 2 rfl) ?_
      refine lv_iload_n hx hb dM_says_15 rfl (lv_at hl 0 rfl) ?_
      refine va_calli (va_runV (C := "java/lang/String") (As := [.int 2]) (rest := [.int o12]) ⟨hx, hb, hml, hown, htx⟩ (cJS_charAt_2 l hl9 D cT aK aV H.size) ⟨callB_of 1 htx (xw_goodC kw_2_80) rfl rfl rfl (htx _ kw_1_6) (htx _ kw_5_86) ⟨by decide, by decide, by decide +kernel⟩ ⟨Nat.le_of_ble_eq_true rfl, Nat.le_of_ble_eq_true rfl⟩, (htx _ kw_2_78), (htx _ kw_2_79)⟩ ⟨xPre_blind, vk_recv hZ.2.2.2.2.2.2.2.2.2.1 (i := 10) (by decide) hS, (fun U hU hW => ⟨rfl, xPre_of hZ hS (xm_free0 hS hA) xm_Pnil xm_Dnil hK U hU hW⟩)⟩ rfl rfl hl.1 rfl (lv_room (Nat.le_of_ble_eq_true rfl)) dM_says_16 ⟨(Nat.zero_le _), (Nat.zero_le _)⟩) hS (fun q _ h => xm_free0 hS hA q h) (xm_free0 hS hA) (fun r15 u9 t H1 locs ht hvm hr9 hB hz1 hk1 hS => ?_)
      replace hP := xm_keep hP hk1
      generalize H1 = H at hP hS ⊢
      rw [hr9]
      refine W.eq (g2 := F0 m 19 ls [.int 108, .int o12]) (by first | rfl | rw [xv1 (Nat.succ_ne_zero _)]) ?_
      refine lv_icmp_eq (tgt := 30) hx hb dM_says_19 (by decide) (fun hc => ?_) (fun hc => ?_)
      · rw [if_pos hc] at hf
        refine lv_aload_n hx hb dM_says_30 rfl (lv_at hl 1 rfl) ?_
        refine lv_dup hx hb dM_says_31 rfl ?_
        refine xm_get (v := .int (((xsi st 16) + (1 : Int32)) + (1 : Int32))) hx hb htx hown hK hP 16 (by decide) rfl (htx _ kw_5_103) rfl dM_says_32 ?_
        refine lv_iconst (v := 1) hx hb dM_says_35 (by decide) ?_
        refine lv_iadd hx hb dM_says_36 ?_
        refine xm_put (v := .int ((((xsi st 16) + (1 : Int32)) + (1 : Int32)) + (1 : Int32))) (W' := (xMw cT aM ad rd gd vad (xsI (xsI (xsI st 16 ((xsi st 16) + (1 : Int32))) 16 (((xsi st 16) + (1 : Int32)) + (1 : Int32))) 16 ((((xsi st 16) + (1 : Int32)) + (1 : Int32)) + (1 : Int32))) [])) (ty := .int) hx hb htx hown hK hP hD hS 16 (by decide) rfl (htx _ kw_5_103) rfl rfl (by decide +kernel) rfl rfl dM_says_37 (fun H locs hP hD hS => ?_)
        refine lv_iinc (v := 3) (lv' := [(3, .int 3), (0, .ref aM), (1, .ref (aK 10)), (2, .int x1)]) hx hb dM_says_40 hl (k := 0) rfl rfl (by decide) rfl (fun ls hl => ?_)
        refine lv_goto (tgt := 2) hx hb dM_says_43 (by decide) ?_
        refine lv_iload_n hx hb dM_says_2 rfl (lv_at hl 0 rfl) ?_
        refine lv_aload_n hx hb dM_says_3 rfl (lv_at hl 2 rfl) ?_
        refine va_calli (va_runV (C := "java/lang/String") (As := []) (rest := [.int 3]) ⟨hx, hb, hml, hown, htx⟩ (cJS_length_0 l hl9 D cT aK aV H.size) ⟨callB_of 0 htx (xw_goodC kw_2_70) rfl rfl rfl (htx _ kw_1_6) (htx _ kw_5_238) ⟨by decide, by decide, by decide +kernel⟩ ⟨Nat.le_of_ble_eq_true rfl, Nat.le_of_ble_eq_true rfl⟩, (htx _ kw_2_68), (htx _ kw_2_69)⟩ ⟨xPre_blind, vk_recv hZ.2.2.2.2.2.2.2.2.2.1 (i := 10) (by decide) hS, (fun U hU hW => ⟨rfl, xPre_of hZ hS (xm_free0 hS hA) xm_Pnil xm_Dnil hK U hU hW⟩)⟩ rfl rfl hl.1 rfl (lv_room (Nat.le_of_ble_eq_true rfl)) dM_says_4 ⟨(Nat.zero_le _), (Nat.zero_le _)⟩) hS (fun q _ h => xm_free0 hS hA q h) (xm_free0 hS hA) (fun r16 u9 t H1 locs ht hvm hr9 hB hz1 hk1 hS => ?_)
        replace hP := xm_keep hP hk1
        generalize H1 = H at hP hS ⊢
        rw [hr9]
        refine W.eq (g2 := F0 m 7 ls [.int 4, .int 3]) (by first | rfl | rw [xv1 (Nat.succ_ne_zero _)]) ?_
        refine lv_icmp_ge (tgt := 46) hx hb dM_says_7 (by decide) (fun h => ((by revert h; decide : False)).elim) (fun _ => ?_)
        refine lv_aload_n hx hb dM_says_10 rfl (lv_at hl 1 rfl) ?_
        obtain ⟨o17, hq18, hf⟩ := xbind hf
        have hFc := xm_free hD hS hA
        refine va_calli (va_runV (C := "ValueBenchModel") (As := []) (rest := []) ⟨hx, hb, hml, hown, htx⟩ (gM_peek l hl9 D cT aK aV H.size n aM ad rd gd vad (xsI (xsI (xsI st 16 ((xsi st 16) + (1 : Int32))) 16 (((xsi st 16) + (1 : Int32)) + (1 : Int32))) 16 ((((xsi st 16) + (1 : Int32)) + (1 : Int32)) + (1 : Int32))) o17 hq18) ⟨callB_of 0 htx (xw_goodC kw_5_233) rfl rfl rfl (htx _ kw_1_5) (htx _ kw_5_230) ⟨by decide, by decide, by decide +kernel⟩ ⟨Nat.le_of_ble_eq_true rfl, Nat.le_of_ble_eq_true rfl⟩, (htx _ kw_5_232), (htx _ kp_M_peek)⟩ ⟨xPre_blind, va_recv hK hP (ci := 5) rfl (q0 := 0) rfl, (fun U hU hW => ⟨rfl, xPre_of hZ hS hFc hP hD hK U hU hW⟩)⟩ rfl rfl hl.1 rfl (xm_room (Nat.le_of_ble_eq_true rfl)) dM_says_11 ⟨Nat.zero_le _, Nat.zero_le _⟩) hS (fun q _ h => hFc q h) hFc (fun r19 u9 t H1 locs ht hvm hr9 hB hz1 hk1 hS => ?_)
        obtain ⟨hP1, hK1, hD1⟩ := hB
        rw [ht] at hP1
        have hP : va_P D xcl (xMw cT aM ad rd gd vad (xsI (xsI (xsI st 16 ((xsi st 16) + (1 : Int32))) 16 (((xsi st 16) + (1 : Int32)) + (1 : Int32))) 16 ((((xsi st 16) + (1 : Int32)) + (1 : Int32)) + (1 : Int32))) []) H1 := hP1
        have hD : va_D A (xMw cT aM ad rd gd vad (xsI (xsI (xsI st 16 ((xsi st 16) + (1 : Int32))) 16 (((xsi st 16) + (1 : Int32)) + (1 : Int32))) 16 ((((xsi st 16) + (1 : Int32)) + (1 : Int32)) + (1 : Int32))) []) := hD1.weaken (fun k q _ h => hFc q.1 h)
        generalize H1 = H at hP hS ⊢
        rw [hr9]
        refine W.eq (g2 := F0 m 14 ls [.int o17]) (by first | rfl | (skip; rfl)) ?_
        refine lv_aload_n hx hb dM_says_14 rfl (lv_at hl 2 rfl) ?_
        refine lv_iload_n hx hb dM_says_15 rfl (lv_at hl 0 rfl) ?_
        refine va_calli (va_runV (C := "java/lang/String") (As := [.int 3]) (rest := [.int o17]) ⟨hx, hb, hml, hown, htx⟩ (cJS_charAt_3 l hl9 D cT aK aV H.size) ⟨callB_of 1 htx (xw_goodC kw_2_80) rfl rfl rfl (htx _ kw_1_6) (htx _ kw_5_86) ⟨by decide, by decide, by decide +kernel⟩ ⟨Nat.le_of_ble_eq_true rfl, Nat.le_of_ble_eq_true rfl⟩, (htx _ kw_2_78), (htx _ kw_2_79)⟩ ⟨xPre_blind, vk_recv hZ.2.2.2.2.2.2.2.2.2.1 (i := 10) (by decide) hS, (fun U hU hW => ⟨rfl, xPre_of hZ hS (xm_free0 hS hA) xm_Pnil xm_Dnil hK U hU hW⟩)⟩ rfl rfl hl.1 rfl (lv_room (Nat.le_of_ble_eq_true rfl)) dM_says_16 ⟨(Nat.zero_le _), (Nat.zero_le _)⟩) hS (fun q _ h => xm_free0 hS hA q h) (xm_free0 hS hA) (fun r20 u9 t H1 locs ht hvm hr9 hB hz1 hk1 hS => ?_)
        replace hP := xm_keep hP hk1
        generalize H1 = H at hP hS ⊢
        rw [hr9]
        refine W.eq (g2 := F0 m 19 ls [.int 108, .int o17]) (by first | rfl | rw [xv1 (Nat.succ_ne_zero _)]) ?_
        refine lv_icmp_eq (tgt := 30) hx hb dM_says_19 (by decide) (fun hc => ?_) (fun hc => ?_)
        · rw [if_pos hc] at hf
          refine lv_aload_n hx hb dM_says_30 rfl (lv_at hl 1 rfl) ?_
          refine lv_dup hx hb dM_says_31 rfl ?_
          refine xm_get (v := .int ((((xsi st 16) + (1 : Int32)) + (1 : Int32)) + (1 : Int32))) hx hb htx hown hK hP 16 (by decide) rfl (htx _ kw_5_103) rfl dM_says_32 ?_
          refine lv_iconst (v := 1) hx hb dM_says_35 (by decide) ?_
          refine lv_iadd hx hb dM_says_36 ?_
          refine xm_put (v := .int (((((xsi st 16) + (1 : Int32)) + (1 : Int32)) + (1 : Int32)) + (1 : Int32))) (W' := (xMw cT aM ad rd gd vad (xsI (xsI (xsI (xsI st 16 ((xsi st 16) + (1 : Int32))) 16 (((xsi st 16) + (1 : Int32)) + (1 : Int32))) 16 ((((xsi st 16) + (1 : Int32)) + (1 : Int32)) + (1 : Int32))) 16 (((((xsi st 16) + (1 : Int32)) + (1 : Int32)) + (1 : Int32)) + (1 : Int32))) [])) (ty := .int) hx hb htx hown hK hP hD hS 16 (by decide) rfl (htx _ kw_5_103) rfl rfl (by decide +kernel) rfl rfl dM_says_37 (fun H locs hP hD hS => ?_)
          refine lv_iinc (v := 4) (lv' := [(3, .int 4), (0, .ref aM), (1, .ref (aK 10)), (2, .int x1)]) hx hb dM_says_40 hl (k := 0) rfl rfl (by decide) rfl (fun ls hl => ?_)
          refine lv_goto (tgt := 2) hx hb dM_says_43 (by decide) ?_
          refine lv_iload_n hx hb dM_says_2 rfl (lv_at hl 0 rfl) ?_
          refine lv_aload_n hx hb dM_says_3 rfl (lv_at hl 2 rfl) ?_
          refine va_calli (va_runV (C := "java/lang/String") (As := []) (rest := [.int 4]) ⟨hx, hb, hml, hown, htx⟩ (cJS_length_0 l hl9 D cT aK aV H.size) ⟨callB_of 0 htx (xw_goodC kw_2_70) rfl rfl rfl (htx _ kw_1_6) (htx _ kw_5_238) ⟨by decide, by decide, by decide +kernel⟩ ⟨Nat.le_of_ble_eq_true rfl, Nat.le_of_ble_eq_true rfl⟩, (htx _ kw_2_68), (htx _ kw_2_69)⟩ ⟨xPre_blind, vk_recv hZ.2.2.2.2.2.2.2.2.2.1 (i := 10) (by decide) hS, (fun U hU hW => ⟨rfl, xPre_of hZ hS (xm_free0 hS hA) xm_Pnil xm_Dnil hK U hU hW⟩)⟩ rfl rfl hl.1 rfl (lv_room (Nat.le_of_ble_eq_true rfl)) dM_says_4 ⟨(Nat.zero_le _), (Nat.zero_le _)⟩) hS (fun q _ h => xm_free0 hS hA q h) (xm_free0 hS hA) (fun r21 u9 t H1 locs ht hvm hr9 hB hz1 hk1 hS => ?_)
          replace hP := xm_keep hP hk1
          generalize H1 = H at hP hS ⊢
          rw [hr9]
          refine W.eq (g2 := F0 m 7 ls [.int 4, .int 4]) (by first | rfl | rw [xv1 (Nat.succ_ne_zero _)]) ?_
          refine lv_icmp_ge (tgt := 46) hx hb dM_says_7 (by decide) (fun _ => ?_) (fun h => ((by revert h; decide : False)).elim)
          refine lv_aload_n hx hb dM_says_46 rfl (lv_at hl 1 rfl) ?_
          refine lv_iload_n hx hb dM_says_47 rfl (lv_at hl 3 rfl) ?_
          obtain ⟨o22, hq23, hf⟩ := xbind hf
          obtain ⟨hm24, hf⟩ := xmoE hf
          have hFc := xm_free hD hS hA
          refine va_callq (va_runV (C := "ValueBenchModel") (As := [.int x1]) (rest := []) ⟨hx, hb, hml, hown, htx⟩ (gM_fresh l hl9 D cT aK aV H.size n aM ad rd gd vad (xsI (xsI (xsI (xsI st 16 ((xsi st 16) + (1 : Int32))) 16 (((xsi st 16) + (1 : Int32)) + (1 : Int32))) 16 ((((xsi st 16) + (1 : Int32)) + (1 : Int32)) + (1 : Int32))) 16 (((((xsi st 16) + (1 : Int32)) + (1 : Int32)) + (1 : Int32)) + (1 : Int32))) x1 o22 hq23) ⟨callB_of 1 htx (xw_goodC kw_6_16) rfl rfl rfl (htx _ kw_1_5) (htx _ kw_6_13) ⟨by decide, by decide, by decide +kernel⟩ ⟨Nat.le_of_ble_eq_true rfl, Nat.le_of_ble_eq_true rfl⟩, (htx _ kw_6_15), (htx _ kp_M_fresh)⟩ ⟨xPre_blind, va_recv hK hP (ci := 5) rfl (q0 := 0) rfl, (fun U hU hW => ⟨rfl, xPre_of hZ hS hFc hP hD hK U hU hW⟩)⟩ rfl rfl hl.1 rfl (xm_room (Nat.le_of_ble_eq_true rfl)) dM_says_48 ⟨hm24.1, hm24.2⟩) hS (fun q _ h => hFc q h) hFc (fun r25 u9 t H1 locs ht hvm hr9 hB hz1 hk1 hS => ?_)
          obtain ⟨hP1, hK1, hD1⟩ := hB
          rw [ht] at hP1
          obtain ⟨ad26, gd27, vad28⟩ := u9
          obtain ⟨hr9, hv29, hn30⟩ := hr9
          have hP : va_P D xcl (xMw cT aM ad26 rd gd27 vad28 o22.2.2.2 []) H1 := hP1
          have hD : va_D A (xMw cT aM ad26 rd gd27 vad28 o22.2.2.2 []) := hD1.weaken (fun k q _ h => hFc q.1 h)
          generalize H1 = H at hP hS ⊢
          have hE9 : ∀ p, p < xct st → vad28 p = vad p := fun p h => (hv29 p (Nat.lt_of_lt_of_le h hN)).trans (hE p h)
          have hE := hE9
          have hN : xct st ≤ xct o22.2.2.2 := Nat.le_trans hN hn30
          rw [hr9]
          refine W.eq (g2 := F0 m 51 ls [xv vad28 o22.2.2.1]) (by first | rfl | (skip; rfl)) ?_
          obtain rfl := Option.some.inj hf
          exact absurd (show (0 : Nat) = 1 from hkd) (by decide)
        · rw [if_neg hc] at hf
          refine lv_aload_n hx hb dM_says_22 rfl (lv_at hl 1 rfl) ?_
          refine lv_aload_n hx hb dM_says_23 rfl (lv_at hl 1 rfl) ?_
          refine xm_get (v := .int ((((xsi st 16) + (1 : Int32)) + (1 : Int32)) + (1 : Int32))) hx hb htx hown hK hP 16 (by decide) rfl (htx _ kw_5_103) rfl dM_says_24 ?_
          obtain ⟨o21, hq22, hf⟩ := xbind hf
          by_cases hk23 : o21.1 = 1
          · rw [if_pos hk23] at hf
            obtain ⟨hm24, hf⟩ := xmoE hf
            have hFc := xm_free hD hS hA
            refine xx_thr (vx_runV (C := "ValueBenchModel") (As := [.int ((((xsi st 16) + (1 : Int32)) + (1 : Int32)) + (1 : Int32))]) (rest := []) ⟨hx, hb, hml, hown, htx⟩ (gM_bad_1 l hl9 D cT aK aV H.size n aM ad rd gd vad (xsI (xsI (xsI st 16 ((xsi st 16) + (1 : Int32))) 16 (((xsi st 16) + (1 : Int32)) + (1 : Int32))) 16 ((((xsi st 16) + (1 : Int32)) + (1 : Int32)) + (1 : Int32))) ((((xsi st 16) + (1 : Int32)) + (1 : Int32)) + (1 : Int32)) o21 hq22 hk23) ⟨callB_of 1 htx (xw_goodC kw_6_2) rfl rfl rfl (htx _ kw_1_5) (htx _ kw_5_239) ⟨by decide, by decide, by decide +kernel⟩ ⟨Nat.le_of_ble_eq_true rfl, Nat.le_of_ble_eq_true rfl⟩, (htx _ kw_6_1), (htx _ kp_M_bad)⟩ ⟨xPre_blind, va_recv hK hP (ci := 5) rfl (q0 := 0) rfl, (fun U hU hW => ⟨rfl, xPre_of hZ hS hFc hP hD hK U hU hW⟩)⟩ rfl rfl hl.1 rfl (xm_room (Nat.le_of_ble_eq_true rfl)) dM_says_27 ⟨hm24.1, hm24.2⟩) hS hFc (fun q _ h => hFc q h) (fun E ce q9 u9 t H1 locs ht hvm hr9 hB hz1 hk1 hS hce hcv hcl => ?_)
            obtain ⟨rfl, hP1, hK1, hD1⟩ := hB
            rw [ht] at hP1
            obtain ⟨ad26, gd27, vad28⟩ := u9
            obtain ⟨hv29, hn30⟩ := hr9
            have hP : va_P D xcl (xMw cT aM ad26 rd gd27 vad28 o21.2.2.2 []) H1 := hP1
            have hD : va_D A (xMw cT aM ad26 rd gd27 vad28 o21.2.2.2 []) := hD1.weaken (fun k q _ h => hFc q.1 h)
            generalize H1 = H at hP hS hce ⊢
            have hE9 : ∀ p, p < xct st → vad28 p = vad p := fun p h => (hv29 p (Nat.lt_of_lt_of_le h hN)).trans (hE p h)
            have hE := hE9
            have hN : xct st ≤ xct o21.2.2.2 := Nat.le_trans hN hn30
            obtain rfl := Option.some.inj hf
            exact vx_out (E := "java/lang/UnsupportedOperationException") (fun x h => (hne x h).elim) hlocks hce hcv hcl (fun t ht ha => ⟨(ad26, gd27, vad28), ⟨hE, hN⟩, ⟨rfl, by rw [ht]; exact hP, va_K.moved ha hK, hD⟩, hS.F ht⟩) hS.2.2 (Nat.le_refl _) (Nat.le_refl _)
          rw [if_neg hk23] at hf
          exact nomatch hf
      · rw [if_neg hc] at hf
        refine lv_aload_n hx hb dM_says_22 rfl (lv_at hl 1 rfl) ?_
        refine lv_aload_n hx hb dM_says_23 rfl (lv_at hl 1 rfl) ?_
        refine xm_get (v := .int (((xsi st 16) + (1 : Int32)) + (1 : Int32))) hx hb htx hown hK hP 16 (by decide) rfl (htx _ kw_5_103) rfl dM_says_24 ?_
        obtain ⟨o16, hq17, hf⟩ := xbind hf
        by_cases hk18 : o16.1 = 1
        · rw [if_pos hk18] at hf
          obtain ⟨hm19, hf⟩ := xmoE hf
          have hFc := xm_free hD hS hA
          refine xx_thr (vx_runV (C := "ValueBenchModel") (As := [.int (((xsi st 16) + (1 : Int32)) + (1 : Int32))]) (rest := []) ⟨hx, hb, hml, hown, htx⟩ (gM_bad_1 l hl9 D cT aK aV H.size n aM ad rd gd vad (xsI (xsI st 16 ((xsi st 16) + (1 : Int32))) 16 (((xsi st 16) + (1 : Int32)) + (1 : Int32))) (((xsi st 16) + (1 : Int32)) + (1 : Int32)) o16 hq17 hk18) ⟨callB_of 1 htx (xw_goodC kw_6_2) rfl rfl rfl (htx _ kw_1_5) (htx _ kw_5_239) ⟨by decide, by decide, by decide +kernel⟩ ⟨Nat.le_of_ble_eq_true rfl, Nat.le_of_ble_eq_true rfl⟩, (htx _ kw_6_1), (htx _ kp_M_bad)⟩ ⟨xPre_blind, va_recv hK hP (ci := 5) rfl (q0 := 0) rfl, (fun U hU hW => ⟨rfl, xPre_of hZ hS hFc hP hD hK U hU hW⟩)⟩ rfl rfl hl.1 rfl (xm_room (Nat.le_of_ble_eq_true rfl)) dM_says_27 ⟨hm19.1, hm19.2⟩) hS hFc (fun q _ h => hFc q h) (fun E ce q9 u9 t H1 locs ht hvm hr9 hB hz1 hk1 hS hce hcv hcl => ?_)
          obtain ⟨rfl, hP1, hK1, hD1⟩ := hB
          rw [ht] at hP1
          obtain ⟨ad21, gd22, vad23⟩ := u9
          obtain ⟨hv24, hn25⟩ := hr9
          have hP : va_P D xcl (xMw cT aM ad21 rd gd22 vad23 o16.2.2.2 []) H1 := hP1
          have hD : va_D A (xMw cT aM ad21 rd gd22 vad23 o16.2.2.2 []) := hD1.weaken (fun k q _ h => hFc q.1 h)
          generalize H1 = H at hP hS hce ⊢
          have hE9 : ∀ p, p < xct st → vad23 p = vad p := fun p h => (hv24 p (Nat.lt_of_lt_of_le h hN)).trans (hE p h)
          have hE := hE9
          have hN : xct st ≤ xct o16.2.2.2 := Nat.le_trans hN hn25
          obtain rfl := Option.some.inj hf
          exact vx_out (E := "java/lang/UnsupportedOperationException") (fun x h => (hne x h).elim) hlocks hce hcv hcl (fun t ht ha => ⟨(ad21, gd22, vad23), ⟨hE, hN⟩, ⟨rfl, by rw [ht]; exact hP, va_K.moved ha hK, hD⟩, hS.F ht⟩) hS.2.2 (Nat.le_refl _) (Nat.le_refl _)
        rw [if_neg hk18] at hf
        exact nomatch hf
    · rw [if_neg hc] at hf
      refine lv_aload_n hx hb dM_says_22 rfl (lv_at hl 1 rfl) ?_
      refine lv_aload_n hx hb dM_says_23 rfl (lv_at hl 1 rfl) ?_
      refine xm_get (v := .int ((xsi st 16) + (1 : Int32))) hx hb htx hown hK hP 16 (by decide) rfl (htx _ kw_5_103) rfl dM_says_24 ?_
      obtain ⟨o11, hq12, hf⟩ := xbind hf
      by_cases hk13 : o11.1 = 1
      · rw [if_pos hk13] at hf
        obtain ⟨hm14, hf⟩ := xmoE hf
        have hFc := xm_free hD hS hA
        refine xx_thr (vx_runV (C := "ValueBenchModel") (As := [.int ((xsi st 16) + (1 : Int32))]) (rest := []) ⟨hx, hb, hml, hown, htx⟩ (gM_bad_1 l hl9 D cT aK aV H.size n aM ad rd gd vad (xsI st 16 ((xsi st 16) + (1 : Int32))) ((xsi st 16) + (1 : Int32)) o11 hq12 hk13) ⟨callB_of 1 htx (xw_goodC kw_6_2) rfl rfl rfl (htx _ kw_1_5) (htx _ kw_5_239) ⟨by decide, by decide, by decide +kernel⟩ ⟨Nat.le_of_ble_eq_true rfl, Nat.le_of_ble_eq_true rfl⟩, (htx _ kw_6_1), (htx _ kp_M_bad)⟩ ⟨xPre_blind, va_recv hK hP (ci := 5) rfl (q0 := 0) rfl, (fun U hU hW => ⟨rfl, xPre_of hZ hS hFc hP hD hK U hU hW⟩)⟩ rfl rfl hl.1 rfl (xm_room (Nat.le_of_ble_eq_true rfl)) dM_says_27 ⟨hm14.1, hm14.2⟩) hS hFc (fun q _ h => hFc q h) (fun E ce q9 u9 t H1 locs ht hvm hr9 hB hz1 hk1 hS hce hcv hcl => ?_)
        obtain ⟨rfl, hP1, hK1, hD1⟩ := hB
        rw [ht] at hP1
        obtain ⟨ad16, gd17, vad18⟩ := u9
        obtain ⟨hv19, hn20⟩ := hr9
        have hP : va_P D xcl (xMw cT aM ad16 rd gd17 vad18 o11.2.2.2 []) H1 := hP1
        have hD : va_D A (xMw cT aM ad16 rd gd17 vad18 o11.2.2.2 []) := hD1.weaken (fun k q _ h => hFc q.1 h)
        generalize H1 = H at hP hS hce ⊢
        have hE9 : ∀ p, p < xct st → vad18 p = vad p := fun p h => (hv19 p (Nat.lt_of_lt_of_le h hN)).trans (hE p h)
        have hE := hE9
        have hN : xct st ≤ xct o11.2.2.2 := Nat.le_trans hN hn20
        obtain rfl := Option.some.inj hf
        exact vx_out (E := "java/lang/UnsupportedOperationException") (fun x h => (hne x h).elim) hlocks hce hcv hcl (fun t ht ha => ⟨(ad16, gd17, vad18), ⟨hE, hN⟩, ⟨rfl, by rw [ht]; exact hP, va_K.moved ha hK, hD⟩, hS.F ht⟩) hS.2.2 (Nat.le_refl _) (Nat.le_refl _)
      rw [if_neg hk13] at hf
      exact nomatch hf
  · rw [if_neg hc] at hf
    refine lv_aload_n hx hb dM_says_22 rfl (lv_at hl 1 rfl) ?_
    refine lv_aload_n hx hb dM_says_23 rfl (lv_at hl 1 rfl) ?_
    refine xm_get (v := .int (xsi st 16)) hx hb htx hown hK hP 16 (by decide) rfl (htx _ kw_5_103) rfl dM_says_24 ?_
    obtain ⟨o6, hq7, hf⟩ := xbind hf
    by_cases hk8 : o6.1 = 1
    · rw [if_pos hk8] at hf
      obtain ⟨hm9, hf⟩ := xmoE hf
      have hFc := xm_free hD hS hA
      refine xx_thr (vx_runV (C := "ValueBenchModel") (As := [.int (xsi st 16)]) (rest := []) ⟨hx, hb, hml, hown, htx⟩ (gM_bad_1 l hl9 D cT aK aV H.size n aM ad rd gd vad st (xsi st 16) o6 hq7 hk8) ⟨callB_of 1 htx (xw_goodC kw_6_2) rfl rfl rfl (htx _ kw_1_5) (htx _ kw_5_239) ⟨by decide, by decide, by decide +kernel⟩ ⟨Nat.le_of_ble_eq_true rfl, Nat.le_of_ble_eq_true rfl⟩, (htx _ kw_6_1), (htx _ kp_M_bad)⟩ ⟨xPre_blind, va_recv hK hP (ci := 5) rfl (q0 := 0) rfl, (fun U hU hW => ⟨rfl, xPre_of hZ hS hFc hP hD hK U hU hW⟩)⟩ rfl rfl hl.1 rfl (xm_room (Nat.le_of_ble_eq_true rfl)) dM_says_27 ⟨hm9.1, hm9.2⟩) hS hFc (fun q _ h => hFc q h) (fun E ce q9 u9 t H1 locs ht hvm hr9 hB hz1 hk1 hS hce hcv hcl => ?_)
      obtain ⟨rfl, hP1, hK1, hD1⟩ := hB
      rw [ht] at hP1
      obtain ⟨ad11, gd12, vad13⟩ := u9
      obtain ⟨hv14, hn15⟩ := hr9
      have hP : va_P D xcl (xMw cT aM ad11 rd gd12 vad13 o6.2.2.2 []) H1 := hP1
      have hD : va_D A (xMw cT aM ad11 rd gd12 vad13 o6.2.2.2 []) := hD1.weaken (fun k q _ h => hFc q.1 h)
      generalize H1 = H at hP hS hce ⊢
      have hE9 : ∀ p, p < xct st → vad13 p = vad p := fun p h => (hv14 p (Nat.lt_of_lt_of_le h hN)).trans (hE p h)
      have hE := hE9
      have hN : xct st ≤ xct o6.2.2.2 := Nat.le_trans hN hn15
      obtain rfl := Option.some.inj hf
      exact vx_out (E := "java/lang/UnsupportedOperationException") (fun x h => (hne x h).elim) hlocks hce hcv hcl (fun t ht ha => ⟨(ad11, gd12, vad13), ⟨hE, hN⟩, ⟨rfl, by rw [ht]; exact hP, va_K.moved ha hK, hD⟩, hS.F ht⟩) hS.2.2 (Nat.le_refl _) (Nat.le_refl _)
    rw [if_neg hk8] at hf
    exact nomatch hf
set_option maxHeartbeats 400000000 in
set_option maxRecDepth 100000 in
theorem gM_value (l : Launch) (hl9 : l.stackTraces = false) (D : va_G) (cT : Nat → ClassId) (aK aV : Nat → Nat) : ∀ (d sz n : Nat) (aM : Nat) (ad rd gd vad : Nat → Nat) (st : xS) (out : Nat × Nat × Nat × Nat × xS) (hf : fM_value d n st = some out), (out.1 = 0 → xMet l yM_value wyM_value ((16 * d)) out.2.1 out.2.2.1 ((400 * d)) D cT aK aV sz [.ref aM] (xMw cT aM ad rd gd vad st []) (fun A => va_Qq (fun (r : Option Nat) (u : xU) => r = xca u.2.2 out.2.2.2.1 ∧ xE vad st out.2.2.2.2 u) (fun u t => xB D xcl cT A (xMw cT aM u.1 rd u.2.1 u.2.2 out.2.2.2.2 []) t) A)) ∧ (out.1 = 1 → xMetY l yM_value wyM_value ((16 * d)) out.2.1 out.2.2.1 ((400 * d)) D cT aK aV sz [.ref aM] (xMw cT aM ad rd gd vad st []) "java/lang/UnsupportedOperationException" (fun u => xE vad st out.2.2.2.2 u) (fun A u t => xB D xcl cT A (xMw cT aM u.1 rd u.2.1 u.2.2 out.2.2.2.2 []) t)) ∧ (out.1 = 2 → xMetY l yM_value wyM_value ((16 * d)) out.2.1 out.2.2.1 ((400 * d)) D cT aK aV sz [.ref aM] (xMw cT aM ad rd gd vad st []) "java/lang/IndexOutOfBoundsException" (fun u => xE vad st out.2.2.2.2 u) (fun A u t => xB D xcl cT A (xMw cT aM u.1 rd u.2.1 u.2.2 out.2.2.2.2 []) t)) ∧ (out.1 = 3 → xMetY l yM_value wyM_value ((16 * d)) out.2.1 out.2.2.1 ((400 * d)) D cT aK aV sz [.ref aM] (xMw cT aM ad rd gd vad st []) "java/lang/ArithmeticException" (fun u => xE vad st out.2.2.2.2 u) (fun A u t => xB D xcl cT A (xMw cT aM u.1 rd u.2.1 u.2.2 out.2.2.2.2 []) t)) := by
  intro d
  induction d with
  | zero =>
    intro sz n aM ad rd gd vad st out hf
    rw [fM_value] at hf
    exact nomatch hf
  | succ d ih =>
    intro sz n aM ad rd gd vad st out hf
    rw [fM_value] at hf
    refine ⟨fun hkd => ?_, fun hkd => ?_, fun hkd => ?_, fun hkd => ?_⟩
    · refine Met.ofW (cc := prog_13_method_34_code) (maxL := 3) (ret := (some (.object "ValueBenchModel$V"))) (by decide) rfl ?_
      intro p e s m args below meth c s₁ B hml hv
      obtain ⟨rfl, hsz, hZ, hP, hK, hD0⟩ := hv
      have hx := B.exec
      have hb := B.bytes
      have hr := B.returns
      have hts := atoms_spec (ws := wyM_value) B.pre
      have htx := fun w h => hts w (List.mem_cons_of_mem _ h)
      have hown : s.vm.findClass "ValueBenchModel" = some m.cls := findClass_of_methodNamed B.named
      have hlocks := B.notSynchronized
      subst hsz
      have hD := hD0.self (sz := s.heap.size)
      generalize hAe : va_A (xMw cT aM ad rd gd vad st []) s.heap.size = A at hD hZ ⊢
      have hA : ∀ q : Nat, s.heap.size ≤ q → A q := fun q h => by rw [← hAe]; exact Or.inr h
      have hS : va_S A s.heap s.heap [] := va_S.rf
      have hl := lv_entry ([.ref aM]) (n := 3) (by simp [lg_sl, xvcat, xrscat, xcI, xcL, xcR, xcN])
      rw [show lv_args 0 [.ref aM] = [(0, .ref aM)] from by simp [lv_args, xvcat, xrscat, xcI, xcL, xcR, xcN]] at hl
      rw [lg_entry_eq]
      generalize (lg_sl ([.ref aM]) ++ List.replicate (3 - (lg_sl ([.ref aM])).length) Slot.unset).toArray = ls at hl ⊢
      have hl : lv_has ls 3 [(0, .ref aM)] := hl
      have hE : ∀ p, p < xct st → vad p = vad p := fun _ _ => rfl
      have hN : xct st ≤ xct st := Nat.le_refl _
      refine lv_aload_n hx hb dM_value_0 rfl (lv_at hl 0 rfl) ?_
      obtain ⟨o1, hq2, hf⟩ := xbind hf
      have hFc := xm_free hD hS hA
      refine va_callv (va_runV (C := "ValueBenchModel") (As := []) (rest := []) ⟨hx, hb, hml, hown, htx⟩ (gM_blanks l hl9 D cT aK aV s.heap.size n aM ad rd gd vad st o1 hq2) ⟨callB_of 0 htx (xw_goodC kw_5_229) rfl rfl rfl (htx _ kw_1_5) (htx _ kw_5_226) ⟨by decide, by decide, by decide +kernel⟩ ⟨Nat.le_of_ble_eq_true rfl, Nat.le_of_ble_eq_true rfl⟩, (htx _ kw_5_228), (htx _ kp_M_blanks)⟩ ⟨xPre_blind, va_recv hK hP (ci := 5) rfl (q0 := 0) rfl, (fun U hU hW => ⟨rfl, xPre_of hZ hS hFc hP hD hK U hU hW⟩)⟩ rfl rfl hl.1 rfl (xm_room (Nat.le_of_ble_eq_true rfl)) dM_value_1 ⟨Nat.zero_le _, Nat.zero_le _⟩) hS (fun q _ h => hFc q h) hFc (fun u9 t H1 locs ht hvm hr9 hB hz1 hk1 hS => ?_)
      obtain ⟨hP1, hK1, hD1⟩ := hB
      rw [ht] at hP1
      have hn4 := hr9
      have hN : xct st ≤ xct o1 := Nat.le_trans hN hn4
      have hP : va_P D xcl (xMw cT aM ad rd gd vad o1 []) H1 := hP1
      have hD : va_D A (xMw cT aM ad rd gd vad o1 []) := hD1.weaken (fun k q _ h => hFc q.1 h)
      generalize H1 = H at hP hS ⊢
      refine W.eq (g2 := F0 m 4 ls []) (by first | rfl | (skip; rfl)) ?_
      refine lv_aload_n hx hb dM_value_4 rfl (lv_at hl 0 rfl) ?_
      obtain ⟨o5, hq6, hf⟩ := xbind hf
      have hFc := xm_free hD hS hA
      refine va_calli (va_runV (C := "ValueBenchModel") (As := []) (rest := []) ⟨hx, hb, hml, hown, htx⟩ (gM_peek l hl9 D cT aK aV H.size n aM ad rd gd vad o1 o5 hq6) ⟨callB_of 0 htx (xw_goodC kw_5_233) rfl rfl rfl (htx _ kw_1_5) (htx _ kw_5_230) ⟨by decide, by decide, by decide +kernel⟩ ⟨Nat.le_of_ble_eq_true rfl, Nat.le_of_ble_eq_true rfl⟩, (htx _ kw_5_232), (htx _ kp_M_peek)⟩ ⟨xPre_blind, va_recv hK hP (ci := 5) rfl (q0 := 0) rfl, (fun U hU hW => ⟨rfl, xPre_of hZ hS hFc hP hD hK U hU hW⟩)⟩ rfl rfl hl.1 rfl (xm_room (Nat.le_of_ble_eq_true rfl)) dM_value_5 ⟨Nat.zero_le _, Nat.zero_le _⟩) hS (fun q _ h => hFc q h) hFc (fun r7 u9 t H1 locs ht hvm hr9 hB hz1 hk1 hS => ?_)
      obtain ⟨hP1, hK1, hD1⟩ := hB
      rw [ht] at hP1
      have hP : va_P D xcl (xMw cT aM ad rd gd vad o1 []) H1 := hP1
      have hD : va_D A (xMw cT aM ad rd gd vad o1 []) := hD1.weaken (fun k q _ h => hFc q.1 h)
      generalize H1 = H at hP hS ⊢
      rw [hr9]
      refine W.eq (g2 := F0 m 8 ls [.int o5]) (by first | rfl | (skip; rfl)) ?_
      refine lv_istore_n (lv' := [(1, .int o5), (0, .ref aM)]) hx hb dM_value_8 rfl hl (by decide) rfl (fun ls hl => ?_)
      refine lv_iload_n hx hb dM_value_9 rfl (lv_at hl 0 rfl) ?_
      refine lv_bipush (v := 110) hx hb dM_value_10 (by decide) ?_
      refine lv_icmp_ne (tgt := 23) hx hb dM_value_12 (by decide) (fun hc => ?_) (fun hc => ?_)
      · rw [if_neg hc] at hf
        refine lv_iload_n hx hb dM_value_23 rfl (lv_at hl 0 rfl) ?_
        refine lv_bipush (v := 116) hx hb dM_value_24 (by decide) ?_
        refine lv_icmp_ne (tgt := 37) hx hb dM_value_26 (by decide) (fun hc => ?_) (fun hc => ?_)
        · rw [if_neg hc] at hf
          refine lv_iload_n hx hb dM_value_37 rfl (lv_at hl 0 rfl) ?_
          refine lv_bipush (v := 102) hx hb dM_value_38 (by decide) ?_
          refine lv_icmp_ne (tgt := 51) hx hb dM_value_40 (by decide) (fun hc => ?_) (fun hc => ?_)
          · rw [if_neg hc] at hf
            refine lv_iload_n hx hb dM_value_51 rfl (lv_at hl 0 rfl) ?_
            refine lv_bipush (v := 34) hx hb dM_value_52 (by decide) ?_
            refine lv_icmp_ne (tgt := 62) hx hb dM_value_54 (by decide) (fun hc => ?_) (fun hc => ?_)
            · rw [if_neg hc] at hf
              refine lv_iload_n hx hb dM_value_62 rfl (lv_at hl 0 rfl) ?_
              refine lv_bipush (v := 45) hx hb dM_value_63 (by decide) ?_
              refine lv_icmp_eq (tgt := 75) hx hb dM_value_65 (by decide) (fun hc => ?_) (fun hc => ?_)
              · rw [if_pos hc] at hf
                refine lv_aload_n hx hb dM_value_75 rfl (lv_at hl 1 rfl) ?_
                obtain ⟨o8, hq9, hf⟩ := xbind hf
                by_cases hk10 : o8.1 = 0
                · rw [if_pos hk10] at hf
                  obtain ⟨hm11, hf⟩ := xmoE hf
                  have hFc := xm_free hD hS hA
                  refine va_callq (va_runV (C := "ValueBenchModel") (As := []) (rest := []) ⟨hx, hb, hml, hown, htx⟩ (gM_jsonNumber l hl9 D cT aK aV H.size n aM ad rd gd vad o1 o8 hq9 hk10) ⟨callB_of 0 htx (xw_goodC kw_6_77) rfl rfl rfl (htx _ kw_1_5) (htx _ kw_6_74) ⟨by decide, by decide, by decide +kernel⟩ ⟨Nat.le_of_ble_eq_true rfl, Nat.le_of_ble_eq_true rfl⟩, (htx _ kw_6_76), (htx _ kp_M_jsonNumber)⟩ ⟨xPre_blind, va_recv hK hP (ci := 5) rfl (q0 := 0) rfl, (fun U hU hW => ⟨rfl, xPre_of hZ hS hFc hP hD hK U hU hW⟩)⟩ rfl rfl hl.1 rfl (xm_room (Nat.le_of_ble_eq_true rfl)) dM_value_76 ⟨hm11.1, hm11.2⟩) hS (fun q _ h => hFc q h) hFc (fun r12 u9 t H1 locs ht hvm hr9 hB hz1 hk1 hS => ?_)
                  obtain ⟨hP1, hK1, hD1⟩ := hB
                  rw [ht] at hP1
                  obtain ⟨ad13, gd14, vad15⟩ := u9
                  obtain ⟨hr9, hv16, hn17⟩ := hr9
                  have hP : va_P D xcl (xMw cT aM ad13 rd gd14 vad15 o8.2.2.2.2 []) H1 := hP1
                  have hD : va_D A (xMw cT aM ad13 rd gd14 vad15 o8.2.2.2.2 []) := hD1.weaken (fun k q _ h => hFc q.1 h)
                  generalize H1 = H at hP hS ⊢
                  have hE9 : ∀ p, p < xct st → vad15 p = vad p := fun p h => (hv16 p (Nat.lt_of_lt_of_le h hN)).trans (hE p h)
                  have hE := hE9
                  have hN : xct st ≤ xct o8.2.2.2.2 := Nat.le_trans hN hn17
                  rw [hr9]
                  refine W.eq (g2 := F0 m 79 ls [xv vad15 o8.2.2.2.1]) (by first | rfl | (skip; rfl)) ?_
                  obtain rfl := Option.some.inj hf
                  exact W.aret (v := xv vad15 o8.2.2.2.1) hx hb hr (Or.inl ⟨_, rfl⟩) (xvor _ _) (fun t ht hW => ⟨⟨xca vad15 o8.2.2.2.1, (ad13, gd14, vad15), rfl, ⟨rfl, hE, hN⟩, by rw [ht]; exact hP, va_K.moved hW.alike hK, hD⟩, hS.F ht⟩) hS.2.2 dM_value_79
                rw [if_neg hk10] at hf
                by_cases hk18 : o8.1 = 1
                · rw [if_pos hk18] at hf
                  obtain ⟨hm19, hf⟩ := xmoE hf
                  obtain rfl := Option.some.inj hf
                  exact absurd (show (3 : Nat) = 0 from hkd) (by decide)
                rw [if_neg hk18] at hf
                by_cases hk26 : o8.1 = 2
                · rw [if_pos hk26] at hf
                  obtain ⟨hm27, hf⟩ := xmoE hf
                  obtain rfl := Option.some.inj hf
                  exact absurd (show (1 : Nat) = 0 from hkd) (by decide)
                rw [if_neg hk26] at hf
                exact nomatch hf
              · rw [if_neg hc] at hf
                refine lv_iload_n hx hb dM_value_68 rfl (lv_at hl 0 rfl) ?_
                obtain ⟨o8, hq9, hf⟩ := xbind hf
                refine va_calli (va_runS (As := [.int o5]) (rest := []) ⟨hx, hb, hml, hown, htx⟩ (gM_digit l hl9 D cT aK aV H.size n o5 o8 hq9) ⟨callB_of 1 htx (xw_goodC kw_6_73) rfl rfl rfl (htx _ kw_1_5) (htx _ kw_6_71) ⟨by decide, by decide, by decide +kernel⟩ ⟨Nat.le_of_ble_eq_true rfl, Nat.le_of_ble_eq_true rfl⟩, htx _ kw_6_72⟩ ⟨xPre_blind, (fun U hU hW => ⟨rfl, xPre_of hZ hS (xm_free0 hS hA) xm_Pnil xm_Dnil hK U hU hW⟩)⟩ rfl rfl hl.1 rfl (lv_room (Nat.le_of_ble_eq_true rfl)) dM_value_69 ⟨(Nat.zero_le _), (Nat.zero_le _)⟩) hS (fun q _ h => xm_free0 hS hA q h) (xm_free0 hS hA) (fun r10 u9 t H1 locs ht hvm hr9 hB hz1 hk1 hS => ?_)
                replace hP := xm_keep hP hk1
                generalize H1 = H at hP hS ⊢
                rw [hr9]
                refine W.eq (g2 := F0 m 72 ls [.int o8]) (by first | rfl | rw [xv1 (Nat.succ_ne_zero _)]) ?_
                refine lv_if_eq (tgt := 80) hx hb dM_value_72 (by decide) (fun hc => ?_) (fun hc => ?_)
                · rw [if_pos hc] at hf
                  refine lv_iload_n hx hb dM_value_80 rfl (lv_at hl 0 rfl) ?_
                  refine lv_bipush (v := 91) hx hb dM_value_81 (by decide) ?_
                  refine lv_icmp_eq (tgt := 92) hx hb dM_value_83 (by decide) (fun hc => ?_) (fun hc => ?_)
                  · rw [if_pos hc] at hf
                    refine lv_aload_n hx hb dM_value_92 rfl (lv_at hl 1 rfl) ?_
                    refine xm_get (v := .int (xsi o1 18)) hx hb htx hown hK hP 18 (by decide) rfl (htx _ kw_5_105) rfl dM_value_93 ?_
                    refine lv_aload_n hx hb dM_value_96 rfl (lv_at hl 1 rfl) ?_
                    refine xm_get (v := .int (xsi o1 19)) hx hb htx hown hK hP 19 (by decide) rfl (htx _ kw_5_106) rfl dM_value_97 ?_
                    refine lv_icmp_ne (tgt := 111) hx hb dM_value_100 (by decide) (fun hc => ?_) (fun hc => ?_)
                    · rw [if_neg hc] at hf
                      refine lv_aload_n hx hb dM_value_111 rfl (lv_at hl 1 rfl) ?_
                      refine lv_dup hx hb dM_value_112 rfl ?_
                      refine xm_get (v := .int (xsi o1 18)) hx hb htx hown hK hP 18 (by decide) rfl (htx _ kw_5_105) rfl dM_value_113 ?_
                      refine lv_iconst (v := 1) hx hb dM_value_116 (by decide) ?_
                      refine lv_iadd hx hb dM_value_117 ?_
                      refine xm_put (v := .int ((xsi o1 18) + (1 : Int32))) (W' := (xMw cT aM ad rd gd vad (xsI o1 18 ((xsi o1 18) + (1 : Int32))) [])) (ty := .int) hx hb htx hown hK hP hD hS 18 (by decide) rfl (htx _ kw_5_105) rfl rfl (by decide +kernel) rfl rfl dM_value_118 (fun H locs hP hD hS => ?_)
                      refine lv_aload_n hx hb dM_value_121 rfl (lv_at hl 1 rfl) ?_
                      refine lv_dup hx hb dM_value_122 rfl ?_
                      refine xm_get (v := .int (xsi o1 16)) hx hb htx hown hK hP 16 (by decide) rfl (htx _ kw_5_103) rfl dM_value_123 ?_
                      refine lv_iconst (v := 1) hx hb dM_value_126 (by decide) ?_
                      refine lv_iadd hx hb dM_value_127 ?_
                      refine xm_put (v := .int ((xsi o1 16) + (1 : Int32))) (W' := (xMw cT aM ad rd gd vad (xsI (xsI o1 18 ((xsi o1 18) + (1 : Int32))) 16 ((xsi o1 16) + (1 : Int32))) [])) (ty := .int) hx hb htx hown hK hP hD hS 16 (by decide) rfl (htx _ kw_5_103) rfl rfl (by decide +kernel) rfl rfl dM_value_128 (fun H locs hP hD hS => ?_)
                      refine lv_iload_n hx hb dM_value_131 rfl (lv_at hl 0 rfl) ?_
                      refine lv_bipush (v := 91) hx hb dM_value_132 (by decide) ?_
                      refine lv_icmp_ne (tgt := 144) hx hb dM_value_134 (by decide) (fun hc => ?_) (fun hc => ?_)
                      · rw [if_neg hc] at hf
                        refine lv_aload_n hx hb dM_value_144 rfl (lv_at hl 1 rfl) ?_
                        obtain ⟨o11, hq12, hf⟩ := xbind hf
                        by_cases hk13 : o11.1 = 0
                        · rw [if_pos hk13] at hf
                          obtain ⟨hm14, hf⟩ := xmoE hf
                          have hFc := xm_free hD hS hA
                          refine va_callq (va_runV (C := "ValueBenchModel") (As := []) (rest := []) ⟨hx, hb, hml, hown, htx⟩ (gM_members l hl9 D cT aK aV (16 * d) (400 * d) (fM_value d n) (fun sz => ih sz n) H.size n aM ad rd gd vad (xsI (xsI o1 18 ((xsi o1 18) + (1 : Int32))) 16 ((xsi o1 16) + (1 : Int32))) o11 hq12 hk13) ⟨callB_of 0 htx (xw_goodC kw_6_116) rfl rfl rfl (htx _ kw_1_5) (htx _ kw_6_113) ⟨by decide, by decide, by decide +kernel⟩ ⟨(by show (16 * d + 9) + 1 ≤ 16 * (d + 1); omega), (by show 8 + (6 + 11) + (400 * d + 167) ≤ 400 * (d + 1); omega)⟩, (htx _ kw_6_115), (htx _ kp_M_members)⟩ ⟨xPre_blind, va_recv hK hP (ci := 5) rfl (q0 := 0) rfl, (fun U hU hW => ⟨rfl, xPre_of hZ hS hFc hP hD hK U hU hW⟩)⟩ rfl rfl hl.1 rfl (xm_room (Nat.le_of_ble_eq_true rfl)) dM_value_145 ⟨hm14.1, hm14.2⟩) hS (fun q _ h => hFc q h) hFc (fun r15 u9 t H1 locs ht hvm hr9 hB hz1 hk1 hS => ?_)
                          obtain ⟨hP1, hK1, hD1⟩ := hB
                          rw [ht] at hP1
                          obtain ⟨ad16, gd17, vad18⟩ := u9
                          obtain ⟨hr9, hv19, hn20⟩ := hr9
                          have hP : va_P D xcl (xMw cT aM ad16 rd gd17 vad18 o11.2.2.2.2 []) H1 := hP1
                          have hD : va_D A (xMw cT aM ad16 rd gd17 vad18 o11.2.2.2.2 []) := hD1.weaken (fun k q _ h => hFc q.1 h)
                          generalize H1 = H at hP hS ⊢
                          have hE9 : ∀ p, p < xct st → vad18 p = vad p := fun p h => (hv19 p (Nat.lt_of_lt_of_le h hN)).trans (hE p h)
                          have hE := hE9
                          have hN : xct st ≤ xct o11.2.2.2.2 := Nat.le_trans hN hn20
                          rw [hr9]
                          refine W.eq (g2 := F0 m 148 ls [xv vad18 o11.2.2.2.1]) (by first | rfl | (skip; rfl)) ?_
                          refine xm_astore_n (lv' := [(2, xv vad18 o11.2.2.2.1), (1, .int o5), (0, .ref aM)]) hx hb (xvor _ _) dM_value_148 rfl hl (by decide) rfl (fun ls hl => ?_)
                          refine lv_aload_n hx hb dM_value_149 rfl (lv_at hl 2 rfl) ?_
                          refine lv_dup hx hb dM_value_150 rfl ?_
                          refine xm_get (v := .int (xsi o11.2.2.2.2 18)) hx hb htx hown hK hP 18 (by decide) rfl (htx _ kw_5_105) rfl dM_value_151 ?_
                          refine lv_iconst (v := 1) hx hb dM_value_154 (by decide) ?_
                          refine lv_isub hx hb dM_value_155 ?_
                          refine xm_put (v := .int ((xsi o11.2.2.2.2 18) - (1 : Int32))) (W' := (xMw cT aM ad16 rd gd17 vad18 (xsI o11.2.2.2.2 18 ((xsi o11.2.2.2.2 18) - (1 : Int32))) [])) (ty := .int) hx hb htx hown hK hP hD hS 18 (by decide) rfl (htx _ kw_5_105) rfl rfl (by decide +kernel) rfl rfl dM_value_156 (fun H locs hP hD hS => ?_)
                          refine xm_aload_n hx hb (xvor _ _) dM_value_159 rfl (lv_at hl 0 rfl) ?_
                          obtain rfl := Option.some.inj hf
                          exact W.aret (v := xv vad18 o11.2.2.2.1) hx hb hr (Or.inl ⟨_, rfl⟩) (xvor _ _) (fun t ht hW => ⟨⟨xca vad18 o11.2.2.2.1, (ad16, gd17, vad18), rfl, ⟨rfl, hE, hN⟩, by rw [ht]; exact hP, va_K.moved hW.alike hK, hD⟩, hS.F ht⟩) hS.2.2 dM_value_160
                        rw [if_neg hk13] at hf
                        by_cases hk21 : o11.1 = 1
                        · rw [if_pos hk21] at hf
                          obtain ⟨hm22, hf⟩ := xmoE hf
                          obtain rfl := Option.some.inj hf
                          exact absurd (show (2 : Nat) = 0 from hkd) (by decide)
                        rw [if_neg hk21] at hf
                        by_cases hk29 : o11.1 = 2
                        · rw [if_pos hk29] at hf
                          obtain ⟨hm30, hf⟩ := xmoE hf
                          obtain rfl := Option.some.inj hf
                          exact absurd (show (1 : Nat) = 0 from hkd) (by decide)
                        rw [if_neg hk29] at hf
                        by_cases hk37 : o11.1 = 3
                        · rw [if_pos hk37] at hf
                          obtain ⟨hm38, hf⟩ := xmoE hf
                          obtain rfl := Option.some.inj hf
                          exact absurd (show (3 : Nat) = 0 from hkd) (by decide)
                        rw [if_neg hk37] at hf
                        exact nomatch hf
                      · rw [if_pos hc] at hf
                        refine lv_aload_n hx hb dM_value_137 rfl (lv_at hl 1 rfl) ?_
                        obtain ⟨o11, hq12, hf⟩ := xbind hf
                        by_cases hk13 : o11.1 = 0
                        · rw [if_pos hk13] at hf
                          obtain ⟨hm14, hf⟩ := xmoE hf
                          have hFc := xm_free hD hS hA
                          refine va_callq (va_runV (C := "ValueBenchModel") (As := []) (rest := []) ⟨hx, hb, hml, hown, htx⟩ (gM_elements l hl9 D cT aK aV (16 * d) (400 * d) (fM_value d n) (fun sz => ih sz n) H.size n aM ad rd gd vad (xsI (xsI o1 18 ((xsi o1 18) + (1 : Int32))) 16 ((xsi o1 16) + (1 : Int32))) o11 hq12 hk13) ⟨callB_of 0 htx (xw_goodC kw_6_102) rfl rfl rfl (htx _ kw_1_5) (htx _ kw_6_99) ⟨by decide, by decide, by decide +kernel⟩ ⟨(by show (16 * d + 8) + 1 ≤ 16 * (d + 1); omega), (by show 8 + (4 + 11) + (400 * d + 147) ≤ 400 * (d + 1); omega)⟩, (htx _ kw_6_101), (htx _ kp_M_elements)⟩ ⟨xPre_blind, va_recv hK hP (ci := 5) rfl (q0 := 0) rfl, (fun U hU hW => ⟨rfl, xPre_of hZ hS hFc hP hD hK U hU hW⟩)⟩ rfl rfl hl.1 rfl (xm_room (Nat.le_of_ble_eq_true rfl)) dM_value_138 ⟨hm14.1, hm14.2⟩) hS (fun q _ h => hFc q h) hFc (fun r15 u9 t H1 locs ht hvm hr9 hB hz1 hk1 hS => ?_)
                          obtain ⟨hP1, hK1, hD1⟩ := hB
                          rw [ht] at hP1
                          obtain ⟨ad16, gd17, vad18⟩ := u9
                          obtain ⟨hr9, hv19, hn20⟩ := hr9
                          have hP : va_P D xcl (xMw cT aM ad16 rd gd17 vad18 o11.2.2.2.2 []) H1 := hP1
                          have hD : va_D A (xMw cT aM ad16 rd gd17 vad18 o11.2.2.2.2 []) := hD1.weaken (fun k q _ h => hFc q.1 h)
                          generalize H1 = H at hP hS ⊢
                          have hE9 : ∀ p, p < xct st → vad18 p = vad p := fun p h => (hv19 p (Nat.lt_of_lt_of_le h hN)).trans (hE p h)
                          have hE := hE9
                          have hN : xct st ≤ xct o11.2.2.2.2 := Nat.le_trans hN hn20
                          rw [hr9]
                          refine W.eq (g2 := F0 m 141 ls [xv vad18 o11.2.2.2.1]) (by first | rfl | (skip; rfl)) ?_
                          refine lv_goto (tgt := 148) hx hb dM_value_141 (by decide) ?_
                          refine xm_astore_n (lv' := [(2, xv vad18 o11.2.2.2.1), (1, .int o5), (0, .ref aM)]) hx hb (xvor _ _) dM_value_148 rfl hl (by decide) rfl (fun ls hl => ?_)
                          refine lv_aload_n hx hb dM_value_149 rfl (lv_at hl 2 rfl) ?_
                          refine lv_dup hx hb dM_value_150 rfl ?_
                          refine xm_get (v := .int (xsi o11.2.2.2.2 18)) hx hb htx hown hK hP 18 (by decide) rfl (htx _ kw_5_105) rfl dM_value_151 ?_
                          refine lv_iconst (v := 1) hx hb dM_value_154 (by decide) ?_
                          refine lv_isub hx hb dM_value_155 ?_
                          refine xm_put (v := .int ((xsi o11.2.2.2.2 18) - (1 : Int32))) (W' := (xMw cT aM ad16 rd gd17 vad18 (xsI o11.2.2.2.2 18 ((xsi o11.2.2.2.2 18) - (1 : Int32))) [])) (ty := .int) hx hb htx hown hK hP hD hS 18 (by decide) rfl (htx _ kw_5_105) rfl rfl (by decide +kernel) rfl rfl dM_value_156 (fun H locs hP hD hS => ?_)
                          refine xm_aload_n hx hb (xvor _ _) dM_value_159 rfl (lv_at hl 0 rfl) ?_
                          obtain rfl := Option.some.inj hf
                          exact W.aret (v := xv vad18 o11.2.2.2.1) hx hb hr (Or.inl ⟨_, rfl⟩) (xvor _ _) (fun t ht hW => ⟨⟨xca vad18 o11.2.2.2.1, (ad16, gd17, vad18), rfl, ⟨rfl, hE, hN⟩, by rw [ht]; exact hP, va_K.moved hW.alike hK, hD⟩, hS.F ht⟩) hS.2.2 dM_value_160
                        rw [if_neg hk13] at hf
                        by_cases hk21 : o11.1 = 1
                        · rw [if_pos hk21] at hf
                          obtain ⟨hm22, hf⟩ := xmoE hf
                          obtain rfl := Option.some.inj hf
                          exact absurd (show (2 : Nat) = 0 from hkd) (by decide)
                        rw [if_neg hk21] at hf
                        by_cases hk29 : o11.1 = 2
                        · rw [if_pos hk29] at hf
                          obtain ⟨hm30, hf⟩ := xmoE hf
                          obtain rfl := Option.some.inj hf
                          exact absurd (show (1 : Nat) = 0 from hkd) (by decide)
                        rw [if_neg hk29] at hf
                        by_cases hk37 : o11.1 = 3
                        · rw [if_pos hk37] at hf
                          obtain ⟨hm38, hf⟩ := xmoE hf
                          obtain rfl := Option.some.inj hf
                          exact absurd (show (3 : Nat) = 0 from hkd) (by decide)
                        rw [if_neg hk37] at hf
                        exact nomatch hf
                    · rw [if_pos hc] at hf
                      refine lv_aload_n hx hb dM_value_103 rfl (lv_at hl 1 rfl) ?_
                      refine lv_aload_n hx hb dM_value_104 rfl (lv_at hl 1 rfl) ?_
                      refine xm_get (v := .int (xsi o1 16)) hx hb htx hown hK hP 16 (by decide) rfl (htx _ kw_5_103) rfl dM_value_105 ?_
                      obtain ⟨o11, hq12, hf⟩ := xbind hf
                      by_cases hk13 : o11.1 = 1
                      · rw [if_pos hk13] at hf
                        obtain ⟨hm14, hf⟩ := xmoE hf
                        obtain rfl := Option.some.inj hf
                        exact absurd (show (1 : Nat) = 0 from hkd) (by decide)
                      rw [if_neg hk13] at hf
                      exact nomatch hf
                  · rw [if_neg hc] at hf
                    refine lv_iload_n hx hb dM_value_86 rfl (lv_at hl 0 rfl) ?_
                    refine lv_bipush (v := 123) hx hb dM_value_87 (by decide) ?_
                    refine lv_icmp_ne (tgt := 103) hx hb dM_value_89 (by decide) (fun hc => ?_) (fun hc => ?_)
                    · rw [if_neg hc] at hf
                      refine lv_aload_n hx hb dM_value_103 rfl (lv_at hl 1 rfl) ?_
                      refine lv_aload_n hx hb dM_value_104 rfl (lv_at hl 1 rfl) ?_
                      refine xm_get (v := .int (xsi o1 16)) hx hb htx hown hK hP 16 (by decide) rfl (htx _ kw_5_103) rfl dM_value_105 ?_
                      obtain ⟨o11, hq12, hf⟩ := xbind hf
                      by_cases hk13 : o11.1 = 1
                      · rw [if_pos hk13] at hf
                        obtain ⟨hm14, hf⟩ := xmoE hf
                        obtain rfl := Option.some.inj hf
                        exact absurd (show (1 : Nat) = 0 from hkd) (by decide)
                      rw [if_neg hk13] at hf
                      exact nomatch hf
                    · rw [if_pos hc] at hf
                      refine lv_aload_n hx hb dM_value_92 rfl (lv_at hl 1 rfl) ?_
                      refine xm_get (v := .int (xsi o1 18)) hx hb htx hown hK hP 18 (by decide) rfl (htx _ kw_5_105) rfl dM_value_93 ?_
                      refine lv_aload_n hx hb dM_value_96 rfl (lv_at hl 1 rfl) ?_
                      refine xm_get (v := .int (xsi o1 19)) hx hb htx hown hK hP 19 (by decide) rfl (htx _ kw_5_106) rfl dM_value_97 ?_
                      refine lv_icmp_ne (tgt := 111) hx hb dM_value_100 (by decide) (fun hc => ?_) (fun hc => ?_)
                      · rw [if_neg hc] at hf
                        refine lv_aload_n hx hb dM_value_111 rfl (lv_at hl 1 rfl) ?_
                        refine lv_dup hx hb dM_value_112 rfl ?_
                        refine xm_get (v := .int (xsi o1 18)) hx hb htx hown hK hP 18 (by decide) rfl (htx _ kw_5_105) rfl dM_value_113 ?_
                        refine lv_iconst (v := 1) hx hb dM_value_116 (by decide) ?_
                        refine lv_iadd hx hb dM_value_117 ?_
                        refine xm_put (v := .int ((xsi o1 18) + (1 : Int32))) (W' := (xMw cT aM ad rd gd vad (xsI o1 18 ((xsi o1 18) + (1 : Int32))) [])) (ty := .int) hx hb htx hown hK hP hD hS 18 (by decide) rfl (htx _ kw_5_105) rfl rfl (by decide +kernel) rfl rfl dM_value_118 (fun H locs hP hD hS => ?_)
                        refine lv_aload_n hx hb dM_value_121 rfl (lv_at hl 1 rfl) ?_
                        refine lv_dup hx hb dM_value_122 rfl ?_
                        refine xm_get (v := .int (xsi o1 16)) hx hb htx hown hK hP 16 (by decide) rfl (htx _ kw_5_103) rfl dM_value_123 ?_
                        refine lv_iconst (v := 1) hx hb dM_value_126 (by decide) ?_
                        refine lv_iadd hx hb dM_value_127 ?_
                        refine xm_put (v := .int ((xsi o1 16) + (1 : Int32))) (W' := (xMw cT aM ad rd gd vad (xsI (xsI o1 18 ((xsi o1 18) + (1 : Int32))) 16 ((xsi o1 16) + (1 : Int32))) [])) (ty := .int) hx hb htx hown hK hP hD hS 16 (by decide) rfl (htx _ kw_5_103) rfl rfl (by decide +kernel) rfl rfl dM_value_128 (fun H locs hP hD hS => ?_)
                        refine lv_iload_n hx hb dM_value_131 rfl (lv_at hl 0 rfl) ?_
                        refine lv_bipush (v := 91) hx hb dM_value_132 (by decide) ?_
                        refine lv_icmp_ne (tgt := 144) hx hb dM_value_134 (by decide) (fun hc => ?_) (fun hc => ?_)
                        · rw [if_neg hc] at hf
                          refine lv_aload_n hx hb dM_value_144 rfl (lv_at hl 1 rfl) ?_
                          obtain ⟨o11, hq12, hf⟩ := xbind hf
                          by_cases hk13 : o11.1 = 0
                          · rw [if_pos hk13] at hf
                            obtain ⟨hm14, hf⟩ := xmoE hf
                            have hFc := xm_free hD hS hA
                            refine va_callq (va_runV (C := "ValueBenchModel") (As := []) (rest := []) ⟨hx, hb, hml, hown, htx⟩ (gM_members l hl9 D cT aK aV (16 * d) (400 * d) (fM_value d n) (fun sz => ih sz n) H.size n aM ad rd gd vad (xsI (xsI o1 18 ((xsi o1 18) + (1 : Int32))) 16 ((xsi o1 16) + (1 : Int32))) o11 hq12 hk13) ⟨callB_of 0 htx (xw_goodC kw_6_116) rfl rfl rfl (htx _ kw_1_5) (htx _ kw_6_113) ⟨by decide, by decide, by decide +kernel⟩ ⟨(by show (16 * d + 9) + 1 ≤ 16 * (d + 1); omega), (by show 8 + (6 + 11) + (400 * d + 167) ≤ 400 * (d + 1); omega)⟩, (htx _ kw_6_115), (htx _ kp_M_members)⟩ ⟨xPre_blind, va_recv hK hP (ci := 5) rfl (q0 := 0) rfl, (fun U hU hW => ⟨rfl, xPre_of hZ hS hFc hP hD hK U hU hW⟩)⟩ rfl rfl hl.1 rfl (xm_room (Nat.le_of_ble_eq_true rfl)) dM_value_145 ⟨hm14.1, hm14.2⟩) hS (fun q _ h => hFc q h) hFc (fun r15 u9 t H1 locs ht hvm hr9 hB hz1 hk1 hS => ?_)
                            obtain ⟨hP1, hK1, hD1⟩ := hB
                            rw [ht] at hP1
                            obtain ⟨ad16, gd17, vad18⟩ := u9
                            obtain ⟨hr9, hv19, hn20⟩ := hr9
                            have hP : va_P D xcl (xMw cT aM ad16 rd gd17 vad18 o11.2.2.2.2 []) H1 := hP1
                            have hD : va_D A (xMw cT aM ad16 rd gd17 vad18 o11.2.2.2.2 []) := hD1.weaken (fun k q _ h => hFc q.1 h)
                            generalize H1 = H at hP hS ⊢
                            have hE9 : ∀ p, p < xct st → vad18 p = vad p := fun p h => (hv19 p (Nat.lt_of_lt_of_le h hN)).trans (hE p h)
                            have hE := hE9
                            have hN : xct st ≤ xct o11.2.2.2.2 := Nat.le_trans hN hn20
                            rw [hr9]
                            refine W.eq (g2 := F0 m 148 ls [xv vad18 o11.2.2.2.1]) (by first | rfl | (skip; rfl)) ?_
                            refine xm_astore_n (lv' := [(2, xv vad18 o11.2.2.2.1), (1, .int o5), (0, .ref aM)]) hx hb (xvor _ _) dM_value_148 rfl hl (by decide) rfl (fun ls hl => ?_)
                            refine lv_aload_n hx hb dM_value_149 rfl (lv_at hl 2 rfl) ?_
                            refine lv_dup hx hb dM_value_150 rfl ?_
                            refine xm_get (v := .int (xsi o11.2.2.2.2 18)) hx hb htx hown hK hP 18 (by decide) rfl (htx _ kw_5_105) rfl dM_value_151 ?_
                            refine lv_iconst (v := 1) hx hb dM_value_154 (by decide) ?_
                            refine lv_isub hx hb dM_value_155 ?_
                            refine xm_put (v := .int ((xsi o11.2.2.2.2 18) - (1 : Int32))) (W' := (xMw cT aM ad16 rd gd17 vad18 (xsI o11.2.2.2.2 18 ((xsi o11.2.2.2.2 18) - (1 : Int32))) [])) (ty := .int) hx hb htx hown hK hP hD hS 18 (by decide) rfl (htx _ kw_5_105) rfl rfl (by decide +kernel) rfl rfl dM_value_156 (fun H locs hP hD hS => ?_)
                            refine xm_aload_n hx hb (xvor _ _) dM_value_159 rfl (lv_at hl 0 rfl) ?_
                            obtain rfl := Option.some.inj hf
                            exact W.aret (v := xv vad18 o11.2.2.2.1) hx hb hr (Or.inl ⟨_, rfl⟩) (xvor _ _) (fun t ht hW => ⟨⟨xca vad18 o11.2.2.2.1, (ad16, gd17, vad18), rfl, ⟨rfl, hE, hN⟩, by rw [ht]; exact hP, va_K.moved hW.alike hK, hD⟩, hS.F ht⟩) hS.2.2 dM_value_160
                          rw [if_neg hk13] at hf
                          by_cases hk21 : o11.1 = 1
                          · rw [if_pos hk21] at hf
                            obtain ⟨hm22, hf⟩ := xmoE hf
                            obtain rfl := Option.some.inj hf
                            exact absurd (show (2 : Nat) = 0 from hkd) (by decide)
                          rw [if_neg hk21] at hf
                          by_cases hk29 : o11.1 = 2
                          · rw [if_pos hk29] at hf
                            obtain ⟨hm30, hf⟩ := xmoE hf
                            obtain rfl := Option.some.inj hf
                            exact absurd (show (1 : Nat) = 0 from hkd) (by decide)
                          rw [if_neg hk29] at hf
                          by_cases hk37 : o11.1 = 3
                          · rw [if_pos hk37] at hf
                            obtain ⟨hm38, hf⟩ := xmoE hf
                            obtain rfl := Option.some.inj hf
                            exact absurd (show (3 : Nat) = 0 from hkd) (by decide)
                          rw [if_neg hk37] at hf
                          exact nomatch hf
                        · rw [if_pos hc] at hf
                          refine lv_aload_n hx hb dM_value_137 rfl (lv_at hl 1 rfl) ?_
                          obtain ⟨o11, hq12, hf⟩ := xbind hf
                          by_cases hk13 : o11.1 = 0
                          · rw [if_pos hk13] at hf
                            obtain ⟨hm14, hf⟩ := xmoE hf
                            have hFc := xm_free hD hS hA
                            refine va_callq (va_runV (C := "ValueBenchModel") (As := []) (rest := []) ⟨hx, hb, hml, hown, htx⟩ (gM_elements l hl9 D cT aK aV (16 * d) (400 * d) (fM_value d n) (fun sz => ih sz n) H.size n aM ad rd gd vad (xsI (xsI o1 18 ((xsi o1 18) + (1 : Int32))) 16 ((xsi o1 16) + (1 : Int32))) o11 hq12 hk13) ⟨callB_of 0 htx (xw_goodC kw_6_102) rfl rfl rfl (htx _ kw_1_5) (htx _ kw_6_99) ⟨by decide, by decide, by decide +kernel⟩ ⟨(by show (16 * d + 8) + 1 ≤ 16 * (d + 1); omega), (by show 8 + (4 + 11) + (400 * d + 147) ≤ 400 * (d + 1); omega)⟩, (htx _ kw_6_101), (htx _ kp_M_elements)⟩ ⟨xPre_blind, va_recv hK hP (ci := 5) rfl (q0 := 0) rfl, (fun U hU hW => ⟨rfl, xPre_of hZ hS hFc hP hD hK U hU hW⟩)⟩ rfl rfl hl.1 rfl (xm_room (Nat.le_of_ble_eq_true rfl)) dM_value_138 ⟨hm14.1, hm14.2⟩) hS (fun q _ h => hFc q h) hFc (fun r15 u9 t H1 locs ht hvm hr9 hB hz1 hk1 hS => ?_)
                            obtain ⟨hP1, hK1, hD1⟩ := hB
                            rw [ht] at hP1
                            obtain ⟨ad16, gd17, vad18⟩ := u9
                            obtain ⟨hr9, hv19, hn20⟩ := hr9
                            have hP : va_P D xcl (xMw cT aM ad16 rd gd17 vad18 o11.2.2.2.2 []) H1 := hP1
                            have hD : va_D A (xMw cT aM ad16 rd gd17 vad18 o11.2.2.2.2 []) := hD1.weaken (fun k q _ h => hFc q.1 h)
                            generalize H1 = H at hP hS ⊢
                            have hE9 : ∀ p, p < xct st → vad18 p = vad p := fun p h => (hv19 p (Nat.lt_of_lt_of_le h hN)).trans (hE p h)
                            have hE := hE9
                            have hN : xct st ≤ xct o11.2.2.2.2 := Nat.le_trans hN hn20
                            rw [hr9]
                            refine W.eq (g2 := F0 m 141 ls [xv vad18 o11.2.2.2.1]) (by first | rfl | (skip; rfl)) ?_
                            refine lv_goto (tgt := 148) hx hb dM_value_141 (by decide) ?_
                            refine xm_astore_n (lv' := [(2, xv vad18 o11.2.2.2.1), (1, .int o5), (0, .ref aM)]) hx hb (xvor _ _) dM_value_148 rfl hl (by decide) rfl (fun ls hl => ?_)
                            refine lv_aload_n hx hb dM_value_149 rfl (lv_at hl 2 rfl) ?_
                            refine lv_dup hx hb dM_value_150 rfl ?_
                            refine xm_get (v := .int (xsi o11.2.2.2.2 18)) hx hb htx hown hK hP 18 (by decide) rfl (htx _ kw_5_105) rfl dM_value_151 ?_
                            refine lv_iconst (v := 1) hx hb dM_value_154 (by decide) ?_
                            refine lv_isub hx hb dM_value_155 ?_
                            refine xm_put (v := .int ((xsi o11.2.2.2.2 18) - (1 : Int32))) (W' := (xMw cT aM ad16 rd gd17 vad18 (xsI o11.2.2.2.2 18 ((xsi o11.2.2.2.2 18) - (1 : Int32))) [])) (ty := .int) hx hb htx hown hK hP hD hS 18 (by decide) rfl (htx _ kw_5_105) rfl rfl (by decide +kernel) rfl rfl dM_value_156 (fun H locs hP hD hS => ?_)
                            refine xm_aload_n hx hb (xvor _ _) dM_value_159 rfl (lv_at hl 0 rfl) ?_
                            obtain rfl := Option.some.inj hf
                            exact W.aret (v := xv vad18 o11.2.2.2.1) hx hb hr (Or.inl ⟨_, rfl⟩) (xvor _ _) (fun t ht hW => ⟨⟨xca vad18 o11.2.2.2.1, (ad16, gd17, vad18), rfl, ⟨rfl, hE, hN⟩, by rw [ht]; exact hP, va_K.moved hW.alike hK, hD⟩, hS.F ht⟩) hS.2.2 dM_value_160
                          rw [if_neg hk13] at hf
                          by_cases hk21 : o11.1 = 1
                          · rw [if_pos hk21] at hf
                            obtain ⟨hm22, hf⟩ := xmoE hf
                            obtain rfl := Option.some.inj hf
                            exact absurd (show (2 : Nat) = 0 from hkd) (by decide)
                          rw [if_neg hk21] at hf
                          by_cases hk29 : o11.1 = 2
                          · rw [if_pos hk29] at hf
                            obtain ⟨hm30, hf⟩ := xmoE hf
                            obtain rfl := Option.some.inj hf
                            exact absurd (show (1 : Nat) = 0 from hkd) (by decide)
                          rw [if_neg hk29] at hf
                          by_cases hk37 : o11.1 = 3
                          · rw [if_pos hk37] at hf
                            obtain ⟨hm38, hf⟩ := xmoE hf
                            obtain rfl := Option.some.inj hf
                            exact absurd (show (3 : Nat) = 0 from hkd) (by decide)
                          rw [if_neg hk37] at hf
                          exact nomatch hf
                      · rw [if_pos hc] at hf
                        refine lv_aload_n hx hb dM_value_103 rfl (lv_at hl 1 rfl) ?_
                        refine lv_aload_n hx hb dM_value_104 rfl (lv_at hl 1 rfl) ?_
                        refine xm_get (v := .int (xsi o1 16)) hx hb htx hown hK hP 16 (by decide) rfl (htx _ kw_5_103) rfl dM_value_105 ?_
                        obtain ⟨o11, hq12, hf⟩ := xbind hf
                        by_cases hk13 : o11.1 = 1
                        · rw [if_pos hk13] at hf
                          obtain ⟨hm14, hf⟩ := xmoE hf
                          obtain rfl := Option.some.inj hf
                          exact absurd (show (1 : Nat) = 0 from hkd) (by decide)
                        rw [if_neg hk13] at hf
                        exact nomatch hf
                · rw [if_neg hc] at hf
                  refine lv_aload_n hx hb dM_value_75 rfl (lv_at hl 1 rfl) ?_
                  obtain ⟨o11, hq12, hf⟩ := xbind hf
                  by_cases hk13 : o11.1 = 0
                  · rw [if_pos hk13] at hf
                    obtain ⟨hm14, hf⟩ := xmoE hf
                    have hFc := xm_free hD hS hA
                    refine va_callq (va_runV (C := "ValueBenchModel") (As := []) (rest := []) ⟨hx, hb, hml, hown, htx⟩ (gM_jsonNumber l hl9 D cT aK aV H.size n aM ad rd gd vad o1 o11 hq12 hk13) ⟨callB_of 0 htx (xw_goodC kw_6_77) rfl rfl rfl (htx _ kw_1_5) (htx _ kw_6_74) ⟨by decide, by decide, by decide +kernel⟩ ⟨Nat.le_of_ble_eq_true rfl, Nat.le_of_ble_eq_true rfl⟩, (htx _ kw_6_76), (htx _ kp_M_jsonNumber)⟩ ⟨xPre_blind, va_recv hK hP (ci := 5) rfl (q0 := 0) rfl, (fun U hU hW => ⟨rfl, xPre_of hZ hS hFc hP hD hK U hU hW⟩)⟩ rfl rfl hl.1 rfl (xm_room (Nat.le_of_ble_eq_true rfl)) dM_value_76 ⟨hm14.1, hm14.2⟩) hS (fun q _ h => hFc q h) hFc (fun r15 u9 t H1 locs ht hvm hr9 hB hz1 hk1 hS => ?_)
                    obtain ⟨hP1, hK1, hD1⟩ := hB
                    rw [ht] at hP1
                    obtain ⟨ad16, gd17, vad18⟩ := u9
                    obtain ⟨hr9, hv19, hn20⟩ := hr9
                    have hP : va_P D xcl (xMw cT aM ad16 rd gd17 vad18 o11.2.2.2.2 []) H1 := hP1
                    have hD : va_D A (xMw cT aM ad16 rd gd17 vad18 o11.2.2.2.2 []) := hD1.weaken (fun k q _ h => hFc q.1 h)
                    generalize H1 = H at hP hS ⊢
                    have hE9 : ∀ p, p < xct st → vad18 p = vad p := fun p h => (hv19 p (Nat.lt_of_lt_of_le h hN)).trans (hE p h)
                    have hE := hE9
                    have hN : xct st ≤ xct o11.2.2.2.2 := Nat.le_trans hN hn20
                    rw [hr9]
                    refine W.eq (g2 := F0 m 79 ls [xv vad18 o11.2.2.2.1]) (by first | rfl | (skip; rfl)) ?_
                    obtain rfl := Option.some.inj hf
                    exact W.aret (v := xv vad18 o11.2.2.2.1) hx hb hr (Or.inl ⟨_, rfl⟩) (xvor _ _) (fun t ht hW => ⟨⟨xca vad18 o11.2.2.2.1, (ad16, gd17, vad18), rfl, ⟨rfl, hE, hN⟩, by rw [ht]; exact hP, va_K.moved hW.alike hK, hD⟩, hS.F ht⟩) hS.2.2 dM_value_79
                  rw [if_neg hk13] at hf
                  by_cases hk21 : o11.1 = 1
                  · rw [if_pos hk21] at hf
                    obtain ⟨hm22, hf⟩ := xmoE hf
                    obtain rfl := Option.some.inj hf
                    exact absurd (show (3 : Nat) = 0 from hkd) (by decide)
                  rw [if_neg hk21] at hf
                  by_cases hk29 : o11.1 = 2
                  · rw [if_pos hk29] at hf
                    obtain ⟨hm30, hf⟩ := xmoE hf
                    obtain rfl := Option.some.inj hf
                    exact absurd (show (1 : Nat) = 0 from hkd) (by decide)
                  rw [if_neg hk29] at hf
                  exact nomatch hf
            · rw [if_pos hc] at hf
              refine lv_aload_n hx hb dM_value_57 rfl (lv_at hl 1 rfl) ?_
              obtain ⟨o8, hq9, hf⟩ := xbind hf
              by_cases hk10 : o8.1 = 0
              · rw [if_pos hk10] at hf
                obtain ⟨hm11, hf⟩ := xmoE hf
                have hFc := xm_free hD hS hA
                refine va_callq (va_runV (C := "ValueBenchModel") (As := []) (rest := []) ⟨hx, hb, hml, hown, htx⟩ (gM_jsonString l hl9 D cT aK aV H.size n aM ad rd gd vad o1 o8 hq9 hk10) ⟨callB_of 0 htx (xw_goodC kw_6_46) rfl rfl rfl (htx _ kw_1_5) (htx _ kw_6_43) ⟨by decide, by decide, by decide +kernel⟩ ⟨Nat.le_of_ble_eq_true rfl, Nat.le_of_ble_eq_true rfl⟩, (htx _ kw_6_45), (htx _ kp_M_jsonString)⟩ ⟨xPre_blind, va_recv hK hP (ci := 5) rfl (q0 := 0) rfl, (fun U hU hW => ⟨rfl, xPre_of hZ hS hFc hP hD hK U hU hW⟩)⟩ rfl rfl hl.1 rfl (xm_room (Nat.le_of_ble_eq_true rfl)) dM_value_58 ⟨hm11.1, hm11.2⟩) hS (fun q _ h => hFc q h) hFc (fun r12 u9 t H1 locs ht hvm hr9 hB hz1 hk1 hS => ?_)
                obtain ⟨hP1, hK1, hD1⟩ := hB
                rw [ht] at hP1
                obtain ⟨ad13, gd14, vad15⟩ := u9
                obtain ⟨hr9, hv16, hn17⟩ := hr9
                have hP : va_P D xcl (xMw cT aM ad13 rd gd14 vad15 o8.2.2.2.2 []) H1 := hP1
                have hD : va_D A (xMw cT aM ad13 rd gd14 vad15 o8.2.2.2.2 []) := hD1.weaken (fun k q _ h => hFc q.1 h)
                generalize H1 = H at hP hS ⊢
                have hE9 : ∀ p, p < xct st → vad15 p = vad p := fun p h => (hv16 p (Nat.lt_of_lt_of_le h hN)).trans (hE p h)
                have hE := hE9
                have hN : xct st ≤ xct o8.2.2.2.2 := Nat.le_trans hN hn17
                rw [hr9]
                refine W.eq (g2 := F0 m 61 ls [xv vad15 o8.2.2.2.1]) (by first | rfl | (skip; rfl)) ?_
                obtain rfl := Option.some.inj hf
                exact W.aret (v := xv vad15 o8.2.2.2.1) hx hb hr (Or.inl ⟨_, rfl⟩) (xvor _ _) (fun t ht hW => ⟨⟨xca vad15 o8.2.2.2.1, (ad13, gd14, vad15), rfl, ⟨rfl, hE, hN⟩, by rw [ht]; exact hP, va_K.moved hW.alike hK, hD⟩, hS.F ht⟩) hS.2.2 dM_value_61
              rw [if_neg hk10] at hf
              by_cases hk18 : o8.1 = 1
              · rw [if_pos hk18] at hf
                obtain ⟨hm19, hf⟩ := xmoE hf
                obtain rfl := Option.some.inj hf
                exact absurd (show (2 : Nat) = 0 from hkd) (by decide)
              rw [if_neg hk18] at hf
              by_cases hk26 : o8.1 = 2
              · rw [if_pos hk26] at hf
                obtain ⟨hm27, hf⟩ := xmoE hf
                obtain rfl := Option.some.inj hf
                exact absurd (show (1 : Nat) = 0 from hkd) (by decide)
              rw [if_neg hk26] at hf
              exact nomatch hf
          · rw [if_pos hc] at hf
            refine lv_aload_n hx hb dM_value_43 rfl (lv_at hl 1 rfl) ?_
            refine va_ldcS (q := aK 11) hx hb hown (hZ.2.2.2.2.2.2.2.2.1 ("ValueBenchModel", 238, "false", 11) (List.mem_of_getElem? (i := 19) rfl)) dM_value_44 ?_
            refine lv_iconst (v := 1) hx hb dM_value_46 (by decide) ?_
            obtain ⟨o8, hq9, hf⟩ := xbind hf
            by_cases hk10 : o8.1 = 0
            · rw [if_pos hk10] at hf
              obtain ⟨hm11, hf⟩ := xmoE hf
              have hFc := xm_free hD hS hA
              refine va_callq (va_runV (C := "ValueBenchModel") (As := [.ref (aK 11), .int 1]) (rest := []) ⟨hx, hb, hml, hown, htx⟩ (gM_says l hl9 D cT aK aV H.size n aM ad rd gd vad o1 (1 : Int32) o8 hq9 hk10) ⟨callB_of 2 htx (xw_goodC kw_5_237) rfl rfl rfl (htx _ kw_1_5) (htx _ kw_5_234) ⟨by decide, by decide, by decide +kernel⟩ ⟨Nat.le_of_ble_eq_true rfl, Nat.le_of_ble_eq_true rfl⟩, (htx _ kw_5_236), (htx _ kp_M_says)⟩ ⟨xPre_blind, va_recv hK hP (ci := 5) rfl (q0 := 0) rfl, (fun U hU hW => ⟨rfl, xPre_of hZ hS hFc hP hD hK U hU hW⟩)⟩ rfl rfl hl.1 rfl (xm_room (Nat.le_of_ble_eq_true rfl)) dM_value_47 ⟨hm11.1, hm11.2⟩) hS (fun q _ h => hFc q h) hFc (fun r12 u9 t H1 locs ht hvm hr9 hB hz1 hk1 hS => ?_)
              obtain ⟨hP1, hK1, hD1⟩ := hB
              rw [ht] at hP1
              obtain ⟨ad13, gd14, vad15⟩ := u9
              obtain ⟨hr9, hv16, hn17⟩ := hr9
              have hP : va_P D xcl (xMw cT aM ad13 rd gd14 vad15 o8.2.2.2.2 []) H1 := hP1
              have hD : va_D A (xMw cT aM ad13 rd gd14 vad15 o8.2.2.2.2 []) := hD1.weaken (fun k q _ h => hFc q.1 h)
              generalize H1 = H at hP hS ⊢
              have hE9 : ∀ p, p < xct st → vad15 p = vad p := fun p h => (hv16 p (Nat.lt_of_lt_of_le h hN)).trans (hE p h)
              have hE := hE9
              have hN : xct st ≤ xct o8.2.2.2.2 := Nat.le_trans hN hn17
              rw [hr9]
              refine W.eq (g2 := F0 m 50 ls [xv vad15 o8.2.2.2.1]) (by first | rfl | (skip; rfl)) ?_
              obtain rfl := Option.some.inj hf
              exact W.aret (v := xv vad15 o8.2.2.2.1) hx hb hr (Or.inl ⟨_, rfl⟩) (xvor _ _) (fun t ht hW => ⟨⟨xca vad15 o8.2.2.2.1, (ad13, gd14, vad15), rfl, ⟨rfl, hE, hN⟩, by rw [ht]; exact hP, va_K.moved hW.alike hK, hD⟩, hS.F ht⟩) hS.2.2 dM_value_50
            rw [if_neg hk10] at hf
            by_cases hk18 : o8.1 = 1
            · rw [if_pos hk18] at hf
              obtain ⟨hm19, hf⟩ := xmoE hf
              obtain rfl := Option.some.inj hf
              exact absurd (show (1 : Nat) = 0 from hkd) (by decide)
            rw [if_neg hk18] at hf
            exact nomatch hf
        · rw [if_pos hc] at hf
          refine lv_aload_n hx hb dM_value_29 rfl (lv_at hl 1 rfl) ?_
          refine va_ldcS (q := aK 12) hx hb hown (hZ.2.2.2.2.2.2.2.2.1 ("ValueBenchModel", 236, "true", 12) (List.mem_of_getElem? (i := 18) rfl)) dM_value_30 ?_
          refine lv_iconst (v := 2) hx hb dM_value_32 (by decide) ?_
          obtain ⟨o8, hq9, hf⟩ := xbind hf
          by_cases hk10 : o8.1 = 0
          · rw [if_pos hk10] at hf
            obtain ⟨hm11, hf⟩ := xmoE hf
            have hFc := xm_free hD hS hA
            refine va_callq (va_runV (C := "ValueBenchModel") (As := [.ref (aK 12), .int 2]) (rest := []) ⟨hx, hb, hml, hown, htx⟩ (gM_saysa l hl9 D cT aK aV H.size n aM ad rd gd vad o1 (2 : Int32) o8 hq9 hk10) ⟨callB_of 2 htx (xw_goodC kw_5_237) rfl rfl rfl (htx _ kw_1_5) (htx _ kw_5_234) ⟨by decide, by decide, by decide +kernel⟩ ⟨Nat.le_of_ble_eq_true rfl, Nat.le_of_ble_eq_true rfl⟩, (htx _ kw_5_236), (htx _ kp_M_says)⟩ ⟨xPre_blind, va_recv hK hP (ci := 5) rfl (q0 := 0) rfl, (fun U hU hW => ⟨rfl, xPre_of hZ hS hFc hP hD hK U hU hW⟩)⟩ rfl rfl hl.1 rfl (xm_room (Nat.le_of_ble_eq_true rfl)) dM_value_33 ⟨hm11.1, hm11.2⟩) hS (fun q _ h => hFc q h) hFc (fun r12 u9 t H1 locs ht hvm hr9 hB hz1 hk1 hS => ?_)
            obtain ⟨hP1, hK1, hD1⟩ := hB
            rw [ht] at hP1
            obtain ⟨ad13, gd14, vad15⟩ := u9
            obtain ⟨hr9, hv16, hn17⟩ := hr9
            have hP : va_P D xcl (xMw cT aM ad13 rd gd14 vad15 o8.2.2.2.2 []) H1 := hP1
            have hD : va_D A (xMw cT aM ad13 rd gd14 vad15 o8.2.2.2.2 []) := hD1.weaken (fun k q _ h => hFc q.1 h)
            generalize H1 = H at hP hS ⊢
            have hE9 : ∀ p, p < xct st → vad15 p = vad p := fun p h => (hv16 p (Nat.lt_of_lt_of_le h hN)).trans (hE p h)
            have hE := hE9
            have hN : xct st ≤ xct o8.2.2.2.2 := Nat.le_trans hN hn17
            rw [hr9]
            refine W.eq (g2 := F0 m 36 ls [xv vad15 o8.2.2.2.1]) (by first | rfl | (skip; rfl)) ?_
            obtain rfl := Option.some.inj hf
            exact W.aret (v := xv vad15 o8.2.2.2.1) hx hb hr (Or.inl ⟨_, rfl⟩) (xvor _ _) (fun t ht hW => ⟨⟨xca vad15 o8.2.2.2.1, (ad13, gd14, vad15), rfl, ⟨rfl, hE, hN⟩, by rw [ht]; exact hP, va_K.moved hW.alike hK, hD⟩, hS.F ht⟩) hS.2.2 dM_value_36
          rw [if_neg hk10] at hf
          by_cases hk18 : o8.1 = 1
          · rw [if_pos hk18] at hf
            obtain ⟨hm19, hf⟩ := xmoE hf
            obtain rfl := Option.some.inj hf
            exact absurd (show (1 : Nat) = 0 from hkd) (by decide)
          rw [if_neg hk18] at hf
          exact nomatch hf
      · rw [if_pos hc] at hf
        refine lv_aload_n hx hb dM_value_15 rfl (lv_at hl 1 rfl) ?_
        refine va_ldcS (q := aK 10) hx hb hown (hZ.2.2.2.2.2.2.2.2.1 ("ValueBenchModel", 69, "null", 10) (List.mem_of_getElem? (i := 17) rfl)) dM_value_16 ?_
        refine lv_iconst (v := 0) hx hb dM_value_18 (by decide) ?_
        obtain ⟨o8, hq9, hf⟩ := xbind hf
        by_cases hk10 : o8.1 = 0
        · rw [if_pos hk10] at hf
          obtain ⟨hm11, hf⟩ := xmoE hf
          have hFc := xm_free hD hS hA
          refine va_callq (va_runV (C := "ValueBenchModel") (As := [.ref (aK 10), .int 0]) (rest := []) ⟨hx, hb, hml, hown, htx⟩ (gM_saysb l hl9 D cT aK aV H.size n aM ad rd gd vad o1 (0 : Int32) o8 hq9 hk10) ⟨callB_of 2 htx (xw_goodC kw_5_237) rfl rfl rfl (htx _ kw_1_5) (htx _ kw_5_234) ⟨by decide, by decide, by decide +kernel⟩ ⟨Nat.le_of_ble_eq_true rfl, Nat.le_of_ble_eq_true rfl⟩, (htx _ kw_5_236), (htx _ kp_M_says)⟩ ⟨xPre_blind, va_recv hK hP (ci := 5) rfl (q0 := 0) rfl, (fun U hU hW => ⟨rfl, xPre_of hZ hS hFc hP hD hK U hU hW⟩)⟩ rfl rfl hl.1 rfl (xm_room (Nat.le_of_ble_eq_true rfl)) dM_value_19 ⟨hm11.1, hm11.2⟩) hS (fun q _ h => hFc q h) hFc (fun r12 u9 t H1 locs ht hvm hr9 hB hz1 hk1 hS => ?_)
          obtain ⟨hP1, hK1, hD1⟩ := hB
          rw [ht] at hP1
          obtain ⟨ad13, gd14, vad15⟩ := u9
          obtain ⟨hr9, hv16, hn17⟩ := hr9
          have hP : va_P D xcl (xMw cT aM ad13 rd gd14 vad15 o8.2.2.2.2 []) H1 := hP1
          have hD : va_D A (xMw cT aM ad13 rd gd14 vad15 o8.2.2.2.2 []) := hD1.weaken (fun k q _ h => hFc q.1 h)
          generalize H1 = H at hP hS ⊢
          have hE9 : ∀ p, p < xct st → vad15 p = vad p := fun p h => (hv16 p (Nat.lt_of_lt_of_le h hN)).trans (hE p h)
          have hE := hE9
          have hN : xct st ≤ xct o8.2.2.2.2 := Nat.le_trans hN hn17
          rw [hr9]
          refine W.eq (g2 := F0 m 22 ls [xv vad15 o8.2.2.2.1]) (by first | rfl | (skip; rfl)) ?_
          obtain rfl := Option.some.inj hf
          exact W.aret (v := xv vad15 o8.2.2.2.1) hx hb hr (Or.inl ⟨_, rfl⟩) (xvor _ _) (fun t ht hW => ⟨⟨xca vad15 o8.2.2.2.1, (ad13, gd14, vad15), rfl, ⟨rfl, hE, hN⟩, by rw [ht]; exact hP, va_K.moved hW.alike hK, hD⟩, hS.F ht⟩) hS.2.2 dM_value_22
        rw [if_neg hk10] at hf
        by_cases hk18 : o8.1 = 1
        · rw [if_pos hk18] at hf
          obtain ⟨hm19, hf⟩ := xmoE hf
          obtain rfl := Option.some.inj hf
          exact absurd (show (1 : Nat) = 0 from hkd) (by decide)
        rw [if_neg hk18] at hf
        exact nomatch hf
    · refine vx_ofW (cc := prog_13_method_34_code) (maxL := 3) (ret := (some (.object "ValueBenchModel$V"))) (by decide) rfl ?_
      intro p e s m args below meth c s₁ B hml hne hv
      obtain ⟨rfl, hsz, hZ, hP, hK, hD0⟩ := hv
      have hx := B.exec
      have hb := B.bytes
      have hr := B.returns
      have hts := atoms_spec (ws := wyM_value) B.pre
      have htx := fun w h => hts w (List.mem_cons_of_mem _ h)
      have hown : s.vm.findClass "ValueBenchModel" = some m.cls := findClass_of_methodNamed B.named
      have hlocks := B.notSynchronized
      subst hsz
      have hD := hD0.self (sz := s.heap.size)
      generalize hAe : va_A (xMw cT aM ad rd gd vad st []) s.heap.size = A at hD hZ ⊢
      have hA : ∀ q : Nat, s.heap.size ≤ q → A q := fun q h => by rw [← hAe]; exact Or.inr h
      have hS : va_S A s.heap s.heap [] := va_S.rf
      have hl := lv_entry ([.ref aM]) (n := 3) (by simp [lg_sl, xvcat, xrscat, xcI, xcL, xcR, xcN])
      rw [show lv_args 0 [.ref aM] = [(0, .ref aM)] from by simp [lv_args, xvcat, xrscat, xcI, xcL, xcR, xcN]] at hl
      rw [lg_entry_eq]
      generalize (lg_sl ([.ref aM]) ++ List.replicate (3 - (lg_sl ([.ref aM])).length) Slot.unset).toArray = ls at hl ⊢
      have hl : lv_has ls 3 [(0, .ref aM)] := hl
      have hE : ∀ p, p < xct st → vad p = vad p := fun _ _ => rfl
      have hN : xct st ≤ xct st := Nat.le_refl _
      refine lv_aload_n hx hb dM_value_0 rfl (lv_at hl 0 rfl) ?_
      obtain ⟨o1, hq2, hf⟩ := xbind hf
      have hFc := xm_free hD hS hA
      refine va_callv (va_runV (C := "ValueBenchModel") (As := []) (rest := []) ⟨hx, hb, hml, hown, htx⟩ (gM_blanks l hl9 D cT aK aV s.heap.size n aM ad rd gd vad st o1 hq2) ⟨callB_of 0 htx (xw_goodC kw_5_229) rfl rfl rfl (htx _ kw_1_5) (htx _ kw_5_226) ⟨by decide, by decide, by decide +kernel⟩ ⟨Nat.le_of_ble_eq_true rfl, Nat.le_of_ble_eq_true rfl⟩, (htx _ kw_5_228), (htx _ kp_M_blanks)⟩ ⟨xPre_blind, va_recv hK hP (ci := 5) rfl (q0 := 0) rfl, (fun U hU hW => ⟨rfl, xPre_of hZ hS hFc hP hD hK U hU hW⟩)⟩ rfl rfl hl.1 rfl (xm_room (Nat.le_of_ble_eq_true rfl)) dM_value_1 ⟨Nat.zero_le _, Nat.zero_le _⟩) hS (fun q _ h => hFc q h) hFc (fun u9 t H1 locs ht hvm hr9 hB hz1 hk1 hS => ?_)
      obtain ⟨hP1, hK1, hD1⟩ := hB
      rw [ht] at hP1
      have hn4 := hr9
      have hN : xct st ≤ xct o1 := Nat.le_trans hN hn4
      have hP : va_P D xcl (xMw cT aM ad rd gd vad o1 []) H1 := hP1
      have hD : va_D A (xMw cT aM ad rd gd vad o1 []) := hD1.weaken (fun k q _ h => hFc q.1 h)
      generalize H1 = H at hP hS ⊢
      refine W.eq (g2 := F0 m 4 ls []) (by first | rfl | (skip; rfl)) ?_
      refine lv_aload_n hx hb dM_value_4 rfl (lv_at hl 0 rfl) ?_
      obtain ⟨o5, hq6, hf⟩ := xbind hf
      have hFc := xm_free hD hS hA
      refine va_calli (va_runV (C := "ValueBenchModel") (As := []) (rest := []) ⟨hx, hb, hml, hown, htx⟩ (gM_peek l hl9 D cT aK aV H.size n aM ad rd gd vad o1 o5 hq6) ⟨callB_of 0 htx (xw_goodC kw_5_233) rfl rfl rfl (htx _ kw_1_5) (htx _ kw_5_230) ⟨by decide, by decide, by decide +kernel⟩ ⟨Nat.le_of_ble_eq_true rfl, Nat.le_of_ble_eq_true rfl⟩, (htx _ kw_5_232), (htx _ kp_M_peek)⟩ ⟨xPre_blind, va_recv hK hP (ci := 5) rfl (q0 := 0) rfl, (fun U hU hW => ⟨rfl, xPre_of hZ hS hFc hP hD hK U hU hW⟩)⟩ rfl rfl hl.1 rfl (xm_room (Nat.le_of_ble_eq_true rfl)) dM_value_5 ⟨Nat.zero_le _, Nat.zero_le _⟩) hS (fun q _ h => hFc q h) hFc (fun r7 u9 t H1 locs ht hvm hr9 hB hz1 hk1 hS => ?_)
      obtain ⟨hP1, hK1, hD1⟩ := hB
      rw [ht] at hP1
      have hP : va_P D xcl (xMw cT aM ad rd gd vad o1 []) H1 := hP1
      have hD : va_D A (xMw cT aM ad rd gd vad o1 []) := hD1.weaken (fun k q _ h => hFc q.1 h)
      generalize H1 = H at hP hS ⊢
      rw [hr9]
      refine W.eq (g2 := F0 m 8 ls [.int o5]) (by first | rfl | (skip; rfl)) ?_
      refine lv_istore_n (lv' := [(1, .int o5), (0, .ref aM)]) hx hb dM_value_8 rfl hl (by decide) rfl (fun ls hl => ?_)
      refine lv_iload_n hx hb dM_value_9 rfl (lv_at hl 0 rfl) ?_
      refine lv_bipush (v := 110) hx hb dM_value_10 (by decide) ?_
      refine lv_icmp_ne (tgt := 23) hx hb dM_value_12 (by decide) (fun hc => ?_) (fun hc => ?_)
      · rw [if_neg hc] at hf
        refine lv_iload_n hx hb dM_value_23 rfl (lv_at hl 0 rfl) ?_
        refine lv_bipush (v := 116) hx hb dM_value_24 (by decide) ?_
        refine lv_icmp_ne (tgt := 37) hx hb dM_value_26 (by decide) (fun hc => ?_) (fun hc => ?_)
        · rw [if_neg hc] at hf
          refine lv_iload_n hx hb dM_value_37 rfl (lv_at hl 0 rfl) ?_
          refine lv_bipush (v := 102) hx hb dM_value_38 (by decide) ?_
          refine lv_icmp_ne (tgt := 51) hx hb dM_value_40 (by decide) (fun hc => ?_) (fun hc => ?_)
          · rw [if_neg hc] at hf
            refine lv_iload_n hx hb dM_value_51 rfl (lv_at hl 0 rfl) ?_
            refine lv_bipush (v := 34) hx hb dM_value_52 (by decide) ?_
            refine lv_icmp_ne (tgt := 62) hx hb dM_value_54 (by decide) (fun hc => ?_) (fun hc => ?_)
            · rw [if_neg hc] at hf
              refine lv_iload_n hx hb dM_value_62 rfl (lv_at hl 0 rfl) ?_
              refine lv_bipush (v := 45) hx hb dM_value_63 (by decide) ?_
              refine lv_icmp_eq (tgt := 75) hx hb dM_value_65 (by decide) (fun hc => ?_) (fun hc => ?_)
              · rw [if_pos hc] at hf
                refine lv_aload_n hx hb dM_value_75 rfl (lv_at hl 1 rfl) ?_
                obtain ⟨o8, hq9, hf⟩ := xbind hf
                by_cases hk10 : o8.1 = 0
                · rw [if_pos hk10] at hf
                  obtain ⟨hm11, hf⟩ := xmoE hf
                  have hFc := xm_free hD hS hA
                  refine va_callq (va_runV (C := "ValueBenchModel") (As := []) (rest := []) ⟨hx, hb, hml, hown, htx⟩ (gM_jsonNumber l hl9 D cT aK aV H.size n aM ad rd gd vad o1 o8 hq9 hk10) ⟨callB_of 0 htx (xw_goodC kw_6_77) rfl rfl rfl (htx _ kw_1_5) (htx _ kw_6_74) ⟨by decide, by decide, by decide +kernel⟩ ⟨Nat.le_of_ble_eq_true rfl, Nat.le_of_ble_eq_true rfl⟩, (htx _ kw_6_76), (htx _ kp_M_jsonNumber)⟩ ⟨xPre_blind, va_recv hK hP (ci := 5) rfl (q0 := 0) rfl, (fun U hU hW => ⟨rfl, xPre_of hZ hS hFc hP hD hK U hU hW⟩)⟩ rfl rfl hl.1 rfl (xm_room (Nat.le_of_ble_eq_true rfl)) dM_value_76 ⟨hm11.1, hm11.2⟩) hS (fun q _ h => hFc q h) hFc (fun r12 u9 t H1 locs ht hvm hr9 hB hz1 hk1 hS => ?_)
                  obtain ⟨hP1, hK1, hD1⟩ := hB
                  rw [ht] at hP1
                  obtain ⟨ad13, gd14, vad15⟩ := u9
                  obtain ⟨hr9, hv16, hn17⟩ := hr9
                  have hP : va_P D xcl (xMw cT aM ad13 rd gd14 vad15 o8.2.2.2.2 []) H1 := hP1
                  have hD : va_D A (xMw cT aM ad13 rd gd14 vad15 o8.2.2.2.2 []) := hD1.weaken (fun k q _ h => hFc q.1 h)
                  generalize H1 = H at hP hS ⊢
                  have hE9 : ∀ p, p < xct st → vad15 p = vad p := fun p h => (hv16 p (Nat.lt_of_lt_of_le h hN)).trans (hE p h)
                  have hE := hE9
                  have hN : xct st ≤ xct o8.2.2.2.2 := Nat.le_trans hN hn17
                  rw [hr9]
                  refine W.eq (g2 := F0 m 79 ls [xv vad15 o8.2.2.2.1]) (by first | rfl | (skip; rfl)) ?_
                  obtain rfl := Option.some.inj hf
                  exact absurd (show (0 : Nat) = 1 from hkd) (by decide)
                rw [if_neg hk10] at hf
                by_cases hk18 : o8.1 = 1
                · rw [if_pos hk18] at hf
                  obtain ⟨hm19, hf⟩ := xmoE hf
                  obtain rfl := Option.some.inj hf
                  exact absurd (show (3 : Nat) = 1 from hkd) (by decide)
                rw [if_neg hk18] at hf
                by_cases hk26 : o8.1 = 2
                · rw [if_pos hk26] at hf
                  obtain ⟨hm27, hf⟩ := xmoE hf
                  have hFc := xm_free hD hS hA
                  refine xx_thr (vx_runV (C := "ValueBenchModel") (As := []) (rest := []) ⟨hx, hb, hml, hown, htx⟩ (gM_jsonNumber_2 l hl9 D cT aK aV H.size n aM ad rd gd vad o1 o8 hq9 hk26) ⟨callB_of 0 htx (xw_goodC kw_6_77) rfl rfl rfl (htx _ kw_1_5) (htx _ kw_6_74) ⟨by decide, by decide, by decide +kernel⟩ ⟨Nat.le_of_ble_eq_true rfl, Nat.le_of_ble_eq_true rfl⟩, (htx _ kw_6_76), (htx _ kp_M_jsonNumber)⟩ ⟨xPre_blind, va_recv hK hP (ci := 5) rfl (q0 := 0) rfl, (fun U hU hW => ⟨rfl, xPre_of hZ hS hFc hP hD hK U hU hW⟩)⟩ rfl rfl hl.1 rfl (xm_room (Nat.le_of_ble_eq_true rfl)) dM_value_76 ⟨hm27.1, hm27.2⟩) hS hFc (fun q _ h => hFc q h) (fun E ce q9 u9 t H1 locs ht hvm hr9 hB hz1 hk1 hS hce hcv hcl => ?_)
                  obtain ⟨rfl, hP1, hK1, hD1⟩ := hB
                  rw [ht] at hP1
                  obtain ⟨ad29, gd30, vad31⟩ := u9
                  obtain ⟨hv32, hn33⟩ := hr9
                  have hP : va_P D xcl (xMw cT aM ad29 rd gd30 vad31 o8.2.2.2.2 []) H1 := hP1
                  have hD : va_D A (xMw cT aM ad29 rd gd30 vad31 o8.2.2.2.2 []) := hD1.weaken (fun k q _ h => hFc q.1 h)
                  generalize H1 = H at hP hS hce ⊢
                  have hE9 : ∀ p, p < xct st → vad31 p = vad p := fun p h => (hv32 p (Nat.lt_of_lt_of_le h hN)).trans (hE p h)
                  have hE := hE9
                  have hN : xct st ≤ xct o8.2.2.2.2 := Nat.le_trans hN hn33
                  obtain rfl := Option.some.inj hf
                  exact vx_out (E := "java/lang/UnsupportedOperationException") (fun x h => (hne x h).elim) hlocks hce hcv hcl (fun t ht ha => ⟨(ad29, gd30, vad31), ⟨hE, hN⟩, ⟨rfl, by rw [ht]; exact hP, va_K.moved ha hK, hD⟩, hS.F ht⟩) hS.2.2 (Nat.le_refl _) (Nat.le_refl _)
                rw [if_neg hk26] at hf
                exact nomatch hf
              · rw [if_neg hc] at hf
                refine lv_iload_n hx hb dM_value_68 rfl (lv_at hl 0 rfl) ?_
                obtain ⟨o8, hq9, hf⟩ := xbind hf
                refine va_calli (va_runS (As := [.int o5]) (rest := []) ⟨hx, hb, hml, hown, htx⟩ (gM_digit l hl9 D cT aK aV H.size n o5 o8 hq9) ⟨callB_of 1 htx (xw_goodC kw_6_73) rfl rfl rfl (htx _ kw_1_5) (htx _ kw_6_71) ⟨by decide, by decide, by decide +kernel⟩ ⟨Nat.le_of_ble_eq_true rfl, Nat.le_of_ble_eq_true rfl⟩, htx _ kw_6_72⟩ ⟨xPre_blind, (fun U hU hW => ⟨rfl, xPre_of hZ hS (xm_free0 hS hA) xm_Pnil xm_Dnil hK U hU hW⟩)⟩ rfl rfl hl.1 rfl (lv_room (Nat.le_of_ble_eq_true rfl)) dM_value_69 ⟨(Nat.zero_le _), (Nat.zero_le _)⟩) hS (fun q _ h => xm_free0 hS hA q h) (xm_free0 hS hA) (fun r10 u9 t H1 locs ht hvm hr9 hB hz1 hk1 hS => ?_)
                replace hP := xm_keep hP hk1
                generalize H1 = H at hP hS ⊢
                rw [hr9]
                refine W.eq (g2 := F0 m 72 ls [.int o8]) (by first | rfl | rw [xv1 (Nat.succ_ne_zero _)]) ?_
                refine lv_if_eq (tgt := 80) hx hb dM_value_72 (by decide) (fun hc => ?_) (fun hc => ?_)
                · rw [if_pos hc] at hf
                  refine lv_iload_n hx hb dM_value_80 rfl (lv_at hl 0 rfl) ?_
                  refine lv_bipush (v := 91) hx hb dM_value_81 (by decide) ?_
                  refine lv_icmp_eq (tgt := 92) hx hb dM_value_83 (by decide) (fun hc => ?_) (fun hc => ?_)
                  · rw [if_pos hc] at hf
                    refine lv_aload_n hx hb dM_value_92 rfl (lv_at hl 1 rfl) ?_
                    refine xm_get (v := .int (xsi o1 18)) hx hb htx hown hK hP 18 (by decide) rfl (htx _ kw_5_105) rfl dM_value_93 ?_
                    refine lv_aload_n hx hb dM_value_96 rfl (lv_at hl 1 rfl) ?_
                    refine xm_get (v := .int (xsi o1 19)) hx hb htx hown hK hP 19 (by decide) rfl (htx _ kw_5_106) rfl dM_value_97 ?_
                    refine lv_icmp_ne (tgt := 111) hx hb dM_value_100 (by decide) (fun hc => ?_) (fun hc => ?_)
                    · rw [if_neg hc] at hf
                      refine lv_aload_n hx hb dM_value_111 rfl (lv_at hl 1 rfl) ?_
                      refine lv_dup hx hb dM_value_112 rfl ?_
                      refine xm_get (v := .int (xsi o1 18)) hx hb htx hown hK hP 18 (by decide) rfl (htx _ kw_5_105) rfl dM_value_113 ?_
                      refine lv_iconst (v := 1) hx hb dM_value_116 (by decide) ?_
                      refine lv_iadd hx hb dM_value_117 ?_
                      refine xm_put (v := .int ((xsi o1 18) + (1 : Int32))) (W' := (xMw cT aM ad rd gd vad (xsI o1 18 ((xsi o1 18) + (1 : Int32))) [])) (ty := .int) hx hb htx hown hK hP hD hS 18 (by decide) rfl (htx _ kw_5_105) rfl rfl (by decide +kernel) rfl rfl dM_value_118 (fun H locs hP hD hS => ?_)
                      refine lv_aload_n hx hb dM_value_121 rfl (lv_at hl 1 rfl) ?_
                      refine lv_dup hx hb dM_value_122 rfl ?_
                      refine xm_get (v := .int (xsi o1 16)) hx hb htx hown hK hP 16 (by decide) rfl (htx _ kw_5_103) rfl dM_value_123 ?_
                      refine lv_iconst (v := 1) hx hb dM_value_126 (by decide) ?_
                      refine lv_iadd hx hb dM_value_127 ?_
                      refine xm_put (v := .int ((xsi o1 16) + (1 : Int32))) (W' := (xMw cT aM ad rd gd vad (xsI (xsI o1 18 ((xsi o1 18) + (1 : Int32))) 16 ((xsi o1 16) + (1 : Int32))) [])) (ty := .int) hx hb htx hown hK hP hD hS 16 (by decide) rfl (htx _ kw_5_103) rfl rfl (by decide +kernel) rfl rfl dM_value_128 (fun H locs hP hD hS => ?_)
                      refine lv_iload_n hx hb dM_value_131 rfl (lv_at hl 0 rfl) ?_
                      refine lv_bipush (v := 91) hx hb dM_value_132 (by decide) ?_
                      refine lv_icmp_ne (tgt := 144) hx hb dM_value_134 (by decide) (fun hc => ?_) (fun hc => ?_)
                      · rw [if_neg hc] at hf
                        refine lv_aload_n hx hb dM_value_144 rfl (lv_at hl 1 rfl) ?_
                        obtain ⟨o11, hq12, hf⟩ := xbind hf
                        by_cases hk13 : o11.1 = 0
                        · rw [if_pos hk13] at hf
                          obtain ⟨hm14, hf⟩ := xmoE hf
                          have hFc := xm_free hD hS hA
                          refine va_callq (va_runV (C := "ValueBenchModel") (As := []) (rest := []) ⟨hx, hb, hml, hown, htx⟩ (gM_members l hl9 D cT aK aV (16 * d) (400 * d) (fM_value d n) (fun sz => ih sz n) H.size n aM ad rd gd vad (xsI (xsI o1 18 ((xsi o1 18) + (1 : Int32))) 16 ((xsi o1 16) + (1 : Int32))) o11 hq12 hk13) ⟨callB_of 0 htx (xw_goodC kw_6_116) rfl rfl rfl (htx _ kw_1_5) (htx _ kw_6_113) ⟨by decide, by decide, by decide +kernel⟩ ⟨(by show (16 * d + 9) + 1 ≤ 16 * (d + 1); omega), (by show 8 + (6 + 11) + (400 * d + 167) ≤ 400 * (d + 1); omega)⟩, (htx _ kw_6_115), (htx _ kp_M_members)⟩ ⟨xPre_blind, va_recv hK hP (ci := 5) rfl (q0 := 0) rfl, (fun U hU hW => ⟨rfl, xPre_of hZ hS hFc hP hD hK U hU hW⟩)⟩ rfl rfl hl.1 rfl (xm_room (Nat.le_of_ble_eq_true rfl)) dM_value_145 ⟨hm14.1, hm14.2⟩) hS (fun q _ h => hFc q h) hFc (fun r15 u9 t H1 locs ht hvm hr9 hB hz1 hk1 hS => ?_)
                          obtain ⟨hP1, hK1, hD1⟩ := hB
                          rw [ht] at hP1
                          obtain ⟨ad16, gd17, vad18⟩ := u9
                          obtain ⟨hr9, hv19, hn20⟩ := hr9
                          have hP : va_P D xcl (xMw cT aM ad16 rd gd17 vad18 o11.2.2.2.2 []) H1 := hP1
                          have hD : va_D A (xMw cT aM ad16 rd gd17 vad18 o11.2.2.2.2 []) := hD1.weaken (fun k q _ h => hFc q.1 h)
                          generalize H1 = H at hP hS ⊢
                          have hE9 : ∀ p, p < xct st → vad18 p = vad p := fun p h => (hv19 p (Nat.lt_of_lt_of_le h hN)).trans (hE p h)
                          have hE := hE9
                          have hN : xct st ≤ xct o11.2.2.2.2 := Nat.le_trans hN hn20
                          rw [hr9]
                          refine W.eq (g2 := F0 m 148 ls [xv vad18 o11.2.2.2.1]) (by first | rfl | (skip; rfl)) ?_
                          refine xm_astore_n (lv' := [(2, xv vad18 o11.2.2.2.1), (1, .int o5), (0, .ref aM)]) hx hb (xvor _ _) dM_value_148 rfl hl (by decide) rfl (fun ls hl => ?_)
                          refine lv_aload_n hx hb dM_value_149 rfl (lv_at hl 2 rfl) ?_
                          refine lv_dup hx hb dM_value_150 rfl ?_
                          refine xm_get (v := .int (xsi o11.2.2.2.2 18)) hx hb htx hown hK hP 18 (by decide) rfl (htx _ kw_5_105) rfl dM_value_151 ?_
                          refine lv_iconst (v := 1) hx hb dM_value_154 (by decide) ?_
                          refine lv_isub hx hb dM_value_155 ?_
                          refine xm_put (v := .int ((xsi o11.2.2.2.2 18) - (1 : Int32))) (W' := (xMw cT aM ad16 rd gd17 vad18 (xsI o11.2.2.2.2 18 ((xsi o11.2.2.2.2 18) - (1 : Int32))) [])) (ty := .int) hx hb htx hown hK hP hD hS 18 (by decide) rfl (htx _ kw_5_105) rfl rfl (by decide +kernel) rfl rfl dM_value_156 (fun H locs hP hD hS => ?_)
                          refine xm_aload_n hx hb (xvor _ _) dM_value_159 rfl (lv_at hl 0 rfl) ?_
                          obtain rfl := Option.some.inj hf
                          exact absurd (show (0 : Nat) = 1 from hkd) (by decide)
                        rw [if_neg hk13] at hf
                        by_cases hk21 : o11.1 = 1
                        · rw [if_pos hk21] at hf
                          obtain ⟨hm22, hf⟩ := xmoE hf
                          obtain rfl := Option.some.inj hf
                          exact absurd (show (2 : Nat) = 1 from hkd) (by decide)
                        rw [if_neg hk21] at hf
                        by_cases hk29 : o11.1 = 2
                        · rw [if_pos hk29] at hf
                          obtain ⟨hm30, hf⟩ := xmoE hf
                          have hFc := xm_free hD hS hA
                          refine xx_thr (vx_runV (C := "ValueBenchModel") (As := []) (rest := []) ⟨hx, hb, hml, hown, htx⟩ (gM_members_2 l hl9 D cT aK aV (16 * d) (400 * d) (fM_value d n) (fun sz => ih sz n) H.size n aM ad rd gd vad (xsI (xsI o1 18 ((xsi o1 18) + (1 : Int32))) 16 ((xsi o1 16) + (1 : Int32))) o11 hq12 hk29) ⟨callB_of 0 htx (xw_goodC kw_6_116) rfl rfl rfl (htx _ kw_1_5) (htx _ kw_6_113) ⟨by decide, by decide, by decide +kernel⟩ ⟨(by show (16 * d + 9) + 1 ≤ 16 * (d + 1); omega), (by show 8 + (6 + 11) + (400 * d + 167) ≤ 400 * (d + 1); omega)⟩, (htx _ kw_6_115), (htx _ kp_M_members)⟩ ⟨xPre_blind, va_recv hK hP (ci := 5) rfl (q0 := 0) rfl, (fun U hU hW => ⟨rfl, xPre_of hZ hS hFc hP hD hK U hU hW⟩)⟩ rfl rfl hl.1 rfl (xm_room (Nat.le_of_ble_eq_true rfl)) dM_value_145 ⟨hm30.1, hm30.2⟩) hS hFc (fun q _ h => hFc q h) (fun E ce q9 u9 t H1 locs ht hvm hr9 hB hz1 hk1 hS hce hcv hcl => ?_)
                          obtain ⟨rfl, hP1, hK1, hD1⟩ := hB
                          rw [ht] at hP1
                          obtain ⟨ad32, gd33, vad34⟩ := u9
                          obtain ⟨hv35, hn36⟩ := hr9
                          have hP : va_P D xcl (xMw cT aM ad32 rd gd33 vad34 o11.2.2.2.2 []) H1 := hP1
                          have hD : va_D A (xMw cT aM ad32 rd gd33 vad34 o11.2.2.2.2 []) := hD1.weaken (fun k q _ h => hFc q.1 h)
                          generalize H1 = H at hP hS hce ⊢
                          have hE9 : ∀ p, p < xct st → vad34 p = vad p := fun p h => (hv35 p (Nat.lt_of_lt_of_le h hN)).trans (hE p h)
                          have hE := hE9
                          have hN : xct st ≤ xct o11.2.2.2.2 := Nat.le_trans hN hn36
                          obtain rfl := Option.some.inj hf
                          exact vx_out (E := "java/lang/UnsupportedOperationException") (fun x h => (hne x h).elim) hlocks hce hcv hcl (fun t ht ha => ⟨(ad32, gd33, vad34), ⟨hE, hN⟩, ⟨rfl, by rw [ht]; exact hP, va_K.moved ha hK, hD⟩, hS.F ht⟩) hS.2.2 (Nat.le_refl _) (Nat.le_refl _)
                        rw [if_neg hk29] at hf
                        by_cases hk37 : o11.1 = 3
                        · rw [if_pos hk37] at hf
                          obtain ⟨hm38, hf⟩ := xmoE hf
                          obtain rfl := Option.some.inj hf
                          exact absurd (show (3 : Nat) = 1 from hkd) (by decide)
                        rw [if_neg hk37] at hf
                        exact nomatch hf
                      · rw [if_pos hc] at hf
                        refine lv_aload_n hx hb dM_value_137 rfl (lv_at hl 1 rfl) ?_
                        obtain ⟨o11, hq12, hf⟩ := xbind hf
                        by_cases hk13 : o11.1 = 0
                        · rw [if_pos hk13] at hf
                          obtain ⟨hm14, hf⟩ := xmoE hf
                          have hFc := xm_free hD hS hA
                          refine va_callq (va_runV (C := "ValueBenchModel") (As := []) (rest := []) ⟨hx, hb, hml, hown, htx⟩ (gM_elements l hl9 D cT aK aV (16 * d) (400 * d) (fM_value d n) (fun sz => ih sz n) H.size n aM ad rd gd vad (xsI (xsI o1 18 ((xsi o1 18) + (1 : Int32))) 16 ((xsi o1 16) + (1 : Int32))) o11 hq12 hk13) ⟨callB_of 0 htx (xw_goodC kw_6_102) rfl rfl rfl (htx _ kw_1_5) (htx _ kw_6_99) ⟨by decide, by decide, by decide +kernel⟩ ⟨(by show (16 * d + 8) + 1 ≤ 16 * (d + 1); omega), (by show 8 + (4 + 11) + (400 * d + 147) ≤ 400 * (d + 1); omega)⟩, (htx _ kw_6_101), (htx _ kp_M_elements)⟩ ⟨xPre_blind, va_recv hK hP (ci := 5) rfl (q0 := 0) rfl, (fun U hU hW => ⟨rfl, xPre_of hZ hS hFc hP hD hK U hU hW⟩)⟩ rfl rfl hl.1 rfl (xm_room (Nat.le_of_ble_eq_true rfl)) dM_value_138 ⟨hm14.1, hm14.2⟩) hS (fun q _ h => hFc q h) hFc (fun r15 u9 t H1 locs ht hvm hr9 hB hz1 hk1 hS => ?_)
                          obtain ⟨hP1, hK1, hD1⟩ := hB
                          rw [ht] at hP1
                          obtain ⟨ad16, gd17, vad18⟩ := u9
                          obtain ⟨hr9, hv19, hn20⟩ := hr9
                          have hP : va_P D xcl (xMw cT aM ad16 rd gd17 vad18 o11.2.2.2.2 []) H1 := hP1
                          have hD : va_D A (xMw cT aM ad16 rd gd17 vad18 o11.2.2.2.2 []) := hD1.weaken (fun k q _ h => hFc q.1 h)
                          generalize H1 = H at hP hS ⊢
                          have hE9 : ∀ p, p < xct st → vad18 p = vad p := fun p h => (hv19 p (Nat.lt_of_lt_of_le h hN)).trans (hE p h)
                          have hE := hE9
                          have hN : xct st ≤ xct o11.2.2.2.2 := Nat.le_trans hN hn20
                          rw [hr9]
                          refine W.eq (g2 := F0 m 141 ls [xv vad18 o11.2.2.2.1]) (by first | rfl | (skip; rfl)) ?_
                          refine lv_goto (tgt := 148) hx hb dM_value_141 (by decide) ?_
                          refine xm_astore_n (lv' := [(2, xv vad18 o11.2.2.2.1), (1, .int o5), (0, .ref aM)]) hx hb (xvor _ _) dM_value_148 rfl hl (by decide) rfl (fun ls hl => ?_)
                          refine lv_aload_n hx hb dM_value_149 rfl (lv_at hl 2 rfl) ?_
                          refine lv_dup hx hb dM_value_150 rfl ?_
                          refine xm_get (v := .int (xsi o11.2.2.2.2 18)) hx hb htx hown hK hP 18 (by decide) rfl (htx _ kw_5_105) rfl dM_value_151 ?_
                          refine lv_iconst (v := 1) hx hb dM_value_154 (by decide) ?_
                          refine lv_isub hx hb dM_value_155 ?_
                          refine xm_put (v := .int ((xsi o11.2.2.2.2 18) - (1 : Int32))) (W' := (xMw cT aM ad16 rd gd17 vad18 (xsI o11.2.2.2.2 18 ((xsi o11.2.2.2.2 18) - (1 : Int32))) [])) (ty := .int) hx hb htx hown hK hP hD hS 18 (by decide) rfl (htx _ kw_5_105) rfl rfl (by decide +kernel) rfl rfl dM_value_156 (fun H locs hP hD hS => ?_)
                          refine xm_aload_n hx hb (xvor _ _) dM_value_159 rfl (lv_at hl 0 rfl) ?_
                          obtain rfl := Option.some.inj hf
                          exact absurd (show (0 : Nat) = 1 from hkd) (by decide)
                        rw [if_neg hk13] at hf
                        by_cases hk21 : o11.1 = 1
                        · rw [if_pos hk21] at hf
                          obtain ⟨hm22, hf⟩ := xmoE hf
                          obtain rfl := Option.some.inj hf
                          exact absurd (show (2 : Nat) = 1 from hkd) (by decide)
                        rw [if_neg hk21] at hf
                        by_cases hk29 : o11.1 = 2
                        · rw [if_pos hk29] at hf
                          obtain ⟨hm30, hf⟩ := xmoE hf
                          have hFc := xm_free hD hS hA
                          refine xx_thr (vx_runV (C := "ValueBenchModel") (As := []) (rest := []) ⟨hx, hb, hml, hown, htx⟩ (gM_elements_2 l hl9 D cT aK aV (16 * d) (400 * d) (fM_value d n) (fun sz => ih sz n) H.size n aM ad rd gd vad (xsI (xsI o1 18 ((xsi o1 18) + (1 : Int32))) 16 ((xsi o1 16) + (1 : Int32))) o11 hq12 hk29) ⟨callB_of 0 htx (xw_goodC kw_6_102) rfl rfl rfl (htx _ kw_1_5) (htx _ kw_6_99) ⟨by decide, by decide, by decide +kernel⟩ ⟨(by show (16 * d + 8) + 1 ≤ 16 * (d + 1); omega), (by show 8 + (4 + 11) + (400 * d + 147) ≤ 400 * (d + 1); omega)⟩, (htx _ kw_6_101), (htx _ kp_M_elements)⟩ ⟨xPre_blind, va_recv hK hP (ci := 5) rfl (q0 := 0) rfl, (fun U hU hW => ⟨rfl, xPre_of hZ hS hFc hP hD hK U hU hW⟩)⟩ rfl rfl hl.1 rfl (xm_room (Nat.le_of_ble_eq_true rfl)) dM_value_138 ⟨hm30.1, hm30.2⟩) hS hFc (fun q _ h => hFc q h) (fun E ce q9 u9 t H1 locs ht hvm hr9 hB hz1 hk1 hS hce hcv hcl => ?_)
                          obtain ⟨rfl, hP1, hK1, hD1⟩ := hB
                          rw [ht] at hP1
                          obtain ⟨ad32, gd33, vad34⟩ := u9
                          obtain ⟨hv35, hn36⟩ := hr9
                          have hP : va_P D xcl (xMw cT aM ad32 rd gd33 vad34 o11.2.2.2.2 []) H1 := hP1
                          have hD : va_D A (xMw cT aM ad32 rd gd33 vad34 o11.2.2.2.2 []) := hD1.weaken (fun k q _ h => hFc q.1 h)
                          generalize H1 = H at hP hS hce ⊢
                          have hE9 : ∀ p, p < xct st → vad34 p = vad p := fun p h => (hv35 p (Nat.lt_of_lt_of_le h hN)).trans (hE p h)
                          have hE := hE9
                          have hN : xct st ≤ xct o11.2.2.2.2 := Nat.le_trans hN hn36
                          obtain rfl := Option.some.inj hf
                          exact vx_out (E := "java/lang/UnsupportedOperationException") (fun x h => (hne x h).elim) hlocks hce hcv hcl (fun t ht ha => ⟨(ad32, gd33, vad34), ⟨hE, hN⟩, ⟨rfl, by rw [ht]; exact hP, va_K.moved ha hK, hD⟩, hS.F ht⟩) hS.2.2 (Nat.le_refl _) (Nat.le_refl _)
                        rw [if_neg hk29] at hf
                        by_cases hk37 : o11.1 = 3
                        · rw [if_pos hk37] at hf
                          obtain ⟨hm38, hf⟩ := xmoE hf
                          obtain rfl := Option.some.inj hf
                          exact absurd (show (3 : Nat) = 1 from hkd) (by decide)
                        rw [if_neg hk37] at hf
                        exact nomatch hf
                    · rw [if_pos hc] at hf
                      refine lv_aload_n hx hb dM_value_103 rfl (lv_at hl 1 rfl) ?_
                      refine lv_aload_n hx hb dM_value_104 rfl (lv_at hl 1 rfl) ?_
                      refine xm_get (v := .int (xsi o1 16)) hx hb htx hown hK hP 16 (by decide) rfl (htx _ kw_5_103) rfl dM_value_105 ?_
                      obtain ⟨o11, hq12, hf⟩ := xbind hf
                      by_cases hk13 : o11.1 = 1
                      · rw [if_pos hk13] at hf
                        obtain ⟨hm14, hf⟩ := xmoE hf
                        have hFc := xm_free hD hS hA
                        refine xx_thr (vx_runV (C := "ValueBenchModel") (As := [.int (xsi o1 16)]) (rest := []) ⟨hx, hb, hml, hown, htx⟩ (gM_bad_1 l hl9 D cT aK aV H.size n aM ad rd gd vad o1 (xsi o1 16) o11 hq12 hk13) ⟨callB_of 1 htx (xw_goodC kw_6_2) rfl rfl rfl (htx _ kw_1_5) (htx _ kw_5_239) ⟨by decide, by decide, by decide +kernel⟩ ⟨Nat.le_of_ble_eq_true rfl, Nat.le_of_ble_eq_true rfl⟩, (htx _ kw_6_1), (htx _ kp_M_bad)⟩ ⟨xPre_blind, va_recv hK hP (ci := 5) rfl (q0 := 0) rfl, (fun U hU hW => ⟨rfl, xPre_of hZ hS hFc hP hD hK U hU hW⟩)⟩ rfl rfl hl.1 rfl (xm_room (Nat.le_of_ble_eq_true rfl)) dM_value_108 ⟨hm14.1, hm14.2⟩) hS hFc (fun q _ h => hFc q h) (fun E ce q9 u9 t H1 locs ht hvm hr9 hB hz1 hk1 hS hce hcv hcl => ?_)
                        obtain ⟨rfl, hP1, hK1, hD1⟩ := hB
                        rw [ht] at hP1
                        obtain ⟨ad16, gd17, vad18⟩ := u9
                        obtain ⟨hv19, hn20⟩ := hr9
                        have hP : va_P D xcl (xMw cT aM ad16 rd gd17 vad18 o11.2.2.2 []) H1 := hP1
                        have hD : va_D A (xMw cT aM ad16 rd gd17 vad18 o11.2.2.2 []) := hD1.weaken (fun k q _ h => hFc q.1 h)
                        generalize H1 = H at hP hS hce ⊢
                        have hE9 : ∀ p, p < xct st → vad18 p = vad p := fun p h => (hv19 p (Nat.lt_of_lt_of_le h hN)).trans (hE p h)
                        have hE := hE9
                        have hN : xct st ≤ xct o11.2.2.2 := Nat.le_trans hN hn20
                        obtain rfl := Option.some.inj hf
                        exact vx_out (E := "java/lang/UnsupportedOperationException") (fun x h => (hne x h).elim) hlocks hce hcv hcl (fun t ht ha => ⟨(ad16, gd17, vad18), ⟨hE, hN⟩, ⟨rfl, by rw [ht]; exact hP, va_K.moved ha hK, hD⟩, hS.F ht⟩) hS.2.2 (Nat.le_refl _) (Nat.le_refl _)
                      rw [if_neg hk13] at hf
                      exact nomatch hf
                  · rw [if_neg hc] at hf
                    refine lv_iload_n hx hb dM_value_86 rfl (lv_at hl 0 rfl) ?_
                    refine lv_bipush (v := 123) hx hb dM_value_87 (by decide) ?_
                    refine lv_icmp_ne (tgt := 103) hx hb dM_value_89 (by decide) (fun hc => ?_) (fun hc => ?_)
                    · rw [if_neg hc] at hf
                      refine lv_aload_n hx hb dM_value_103 rfl (lv_at hl 1 rfl) ?_
                      refine lv_aload_n hx hb dM_value_104 rfl (lv_at hl 1 rfl) ?_
                      refine xm_get (v := .int (xsi o1 16)) hx hb htx hown hK hP 16 (by decide) rfl (htx _ kw_5_103) rfl dM_value_105 ?_
                      obtain ⟨o11, hq12, hf⟩ := xbind hf
                      by_cases hk13 : o11.1 = 1
                      · rw [if_pos hk13] at hf
                        obtain ⟨hm14, hf⟩ := xmoE hf
                        have hFc := xm_free hD hS hA
                        refine xx_thr (vx_runV (C := "ValueBenchModel") (As := [.int (xsi o1 16)]) (rest := []) ⟨hx, hb, hml, hown, htx⟩ (gM_bad_1 l hl9 D cT aK aV H.size n aM ad rd gd vad o1 (xsi o1 16) o11 hq12 hk13) ⟨callB_of 1 htx (xw_goodC kw_6_2) rfl rfl rfl (htx _ kw_1_5) (htx _ kw_5_239) ⟨by decide, by decide, by decide +kernel⟩ ⟨Nat.le_of_ble_eq_true rfl, Nat.le_of_ble_eq_true rfl⟩, (htx _ kw_6_1), (htx _ kp_M_bad)⟩ ⟨xPre_blind, va_recv hK hP (ci := 5) rfl (q0 := 0) rfl, (fun U hU hW => ⟨rfl, xPre_of hZ hS hFc hP hD hK U hU hW⟩)⟩ rfl rfl hl.1 rfl (xm_room (Nat.le_of_ble_eq_true rfl)) dM_value_108 ⟨hm14.1, hm14.2⟩) hS hFc (fun q _ h => hFc q h) (fun E ce q9 u9 t H1 locs ht hvm hr9 hB hz1 hk1 hS hce hcv hcl => ?_)
                        obtain ⟨rfl, hP1, hK1, hD1⟩ := hB
                        rw [ht] at hP1
                        obtain ⟨ad16, gd17, vad18⟩ := u9
                        obtain ⟨hv19, hn20⟩ := hr9
                        have hP : va_P D xcl (xMw cT aM ad16 rd gd17 vad18 o11.2.2.2 []) H1 := hP1
                        have hD : va_D A (xMw cT aM ad16 rd gd17 vad18 o11.2.2.2 []) := hD1.weaken (fun k q _ h => hFc q.1 h)
                        generalize H1 = H at hP hS hce ⊢
                        have hE9 : ∀ p, p < xct st → vad18 p = vad p := fun p h => (hv19 p (Nat.lt_of_lt_of_le h hN)).trans (hE p h)
                        have hE := hE9
                        have hN : xct st ≤ xct o11.2.2.2 := Nat.le_trans hN hn20
                        obtain rfl := Option.some.inj hf
                        exact vx_out (E := "java/lang/UnsupportedOperationException") (fun x h => (hne x h).elim) hlocks hce hcv hcl (fun t ht ha => ⟨(ad16, gd17, vad18), ⟨hE, hN⟩, ⟨rfl, by rw [ht]; exact hP, va_K.moved ha hK, hD⟩, hS.F ht⟩) hS.2.2 (Nat.le_refl _) (Nat.le_refl _)
                      rw [if_neg hk13] at hf
                      exact nomatch hf
                    · rw [if_pos hc] at hf
                      refine lv_aload_n hx hb dM_value_92 rfl (lv_at hl 1 rfl) ?_
                      refine xm_get (v := .int (xsi o1 18)) hx hb htx hown hK hP 18 (by decide) rfl (htx _ kw_5_105) rfl dM_value_93 ?_
                      refine lv_aload_n hx hb dM_value_96 rfl (lv_at hl 1 rfl) ?_
                      refine xm_get (v := .int (xsi o1 19)) hx hb htx hown hK hP 19 (by decide) rfl (htx _ kw_5_106) rfl dM_value_97 ?_
                      refine lv_icmp_ne (tgt := 111) hx hb dM_value_100 (by decide) (fun hc => ?_) (fun hc => ?_)
                      · rw [if_neg hc] at hf
                        refine lv_aload_n hx hb dM_value_111 rfl (lv_at hl 1 rfl) ?_
                        refine lv_dup hx hb dM_value_112 rfl ?_
                        refine xm_get (v := .int (xsi o1 18)) hx hb htx hown hK hP 18 (by decide) rfl (htx _ kw_5_105) rfl dM_value_113 ?_
                        refine lv_iconst (v := 1) hx hb dM_value_116 (by decide) ?_
                        refine lv_iadd hx hb dM_value_117 ?_
                        refine xm_put (v := .int ((xsi o1 18) + (1 : Int32))) (W' := (xMw cT aM ad rd gd vad (xsI o1 18 ((xsi o1 18) + (1 : Int32))) [])) (ty := .int) hx hb htx hown hK hP hD hS 18 (by decide) rfl (htx _ kw_5_105) rfl rfl (by decide +kernel) rfl rfl dM_value_118 (fun H locs hP hD hS => ?_)
                        refine lv_aload_n hx hb dM_value_121 rfl (lv_at hl 1 rfl) ?_
                        refine lv_dup hx hb dM_value_122 rfl ?_
                        refine xm_get (v := .int (xsi o1 16)) hx hb htx hown hK hP 16 (by decide) rfl (htx _ kw_5_103) rfl dM_value_123 ?_
                        refine lv_iconst (v := 1) hx hb dM_value_126 (by decide) ?_
                        refine lv_iadd hx hb dM_value_127 ?_
                        refine xm_put (v := .int ((xsi o1 16) + (1 : Int32))) (W' := (xMw cT aM ad rd gd vad (xsI (xsI o1 18 ((xsi o1 18) + (1 : Int32))) 16 ((xsi o1 16) + (1 : Int32))) [])) (ty := .int) hx hb htx hown hK hP hD hS 16 (by decide) rfl (htx _ kw_5_103) rfl rfl (by decide +kernel) rfl rfl dM_value_128 (fun H locs hP hD hS => ?_)
                        refine lv_iload_n hx hb dM_value_131 rfl (lv_at hl 0 rfl) ?_
                        refine lv_bipush (v := 91) hx hb dM_value_132 (by decide) ?_
                        refine lv_icmp_ne (tgt := 144) hx hb dM_value_134 (by decide) (fun hc => ?_) (fun hc => ?_)
                        · rw [if_neg hc] at hf
                          refine lv_aload_n hx hb dM_value_144 rfl (lv_at hl 1 rfl) ?_
                          obtain ⟨o11, hq12, hf⟩ := xbind hf
                          by_cases hk13 : o11.1 = 0
                          · rw [if_pos hk13] at hf
                            obtain ⟨hm14, hf⟩ := xmoE hf
                            have hFc := xm_free hD hS hA
                            refine va_callq (va_runV (C := "ValueBenchModel") (As := []) (rest := []) ⟨hx, hb, hml, hown, htx⟩ (gM_members l hl9 D cT aK aV (16 * d) (400 * d) (fM_value d n) (fun sz => ih sz n) H.size n aM ad rd gd vad (xsI (xsI o1 18 ((xsi o1 18) + (1 : Int32))) 16 ((xsi o1 16) + (1 : Int32))) o11 hq12 hk13) ⟨callB_of 0 htx (xw_goodC kw_6_116) rfl rfl rfl (htx _ kw_1_5) (htx _ kw_6_113) ⟨by decide, by decide, by decide +kernel⟩ ⟨(by show (16 * d + 9) + 1 ≤ 16 * (d + 1); omega), (by show 8 + (6 + 11) + (400 * d + 167) ≤ 400 * (d + 1); omega)⟩, (htx _ kw_6_115), (htx _ kp_M_members)⟩ ⟨xPre_blind, va_recv hK hP (ci := 5) rfl (q0 := 0) rfl, (fun U hU hW => ⟨rfl, xPre_of hZ hS hFc hP hD hK U hU hW⟩)⟩ rfl rfl hl.1 rfl (xm_room (Nat.le_of_ble_eq_true rfl)) dM_value_145 ⟨hm14.1, hm14.2⟩) hS (fun q _ h => hFc q h) hFc (fun r15 u9 t H1 locs ht hvm hr9 hB hz1 hk1 hS => ?_)
                            obtain ⟨hP1, hK1, hD1⟩ := hB
                            rw [ht] at hP1
                            obtain ⟨ad16, gd17, vad18⟩ := u9
                            obtain ⟨hr9, hv19, hn20⟩ := hr9
                            have hP : va_P D xcl (xMw cT aM ad16 rd gd17 vad18 o11.2.2.2.2 []) H1 := hP1
                            have hD : va_D A (xMw cT aM ad16 rd gd17 vad18 o11.2.2.2.2 []) := hD1.weaken (fun k q _ h => hFc q.1 h)
                            generalize H1 = H at hP hS ⊢
                            have hE9 : ∀ p, p < xct st → vad18 p = vad p := fun p h => (hv19 p (Nat.lt_of_lt_of_le h hN)).trans (hE p h)
                            have hE := hE9
                            have hN : xct st ≤ xct o11.2.2.2.2 := Nat.le_trans hN hn20
                            rw [hr9]
                            refine W.eq (g2 := F0 m 148 ls [xv vad18 o11.2.2.2.1]) (by first | rfl | (skip; rfl)) ?_
                            refine xm_astore_n (lv' := [(2, xv vad18 o11.2.2.2.1), (1, .int o5), (0, .ref aM)]) hx hb (xvor _ _) dM_value_148 rfl hl (by decide) rfl (fun ls hl => ?_)
                            refine lv_aload_n hx hb dM_value_149 rfl (lv_at hl 2 rfl) ?_
                            refine lv_dup hx hb dM_value_150 rfl ?_
                            refine xm_get (v := .int (xsi o11.2.2.2.2 18)) hx hb htx hown hK hP 18 (by decide) rfl (htx _ kw_5_105) rfl dM_value_151 ?_
                            refine lv_iconst (v := 1) hx hb dM_value_154 (by decide) ?_
                            refine lv_isub hx hb dM_value_155 ?_
                            refine xm_put (v := .int ((xsi o11.2.2.2.2 18) - (1 : Int32))) (W' := (xMw cT aM ad16 rd gd17 vad18 (xsI o11.2.2.2.2 18 ((xsi o11.2.2.2.2 18) - (1 : Int32))) [])) (ty := .int) hx hb htx hown hK hP hD hS 18 (by decide) rfl (htx _ kw_5_105) rfl rfl (by decide +kernel) rfl rfl dM_value_156 (fun H locs hP hD hS => ?_)
                            refine xm_aload_n hx hb (xvor _ _) dM_value_159 rfl (lv_at hl 0 rfl) ?_
                            obtain rfl := Option.some.inj hf
                            exact absurd (show (0 : Nat) = 1 from hkd) (by decide)
                          rw [if_neg hk13] at hf
                          by_cases hk21 : o11.1 = 1
                          · rw [if_pos hk21] at hf
                            obtain ⟨hm22, hf⟩ := xmoE hf
                            obtain rfl := Option.some.inj hf
                            exact absurd (show (2 : Nat) = 1 from hkd) (by decide)
                          rw [if_neg hk21] at hf
                          by_cases hk29 : o11.1 = 2
                          · rw [if_pos hk29] at hf
                            obtain ⟨hm30, hf⟩ := xmoE hf
                            have hFc := xm_free hD hS hA
                            refine xx_thr (vx_runV (C := "ValueBenchModel") (As := []) (rest := []) ⟨hx, hb, hml, hown, htx⟩ (gM_members_2 l hl9 D cT aK aV (16 * d) (400 * d) (fM_value d n) (fun sz => ih sz n) H.size n aM ad rd gd vad (xsI (xsI o1 18 ((xsi o1 18) + (1 : Int32))) 16 ((xsi o1 16) + (1 : Int32))) o11 hq12 hk29) ⟨callB_of 0 htx (xw_goodC kw_6_116) rfl rfl rfl (htx _ kw_1_5) (htx _ kw_6_113) ⟨by decide, by decide, by decide +kernel⟩ ⟨(by show (16 * d + 9) + 1 ≤ 16 * (d + 1); omega), (by show 8 + (6 + 11) + (400 * d + 167) ≤ 400 * (d + 1); omega)⟩, (htx _ kw_6_115), (htx _ kp_M_members)⟩ ⟨xPre_blind, va_recv hK hP (ci := 5) rfl (q0 := 0) rfl, (fun U hU hW => ⟨rfl, xPre_of hZ hS hFc hP hD hK U hU hW⟩)⟩ rfl rfl hl.1 rfl (xm_room (Nat.le_of_ble_eq_true rfl)) dM_value_145 ⟨hm30.1, hm30.2⟩) hS hFc (fun q _ h => hFc q h) (fun E ce q9 u9 t H1 locs ht hvm hr9 hB hz1 hk1 hS hce hcv hcl => ?_)
                            obtain ⟨rfl, hP1, hK1, hD1⟩ := hB
                            rw [ht] at hP1
                            obtain ⟨ad32, gd33, vad34⟩ := u9
                            obtain ⟨hv35, hn36⟩ := hr9
                            have hP : va_P D xcl (xMw cT aM ad32 rd gd33 vad34 o11.2.2.2.2 []) H1 := hP1
                            have hD : va_D A (xMw cT aM ad32 rd gd33 vad34 o11.2.2.2.2 []) := hD1.weaken (fun k q _ h => hFc q.1 h)
                            generalize H1 = H at hP hS hce ⊢
                            have hE9 : ∀ p, p < xct st → vad34 p = vad p := fun p h => (hv35 p (Nat.lt_of_lt_of_le h hN)).trans (hE p h)
                            have hE := hE9
                            have hN : xct st ≤ xct o11.2.2.2.2 := Nat.le_trans hN hn36
                            obtain rfl := Option.some.inj hf
                            exact vx_out (E := "java/lang/UnsupportedOperationException") (fun x h => (hne x h).elim) hlocks hce hcv hcl (fun t ht ha => ⟨(ad32, gd33, vad34), ⟨hE, hN⟩, ⟨rfl, by rw [ht]; exact hP, va_K.moved ha hK, hD⟩, hS.F ht⟩) hS.2.2 (Nat.le_refl _) (Nat.le_refl _)
                          rw [if_neg hk29] at hf
                          by_cases hk37 : o11.1 = 3
                          · rw [if_pos hk37] at hf
                            obtain ⟨hm38, hf⟩ := xmoE hf
                            obtain rfl := Option.some.inj hf
                            exact absurd (show (3 : Nat) = 1 from hkd) (by decide)
                          rw [if_neg hk37] at hf
                          exact nomatch hf
                        · rw [if_pos hc] at hf
                          refine lv_aload_n hx hb dM_value_137 rfl (lv_at hl 1 rfl) ?_
                          obtain ⟨o11, hq12, hf⟩ := xbind hf
                          by_cases hk13 : o11.1 = 0
                          · rw [if_pos hk13] at hf
                            obtain ⟨hm14, hf⟩ := xmoE hf
                            have hFc := xm_free hD hS hA
                            refine va_callq (va_runV (C := "ValueBenchModel") (As := []) (rest := []) ⟨hx, hb, hml, hown, htx⟩ (gM_elements l hl9 D cT aK aV (16 * d) (400 * d) (fM_value d n) (fun sz => ih sz n) H.size n aM ad rd gd vad (xsI (xsI o1 18 ((xsi o1 18) + (1 : Int32))) 16 ((xsi o1 16) + (1 : Int32))) o11 hq12 hk13) ⟨callB_of 0 htx (xw_goodC kw_6_102) rfl rfl rfl (htx _ kw_1_5) (htx _ kw_6_99) ⟨by decide, by decide, by decide +kernel⟩ ⟨(by show (16 * d + 8) + 1 ≤ 16 * (d + 1); omega), (by show 8 + (4 + 11) + (400 * d + 147) ≤ 400 * (d + 1); omega)⟩, (htx _ kw_6_101), (htx _ kp_M_elements)⟩ ⟨xPre_blind, va_recv hK hP (ci := 5) rfl (q0 := 0) rfl, (fun U hU hW => ⟨rfl, xPre_of hZ hS hFc hP hD hK U hU hW⟩)⟩ rfl rfl hl.1 rfl (xm_room (Nat.le_of_ble_eq_true rfl)) dM_value_138 ⟨hm14.1, hm14.2⟩) hS (fun q _ h => hFc q h) hFc (fun r15 u9 t H1 locs ht hvm hr9 hB hz1 hk1 hS => ?_)
                            obtain ⟨hP1, hK1, hD1⟩ := hB
                            rw [ht] at hP1
                            obtain ⟨ad16, gd17, vad18⟩ := u9
                            obtain ⟨hr9, hv19, hn20⟩ := hr9
                            have hP : va_P D xcl (xMw cT aM ad16 rd gd17 vad18 o11.2.2.2.2 []) H1 := hP1
                            have hD : va_D A (xMw cT aM ad16 rd gd17 vad18 o11.2.2.2.2 []) := hD1.weaken (fun k q _ h => hFc q.1 h)
                            generalize H1 = H at hP hS ⊢
                            have hE9 : ∀ p, p < xct st → vad18 p = vad p := fun p h => (hv19 p (Nat.lt_of_lt_of_le h hN)).trans (hE p h)
                            have hE := hE9
                            have hN : xct st ≤ xct o11.2.2.2.2 := Nat.le_trans hN hn20
                            rw [hr9]
                            refine W.eq (g2 := F0 m 141 ls [xv vad18 o11.2.2.2.1]) (by first | rfl | (skip; rfl)) ?_
                            refine lv_goto (tgt := 148) hx hb dM_value_141 (by decide) ?_
                            refine xm_astore_n (lv' := [(2, xv vad18 o11.2.2.2.1), (1, .int o5), (0, .ref aM)]) hx hb (xvor _ _) dM_value_148 rfl hl (by decide) rfl (fun ls hl => ?_)
                            refine lv_aload_n hx hb dM_value_149 rfl (lv_at hl 2 rfl) ?_
                            refine lv_dup hx hb dM_value_150 rfl ?_
                            refine xm_get (v := .int (xsi o11.2.2.2.2 18)) hx hb htx hown hK hP 18 (by decide) rfl (htx _ kw_5_105) rfl dM_value_151 ?_
                            refine lv_iconst (v := 1) hx hb dM_value_154 (by decide) ?_
                            refine lv_isub hx hb dM_value_155 ?_
                            refine xm_put (v := .int ((xsi o11.2.2.2.2 18) - (1 : Int32))) (W' := (xMw cT aM ad16 rd gd17 vad18 (xsI o11.2.2.2.2 18 ((xsi o11.2.2.2.2 18) - (1 : Int32))) [])) (ty := .int) hx hb htx hown hK hP hD hS 18 (by decide) rfl (htx _ kw_5_105) rfl rfl (by decide +kernel) rfl rfl dM_value_156 (fun H locs hP hD hS => ?_)
                            refine xm_aload_n hx hb (xvor _ _) dM_value_159 rfl (lv_at hl 0 rfl) ?_
                            obtain rfl := Option.some.inj hf
                            exact absurd (show (0 : Nat) = 1 from hkd) (by decide)
                          rw [if_neg hk13] at hf
                          by_cases hk21 : o11.1 = 1
                          · rw [if_pos hk21] at hf
                            obtain ⟨hm22, hf⟩ := xmoE hf
                            obtain rfl := Option.some.inj hf
                            exact absurd (show (2 : Nat) = 1 from hkd) (by decide)
                          rw [if_neg hk21] at hf
                          by_cases hk29 : o11.1 = 2
                          · rw [if_pos hk29] at hf
                            obtain ⟨hm30, hf⟩ := xmoE hf
                            have hFc := xm_free hD hS hA
                            refine xx_thr (vx_runV (C := "ValueBenchModel") (As := []) (rest := []) ⟨hx, hb, hml, hown, htx⟩ (gM_elements_2 l hl9 D cT aK aV (16 * d) (400 * d) (fM_value d n) (fun sz => ih sz n) H.size n aM ad rd gd vad (xsI (xsI o1 18 ((xsi o1 18) + (1 : Int32))) 16 ((xsi o1 16) + (1 : Int32))) o11 hq12 hk29) ⟨callB_of 0 htx (xw_goodC kw_6_102) rfl rfl rfl (htx _ kw_1_5) (htx _ kw_6_99) ⟨by decide, by decide, by decide +kernel⟩ ⟨(by show (16 * d + 8) + 1 ≤ 16 * (d + 1); omega), (by show 8 + (4 + 11) + (400 * d + 147) ≤ 400 * (d + 1); omega)⟩, (htx _ kw_6_101), (htx _ kp_M_elements)⟩ ⟨xPre_blind, va_recv hK hP (ci := 5) rfl (q0 := 0) rfl, (fun U hU hW => ⟨rfl, xPre_of hZ hS hFc hP hD hK U hU hW⟩)⟩ rfl rfl hl.1 rfl (xm_room (Nat.le_of_ble_eq_true rfl)) dM_value_138 ⟨hm30.1, hm30.2⟩) hS hFc (fun q _ h => hFc q h) (fun E ce q9 u9 t H1 locs ht hvm hr9 hB hz1 hk1 hS hce hcv hcl => ?_)
                            obtain ⟨rfl, hP1, hK1, hD1⟩ := hB
                            rw [ht] at hP1
                            obtain ⟨ad32, gd33, vad34⟩ := u9
                            obtain ⟨hv35, hn36⟩ := hr9
                            have hP : va_P D xcl (xMw cT aM ad32 rd gd33 vad34 o11.2.2.2.2 []) H1 := hP1
                            have hD : va_D A (xMw cT aM ad32 rd gd33 vad34 o11.2.2.2.2 []) := hD1.weaken (fun k q _ h => hFc q.1 h)
                            generalize H1 = H at hP hS hce ⊢
                            have hE9 : ∀ p, p < xct st → vad34 p = vad p := fun p h => (hv35 p (Nat.lt_of_lt_of_le h hN)).trans (hE p h)
                            have hE := hE9
                            have hN : xct st ≤ xct o11.2.2.2.2 := Nat.le_trans hN hn36
                            obtain rfl := Option.some.inj hf
                            exact vx_out (E := "java/lang/UnsupportedOperationException") (fun x h => (hne x h).elim) hlocks hce hcv hcl (fun t ht ha => ⟨(ad32, gd33, vad34), ⟨hE, hN⟩, ⟨rfl, by rw [ht]; exact hP, va_K.moved ha hK, hD⟩, hS.F ht⟩) hS.2.2 (Nat.le_refl _) (Nat.le_refl _)
                          rw [if_neg hk29] at hf
                          by_cases hk37 : o11.1 = 3
                          · rw [if_pos hk37] at hf
                            obtain ⟨hm38, hf⟩ := xmoE hf
                            obtain rfl := Option.some.inj hf
                            exact absurd (show (3 : Nat) = 1 from hkd) (by decide)
                          rw [if_neg hk37] at hf
                          exact nomatch hf
                      · rw [if_pos hc] at hf
                        refine lv_aload_n hx hb dM_value_103 rfl (lv_at hl 1 rfl) ?_
                        refine lv_aload_n hx hb dM_value_104 rfl (lv_at hl 1 rfl) ?_
                        refine xm_get (v := .int (xsi o1 16)) hx hb htx hown hK hP 16 (by decide) rfl (htx _ kw_5_103) rfl dM_value_105 ?_
                        obtain ⟨o11, hq12, hf⟩ := xbind hf
                        by_cases hk13 : o11.1 = 1
                        · rw [if_pos hk13] at hf
                          obtain ⟨hm14, hf⟩ := xmoE hf
                          have hFc := xm_free hD hS hA
                          refine xx_thr (vx_runV (C := "ValueBenchModel") (As := [.int (xsi o1 16)]) (rest := []) ⟨hx, hb, hml, hown, htx⟩ (gM_bad_1 l hl9 D cT aK aV H.size n aM ad rd gd vad o1 (xsi o1 16) o11 hq12 hk13) ⟨callB_of 1 htx (xw_goodC kw_6_2) rfl rfl rfl (htx _ kw_1_5) (htx _ kw_5_239) ⟨by decide, by decide, by decide +kernel⟩ ⟨Nat.le_of_ble_eq_true rfl, Nat.le_of_ble_eq_true rfl⟩, (htx _ kw_6_1), (htx _ kp_M_bad)⟩ ⟨xPre_blind, va_recv hK hP (ci := 5) rfl (q0 := 0) rfl, (fun U hU hW => ⟨rfl, xPre_of hZ hS hFc hP hD hK U hU hW⟩)⟩ rfl rfl hl.1 rfl (xm_room (Nat.le_of_ble_eq_true rfl)) dM_value_108 ⟨hm14.1, hm14.2⟩) hS hFc (fun q _ h => hFc q h) (fun E ce q9 u9 t H1 locs ht hvm hr9 hB hz1 hk1 hS hce hcv hcl => ?_)
                          obtain ⟨rfl, hP1, hK1, hD1⟩ := hB
                          rw [ht] at hP1
                          obtain ⟨ad16, gd17, vad18⟩ := u9
                          obtain ⟨hv19, hn20⟩ := hr9
                          have hP : va_P D xcl (xMw cT aM ad16 rd gd17 vad18 o11.2.2.2 []) H1 := hP1
                          have hD : va_D A (xMw cT aM ad16 rd gd17 vad18 o11.2.2.2 []) := hD1.weaken (fun k q _ h => hFc q.1 h)
                          generalize H1 = H at hP hS hce ⊢
                          have hE9 : ∀ p, p < xct st → vad18 p = vad p := fun p h => (hv19 p (Nat.lt_of_lt_of_le h hN)).trans (hE p h)
                          have hE := hE9
                          have hN : xct st ≤ xct o11.2.2.2 := Nat.le_trans hN hn20
                          obtain rfl := Option.some.inj hf
                          exact vx_out (E := "java/lang/UnsupportedOperationException") (fun x h => (hne x h).elim) hlocks hce hcv hcl (fun t ht ha => ⟨(ad16, gd17, vad18), ⟨hE, hN⟩, ⟨rfl, by rw [ht]; exact hP, va_K.moved ha hK, hD⟩, hS.F ht⟩) hS.2.2 (Nat.le_refl _) (Nat.le_refl _)
                        rw [if_neg hk13] at hf
                        exact nomatch hf
                · rw [if_neg hc] at hf
                  refine lv_aload_n hx hb dM_value_75 rfl (lv_at hl 1 rfl) ?_
                  obtain ⟨o11, hq12, hf⟩ := xbind hf
                  by_cases hk13 : o11.1 = 0
                  · rw [if_pos hk13] at hf
                    obtain ⟨hm14, hf⟩ := xmoE hf
                    have hFc := xm_free hD hS hA
                    refine va_callq (va_runV (C := "ValueBenchModel") (As := []) (rest := []) ⟨hx, hb, hml, hown, htx⟩ (gM_jsonNumber l hl9 D cT aK aV H.size n aM ad rd gd vad o1 o11 hq12 hk13) ⟨callB_of 0 htx (xw_goodC kw_6_77) rfl rfl rfl (htx _ kw_1_5) (htx _ kw_6_74) ⟨by decide, by decide, by decide +kernel⟩ ⟨Nat.le_of_ble_eq_true rfl, Nat.le_of_ble_eq_true rfl⟩, (htx _ kw_6_76), (htx _ kp_M_jsonNumber)⟩ ⟨xPre_blind, va_recv hK hP (ci := 5) rfl (q0 := 0) rfl, (fun U hU hW => ⟨rfl, xPre_of hZ hS hFc hP hD hK U hU hW⟩)⟩ rfl rfl hl.1 rfl (xm_room (Nat.le_of_ble_eq_true rfl)) dM_value_76 ⟨hm14.1, hm14.2⟩) hS (fun q _ h => hFc q h) hFc (fun r15 u9 t H1 locs ht hvm hr9 hB hz1 hk1 hS => ?_)
                    obtain ⟨hP1, hK1, hD1⟩ := hB
                    rw [ht] at hP1
                    obtain ⟨ad16, gd17, vad18⟩ := u9
                    obtain ⟨hr9, hv19, hn20⟩ := hr9
                    have hP : va_P D xcl (xMw cT aM ad16 rd gd17 vad18 o11.2.2.2.2 []) H1 := hP1
                    have hD : va_D A (xMw cT aM ad16 rd gd17 vad18 o11.2.2.2.2 []) := hD1.weaken (fun k q _ h => hFc q.1 h)
                    generalize H1 = H at hP hS ⊢
                    have hE9 : ∀ p, p < xct st → vad18 p = vad p := fun p h => (hv19 p (Nat.lt_of_lt_of_le h hN)).trans (hE p h)
                    have hE := hE9
                    have hN : xct st ≤ xct o11.2.2.2.2 := Nat.le_trans hN hn20
                    rw [hr9]
                    refine W.eq (g2 := F0 m 79 ls [xv vad18 o11.2.2.2.1]) (by first | rfl | (skip; rfl)) ?_
                    obtain rfl := Option.some.inj hf
                    exact absurd (show (0 : Nat) = 1 from hkd) (by decide)
                  rw [if_neg hk13] at hf
                  by_cases hk21 : o11.1 = 1
                  · rw [if_pos hk21] at hf
                    obtain ⟨hm22, hf⟩ := xmoE hf
                    obtain rfl := Option.some.inj hf
                    exact absurd (show (3 : Nat) = 1 from hkd) (by decide)
                  rw [if_neg hk21] at hf
                  by_cases hk29 : o11.1 = 2
                  · rw [if_pos hk29] at hf
                    obtain ⟨hm30, hf⟩ := xmoE hf
                    have hFc := xm_free hD hS hA
                    refine xx_thr (vx_runV (C := "ValueBenchModel") (As := []) (rest := []) ⟨hx, hb, hml, hown, htx⟩ (gM_jsonNumber_2 l hl9 D cT aK aV H.size n aM ad rd gd vad o1 o11 hq12 hk29) ⟨callB_of 0 htx (xw_goodC kw_6_77) rfl rfl rfl (htx _ kw_1_5) (htx _ kw_6_74) ⟨by decide, by decide, by decide +kernel⟩ ⟨Nat.le_of_ble_eq_true rfl, Nat.le_of_ble_eq_true rfl⟩, (htx _ kw_6_76), (htx _ kp_M_jsonNumber)⟩ ⟨xPre_blind, va_recv hK hP (ci := 5) rfl (q0 := 0) rfl, (fun U hU hW => ⟨rfl, xPre_of hZ hS hFc hP hD hK U hU hW⟩)⟩ rfl rfl hl.1 rfl (xm_room (Nat.le_of_ble_eq_true rfl)) dM_value_76 ⟨hm30.1, hm30.2⟩) hS hFc (fun q _ h => hFc q h) (fun E ce q9 u9 t H1 locs ht hvm hr9 hB hz1 hk1 hS hce hcv hcl => ?_)
                    obtain ⟨rfl, hP1, hK1, hD1⟩ := hB
                    rw [ht] at hP1
                    obtain ⟨ad32, gd33, vad34⟩ := u9
                    obtain ⟨hv35, hn36⟩ := hr9
                    have hP : va_P D xcl (xMw cT aM ad32 rd gd33 vad34 o11.2.2.2.2 []) H1 := hP1
                    have hD : va_D A (xMw cT aM ad32 rd gd33 vad34 o11.2.2.2.2 []) := hD1.weaken (fun k q _ h => hFc q.1 h)
                    generalize H1 = H at hP hS hce ⊢
                    have hE9 : ∀ p, p < xct st → vad34 p = vad p := fun p h => (hv35 p (Nat.lt_of_lt_of_le h hN)).trans (hE p h)
                    have hE := hE9
                    have hN : xct st ≤ xct o11.2.2.2.2 := Nat.le_trans hN hn36
                    obtain rfl := Option.some.inj hf
                    exact vx_out (E := "java/lang/UnsupportedOperationException") (fun x h => (hne x h).elim) hlocks hce hcv hcl (fun t ht ha => ⟨(ad32, gd33, vad34), ⟨hE, hN⟩, ⟨rfl, by rw [ht]; exact hP, va_K.moved ha hK, hD⟩, hS.F ht⟩) hS.2.2 (Nat.le_refl _) (Nat.le_refl _)
                  rw [if_neg hk29] at hf
                  exact nomatch hf
            · rw [if_pos hc] at hf
              refine lv_aload_n hx hb dM_value_57 rfl (lv_at hl 1 rfl) ?_
              obtain ⟨o8, hq9, hf⟩ := xbind hf
              by_cases hk10 : o8.1 = 0
              · rw [if_pos hk10] at hf
                obtain ⟨hm11, hf⟩ := xmoE hf
                have hFc := xm_free hD hS hA
                refine va_callq (va_runV (C := "ValueBenchModel") (As := []) (rest := []) ⟨hx, hb, hml, hown, htx⟩ (gM_jsonString l hl9 D cT aK aV H.size n aM ad rd gd vad o1 o8 hq9 hk10) ⟨callB_of 0 htx (xw_goodC kw_6_46) rfl rfl rfl (htx _ kw_1_5) (htx _ kw_6_43) ⟨by decide, by decide, by decide +kernel⟩ ⟨Nat.le_of_ble_eq_true rfl, Nat.le_of_ble_eq_true rfl⟩, (htx _ kw_6_45), (htx _ kp_M_jsonString)⟩ ⟨xPre_blind, va_recv hK hP (ci := 5) rfl (q0 := 0) rfl, (fun U hU hW => ⟨rfl, xPre_of hZ hS hFc hP hD hK U hU hW⟩)⟩ rfl rfl hl.1 rfl (xm_room (Nat.le_of_ble_eq_true rfl)) dM_value_58 ⟨hm11.1, hm11.2⟩) hS (fun q _ h => hFc q h) hFc (fun r12 u9 t H1 locs ht hvm hr9 hB hz1 hk1 hS => ?_)
                obtain ⟨hP1, hK1, hD1⟩ := hB
                rw [ht] at hP1
                obtain ⟨ad13, gd14, vad15⟩ := u9
                obtain ⟨hr9, hv16, hn17⟩ := hr9
                have hP : va_P D xcl (xMw cT aM ad13 rd gd14 vad15 o8.2.2.2.2 []) H1 := hP1
                have hD : va_D A (xMw cT aM ad13 rd gd14 vad15 o8.2.2.2.2 []) := hD1.weaken (fun k q _ h => hFc q.1 h)
                generalize H1 = H at hP hS ⊢
                have hE9 : ∀ p, p < xct st → vad15 p = vad p := fun p h => (hv16 p (Nat.lt_of_lt_of_le h hN)).trans (hE p h)
                have hE := hE9
                have hN : xct st ≤ xct o8.2.2.2.2 := Nat.le_trans hN hn17
                rw [hr9]
                refine W.eq (g2 := F0 m 61 ls [xv vad15 o8.2.2.2.1]) (by first | rfl | (skip; rfl)) ?_
                obtain rfl := Option.some.inj hf
                exact absurd (show (0 : Nat) = 1 from hkd) (by decide)
              rw [if_neg hk10] at hf
              by_cases hk18 : o8.1 = 1
              · rw [if_pos hk18] at hf
                obtain ⟨hm19, hf⟩ := xmoE hf
                obtain rfl := Option.some.inj hf
                exact absurd (show (2 : Nat) = 1 from hkd) (by decide)
              rw [if_neg hk18] at hf
              by_cases hk26 : o8.1 = 2
              · rw [if_pos hk26] at hf
                obtain ⟨hm27, hf⟩ := xmoE hf
                have hFc := xm_free hD hS hA
                refine xx_thr (vx_runV (C := "ValueBenchModel") (As := []) (rest := []) ⟨hx, hb, hml, hown, htx⟩ (gM_jsonString_2 l hl9 D cT aK aV H.size n aM ad rd gd vad o1 o8 hq9 hk26) ⟨callB_of 0 htx (xw_goodC kw_6_46) rfl rfl rfl (htx _ kw_1_5) (htx _ kw_6_43) ⟨by decide, by decide, by decide +kernel⟩ ⟨Nat.le_of_ble_eq_true rfl, Nat.le_of_ble_eq_true rfl⟩, (htx _ kw_6_45), (htx _ kp_M_jsonString)⟩ ⟨xPre_blind, va_recv hK hP (ci := 5) rfl (q0 := 0) rfl, (fun U hU hW => ⟨rfl, xPre_of hZ hS hFc hP hD hK U hU hW⟩)⟩ rfl rfl hl.1 rfl (xm_room (Nat.le_of_ble_eq_true rfl)) dM_value_58 ⟨hm27.1, hm27.2⟩) hS hFc (fun q _ h => hFc q h) (fun E ce q9 u9 t H1 locs ht hvm hr9 hB hz1 hk1 hS hce hcv hcl => ?_)
                obtain ⟨rfl, hP1, hK1, hD1⟩ := hB
                rw [ht] at hP1
                obtain ⟨ad29, gd30, vad31⟩ := u9
                obtain ⟨hv32, hn33⟩ := hr9
                have hP : va_P D xcl (xMw cT aM ad29 rd gd30 vad31 o8.2.2.2.2 []) H1 := hP1
                have hD : va_D A (xMw cT aM ad29 rd gd30 vad31 o8.2.2.2.2 []) := hD1.weaken (fun k q _ h => hFc q.1 h)
                generalize H1 = H at hP hS hce ⊢
                have hE9 : ∀ p, p < xct st → vad31 p = vad p := fun p h => (hv32 p (Nat.lt_of_lt_of_le h hN)).trans (hE p h)
                have hE := hE9
                have hN : xct st ≤ xct o8.2.2.2.2 := Nat.le_trans hN hn33
                obtain rfl := Option.some.inj hf
                exact vx_out (E := "java/lang/UnsupportedOperationException") (fun x h => (hne x h).elim) hlocks hce hcv hcl (fun t ht ha => ⟨(ad29, gd30, vad31), ⟨hE, hN⟩, ⟨rfl, by rw [ht]; exact hP, va_K.moved ha hK, hD⟩, hS.F ht⟩) hS.2.2 (Nat.le_refl _) (Nat.le_refl _)
              rw [if_neg hk26] at hf
              exact nomatch hf
          · rw [if_pos hc] at hf
            refine lv_aload_n hx hb dM_value_43 rfl (lv_at hl 1 rfl) ?_
            refine va_ldcS (q := aK 11) hx hb hown (hZ.2.2.2.2.2.2.2.2.1 ("ValueBenchModel", 238, "false", 11) (List.mem_of_getElem? (i := 19) rfl)) dM_value_44 ?_
            refine lv_iconst (v := 1) hx hb dM_value_46 (by decide) ?_
            obtain ⟨o8, hq9, hf⟩ := xbind hf
            by_cases hk10 : o8.1 = 0
            · rw [if_pos hk10] at hf
              obtain ⟨hm11, hf⟩ := xmoE hf
              have hFc := xm_free hD hS hA
              refine va_callq (va_runV (C := "ValueBenchModel") (As := [.ref (aK 11), .int 1]) (rest := []) ⟨hx, hb, hml, hown, htx⟩ (gM_says l hl9 D cT aK aV H.size n aM ad rd gd vad o1 (1 : Int32) o8 hq9 hk10) ⟨callB_of 2 htx (xw_goodC kw_5_237) rfl rfl rfl (htx _ kw_1_5) (htx _ kw_5_234) ⟨by decide, by decide, by decide +kernel⟩ ⟨Nat.le_of_ble_eq_true rfl, Nat.le_of_ble_eq_true rfl⟩, (htx _ kw_5_236), (htx _ kp_M_says)⟩ ⟨xPre_blind, va_recv hK hP (ci := 5) rfl (q0 := 0) rfl, (fun U hU hW => ⟨rfl, xPre_of hZ hS hFc hP hD hK U hU hW⟩)⟩ rfl rfl hl.1 rfl (xm_room (Nat.le_of_ble_eq_true rfl)) dM_value_47 ⟨hm11.1, hm11.2⟩) hS (fun q _ h => hFc q h) hFc (fun r12 u9 t H1 locs ht hvm hr9 hB hz1 hk1 hS => ?_)
              obtain ⟨hP1, hK1, hD1⟩ := hB
              rw [ht] at hP1
              obtain ⟨ad13, gd14, vad15⟩ := u9
              obtain ⟨hr9, hv16, hn17⟩ := hr9
              have hP : va_P D xcl (xMw cT aM ad13 rd gd14 vad15 o8.2.2.2.2 []) H1 := hP1
              have hD : va_D A (xMw cT aM ad13 rd gd14 vad15 o8.2.2.2.2 []) := hD1.weaken (fun k q _ h => hFc q.1 h)
              generalize H1 = H at hP hS ⊢
              have hE9 : ∀ p, p < xct st → vad15 p = vad p := fun p h => (hv16 p (Nat.lt_of_lt_of_le h hN)).trans (hE p h)
              have hE := hE9
              have hN : xct st ≤ xct o8.2.2.2.2 := Nat.le_trans hN hn17
              rw [hr9]
              refine W.eq (g2 := F0 m 50 ls [xv vad15 o8.2.2.2.1]) (by first | rfl | (skip; rfl)) ?_
              obtain rfl := Option.some.inj hf
              exact absurd (show (0 : Nat) = 1 from hkd) (by decide)
            rw [if_neg hk10] at hf
            by_cases hk18 : o8.1 = 1
            · rw [if_pos hk18] at hf
              obtain ⟨hm19, hf⟩ := xmoE hf
              have hFc := xm_free hD hS hA
              refine xx_thr (vx_runV (C := "ValueBenchModel") (As := [.ref (aK 11), .int 1]) (rest := []) ⟨hx, hb, hml, hown, htx⟩ (gM_says_1 l hl9 D cT aK aV H.size n aM ad rd gd vad o1 (1 : Int32) o8 hq9 hk18) ⟨callB_of 2 htx (xw_goodC kw_5_237) rfl rfl rfl (htx _ kw_1_5) (htx _ kw_5_234) ⟨by decide, by decide, by decide +kernel⟩ ⟨Nat.le_of_ble_eq_true rfl, Nat.le_of_ble_eq_true rfl⟩, (htx _ kw_5_236), (htx _ kp_M_says)⟩ ⟨xPre_blind, va_recv hK hP (ci := 5) rfl (q0 := 0) rfl, (fun U hU hW => ⟨rfl, xPre_of hZ hS hFc hP hD hK U hU hW⟩)⟩ rfl rfl hl.1 rfl (xm_room (Nat.le_of_ble_eq_true rfl)) dM_value_47 ⟨hm19.1, hm19.2⟩) hS hFc (fun q _ h => hFc q h) (fun E ce q9 u9 t H1 locs ht hvm hr9 hB hz1 hk1 hS hce hcv hcl => ?_)
              obtain ⟨rfl, hP1, hK1, hD1⟩ := hB
              rw [ht] at hP1
              obtain ⟨ad21, gd22, vad23⟩ := u9
              obtain ⟨hv24, hn25⟩ := hr9
              have hP : va_P D xcl (xMw cT aM ad21 rd gd22 vad23 o8.2.2.2.2 []) H1 := hP1
              have hD : va_D A (xMw cT aM ad21 rd gd22 vad23 o8.2.2.2.2 []) := hD1.weaken (fun k q _ h => hFc q.1 h)
              generalize H1 = H at hP hS hce ⊢
              have hE9 : ∀ p, p < xct st → vad23 p = vad p := fun p h => (hv24 p (Nat.lt_of_lt_of_le h hN)).trans (hE p h)
              have hE := hE9
              have hN : xct st ≤ xct o8.2.2.2.2 := Nat.le_trans hN hn25
              obtain rfl := Option.some.inj hf
              exact vx_out (E := "java/lang/UnsupportedOperationException") (fun x h => (hne x h).elim) hlocks hce hcv hcl (fun t ht ha => ⟨(ad21, gd22, vad23), ⟨hE, hN⟩, ⟨rfl, by rw [ht]; exact hP, va_K.moved ha hK, hD⟩, hS.F ht⟩) hS.2.2 (Nat.le_refl _) (Nat.le_refl _)
            rw [if_neg hk18] at hf
            exact nomatch hf
        · rw [if_pos hc] at hf
          refine lv_aload_n hx hb dM_value_29 rfl (lv_at hl 1 rfl) ?_
          refine va_ldcS (q := aK 12) hx hb hown (hZ.2.2.2.2.2.2.2.2.1 ("ValueBenchModel", 236, "true", 12) (List.mem_of_getElem? (i := 18) rfl)) dM_value_30 ?_
          refine lv_iconst (v := 2) hx hb dM_value_32 (by decide) ?_
          obtain ⟨o8, hq9, hf⟩ := xbind hf
          by_cases hk10 : o8.1 = 0
          · rw [if_pos hk10] at hf
            obtain ⟨hm11, hf⟩ := xmoE hf
            have hFc := xm_free hD hS hA
            refine va_callq (va_runV (C := "ValueBenchModel") (As := [.ref (aK 12), .int 2]) (rest := []) ⟨hx, hb, hml, hown, htx⟩ (gM_saysa l hl9 D cT aK aV H.size n aM ad rd gd vad o1 (2 : Int32) o8 hq9 hk10) ⟨callB_of 2 htx (xw_goodC kw_5_237) rfl rfl rfl (htx _ kw_1_5) (htx _ kw_5_234) ⟨by decide, by decide, by decide +kernel⟩ ⟨Nat.le_of_ble_eq_true rfl, Nat.le_of_ble_eq_true rfl⟩, (htx _ kw_5_236), (htx _ kp_M_says)⟩ ⟨xPre_blind, va_recv hK hP (ci := 5) rfl (q0 := 0) rfl, (fun U hU hW => ⟨rfl, xPre_of hZ hS hFc hP hD hK U hU hW⟩)⟩ rfl rfl hl.1 rfl (xm_room (Nat.le_of_ble_eq_true rfl)) dM_value_33 ⟨hm11.1, hm11.2⟩) hS (fun q _ h => hFc q h) hFc (fun r12 u9 t H1 locs ht hvm hr9 hB hz1 hk1 hS => ?_)
            obtain ⟨hP1, hK1, hD1⟩ := hB
            rw [ht] at hP1
            obtain ⟨ad13, gd14, vad15⟩ := u9
            obtain ⟨hr9, hv16, hn17⟩ := hr9
            have hP : va_P D xcl (xMw cT aM ad13 rd gd14 vad15 o8.2.2.2.2 []) H1 := hP1
            have hD : va_D A (xMw cT aM ad13 rd gd14 vad15 o8.2.2.2.2 []) := hD1.weaken (fun k q _ h => hFc q.1 h)
            generalize H1 = H at hP hS ⊢
            have hE9 : ∀ p, p < xct st → vad15 p = vad p := fun p h => (hv16 p (Nat.lt_of_lt_of_le h hN)).trans (hE p h)
            have hE := hE9
            have hN : xct st ≤ xct o8.2.2.2.2 := Nat.le_trans hN hn17
            rw [hr9]
            refine W.eq (g2 := F0 m 36 ls [xv vad15 o8.2.2.2.1]) (by first | rfl | (skip; rfl)) ?_
            obtain rfl := Option.some.inj hf
            exact absurd (show (0 : Nat) = 1 from hkd) (by decide)
          rw [if_neg hk10] at hf
          by_cases hk18 : o8.1 = 1
          · rw [if_pos hk18] at hf
            obtain ⟨hm19, hf⟩ := xmoE hf
            have hFc := xm_free hD hS hA
            refine xx_thr (vx_runV (C := "ValueBenchModel") (As := [.ref (aK 12), .int 2]) (rest := []) ⟨hx, hb, hml, hown, htx⟩ (gM_saysa_1 l hl9 D cT aK aV H.size n aM ad rd gd vad o1 (2 : Int32) o8 hq9 hk18) ⟨callB_of 2 htx (xw_goodC kw_5_237) rfl rfl rfl (htx _ kw_1_5) (htx _ kw_5_234) ⟨by decide, by decide, by decide +kernel⟩ ⟨Nat.le_of_ble_eq_true rfl, Nat.le_of_ble_eq_true rfl⟩, (htx _ kw_5_236), (htx _ kp_M_says)⟩ ⟨xPre_blind, va_recv hK hP (ci := 5) rfl (q0 := 0) rfl, (fun U hU hW => ⟨rfl, xPre_of hZ hS hFc hP hD hK U hU hW⟩)⟩ rfl rfl hl.1 rfl (xm_room (Nat.le_of_ble_eq_true rfl)) dM_value_33 ⟨hm19.1, hm19.2⟩) hS hFc (fun q _ h => hFc q h) (fun E ce q9 u9 t H1 locs ht hvm hr9 hB hz1 hk1 hS hce hcv hcl => ?_)
            obtain ⟨rfl, hP1, hK1, hD1⟩ := hB
            rw [ht] at hP1
            obtain ⟨ad21, gd22, vad23⟩ := u9
            obtain ⟨hv24, hn25⟩ := hr9
            have hP : va_P D xcl (xMw cT aM ad21 rd gd22 vad23 o8.2.2.2.2 []) H1 := hP1
            have hD : va_D A (xMw cT aM ad21 rd gd22 vad23 o8.2.2.2.2 []) := hD1.weaken (fun k q _ h => hFc q.1 h)
            generalize H1 = H at hP hS hce ⊢
            have hE9 : ∀ p, p < xct st → vad23 p = vad p := fun p h => (hv24 p (Nat.lt_of_lt_of_le h hN)).trans (hE p h)
            have hE := hE9
            have hN : xct st ≤ xct o8.2.2.2.2 := Nat.le_trans hN hn25
            obtain rfl := Option.some.inj hf
            exact vx_out (E := "java/lang/UnsupportedOperationException") (fun x h => (hne x h).elim) hlocks hce hcv hcl (fun t ht ha => ⟨(ad21, gd22, vad23), ⟨hE, hN⟩, ⟨rfl, by rw [ht]; exact hP, va_K.moved ha hK, hD⟩, hS.F ht⟩) hS.2.2 (Nat.le_refl _) (Nat.le_refl _)
          rw [if_neg hk18] at hf
          exact nomatch hf
      · rw [if_pos hc] at hf
        refine lv_aload_n hx hb dM_value_15 rfl (lv_at hl 1 rfl) ?_
        refine va_ldcS (q := aK 10) hx hb hown (hZ.2.2.2.2.2.2.2.2.1 ("ValueBenchModel", 69, "null", 10) (List.mem_of_getElem? (i := 17) rfl)) dM_value_16 ?_
        refine lv_iconst (v := 0) hx hb dM_value_18 (by decide) ?_
        obtain ⟨o8, hq9, hf⟩ := xbind hf
        by_cases hk10 : o8.1 = 0
        · rw [if_pos hk10] at hf
          obtain ⟨hm11, hf⟩ := xmoE hf
          have hFc := xm_free hD hS hA
          refine va_callq (va_runV (C := "ValueBenchModel") (As := [.ref (aK 10), .int 0]) (rest := []) ⟨hx, hb, hml, hown, htx⟩ (gM_saysb l hl9 D cT aK aV H.size n aM ad rd gd vad o1 (0 : Int32) o8 hq9 hk10) ⟨callB_of 2 htx (xw_goodC kw_5_237) rfl rfl rfl (htx _ kw_1_5) (htx _ kw_5_234) ⟨by decide, by decide, by decide +kernel⟩ ⟨Nat.le_of_ble_eq_true rfl, Nat.le_of_ble_eq_true rfl⟩, (htx _ kw_5_236), (htx _ kp_M_says)⟩ ⟨xPre_blind, va_recv hK hP (ci := 5) rfl (q0 := 0) rfl, (fun U hU hW => ⟨rfl, xPre_of hZ hS hFc hP hD hK U hU hW⟩)⟩ rfl rfl hl.1 rfl (xm_room (Nat.le_of_ble_eq_true rfl)) dM_value_19 ⟨hm11.1, hm11.2⟩) hS (fun q _ h => hFc q h) hFc (fun r12 u9 t H1 locs ht hvm hr9 hB hz1 hk1 hS => ?_)
          obtain ⟨hP1, hK1, hD1⟩ := hB
          rw [ht] at hP1
          obtain ⟨ad13, gd14, vad15⟩ := u9
          obtain ⟨hr9, hv16, hn17⟩ := hr9
          have hP : va_P D xcl (xMw cT aM ad13 rd gd14 vad15 o8.2.2.2.2 []) H1 := hP1
          have hD : va_D A (xMw cT aM ad13 rd gd14 vad15 o8.2.2.2.2 []) := hD1.weaken (fun k q _ h => hFc q.1 h)
          generalize H1 = H at hP hS ⊢
          have hE9 : ∀ p, p < xct st → vad15 p = vad p := fun p h => (hv16 p (Nat.lt_of_lt_of_le h hN)).trans (hE p h)
          have hE := hE9
          have hN : xct st ≤ xct o8.2.2.2.2 := Nat.le_trans hN hn17
          rw [hr9]
          refine W.eq (g2 := F0 m 22 ls [xv vad15 o8.2.2.2.1]) (by first | rfl | (skip; rfl)) ?_
          obtain rfl := Option.some.inj hf
          exact absurd (show (0 : Nat) = 1 from hkd) (by decide)
        rw [if_neg hk10] at hf
        by_cases hk18 : o8.1 = 1
        · rw [if_pos hk18] at hf
          obtain ⟨hm19, hf⟩ := xmoE hf
          have hFc := xm_free hD hS hA
          refine xx_thr (vx_runV (C := "ValueBenchModel") (As := [.ref (aK 10), .int 0]) (rest := []) ⟨hx, hb, hml, hown, htx⟩ (gM_saysb_1 l hl9 D cT aK aV H.size n aM ad rd gd vad o1 (0 : Int32) o8 hq9 hk18) ⟨callB_of 2 htx (xw_goodC kw_5_237) rfl rfl rfl (htx _ kw_1_5) (htx _ kw_5_234) ⟨by decide, by decide, by decide +kernel⟩ ⟨Nat.le_of_ble_eq_true rfl, Nat.le_of_ble_eq_true rfl⟩, (htx _ kw_5_236), (htx _ kp_M_says)⟩ ⟨xPre_blind, va_recv hK hP (ci := 5) rfl (q0 := 0) rfl, (fun U hU hW => ⟨rfl, xPre_of hZ hS hFc hP hD hK U hU hW⟩)⟩ rfl rfl hl.1 rfl (xm_room (Nat.le_of_ble_eq_true rfl)) dM_value_19 ⟨hm19.1, hm19.2⟩) hS hFc (fun q _ h => hFc q h) (fun E ce q9 u9 t H1 locs ht hvm hr9 hB hz1 hk1 hS hce hcv hcl => ?_)
          obtain ⟨rfl, hP1, hK1, hD1⟩ := hB
          rw [ht] at hP1
          obtain ⟨ad21, gd22, vad23⟩ := u9
          obtain ⟨hv24, hn25⟩ := hr9
          have hP : va_P D xcl (xMw cT aM ad21 rd gd22 vad23 o8.2.2.2.2 []) H1 := hP1
          have hD : va_D A (xMw cT aM ad21 rd gd22 vad23 o8.2.2.2.2 []) := hD1.weaken (fun k q _ h => hFc q.1 h)
          generalize H1 = H at hP hS hce ⊢
          have hE9 : ∀ p, p < xct st → vad23 p = vad p := fun p h => (hv24 p (Nat.lt_of_lt_of_le h hN)).trans (hE p h)
          have hE := hE9
          have hN : xct st ≤ xct o8.2.2.2.2 := Nat.le_trans hN hn25
          obtain rfl := Option.some.inj hf
          exact vx_out (E := "java/lang/UnsupportedOperationException") (fun x h => (hne x h).elim) hlocks hce hcv hcl (fun t ht ha => ⟨(ad21, gd22, vad23), ⟨hE, hN⟩, ⟨rfl, by rw [ht]; exact hP, va_K.moved ha hK, hD⟩, hS.F ht⟩) hS.2.2 (Nat.le_refl _) (Nat.le_refl _)
        rw [if_neg hk18] at hf
        exact nomatch hf
    · refine vx_ofW (cc := prog_13_method_34_code) (maxL := 3) (ret := (some (.object "ValueBenchModel$V"))) (by decide) rfl ?_
      intro p e s m args below meth c s₁ B hml hne hv
      obtain ⟨rfl, hsz, hZ, hP, hK, hD0⟩ := hv
      have hx := B.exec
      have hb := B.bytes
      have hr := B.returns
      have hts := atoms_spec (ws := wyM_value) B.pre
      have htx := fun w h => hts w (List.mem_cons_of_mem _ h)
      have hown : s.vm.findClass "ValueBenchModel" = some m.cls := findClass_of_methodNamed B.named
      have hlocks := B.notSynchronized
      subst hsz
      have hD := hD0.self (sz := s.heap.size)
      generalize hAe : va_A (xMw cT aM ad rd gd vad st []) s.heap.size = A at hD hZ ⊢
      have hA : ∀ q : Nat, s.heap.size ≤ q → A q := fun q h => by rw [← hAe]; exact Or.inr h
      have hS : va_S A s.heap s.heap [] := va_S.rf
      have hl := lv_entry ([.ref aM]) (n := 3) (by simp [lg_sl, xvcat, xrscat, xcI, xcL, xcR, xcN])
      rw [show lv_args 0 [.ref aM] = [(0, .ref aM)] from by simp [lv_args, xvcat, xrscat, xcI, xcL, xcR, xcN]] at hl
      rw [lg_entry_eq]
      generalize (lg_sl ([.ref aM]) ++ List.replicate (3 - (lg_sl ([.ref aM])).length) Slot.unset).toArray = ls at hl ⊢
      have hl : lv_has ls 3 [(0, .ref aM)] := hl
      have hE : ∀ p, p < xct st → vad p = vad p := fun _ _ => rfl
      have hN : xct st ≤ xct st := Nat.le_refl _
      refine lv_aload_n hx hb dM_value_0 rfl (lv_at hl 0 rfl) ?_
      obtain ⟨o1, hq2, hf⟩ := xbind hf
      have hFc := xm_free hD hS hA
      refine va_callv (va_runV (C := "ValueBenchModel") (As := []) (rest := []) ⟨hx, hb, hml, hown, htx⟩ (gM_blanks l hl9 D cT aK aV s.heap.size n aM ad rd gd vad st o1 hq2) ⟨callB_of 0 htx (xw_goodC kw_5_229) rfl rfl rfl (htx _ kw_1_5) (htx _ kw_5_226) ⟨by decide, by decide, by decide +kernel⟩ ⟨Nat.le_of_ble_eq_true rfl, Nat.le_of_ble_eq_true rfl⟩, (htx _ kw_5_228), (htx _ kp_M_blanks)⟩ ⟨xPre_blind, va_recv hK hP (ci := 5) rfl (q0 := 0) rfl, (fun U hU hW => ⟨rfl, xPre_of hZ hS hFc hP hD hK U hU hW⟩)⟩ rfl rfl hl.1 rfl (xm_room (Nat.le_of_ble_eq_true rfl)) dM_value_1 ⟨Nat.zero_le _, Nat.zero_le _⟩) hS (fun q _ h => hFc q h) hFc (fun u9 t H1 locs ht hvm hr9 hB hz1 hk1 hS => ?_)
      obtain ⟨hP1, hK1, hD1⟩ := hB
      rw [ht] at hP1
      have hn4 := hr9
      have hN : xct st ≤ xct o1 := Nat.le_trans hN hn4
      have hP : va_P D xcl (xMw cT aM ad rd gd vad o1 []) H1 := hP1
      have hD : va_D A (xMw cT aM ad rd gd vad o1 []) := hD1.weaken (fun k q _ h => hFc q.1 h)
      generalize H1 = H at hP hS ⊢
      refine W.eq (g2 := F0 m 4 ls []) (by first | rfl | (skip; rfl)) ?_
      refine lv_aload_n hx hb dM_value_4 rfl (lv_at hl 0 rfl) ?_
      obtain ⟨o5, hq6, hf⟩ := xbind hf
      have hFc := xm_free hD hS hA
      refine va_calli (va_runV (C := "ValueBenchModel") (As := []) (rest := []) ⟨hx, hb, hml, hown, htx⟩ (gM_peek l hl9 D cT aK aV H.size n aM ad rd gd vad o1 o5 hq6) ⟨callB_of 0 htx (xw_goodC kw_5_233) rfl rfl rfl (htx _ kw_1_5) (htx _ kw_5_230) ⟨by decide, by decide, by decide +kernel⟩ ⟨Nat.le_of_ble_eq_true rfl, Nat.le_of_ble_eq_true rfl⟩, (htx _ kw_5_232), (htx _ kp_M_peek)⟩ ⟨xPre_blind, va_recv hK hP (ci := 5) rfl (q0 := 0) rfl, (fun U hU hW => ⟨rfl, xPre_of hZ hS hFc hP hD hK U hU hW⟩)⟩ rfl rfl hl.1 rfl (xm_room (Nat.le_of_ble_eq_true rfl)) dM_value_5 ⟨Nat.zero_le _, Nat.zero_le _⟩) hS (fun q _ h => hFc q h) hFc (fun r7 u9 t H1 locs ht hvm hr9 hB hz1 hk1 hS => ?_)
      obtain ⟨hP1, hK1, hD1⟩ := hB
      rw [ht] at hP1
      have hP : va_P D xcl (xMw cT aM ad rd gd vad o1 []) H1 := hP1
      have hD : va_D A (xMw cT aM ad rd gd vad o1 []) := hD1.weaken (fun k q _ h => hFc q.1 h)
      generalize H1 = H at hP hS ⊢
      rw [hr9]
      refine W.eq (g2 := F0 m 8 ls [.int o5]) (by first | rfl | (skip; rfl)) ?_
      refine lv_istore_n (lv' := [(1, .int o5), (0, .ref aM)]) hx hb dM_value_8 rfl hl (by decide) rfl (fun ls hl => ?_)
      refine lv_iload_n hx hb dM_value_9 rfl (lv_at hl 0 rfl) ?_
      refine lv_bipush (v := 110) hx hb dM_value_10 (by decide) ?_
      refine lv_icmp_ne (tgt := 23) hx hb dM_value_12 (by decide) (fun hc => ?_) (fun hc => ?_)
      · rw [if_neg hc] at hf
        refine lv_iload_n hx hb dM_value_23 rfl (lv_at hl 0 rfl) ?_
        refine lv_bipush (v := 116) hx hb dM_value_24 (by decide) ?_
        refine lv_icmp_ne (tgt := 37) hx hb dM_value_26 (by decide) (fun hc => ?_) (fun hc => ?_)
        · rw [if_neg hc] at hf
          refine lv_iload_n hx hb dM_value_37 rfl (lv_at hl 0 rfl) ?_
          refine lv_bipush (v := 102) hx hb dM_value_38 (by decide) ?_
          refine lv_icmp_ne (tgt := 51) hx hb dM_value_40 (by decide) (fun hc => ?_) (fun hc => ?_)
          · rw [if_neg hc] at hf
            refine lv_iload_n hx hb dM_value_51 rfl (lv_at hl 0 rfl) ?_
            refine lv_bipush (v := 34) hx hb dM_value_52 (by decide) ?_
            refine lv_icmp_ne (tgt := 62) hx hb dM_value_54 (by decide) (fun hc => ?_) (fun hc => ?_)
            · rw [if_neg hc] at hf
              refine lv_iload_n hx hb dM_value_62 rfl (lv_at hl 0 rfl) ?_
              refine lv_bipush (v := 45) hx hb dM_value_63 (by decide) ?_
              refine lv_icmp_eq (tgt := 75) hx hb dM_value_65 (by decide) (fun hc => ?_) (fun hc => ?_)
              · rw [if_pos hc] at hf
                refine lv_aload_n hx hb dM_value_75 rfl (lv_at hl 1 rfl) ?_
                obtain ⟨o8, hq9, hf⟩ := xbind hf
                by_cases hk10 : o8.1 = 0
                · rw [if_pos hk10] at hf
                  obtain ⟨hm11, hf⟩ := xmoE hf
                  have hFc := xm_free hD hS hA
                  refine va_callq (va_runV (C := "ValueBenchModel") (As := []) (rest := []) ⟨hx, hb, hml, hown, htx⟩ (gM_jsonNumber l hl9 D cT aK aV H.size n aM ad rd gd vad o1 o8 hq9 hk10) ⟨callB_of 0 htx (xw_goodC kw_6_77) rfl rfl rfl (htx _ kw_1_5) (htx _ kw_6_74) ⟨by decide, by decide, by decide +kernel⟩ ⟨Nat.le_of_ble_eq_true rfl, Nat.le_of_ble_eq_true rfl⟩, (htx _ kw_6_76), (htx _ kp_M_jsonNumber)⟩ ⟨xPre_blind, va_recv hK hP (ci := 5) rfl (q0 := 0) rfl, (fun U hU hW => ⟨rfl, xPre_of hZ hS hFc hP hD hK U hU hW⟩)⟩ rfl rfl hl.1 rfl (xm_room (Nat.le_of_ble_eq_true rfl)) dM_value_76 ⟨hm11.1, hm11.2⟩) hS (fun q _ h => hFc q h) hFc (fun r12 u9 t H1 locs ht hvm hr9 hB hz1 hk1 hS => ?_)
                  obtain ⟨hP1, hK1, hD1⟩ := hB
                  rw [ht] at hP1
                  obtain ⟨ad13, gd14, vad15⟩ := u9
                  obtain ⟨hr9, hv16, hn17⟩ := hr9
                  have hP : va_P D xcl (xMw cT aM ad13 rd gd14 vad15 o8.2.2.2.2 []) H1 := hP1
                  have hD : va_D A (xMw cT aM ad13 rd gd14 vad15 o8.2.2.2.2 []) := hD1.weaken (fun k q _ h => hFc q.1 h)
                  generalize H1 = H at hP hS ⊢
                  have hE9 : ∀ p, p < xct st → vad15 p = vad p := fun p h => (hv16 p (Nat.lt_of_lt_of_le h hN)).trans (hE p h)
                  have hE := hE9
                  have hN : xct st ≤ xct o8.2.2.2.2 := Nat.le_trans hN hn17
                  rw [hr9]
                  refine W.eq (g2 := F0 m 79 ls [xv vad15 o8.2.2.2.1]) (by first | rfl | (skip; rfl)) ?_
                  obtain rfl := Option.some.inj hf
                  exact absurd (show (0 : Nat) = 2 from hkd) (by decide)
                rw [if_neg hk10] at hf
                by_cases hk18 : o8.1 = 1
                · rw [if_pos hk18] at hf
                  obtain ⟨hm19, hf⟩ := xmoE hf
                  obtain rfl := Option.some.inj hf
                  exact absurd (show (3 : Nat) = 2 from hkd) (by decide)
                rw [if_neg hk18] at hf
                by_cases hk26 : o8.1 = 2
                · rw [if_pos hk26] at hf
                  obtain ⟨hm27, hf⟩ := xmoE hf
                  obtain rfl := Option.some.inj hf
                  exact absurd (show (1 : Nat) = 2 from hkd) (by decide)
                rw [if_neg hk26] at hf
                exact nomatch hf
              · rw [if_neg hc] at hf
                refine lv_iload_n hx hb dM_value_68 rfl (lv_at hl 0 rfl) ?_
                obtain ⟨o8, hq9, hf⟩ := xbind hf
                refine va_calli (va_runS (As := [.int o5]) (rest := []) ⟨hx, hb, hml, hown, htx⟩ (gM_digit l hl9 D cT aK aV H.size n o5 o8 hq9) ⟨callB_of 1 htx (xw_goodC kw_6_73) rfl rfl rfl (htx _ kw_1_5) (htx _ kw_6_71) ⟨by decide, by decide, by decide +kernel⟩ ⟨Nat.le_of_ble_eq_true rfl, Nat.le_of_ble_eq_true rfl⟩, htx _ kw_6_72⟩ ⟨xPre_blind, (fun U hU hW => ⟨rfl, xPre_of hZ hS (xm_free0 hS hA) xm_Pnil xm_Dnil hK U hU hW⟩)⟩ rfl rfl hl.1 rfl (lv_room (Nat.le_of_ble_eq_true rfl)) dM_value_69 ⟨(Nat.zero_le _), (Nat.zero_le _)⟩) hS (fun q _ h => xm_free0 hS hA q h) (xm_free0 hS hA) (fun r10 u9 t H1 locs ht hvm hr9 hB hz1 hk1 hS => ?_)
                replace hP := xm_keep hP hk1
                generalize H1 = H at hP hS ⊢
                rw [hr9]
                refine W.eq (g2 := F0 m 72 ls [.int o8]) (by first | rfl | rw [xv1 (Nat.succ_ne_zero _)]) ?_
                refine lv_if_eq (tgt := 80) hx hb dM_value_72 (by decide) (fun hc => ?_) (fun hc => ?_)
                · rw [if_pos hc] at hf
                  refine lv_iload_n hx hb dM_value_80 rfl (lv_at hl 0 rfl) ?_
                  refine lv_bipush (v := 91) hx hb dM_value_81 (by decide) ?_
                  refine lv_icmp_eq (tgt := 92) hx hb dM_value_83 (by decide) (fun hc => ?_) (fun hc => ?_)
                  · rw [if_pos hc] at hf
                    refine lv_aload_n hx hb dM_value_92 rfl (lv_at hl 1 rfl) ?_
                    refine xm_get (v := .int (xsi o1 18)) hx hb htx hown hK hP 18 (by decide) rfl (htx _ kw_5_105) rfl dM_value_93 ?_
                    refine lv_aload_n hx hb dM_value_96 rfl (lv_at hl 1 rfl) ?_
                    refine xm_get (v := .int (xsi o1 19)) hx hb htx hown hK hP 19 (by decide) rfl (htx _ kw_5_106) rfl dM_value_97 ?_
                    refine lv_icmp_ne (tgt := 111) hx hb dM_value_100 (by decide) (fun hc => ?_) (fun hc => ?_)
                    · rw [if_neg hc] at hf
                      refine lv_aload_n hx hb dM_value_111 rfl (lv_at hl 1 rfl) ?_
                      refine lv_dup hx hb dM_value_112 rfl ?_
                      refine xm_get (v := .int (xsi o1 18)) hx hb htx hown hK hP 18 (by decide) rfl (htx _ kw_5_105) rfl dM_value_113 ?_
                      refine lv_iconst (v := 1) hx hb dM_value_116 (by decide) ?_
                      refine lv_iadd hx hb dM_value_117 ?_
                      refine xm_put (v := .int ((xsi o1 18) + (1 : Int32))) (W' := (xMw cT aM ad rd gd vad (xsI o1 18 ((xsi o1 18) + (1 : Int32))) [])) (ty := .int) hx hb htx hown hK hP hD hS 18 (by decide) rfl (htx _ kw_5_105) rfl rfl (by decide +kernel) rfl rfl dM_value_118 (fun H locs hP hD hS => ?_)
                      refine lv_aload_n hx hb dM_value_121 rfl (lv_at hl 1 rfl) ?_
                      refine lv_dup hx hb dM_value_122 rfl ?_
                      refine xm_get (v := .int (xsi o1 16)) hx hb htx hown hK hP 16 (by decide) rfl (htx _ kw_5_103) rfl dM_value_123 ?_
                      refine lv_iconst (v := 1) hx hb dM_value_126 (by decide) ?_
                      refine lv_iadd hx hb dM_value_127 ?_
                      refine xm_put (v := .int ((xsi o1 16) + (1 : Int32))) (W' := (xMw cT aM ad rd gd vad (xsI (xsI o1 18 ((xsi o1 18) + (1 : Int32))) 16 ((xsi o1 16) + (1 : Int32))) [])) (ty := .int) hx hb htx hown hK hP hD hS 16 (by decide) rfl (htx _ kw_5_103) rfl rfl (by decide +kernel) rfl rfl dM_value_128 (fun H locs hP hD hS => ?_)
                      refine lv_iload_n hx hb dM_value_131 rfl (lv_at hl 0 rfl) ?_
                      refine lv_bipush (v := 91) hx hb dM_value_132 (by decide) ?_
                      refine lv_icmp_ne (tgt := 144) hx hb dM_value_134 (by decide) (fun hc => ?_) (fun hc => ?_)
                      · rw [if_neg hc] at hf
                        refine lv_aload_n hx hb dM_value_144 rfl (lv_at hl 1 rfl) ?_
                        obtain ⟨o11, hq12, hf⟩ := xbind hf
                        by_cases hk13 : o11.1 = 0
                        · rw [if_pos hk13] at hf
                          obtain ⟨hm14, hf⟩ := xmoE hf
                          have hFc := xm_free hD hS hA
                          refine va_callq (va_runV (C := "ValueBenchModel") (As := []) (rest := []) ⟨hx, hb, hml, hown, htx⟩ (gM_members l hl9 D cT aK aV (16 * d) (400 * d) (fM_value d n) (fun sz => ih sz n) H.size n aM ad rd gd vad (xsI (xsI o1 18 ((xsi o1 18) + (1 : Int32))) 16 ((xsi o1 16) + (1 : Int32))) o11 hq12 hk13) ⟨callB_of 0 htx (xw_goodC kw_6_116) rfl rfl rfl (htx _ kw_1_5) (htx _ kw_6_113) ⟨by decide, by decide, by decide +kernel⟩ ⟨(by show (16 * d + 9) + 1 ≤ 16 * (d + 1); omega), (by show 8 + (6 + 11) + (400 * d + 167) ≤ 400 * (d + 1); omega)⟩, (htx _ kw_6_115), (htx _ kp_M_members)⟩ ⟨xPre_blind, va_recv hK hP (ci := 5) rfl (q0 := 0) rfl, (fun U hU hW => ⟨rfl, xPre_of hZ hS hFc hP hD hK U hU hW⟩)⟩ rfl rfl hl.1 rfl (xm_room (Nat.le_of_ble_eq_true rfl)) dM_value_145 ⟨hm14.1, hm14.2⟩) hS (fun q _ h => hFc q h) hFc (fun r15 u9 t H1 locs ht hvm hr9 hB hz1 hk1 hS => ?_)
                          obtain ⟨hP1, hK1, hD1⟩ := hB
                          rw [ht] at hP1
                          obtain ⟨ad16, gd17, vad18⟩ := u9
                          obtain ⟨hr9, hv19, hn20⟩ := hr9
                          have hP : va_P D xcl (xMw cT aM ad16 rd gd17 vad18 o11.2.2.2.2 []) H1 := hP1
                          have hD : va_D A (xMw cT aM ad16 rd gd17 vad18 o11.2.2.2.2 []) := hD1.weaken (fun k q _ h => hFc q.1 h)
                          generalize H1 = H at hP hS ⊢
                          have hE9 : ∀ p, p < xct st → vad18 p = vad p := fun p h => (hv19 p (Nat.lt_of_lt_of_le h hN)).trans (hE p h)
                          have hE := hE9
                          have hN : xct st ≤ xct o11.2.2.2.2 := Nat.le_trans hN hn20
                          rw [hr9]
                          refine W.eq (g2 := F0 m 148 ls [xv vad18 o11.2.2.2.1]) (by first | rfl | (skip; rfl)) ?_
                          refine xm_astore_n (lv' := [(2, xv vad18 o11.2.2.2.1), (1, .int o5), (0, .ref aM)]) hx hb (xvor _ _) dM_value_148 rfl hl (by decide) rfl (fun ls hl => ?_)
                          refine lv_aload_n hx hb dM_value_149 rfl (lv_at hl 2 rfl) ?_
                          refine lv_dup hx hb dM_value_150 rfl ?_
                          refine xm_get (v := .int (xsi o11.2.2.2.2 18)) hx hb htx hown hK hP 18 (by decide) rfl (htx _ kw_5_105) rfl dM_value_151 ?_
                          refine lv_iconst (v := 1) hx hb dM_value_154 (by decide) ?_
                          refine lv_isub hx hb dM_value_155 ?_
                          refine xm_put (v := .int ((xsi o11.2.2.2.2 18) - (1 : Int32))) (W' := (xMw cT aM ad16 rd gd17 vad18 (xsI o11.2.2.2.2 18 ((xsi o11.2.2.2.2 18) - (1 : Int32))) [])) (ty := .int) hx hb htx hown hK hP hD hS 18 (by decide) rfl (htx _ kw_5_105) rfl rfl (by decide +kernel) rfl rfl dM_value_156 (fun H locs hP hD hS => ?_)
                          refine xm_aload_n hx hb (xvor _ _) dM_value_159 rfl (lv_at hl 0 rfl) ?_
                          obtain rfl := Option.some.inj hf
                          exact absurd (show (0 : Nat) = 2 from hkd) (by decide)
                        rw [if_neg hk13] at hf
                        by_cases hk21 : o11.1 = 1
                        · rw [if_pos hk21] at hf
                          obtain ⟨hm22, hf⟩ := xmoE hf
                          have hFc := xm_free hD hS hA
                          refine xx_thr (vx_runV (C := "ValueBenchModel") (As := []) (rest := []) ⟨hx, hb, hml, hown, htx⟩ (gM_members_1 l hl9 D cT aK aV (16 * d) (400 * d) (fM_value d n) (fun sz => ih sz n) H.size n aM ad rd gd vad (xsI (xsI o1 18 ((xsi o1 18) + (1 : Int32))) 16 ((xsi o1 16) + (1 : Int32))) o11 hq12 hk21) ⟨callB_of 0 htx (xw_goodC kw_6_116) rfl rfl rfl (htx _ kw_1_5) (htx _ kw_6_113) ⟨by decide, by decide, by decide +kernel⟩ ⟨(by show (16 * d + 9) + 1 ≤ 16 * (d + 1); omega), (by show 8 + (6 + 11) + (400 * d + 167) ≤ 400 * (d + 1); omega)⟩, (htx _ kw_6_115), (htx _ kp_M_members)⟩ ⟨xPre_blind, va_recv hK hP (ci := 5) rfl (q0 := 0) rfl, (fun U hU hW => ⟨rfl, xPre_of hZ hS hFc hP hD hK U hU hW⟩)⟩ rfl rfl hl.1 rfl (xm_room (Nat.le_of_ble_eq_true rfl)) dM_value_145 ⟨hm22.1, hm22.2⟩) hS hFc (fun q _ h => hFc q h) (fun E ce q9 u9 t H1 locs ht hvm hr9 hB hz1 hk1 hS hce hcv hcl => ?_)
                          obtain ⟨rfl, hP1, hK1, hD1⟩ := hB
                          rw [ht] at hP1
                          obtain ⟨ad24, gd25, vad26⟩ := u9
                          obtain ⟨hv27, hn28⟩ := hr9
                          have hP : va_P D xcl (xMw cT aM ad24 rd gd25 vad26 o11.2.2.2.2 []) H1 := hP1
                          have hD : va_D A (xMw cT aM ad24 rd gd25 vad26 o11.2.2.2.2 []) := hD1.weaken (fun k q _ h => hFc q.1 h)
                          generalize H1 = H at hP hS hce ⊢
                          have hE9 : ∀ p, p < xct st → vad26 p = vad p := fun p h => (hv27 p (Nat.lt_of_lt_of_le h hN)).trans (hE p h)
                          have hE := hE9
                          have hN : xct st ≤ xct o11.2.2.2.2 := Nat.le_trans hN hn28
                          obtain rfl := Option.some.inj hf
                          exact vx_out (E := "java/lang/IndexOutOfBoundsException") (fun x h => (hne x h).elim) hlocks hce hcv hcl (fun t ht ha => ⟨(ad24, gd25, vad26), ⟨hE, hN⟩, ⟨rfl, by rw [ht]; exact hP, va_K.moved ha hK, hD⟩, hS.F ht⟩) hS.2.2 (Nat.le_refl _) (Nat.le_refl _)
                        rw [if_neg hk21] at hf
                        by_cases hk29 : o11.1 = 2
                        · rw [if_pos hk29] at hf
                          obtain ⟨hm30, hf⟩ := xmoE hf
                          obtain rfl := Option.some.inj hf
                          exact absurd (show (1 : Nat) = 2 from hkd) (by decide)
                        rw [if_neg hk29] at hf
                        by_cases hk37 : o11.1 = 3
                        · rw [if_pos hk37] at hf
                          obtain ⟨hm38, hf⟩ := xmoE hf
                          obtain rfl := Option.some.inj hf
                          exact absurd (show (3 : Nat) = 2 from hkd) (by decide)
                        rw [if_neg hk37] at hf
                        exact nomatch hf
                      · rw [if_pos hc] at hf
                        refine lv_aload_n hx hb dM_value_137 rfl (lv_at hl 1 rfl) ?_
                        obtain ⟨o11, hq12, hf⟩ := xbind hf
                        by_cases hk13 : o11.1 = 0
                        · rw [if_pos hk13] at hf
                          obtain ⟨hm14, hf⟩ := xmoE hf
                          have hFc := xm_free hD hS hA
                          refine va_callq (va_runV (C := "ValueBenchModel") (As := []) (rest := []) ⟨hx, hb, hml, hown, htx⟩ (gM_elements l hl9 D cT aK aV (16 * d) (400 * d) (fM_value d n) (fun sz => ih sz n) H.size n aM ad rd gd vad (xsI (xsI o1 18 ((xsi o1 18) + (1 : Int32))) 16 ((xsi o1 16) + (1 : Int32))) o11 hq12 hk13) ⟨callB_of 0 htx (xw_goodC kw_6_102) rfl rfl rfl (htx _ kw_1_5) (htx _ kw_6_99) ⟨by decide, by decide, by decide +kernel⟩ ⟨(by show (16 * d + 8) + 1 ≤ 16 * (d + 1); omega), (by show 8 + (4 + 11) + (400 * d + 147) ≤ 400 * (d + 1); omega)⟩, (htx _ kw_6_101), (htx _ kp_M_elements)⟩ ⟨xPre_blind, va_recv hK hP (ci := 5) rfl (q0 := 0) rfl, (fun U hU hW => ⟨rfl, xPre_of hZ hS hFc hP hD hK U hU hW⟩)⟩ rfl rfl hl.1 rfl (xm_room (Nat.le_of_ble_eq_true rfl)) dM_value_138 ⟨hm14.1, hm14.2⟩) hS (fun q _ h => hFc q h) hFc (fun r15 u9 t H1 locs ht hvm hr9 hB hz1 hk1 hS => ?_)
                          obtain ⟨hP1, hK1, hD1⟩ := hB
                          rw [ht] at hP1
                          obtain ⟨ad16, gd17, vad18⟩ := u9
                          obtain ⟨hr9, hv19, hn20⟩ := hr9
                          have hP : va_P D xcl (xMw cT aM ad16 rd gd17 vad18 o11.2.2.2.2 []) H1 := hP1
                          have hD : va_D A (xMw cT aM ad16 rd gd17 vad18 o11.2.2.2.2 []) := hD1.weaken (fun k q _ h => hFc q.1 h)
                          generalize H1 = H at hP hS ⊢
                          have hE9 : ∀ p, p < xct st → vad18 p = vad p := fun p h => (hv19 p (Nat.lt_of_lt_of_le h hN)).trans (hE p h)
                          have hE := hE9
                          have hN : xct st ≤ xct o11.2.2.2.2 := Nat.le_trans hN hn20
                          rw [hr9]
                          refine W.eq (g2 := F0 m 141 ls [xv vad18 o11.2.2.2.1]) (by first | rfl | (skip; rfl)) ?_
                          refine lv_goto (tgt := 148) hx hb dM_value_141 (by decide) ?_
                          refine xm_astore_n (lv' := [(2, xv vad18 o11.2.2.2.1), (1, .int o5), (0, .ref aM)]) hx hb (xvor _ _) dM_value_148 rfl hl (by decide) rfl (fun ls hl => ?_)
                          refine lv_aload_n hx hb dM_value_149 rfl (lv_at hl 2 rfl) ?_
                          refine lv_dup hx hb dM_value_150 rfl ?_
                          refine xm_get (v := .int (xsi o11.2.2.2.2 18)) hx hb htx hown hK hP 18 (by decide) rfl (htx _ kw_5_105) rfl dM_value_151 ?_
                          refine lv_iconst (v := 1) hx hb dM_value_154 (by decide) ?_
                          refine lv_isub hx hb dM_value_155 ?_
                          refine xm_put (v := .int ((xsi o11.2.2.2.2 18) - (1 : Int32))) (W' := (xMw cT aM ad16 rd gd17 vad18 (xsI o11.2.2.2.2 18 ((xsi o11.2.2.2.2 18) - (1 : Int32))) [])) (ty := .int) hx hb htx hown hK hP hD hS 18 (by decide) rfl (htx _ kw_5_105) rfl rfl (by decide +kernel) rfl rfl dM_value_156 (fun H locs hP hD hS => ?_)
                          refine xm_aload_n hx hb (xvor _ _) dM_value_159 rfl (lv_at hl 0 rfl) ?_
                          obtain rfl := Option.some.inj hf
                          exact absurd (show (0 : Nat) = 2 from hkd) (by decide)
                        rw [if_neg hk13] at hf
                        by_cases hk21 : o11.1 = 1
                        · rw [if_pos hk21] at hf
                          obtain ⟨hm22, hf⟩ := xmoE hf
                          have hFc := xm_free hD hS hA
                          refine xx_thr (vx_runV (C := "ValueBenchModel") (As := []) (rest := []) ⟨hx, hb, hml, hown, htx⟩ (gM_elements_1 l hl9 D cT aK aV (16 * d) (400 * d) (fM_value d n) (fun sz => ih sz n) H.size n aM ad rd gd vad (xsI (xsI o1 18 ((xsi o1 18) + (1 : Int32))) 16 ((xsi o1 16) + (1 : Int32))) o11 hq12 hk21) ⟨callB_of 0 htx (xw_goodC kw_6_102) rfl rfl rfl (htx _ kw_1_5) (htx _ kw_6_99) ⟨by decide, by decide, by decide +kernel⟩ ⟨(by show (16 * d + 8) + 1 ≤ 16 * (d + 1); omega), (by show 8 + (4 + 11) + (400 * d + 147) ≤ 400 * (d + 1); omega)⟩, (htx _ kw_6_101), (htx _ kp_M_elements)⟩ ⟨xPre_blind, va_recv hK hP (ci := 5) rfl (q0 := 0) rfl, (fun U hU hW => ⟨rfl, xPre_of hZ hS hFc hP hD hK U hU hW⟩)⟩ rfl rfl hl.1 rfl (xm_room (Nat.le_of_ble_eq_true rfl)) dM_value_138 ⟨hm22.1, hm22.2⟩) hS hFc (fun q _ h => hFc q h) (fun E ce q9 u9 t H1 locs ht hvm hr9 hB hz1 hk1 hS hce hcv hcl => ?_)
                          obtain ⟨rfl, hP1, hK1, hD1⟩ := hB
                          rw [ht] at hP1
                          obtain ⟨ad24, gd25, vad26⟩ := u9
                          obtain ⟨hv27, hn28⟩ := hr9
                          have hP : va_P D xcl (xMw cT aM ad24 rd gd25 vad26 o11.2.2.2.2 []) H1 := hP1
                          have hD : va_D A (xMw cT aM ad24 rd gd25 vad26 o11.2.2.2.2 []) := hD1.weaken (fun k q _ h => hFc q.1 h)
                          generalize H1 = H at hP hS hce ⊢
                          have hE9 : ∀ p, p < xct st → vad26 p = vad p := fun p h => (hv27 p (Nat.lt_of_lt_of_le h hN)).trans (hE p h)
                          have hE := hE9
                          have hN : xct st ≤ xct o11.2.2.2.2 := Nat.le_trans hN hn28
                          obtain rfl := Option.some.inj hf
                          exact vx_out (E := "java/lang/IndexOutOfBoundsException") (fun x h => (hne x h).elim) hlocks hce hcv hcl (fun t ht ha => ⟨(ad24, gd25, vad26), ⟨hE, hN⟩, ⟨rfl, by rw [ht]; exact hP, va_K.moved ha hK, hD⟩, hS.F ht⟩) hS.2.2 (Nat.le_refl _) (Nat.le_refl _)
                        rw [if_neg hk21] at hf
                        by_cases hk29 : o11.1 = 2
                        · rw [if_pos hk29] at hf
                          obtain ⟨hm30, hf⟩ := xmoE hf
                          obtain rfl := Option.some.inj hf
                          exact absurd (show (1 : Nat) = 2 from hkd) (by decide)
                        rw [if_neg hk29] at hf
                        by_cases hk37 : o11.1 = 3
                        · rw [if_pos hk37] at hf
                          obtain ⟨hm38, hf⟩ := xmoE hf
                          obtain rfl := Option.some.inj hf
                          exact absurd (show (3 : Nat) = 2 from hkd) (by decide)
                        rw [if_neg hk37] at hf
                        exact nomatch hf
                    · rw [if_pos hc] at hf
                      refine lv_aload_n hx hb dM_value_103 rfl (lv_at hl 1 rfl) ?_
                      refine lv_aload_n hx hb dM_value_104 rfl (lv_at hl 1 rfl) ?_
                      refine xm_get (v := .int (xsi o1 16)) hx hb htx hown hK hP 16 (by decide) rfl (htx _ kw_5_103) rfl dM_value_105 ?_
                      obtain ⟨o11, hq12, hf⟩ := xbind hf
                      by_cases hk13 : o11.1 = 1
                      · rw [if_pos hk13] at hf
                        obtain ⟨hm14, hf⟩ := xmoE hf
                        obtain rfl := Option.some.inj hf
                        exact absurd (show (1 : Nat) = 2 from hkd) (by decide)
                      rw [if_neg hk13] at hf
                      exact nomatch hf
                  · rw [if_neg hc] at hf
                    refine lv_iload_n hx hb dM_value_86 rfl (lv_at hl 0 rfl) ?_
                    refine lv_bipush (v := 123) hx hb dM_value_87 (by decide) ?_
                    refine lv_icmp_ne (tgt := 103) hx hb dM_value_89 (by decide) (fun hc => ?_) (fun hc => ?_)
                    · rw [if_neg hc] at hf
                      refine lv_aload_n hx hb dM_value_103 rfl (lv_at hl 1 rfl) ?_
                      refine lv_aload_n hx hb dM_value_104 rfl (lv_at hl 1 rfl) ?_
                      refine xm_get (v := .int (xsi o1 16)) hx hb htx hown hK hP 16 (by decide) rfl (htx _ kw_5_103) rfl dM_value_105 ?_
                      obtain ⟨o11, hq12, hf⟩ := xbind hf
                      by_cases hk13 : o11.1 = 1
                      · rw [if_pos hk13] at hf
                        obtain ⟨hm14, hf⟩ := xmoE hf
                        obtain rfl := Option.some.inj hf
                        exact absurd (show (1 : Nat) = 2 from hkd) (by decide)
                      rw [if_neg hk13] at hf
                      exact nomatch hf
                    · rw [if_pos hc] at hf
                      refine lv_aload_n hx hb dM_value_92 rfl (lv_at hl 1 rfl) ?_
                      refine xm_get (v := .int (xsi o1 18)) hx hb htx hown hK hP 18 (by decide) rfl (htx _ kw_5_105) rfl dM_value_93 ?_
                      refine lv_aload_n hx hb dM_value_96 rfl (lv_at hl 1 rfl) ?_
                      refine xm_get (v := .int (xsi o1 19)) hx hb htx hown hK hP 19 (by decide) rfl (htx _ kw_5_106) rfl dM_value_97 ?_
                      refine lv_icmp_ne (tgt := 111) hx hb dM_value_100 (by decide) (fun hc => ?_) (fun hc => ?_)
                      · rw [if_neg hc] at hf
                        refine lv_aload_n hx hb dM_value_111 rfl (lv_at hl 1 rfl) ?_
                        refine lv_dup hx hb dM_value_112 rfl ?_
                        refine xm_get (v := .int (xsi o1 18)) hx hb htx hown hK hP 18 (by decide) rfl (htx _ kw_5_105) rfl dM_value_113 ?_
                        refine lv_iconst (v := 1) hx hb dM_value_116 (by decide) ?_
                        refine lv_iadd hx hb dM_value_117 ?_
                        refine xm_put (v := .int ((xsi o1 18) + (1 : Int32))) (W' := (xMw cT aM ad rd gd vad (xsI o1 18 ((xsi o1 18) + (1 : Int32))) [])) (ty := .int) hx hb htx hown hK hP hD hS 18 (by decide) rfl (htx _ kw_5_105) rfl rfl (by decide +kernel) rfl rfl dM_value_118 (fun H locs hP hD hS => ?_)
                        refine lv_aload_n hx hb dM_value_121 rfl (lv_at hl 1 rfl) ?_
                        refine lv_dup hx hb dM_value_122 rfl ?_
                        refine xm_get (v := .int (xsi o1 16)) hx hb htx hown hK hP 16 (by decide) rfl (htx _ kw_5_103) rfl dM_value_123 ?_
                        refine lv_iconst (v := 1) hx hb dM_value_126 (by decide) ?_
                        refine lv_iadd hx hb dM_value_127 ?_
                        refine xm_put (v := .int ((xsi o1 16) + (1 : Int32))) (W' := (xMw cT aM ad rd gd vad (xsI (xsI o1 18 ((xsi o1 18) + (1 : Int32))) 16 ((xsi o1 16) + (1 : Int32))) [])) (ty := .int) hx hb htx hown hK hP hD hS 16 (by decide) rfl (htx _ kw_5_103) rfl rfl (by decide +kernel) rfl rfl dM_value_128 (fun H locs hP hD hS => ?_)
                        refine lv_iload_n hx hb dM_value_131 rfl (lv_at hl 0 rfl) ?_
                        refine lv_bipush (v := 91) hx hb dM_value_132 (by decide) ?_
                        refine lv_icmp_ne (tgt := 144) hx hb dM_value_134 (by decide) (fun hc => ?_) (fun hc => ?_)
                        · rw [if_neg hc] at hf
                          refine lv_aload_n hx hb dM_value_144 rfl (lv_at hl 1 rfl) ?_
                          obtain ⟨o11, hq12, hf⟩ := xbind hf
                          by_cases hk13 : o11.1 = 0
                          · rw [if_pos hk13] at hf
                            obtain ⟨hm14, hf⟩ := xmoE hf
                            have hFc := xm_free hD hS hA
                            refine va_callq (va_runV (C := "ValueBenchModel") (As := []) (rest := []) ⟨hx, hb, hml, hown, htx⟩ (gM_members l hl9 D cT aK aV (16 * d) (400 * d) (fM_value d n) (fun sz => ih sz n) H.size n aM ad rd gd vad (xsI (xsI o1 18 ((xsi o1 18) + (1 : Int32))) 16 ((xsi o1 16) + (1 : Int32))) o11 hq12 hk13) ⟨callB_of 0 htx (xw_goodC kw_6_116) rfl rfl rfl (htx _ kw_1_5) (htx _ kw_6_113) ⟨by decide, by decide, by decide +kernel⟩ ⟨(by show (16 * d + 9) + 1 ≤ 16 * (d + 1); omega), (by show 8 + (6 + 11) + (400 * d + 167) ≤ 400 * (d + 1); omega)⟩, (htx _ kw_6_115), (htx _ kp_M_members)⟩ ⟨xPre_blind, va_recv hK hP (ci := 5) rfl (q0 := 0) rfl, (fun U hU hW => ⟨rfl, xPre_of hZ hS hFc hP hD hK U hU hW⟩)⟩ rfl rfl hl.1 rfl (xm_room (Nat.le_of_ble_eq_true rfl)) dM_value_145 ⟨hm14.1, hm14.2⟩) hS (fun q _ h => hFc q h) hFc (fun r15 u9 t H1 locs ht hvm hr9 hB hz1 hk1 hS => ?_)
                            obtain ⟨hP1, hK1, hD1⟩ := hB
                            rw [ht] at hP1
                            obtain ⟨ad16, gd17, vad18⟩ := u9
                            obtain ⟨hr9, hv19, hn20⟩ := hr9
                            have hP : va_P D xcl (xMw cT aM ad16 rd gd17 vad18 o11.2.2.2.2 []) H1 := hP1
                            have hD : va_D A (xMw cT aM ad16 rd gd17 vad18 o11.2.2.2.2 []) := hD1.weaken (fun k q _ h => hFc q.1 h)
                            generalize H1 = H at hP hS ⊢
                            have hE9 : ∀ p, p < xct st → vad18 p = vad p := fun p h => (hv19 p (Nat.lt_of_lt_of_le h hN)).trans (hE p h)
                            have hE := hE9
                            have hN : xct st ≤ xct o11.2.2.2.2 := Nat.le_trans hN hn20
                            rw [hr9]
                            refine W.eq (g2 := F0 m 148 ls [xv vad18 o11.2.2.2.1]) (by first | rfl | (skip; rfl)) ?_
                            refine xm_astore_n (lv' := [(2, xv vad18 o11.2.2.2.1), (1, .int o5), (0, .ref aM)]) hx hb (xvor _ _) dM_value_148 rfl hl (by decide) rfl (fun ls hl => ?_)
                            refine lv_aload_n hx hb dM_value_149 rfl (lv_at hl 2 rfl) ?_
                            refine lv_dup hx hb dM_value_150 rfl ?_
                            refine xm_get (v := .int (xsi o11.2.2.2.2 18)) hx hb htx hown hK hP 18 (by decide) rfl (htx _ kw_5_105) rfl dM_value_151 ?_
                            refine lv_iconst (v := 1) hx hb dM_value_154 (by decide) ?_
                            refine lv_isub hx hb dM_value_155 ?_
                            refine xm_put (v := .int ((xsi o11.2.2.2.2 18) - (1 : Int32))) (W' := (xMw cT aM ad16 rd gd17 vad18 (xsI o11.2.2.2.2 18 ((xsi o11.2.2.2.2 18) - (1 : Int32))) [])) (ty := .int) hx hb htx hown hK hP hD hS 18 (by decide) rfl (htx _ kw_5_105) rfl rfl (by decide +kernel) rfl rfl dM_value_156 (fun H locs hP hD hS => ?_)
                            refine xm_aload_n hx hb (xvor _ _) dM_value_159 rfl (lv_at hl 0 rfl) ?_
                            obtain rfl := Option.some.inj hf
                            exact absurd (show (0 : Nat) = 2 from hkd) (by decide)
                          rw [if_neg hk13] at hf
                          by_cases hk21 : o11.1 = 1
                          · rw [if_pos hk21] at hf
                            obtain ⟨hm22, hf⟩ := xmoE hf
                            have hFc := xm_free hD hS hA
                            refine xx_thr (vx_runV (C := "ValueBenchModel") (As := []) (rest := []) ⟨hx, hb, hml, hown, htx⟩ (gM_members_1 l hl9 D cT aK aV (16 * d) (400 * d) (fM_value d n) (fun sz => ih sz n) H.size n aM ad rd gd vad (xsI (xsI o1 18 ((xsi o1 18) + (1 : Int32))) 16 ((xsi o1 16) + (1 : Int32))) o11 hq12 hk21) ⟨callB_of 0 htx (xw_goodC kw_6_116) rfl rfl rfl (htx _ kw_1_5) (htx _ kw_6_113) ⟨by decide, by decide, by decide +kernel⟩ ⟨(by show (16 * d + 9) + 1 ≤ 16 * (d + 1); omega), (by show 8 + (6 + 11) + (400 * d + 167) ≤ 400 * (d + 1); omega)⟩, (htx _ kw_6_115), (htx _ kp_M_members)⟩ ⟨xPre_blind, va_recv hK hP (ci := 5) rfl (q0 := 0) rfl, (fun U hU hW => ⟨rfl, xPre_of hZ hS hFc hP hD hK U hU hW⟩)⟩ rfl rfl hl.1 rfl (xm_room (Nat.le_of_ble_eq_true rfl)) dM_value_145 ⟨hm22.1, hm22.2⟩) hS hFc (fun q _ h => hFc q h) (fun E ce q9 u9 t H1 locs ht hvm hr9 hB hz1 hk1 hS hce hcv hcl => ?_)
                            obtain ⟨rfl, hP1, hK1, hD1⟩ := hB
                            rw [ht] at hP1
                            obtain ⟨ad24, gd25, vad26⟩ := u9
                            obtain ⟨hv27, hn28⟩ := hr9
                            have hP : va_P D xcl (xMw cT aM ad24 rd gd25 vad26 o11.2.2.2.2 []) H1 := hP1
                            have hD : va_D A (xMw cT aM ad24 rd gd25 vad26 o11.2.2.2.2 []) := hD1.weaken (fun k q _ h => hFc q.1 h)
                            generalize H1 = H at hP hS hce ⊢
                            have hE9 : ∀ p, p < xct st → vad26 p = vad p := fun p h => (hv27 p (Nat.lt_of_lt_of_le h hN)).trans (hE p h)
                            have hE := hE9
                            have hN : xct st ≤ xct o11.2.2.2.2 := Nat.le_trans hN hn28
                            obtain rfl := Option.some.inj hf
                            exact vx_out (E := "java/lang/IndexOutOfBoundsException") (fun x h => (hne x h).elim) hlocks hce hcv hcl (fun t ht ha => ⟨(ad24, gd25, vad26), ⟨hE, hN⟩, ⟨rfl, by rw [ht]; exact hP, va_K.moved ha hK, hD⟩, hS.F ht⟩) hS.2.2 (Nat.le_refl _) (Nat.le_refl _)
                          rw [if_neg hk21] at hf
                          by_cases hk29 : o11.1 = 2
                          · rw [if_pos hk29] at hf
                            obtain ⟨hm30, hf⟩ := xmoE hf
                            obtain rfl := Option.some.inj hf
                            exact absurd (show (1 : Nat) = 2 from hkd) (by decide)
                          rw [if_neg hk29] at hf
                          by_cases hk37 : o11.1 = 3
                          · rw [if_pos hk37] at hf
                            obtain ⟨hm38, hf⟩ := xmoE hf
                            obtain rfl := Option.some.inj hf
                            exact absurd (show (3 : Nat) = 2 from hkd) (by decide)
                          rw [if_neg hk37] at hf
                          exact nomatch hf
                        · rw [if_pos hc] at hf
                          refine lv_aload_n hx hb dM_value_137 rfl (lv_at hl 1 rfl) ?_
                          obtain ⟨o11, hq12, hf⟩ := xbind hf
                          by_cases hk13 : o11.1 = 0
                          · rw [if_pos hk13] at hf
                            obtain ⟨hm14, hf⟩ := xmoE hf
                            have hFc := xm_free hD hS hA
                            refine va_callq (va_runV (C := "ValueBenchModel") (As := []) (rest := []) ⟨hx, hb, hml, hown, htx⟩ (gM_elements l hl9 D cT aK aV (16 * d) (400 * d) (fM_value d n) (fun sz => ih sz n) H.size n aM ad rd gd vad (xsI (xsI o1 18 ((xsi o1 18) + (1 : Int32))) 16 ((xsi o1 16) + (1 : Int32))) o11 hq12 hk13) ⟨callB_of 0 htx (xw_goodC kw_6_102) rfl rfl rfl (htx _ kw_1_5) (htx _ kw_6_99) ⟨by decide, by decide, by decide +kernel⟩ ⟨(by show (16 * d + 8) + 1 ≤ 16 * (d + 1); omega), (by show 8 + (4 + 11) + (400 * d + 147) ≤ 400 * (d + 1); omega)⟩, (htx _ kw_6_101), (htx _ kp_M_elements)⟩ ⟨xPre_blind, va_recv hK hP (ci := 5) rfl (q0 := 0) rfl, (fun U hU hW => ⟨rfl, xPre_of hZ hS hFc hP hD hK U hU hW⟩)⟩ rfl rfl hl.1 rfl (xm_room (Nat.le_of_ble_eq_true rfl)) dM_value_138 ⟨hm14.1, hm14.2⟩) hS (fun q _ h => hFc q h) hFc (fun r15 u9 t H1 locs ht hvm hr9 hB hz1 hk1 hS => ?_)
                            obtain ⟨hP1, hK1, hD1⟩ := hB
                            rw [ht] at hP1
                            obtain ⟨ad16, gd17, vad18⟩ := u9
                            obtain ⟨hr9, hv19, hn20⟩ := hr9
                            have hP : va_P D xcl (xMw cT aM ad16 rd gd17 vad18 o11.2.2.2.2 []) H1 := hP1
                            have hD : va_D A (xMw cT aM ad16 rd gd17 vad18 o11.2.2.2.2 []) := hD1.weaken (fun k q _ h => hFc q.1 h)
                            generalize H1 = H at hP hS ⊢
                            have hE9 : ∀ p, p < xct st → vad18 p = vad p := fun p h => (hv19 p (Nat.lt_of_lt_of_le h hN)).trans (hE p h)
                            have hE := hE9
                            have hN : xct st ≤ xct o11.2.2.2.2 := Nat.le_trans hN hn20
                            rw [hr9]
                            refine W.eq (g2 := F0 m 141 ls [xv vad18 o11.2.2.2.1]) (by first | rfl | (skip; rfl)) ?_
                            refine lv_goto (tgt := 148) hx hb dM_value_141 (by decide) ?_
                            refine xm_astore_n (lv' := [(2, xv vad18 o11.2.2.2.1), (1, .int o5), (0, .ref aM)]) hx hb (xvor _ _) dM_value_148 rfl hl (by decide) rfl (fun ls hl => ?_)
                            refine lv_aload_n hx hb dM_value_149 rfl (lv_at hl 2 rfl) ?_
                            refine lv_dup hx hb dM_value_150 rfl ?_
                            refine xm_get (v := .int (xsi o11.2.2.2.2 18)) hx hb htx hown hK hP 18 (by decide) rfl (htx _ kw_5_105) rfl dM_value_151 ?_
                            refine lv_iconst (v := 1) hx hb dM_value_154 (by decide) ?_
                            refine lv_isub hx hb dM_value_155 ?_
                            refine xm_put (v := .int ((xsi o11.2.2.2.2 18) - (1 : Int32))) (W' := (xMw cT aM ad16 rd gd17 vad18 (xsI o11.2.2.2.2 18 ((xsi o11.2.2.2.2 18) - (1 : Int32))) [])) (ty := .int) hx hb htx hown hK hP hD hS 18 (by decide) rfl (htx _ kw_5_105) rfl rfl (by decide +kernel) rfl rfl dM_value_156 (fun H locs hP hD hS => ?_)
                            refine xm_aload_n hx hb (xvor _ _) dM_value_159 rfl (lv_at hl 0 rfl) ?_
                            obtain rfl := Option.some.inj hf
                            exact absurd (show (0 : Nat) = 2 from hkd) (by decide)
                          rw [if_neg hk13] at hf
                          by_cases hk21 : o11.1 = 1
                          · rw [if_pos hk21] at hf
                            obtain ⟨hm22, hf⟩ := xmoE hf
                            have hFc := xm_free hD hS hA
                            refine xx_thr (vx_runV (C := "ValueBenchModel") (As := []) (rest := []) ⟨hx, hb, hml, hown, htx⟩ (gM_elements_1 l hl9 D cT aK aV (16 * d) (400 * d) (fM_value d n) (fun sz => ih sz n) H.size n aM ad rd gd vad (xsI (xsI o1 18 ((xsi o1 18) + (1 : Int32))) 16 ((xsi o1 16) + (1 : Int32))) o11 hq12 hk21) ⟨callB_of 0 htx (xw_goodC kw_6_102) rfl rfl rfl (htx _ kw_1_5) (htx _ kw_6_99) ⟨by decide, by decide, by decide +kernel⟩ ⟨(by show (16 * d + 8) + 1 ≤ 16 * (d + 1); omega), (by show 8 + (4 + 11) + (400 * d + 147) ≤ 400 * (d + 1); omega)⟩, (htx _ kw_6_101), (htx _ kp_M_elements)⟩ ⟨xPre_blind, va_recv hK hP (ci := 5) rfl (q0 := 0) rfl, (fun U hU hW => ⟨rfl, xPre_of hZ hS hFc hP hD hK U hU hW⟩)⟩ rfl rfl hl.1 rfl (xm_room (Nat.le_of_ble_eq_true rfl)) dM_value_138 ⟨hm22.1, hm22.2⟩) hS hFc (fun q _ h => hFc q h) (fun E ce q9 u9 t H1 locs ht hvm hr9 hB hz1 hk1 hS hce hcv hcl => ?_)
                            obtain ⟨rfl, hP1, hK1, hD1⟩ := hB
                            rw [ht] at hP1
                            obtain ⟨ad24, gd25, vad26⟩ := u9
                            obtain ⟨hv27, hn28⟩ := hr9
                            have hP : va_P D xcl (xMw cT aM ad24 rd gd25 vad26 o11.2.2.2.2 []) H1 := hP1
                            have hD : va_D A (xMw cT aM ad24 rd gd25 vad26 o11.2.2.2.2 []) := hD1.weaken (fun k q _ h => hFc q.1 h)
                            generalize H1 = H at hP hS hce ⊢
                            have hE9 : ∀ p, p < xct st → vad26 p = vad p := fun p h => (hv27 p (Nat.lt_of_lt_of_le h hN)).trans (hE p h)
                            have hE := hE9
                            have hN : xct st ≤ xct o11.2.2.2.2 := Nat.le_trans hN hn28
                            obtain rfl := Option.some.inj hf
                            exact vx_out (E := "java/lang/IndexOutOfBoundsException") (fun x h => (hne x h).elim) hlocks hce hcv hcl (fun t ht ha => ⟨(ad24, gd25, vad26), ⟨hE, hN⟩, ⟨rfl, by rw [ht]; exact hP, va_K.moved ha hK, hD⟩, hS.F ht⟩) hS.2.2 (Nat.le_refl _) (Nat.le_refl _)
                          rw [if_neg hk21] at hf
                          by_cases hk29 : o11.1 = 2
                          · rw [if_pos hk29] at hf
                            obtain ⟨hm30, hf⟩ := xmoE hf
                            obtain rfl := Option.some.inj hf
                            exact absurd (show (1 : Nat) = 2 from hkd) (by decide)
                          rw [if_neg hk29] at hf
                          by_cases hk37 : o11.1 = 3
                          · rw [if_pos hk37] at hf
                            obtain ⟨hm38, hf⟩ := xmoE hf
                            obtain rfl := Option.some.inj hf
                            exact absurd (show (3 : Nat) = 2 from hkd) (by decide)
                          rw [if_neg hk37] at hf
                          exact nomatch hf
                      · rw [if_pos hc] at hf
                        refine lv_aload_n hx hb dM_value_103 rfl (lv_at hl 1 rfl) ?_
                        refine lv_aload_n hx hb dM_value_104 rfl (lv_at hl 1 rfl) ?_
                        refine xm_get (v := .int (xsi o1 16)) hx hb htx hown hK hP 16 (by decide) rfl (htx _ kw_5_103) rfl dM_value_105 ?_
                        obtain ⟨o11, hq12, hf⟩ := xbind hf
                        by_cases hk13 : o11.1 = 1
                        · rw [if_pos hk13] at hf
                          obtain ⟨hm14, hf⟩ := xmoE hf
                          obtain rfl := Option.some.inj hf
                          exact absurd (show (1 : Nat) = 2 from hkd) (by decide)
                        rw [if_neg hk13] at hf
                        exact nomatch hf
                · rw [if_neg hc] at hf
                  refine lv_aload_n hx hb dM_value_75 rfl (lv_at hl 1 rfl) ?_
                  obtain ⟨o11, hq12, hf⟩ := xbind hf
                  by_cases hk13 : o11.1 = 0
                  · rw [if_pos hk13] at hf
                    obtain ⟨hm14, hf⟩ := xmoE hf
                    have hFc := xm_free hD hS hA
                    refine va_callq (va_runV (C := "ValueBenchModel") (As := []) (rest := []) ⟨hx, hb, hml, hown, htx⟩ (gM_jsonNumber l hl9 D cT aK aV H.size n aM ad rd gd vad o1 o11 hq12 hk13) ⟨callB_of 0 htx (xw_goodC kw_6_77) rfl rfl rfl (htx _ kw_1_5) (htx _ kw_6_74) ⟨by decide, by decide, by decide +kernel⟩ ⟨Nat.le_of_ble_eq_true rfl, Nat.le_of_ble_eq_true rfl⟩, (htx _ kw_6_76), (htx _ kp_M_jsonNumber)⟩ ⟨xPre_blind, va_recv hK hP (ci := 5) rfl (q0 := 0) rfl, (fun U hU hW => ⟨rfl, xPre_of hZ hS hFc hP hD hK U hU hW⟩)⟩ rfl rfl hl.1 rfl (xm_room (Nat.le_of_ble_eq_true rfl)) dM_value_76 ⟨hm14.1, hm14.2⟩) hS (fun q _ h => hFc q h) hFc (fun r15 u9 t H1 locs ht hvm hr9 hB hz1 hk1 hS => ?_)
                    obtain ⟨hP1, hK1, hD1⟩ := hB
                    rw [ht] at hP1
                    obtain ⟨ad16, gd17, vad18⟩ := u9
                    obtain ⟨hr9, hv19, hn20⟩ := hr9
                    have hP : va_P D xcl (xMw cT aM ad16 rd gd17 vad18 o11.2.2.2.2 []) H1 := hP1
                    have hD : va_D A (xMw cT aM ad16 rd gd17 vad18 o11.2.2.2.2 []) := hD1.weaken (fun k q _ h => hFc q.1 h)
                    generalize H1 = H at hP hS ⊢
                    have hE9 : ∀ p, p < xct st → vad18 p = vad p := fun p h => (hv19 p (Nat.lt_of_lt_of_le h hN)).trans (hE p h)
                    have hE := hE9
                    have hN : xct st ≤ xct o11.2.2.2.2 := Nat.le_trans hN hn20
                    rw [hr9]
                    refine W.eq (g2 := F0 m 79 ls [xv vad18 o11.2.2.2.1]) (by first | rfl | (skip; rfl)) ?_
                    obtain rfl := Option.some.inj hf
                    exact absurd (show (0 : Nat) = 2 from hkd) (by decide)
                  rw [if_neg hk13] at hf
                  by_cases hk21 : o11.1 = 1
                  · rw [if_pos hk21] at hf
                    obtain ⟨hm22, hf⟩ := xmoE hf
                    obtain rfl := Option.some.inj hf
                    exact absurd (show (3 : Nat) = 2 from hkd) (by decide)
                  rw [if_neg hk21] at hf
                  by_cases hk29 : o11.1 = 2
                  · rw [if_pos hk29] at hf
                    obtain ⟨hm30, hf⟩ := xmoE hf
                    obtain rfl := Option.some.inj hf
                    exact absurd (show (1 : Nat) = 2 from hkd) (by decide)
                  rw [if_neg hk29] at hf
                  exact nomatch hf
            · rw [if_pos hc] at hf
              refine lv_aload_n hx hb dM_value_57 rfl (lv_at hl 1 rfl) ?_
              obtain ⟨o8, hq9, hf⟩ := xbind hf
              by_cases hk10 : o8.1 = 0
              · rw [if_pos hk10] at hf
                obtain ⟨hm11, hf⟩ := xmoE hf
                have hFc := xm_free hD hS hA
                refine va_callq (va_runV (C := "ValueBenchModel") (As := []) (rest := []) ⟨hx, hb, hml, hown, htx⟩ (gM_jsonString l hl9 D cT aK aV H.size n aM ad rd gd vad o1 o8 hq9 hk10) ⟨callB_of 0 htx (xw_goodC kw_6_46) rfl rfl rfl (htx _ kw_1_5) (htx _ kw_6_43) ⟨by decide, by decide, by decide +kernel⟩ ⟨Nat.le_of_ble_eq_true rfl, Nat.le_of_ble_eq_true rfl⟩, (htx _ kw_6_45), (htx _ kp_M_jsonString)⟩ ⟨xPre_blind, va_recv hK hP (ci := 5) rfl (q0 := 0) rfl, (fun U hU hW => ⟨rfl, xPre_of hZ hS hFc hP hD hK U hU hW⟩)⟩ rfl rfl hl.1 rfl (xm_room (Nat.le_of_ble_eq_true rfl)) dM_value_58 ⟨hm11.1, hm11.2⟩) hS (fun q _ h => hFc q h) hFc (fun r12 u9 t H1 locs ht hvm hr9 hB hz1 hk1 hS => ?_)
                obtain ⟨hP1, hK1, hD1⟩ := hB
                rw [ht] at hP1
                obtain ⟨ad13, gd14, vad15⟩ := u9
                obtain ⟨hr9, hv16, hn17⟩ := hr9
                have hP : va_P D xcl (xMw cT aM ad13 rd gd14 vad15 o8.2.2.2.2 []) H1 := hP1
                have hD : va_D A (xMw cT aM ad13 rd gd14 vad15 o8.2.2.2.2 []) := hD1.weaken (fun k q _ h => hFc q.1 h)
                generalize H1 = H at hP hS ⊢
                have hE9 : ∀ p, p < xct st → vad15 p = vad p := fun p h => (hv16 p (Nat.lt_of_lt_of_le h hN)).trans (hE p h)
                have hE := hE9
                have hN : xct st ≤ xct o8.2.2.2.2 := Nat.le_trans hN hn17
                rw [hr9]
                refine W.eq (g2 := F0 m 61 ls [xv vad15 o8.2.2.2.1]) (by first | rfl | (skip; rfl)) ?_
                obtain rfl := Option.some.inj hf
                exact absurd (show (0 : Nat) = 2 from hkd) (by decide)
              rw [if_neg hk10] at hf
              by_cases hk18 : o8.1 = 1
              · rw [if_pos hk18] at hf
                obtain ⟨hm19, hf⟩ := xmoE hf
                have hFc := xm_free hD hS hA
                refine xx_thr (vx_runV (C := "ValueBenchModel") (As := []) (rest := []) ⟨hx, hb, hml, hown, htx⟩ (gM_jsonString_1 l hl9 D cT aK aV H.size n aM ad rd gd vad o1 o8 hq9 hk18) ⟨callB_of 0 htx (xw_goodC kw_6_46) rfl rfl rfl (htx _ kw_1_5) (htx _ kw_6_43) ⟨by decide, by decide, by decide +kernel⟩ ⟨Nat.le_of_ble_eq_true rfl, Nat.le_of_ble_eq_true rfl⟩, (htx _ kw_6_45), (htx _ kp_M_jsonString)⟩ ⟨xPre_blind, va_recv hK hP (ci := 5) rfl (q0 := 0) rfl, (fun U hU hW => ⟨rfl, xPre_of hZ hS hFc hP hD hK U hU hW⟩)⟩ rfl rfl hl.1 rfl (xm_room (Nat.le_of_ble_eq_true rfl)) dM_value_58 ⟨hm19.1, hm19.2⟩) hS hFc (fun q _ h => hFc q h) (fun E ce q9 u9 t H1 locs ht hvm hr9 hB hz1 hk1 hS hce hcv hcl => ?_)
                obtain ⟨rfl, hP1, hK1, hD1⟩ := hB
                rw [ht] at hP1
                obtain ⟨ad21, gd22, vad23⟩ := u9
                obtain ⟨hv24, hn25⟩ := hr9
                have hP : va_P D xcl (xMw cT aM ad21 rd gd22 vad23 o8.2.2.2.2 []) H1 := hP1
                have hD : va_D A (xMw cT aM ad21 rd gd22 vad23 o8.2.2.2.2 []) := hD1.weaken (fun k q _ h => hFc q.1 h)
                generalize H1 = H at hP hS hce ⊢
                have hE9 : ∀ p, p < xct st → vad23 p = vad p := fun p h => (hv24 p (Nat.lt_of_lt_of_le h hN)).trans (hE p h)
                have hE := hE9
                have hN : xct st ≤ xct o8.2.2.2.2 := Nat.le_trans hN hn25
                obtain rfl := Option.some.inj hf
                exact vx_out (E := "java/lang/IndexOutOfBoundsException") (fun x h => (hne x h).elim) hlocks hce hcv hcl (fun t ht ha => ⟨(ad21, gd22, vad23), ⟨hE, hN⟩, ⟨rfl, by rw [ht]; exact hP, va_K.moved ha hK, hD⟩, hS.F ht⟩) hS.2.2 (Nat.le_refl _) (Nat.le_refl _)
              rw [if_neg hk18] at hf
              by_cases hk26 : o8.1 = 2
              · rw [if_pos hk26] at hf
                obtain ⟨hm27, hf⟩ := xmoE hf
                obtain rfl := Option.some.inj hf
                exact absurd (show (1 : Nat) = 2 from hkd) (by decide)
              rw [if_neg hk26] at hf
              exact nomatch hf
          · rw [if_pos hc] at hf
            refine lv_aload_n hx hb dM_value_43 rfl (lv_at hl 1 rfl) ?_
            refine va_ldcS (q := aK 11) hx hb hown (hZ.2.2.2.2.2.2.2.2.1 ("ValueBenchModel", 238, "false", 11) (List.mem_of_getElem? (i := 19) rfl)) dM_value_44 ?_
            refine lv_iconst (v := 1) hx hb dM_value_46 (by decide) ?_
            obtain ⟨o8, hq9, hf⟩ := xbind hf
            by_cases hk10 : o8.1 = 0
            · rw [if_pos hk10] at hf
              obtain ⟨hm11, hf⟩ := xmoE hf
              have hFc := xm_free hD hS hA
              refine va_callq (va_runV (C := "ValueBenchModel") (As := [.ref (aK 11), .int 1]) (rest := []) ⟨hx, hb, hml, hown, htx⟩ (gM_says l hl9 D cT aK aV H.size n aM ad rd gd vad o1 (1 : Int32) o8 hq9 hk10) ⟨callB_of 2 htx (xw_goodC kw_5_237) rfl rfl rfl (htx _ kw_1_5) (htx _ kw_5_234) ⟨by decide, by decide, by decide +kernel⟩ ⟨Nat.le_of_ble_eq_true rfl, Nat.le_of_ble_eq_true rfl⟩, (htx _ kw_5_236), (htx _ kp_M_says)⟩ ⟨xPre_blind, va_recv hK hP (ci := 5) rfl (q0 := 0) rfl, (fun U hU hW => ⟨rfl, xPre_of hZ hS hFc hP hD hK U hU hW⟩)⟩ rfl rfl hl.1 rfl (xm_room (Nat.le_of_ble_eq_true rfl)) dM_value_47 ⟨hm11.1, hm11.2⟩) hS (fun q _ h => hFc q h) hFc (fun r12 u9 t H1 locs ht hvm hr9 hB hz1 hk1 hS => ?_)
              obtain ⟨hP1, hK1, hD1⟩ := hB
              rw [ht] at hP1
              obtain ⟨ad13, gd14, vad15⟩ := u9
              obtain ⟨hr9, hv16, hn17⟩ := hr9
              have hP : va_P D xcl (xMw cT aM ad13 rd gd14 vad15 o8.2.2.2.2 []) H1 := hP1
              have hD : va_D A (xMw cT aM ad13 rd gd14 vad15 o8.2.2.2.2 []) := hD1.weaken (fun k q _ h => hFc q.1 h)
              generalize H1 = H at hP hS ⊢
              have hE9 : ∀ p, p < xct st → vad15 p = vad p := fun p h => (hv16 p (Nat.lt_of_lt_of_le h hN)).trans (hE p h)
              have hE := hE9
              have hN : xct st ≤ xct o8.2.2.2.2 := Nat.le_trans hN hn17
              rw [hr9]
              refine W.eq (g2 := F0 m 50 ls [xv vad15 o8.2.2.2.1]) (by first | rfl | (skip; rfl)) ?_
              obtain rfl := Option.some.inj hf
              exact absurd (show (0 : Nat) = 2 from hkd) (by decide)
            rw [if_neg hk10] at hf
            by_cases hk18 : o8.1 = 1
            · rw [if_pos hk18] at hf
              obtain ⟨hm19, hf⟩ := xmoE hf
              obtain rfl := Option.some.inj hf
              exact absurd (show (1 : Nat) = 2 from hkd) (by decide)
            rw [if_neg hk18] at hf
            exact nomatch hf
        · rw [if_pos hc] at hf
          refine lv_aload_n hx hb dM_value_29 rfl (lv_at hl 1 rfl) ?_
          refine va_ldcS (q := aK 12) hx hb hown (hZ.2.2.2.2.2.2.2.2.1 ("ValueBenchModel", 236, "true", 12) (List.mem_of_getElem? (i := 18) rfl)) dM_value_30 ?_
          refine lv_iconst (v := 2) hx hb dM_value_32 (by decide) ?_
          obtain ⟨o8, hq9, hf⟩ := xbind hf
          by_cases hk10 : o8.1 = 0
          · rw [if_pos hk10] at hf
            obtain ⟨hm11, hf⟩ := xmoE hf
            have hFc := xm_free hD hS hA
            refine va_callq (va_runV (C := "ValueBenchModel") (As := [.ref (aK 12), .int 2]) (rest := []) ⟨hx, hb, hml, hown, htx⟩ (gM_saysa l hl9 D cT aK aV H.size n aM ad rd gd vad o1 (2 : Int32) o8 hq9 hk10) ⟨callB_of 2 htx (xw_goodC kw_5_237) rfl rfl rfl (htx _ kw_1_5) (htx _ kw_5_234) ⟨by decide, by decide, by decide +kernel⟩ ⟨Nat.le_of_ble_eq_true rfl, Nat.le_of_ble_eq_true rfl⟩, (htx _ kw_5_236), (htx _ kp_M_says)⟩ ⟨xPre_blind, va_recv hK hP (ci := 5) rfl (q0 := 0) rfl, (fun U hU hW => ⟨rfl, xPre_of hZ hS hFc hP hD hK U hU hW⟩)⟩ rfl rfl hl.1 rfl (xm_room (Nat.le_of_ble_eq_true rfl)) dM_value_33 ⟨hm11.1, hm11.2⟩) hS (fun q _ h => hFc q h) hFc (fun r12 u9 t H1 locs ht hvm hr9 hB hz1 hk1 hS => ?_)
            obtain ⟨hP1, hK1, hD1⟩ := hB
            rw [ht] at hP1
            obtain ⟨ad13, gd14, vad15⟩ := u9
            obtain ⟨hr9, hv16, hn17⟩ := hr9
            have hP : va_P D xcl (xMw cT aM ad13 rd gd14 vad15 o8.2.2.2.2 []) H1 := hP1
            have hD : va_D A (xMw cT aM ad13 rd gd14 vad15 o8.2.2.2.2 []) := hD1.weaken (fun k q _ h => hFc q.1 h)
            generalize H1 = H at hP hS ⊢
            have hE9 : ∀ p, p < xct st → vad15 p = vad p := fun p h => (hv16 p (Nat.lt_of_lt_of_le h hN)).trans (hE p h)
            have hE := hE9
            have hN : xct st ≤ xct o8.2.2.2.2 := Nat.le_trans hN hn17
            rw [hr9]
            refine W.eq (g2 := F0 m 36 ls [xv vad15 o8.2.2.2.1]) (by first | rfl | (skip; rfl)) ?_
            obtain rfl := Option.some.inj hf
            exact absurd (show (0 : Nat) = 2 from hkd) (by decide)
          rw [if_neg hk10] at hf
          by_cases hk18 : o8.1 = 1
          · rw [if_pos hk18] at hf
            obtain ⟨hm19, hf⟩ := xmoE hf
            obtain rfl := Option.some.inj hf
            exact absurd (show (1 : Nat) = 2 from hkd) (by decide)
          rw [if_neg hk18] at hf
          exact nomatch hf
      · rw [if_pos hc] at hf
        refine lv_aload_n hx hb dM_value_15 rfl (lv_at hl 1 rfl) ?_
        refine va_ldcS (q := aK 10) hx hb hown (hZ.2.2.2.2.2.2.2.2.1 ("ValueBenchModel", 69, "null", 10) (List.mem_of_getElem? (i := 17) rfl)) dM_value_16 ?_
        refine lv_iconst (v := 0) hx hb dM_value_18 (by decide) ?_
        obtain ⟨o8, hq9, hf⟩ := xbind hf
        by_cases hk10 : o8.1 = 0
        · rw [if_pos hk10] at hf
          obtain ⟨hm11, hf⟩ := xmoE hf
          have hFc := xm_free hD hS hA
          refine va_callq (va_runV (C := "ValueBenchModel") (As := [.ref (aK 10), .int 0]) (rest := []) ⟨hx, hb, hml, hown, htx⟩ (gM_saysb l hl9 D cT aK aV H.size n aM ad rd gd vad o1 (0 : Int32) o8 hq9 hk10) ⟨callB_of 2 htx (xw_goodC kw_5_237) rfl rfl rfl (htx _ kw_1_5) (htx _ kw_5_234) ⟨by decide, by decide, by decide +kernel⟩ ⟨Nat.le_of_ble_eq_true rfl, Nat.le_of_ble_eq_true rfl⟩, (htx _ kw_5_236), (htx _ kp_M_says)⟩ ⟨xPre_blind, va_recv hK hP (ci := 5) rfl (q0 := 0) rfl, (fun U hU hW => ⟨rfl, xPre_of hZ hS hFc hP hD hK U hU hW⟩)⟩ rfl rfl hl.1 rfl (xm_room (Nat.le_of_ble_eq_true rfl)) dM_value_19 ⟨hm11.1, hm11.2⟩) hS (fun q _ h => hFc q h) hFc (fun r12 u9 t H1 locs ht hvm hr9 hB hz1 hk1 hS => ?_)
          obtain ⟨hP1, hK1, hD1⟩ := hB
          rw [ht] at hP1
          obtain ⟨ad13, gd14, vad15⟩ := u9
          obtain ⟨hr9, hv16, hn17⟩ := hr9
          have hP : va_P D xcl (xMw cT aM ad13 rd gd14 vad15 o8.2.2.2.2 []) H1 := hP1
          have hD : va_D A (xMw cT aM ad13 rd gd14 vad15 o8.2.2.2.2 []) := hD1.weaken (fun k q _ h => hFc q.1 h)
          generalize H1 = H at hP hS ⊢
          have hE9 : ∀ p, p < xct st → vad15 p = vad p := fun p h => (hv16 p (Nat.lt_of_lt_of_le h hN)).trans (hE p h)
          have hE := hE9
          have hN : xct st ≤ xct o8.2.2.2.2 := Nat.le_trans hN hn17
          rw [hr9]
          refine W.eq (g2 := F0 m 22 ls [xv vad15 o8.2.2.2.1]) (by first | rfl | (skip; rfl)) ?_
          obtain rfl := Option.some.inj hf
          exact absurd (show (0 : Nat) = 2 from hkd) (by decide)
        rw [if_neg hk10] at hf
        by_cases hk18 : o8.1 = 1
        · rw [if_pos hk18] at hf
          obtain ⟨hm19, hf⟩ := xmoE hf
          obtain rfl := Option.some.inj hf
          exact absurd (show (1 : Nat) = 2 from hkd) (by decide)
        rw [if_neg hk18] at hf
        exact nomatch hf
    · refine vx_ofW (cc := prog_13_method_34_code) (maxL := 3) (ret := (some (.object "ValueBenchModel$V"))) (by decide) rfl ?_
      intro p e s m args below meth c s₁ B hml hne hv
      obtain ⟨rfl, hsz, hZ, hP, hK, hD0⟩ := hv
      have hx := B.exec
      have hb := B.bytes
      have hr := B.returns
      have hts := atoms_spec (ws := wyM_value) B.pre
      have htx := fun w h => hts w (List.mem_cons_of_mem _ h)
      have hown : s.vm.findClass "ValueBenchModel" = some m.cls := findClass_of_methodNamed B.named
      have hlocks := B.notSynchronized
      subst hsz
      have hD := hD0.self (sz := s.heap.size)
      generalize hAe : va_A (xMw cT aM ad rd gd vad st []) s.heap.size = A at hD hZ ⊢
      have hA : ∀ q : Nat, s.heap.size ≤ q → A q := fun q h => by rw [← hAe]; exact Or.inr h
      have hS : va_S A s.heap s.heap [] := va_S.rf
      have hl := lv_entry ([.ref aM]) (n := 3) (by simp [lg_sl, xvcat, xrscat, xcI, xcL, xcR, xcN])
      rw [show lv_args 0 [.ref aM] = [(0, .ref aM)] from by simp [lv_args, xvcat, xrscat, xcI, xcL, xcR, xcN]] at hl
      rw [lg_entry_eq]
      generalize (lg_sl ([.ref aM]) ++ List.replicate (3 - (lg_sl ([.ref aM])).length) Slot.unset).toArray = ls at hl ⊢
      have hl : lv_has ls 3 [(0, .ref aM)] := hl
      have hE : ∀ p, p < xct st → vad p = vad p := fun _ _ => rfl
      have hN : xct st ≤ xct st := Nat.le_refl _
      refine lv_aload_n hx hb dM_value_0 rfl (lv_at hl 0 rfl) ?_
      obtain ⟨o1, hq2, hf⟩ := xbind hf
      have hFc := xm_free hD hS hA
      refine va_callv (va_runV (C := "ValueBenchModel") (As := []) (rest := []) ⟨hx, hb, hml, hown, htx⟩ (gM_blanks l hl9 D cT aK aV s.heap.size n aM ad rd gd vad st o1 hq2) ⟨callB_of 0 htx (xw_goodC kw_5_229) rfl rfl rfl (htx _ kw_1_5) (htx _ kw_5_226) ⟨by decide, by decide, by decide +kernel⟩ ⟨Nat.le_of_ble_eq_true rfl, Nat.le_of_ble_eq_true rfl⟩, (htx _ kw_5_228), (htx _ kp_M_blanks)⟩ ⟨xPre_blind, va_recv hK hP (ci := 5) rfl (q0 := 0) rfl, (fun U hU hW => ⟨rfl, xPre_of hZ hS hFc hP hD hK U hU hW⟩)⟩ rfl rfl hl.1 rfl (xm_room (Nat.le_of_ble_eq_true rfl)) dM_value_1 ⟨Nat.zero_le _, Nat.zero_le _⟩) hS (fun q _ h => hFc q h) hFc (fun u9 t H1 locs ht hvm hr9 hB hz1 hk1 hS => ?_)
      obtain ⟨hP1, hK1, hD1⟩ := hB
      rw [ht] at hP1
      have hn4 := hr9
      have hN : xct st ≤ xct o1 := Nat.le_trans hN hn4
      have hP : va_P D xcl (xMw cT aM ad rd gd vad o1 []) H1 := hP1
      have hD : va_D A (xMw cT aM ad rd gd vad o1 []) := hD1.weaken (fun k q _ h => hFc q.1 h)
      generalize H1 = H at hP hS ⊢
      refine W.eq (g2 := F0 m 4 ls []) (by first | rfl | (skip; rfl)) ?_
      refine lv_aload_n hx hb dM_value_4 rfl (lv_at hl 0 rfl) ?_
      obtain ⟨o5, hq6, hf⟩ := xbind hf
      have hFc := xm_free hD hS hA
      refine va_calli (va_runV (C := "ValueBenchModel") (As := []) (rest := []) ⟨hx, hb, hml, hown, htx⟩ (gM_peek l hl9 D cT aK aV H.size n aM ad rd gd vad o1 o5 hq6) ⟨callB_of 0 htx (xw_goodC kw_5_233) rfl rfl rfl (htx _ kw_1_5) (htx _ kw_5_230) ⟨by decide, by decide, by decide +kernel⟩ ⟨Nat.le_of_ble_eq_true rfl, Nat.le_of_ble_eq_true rfl⟩, (htx _ kw_5_232), (htx _ kp_M_peek)⟩ ⟨xPre_blind, va_recv hK hP (ci := 5) rfl (q0 := 0) rfl, (fun U hU hW => ⟨rfl, xPre_of hZ hS hFc hP hD hK U hU hW⟩)⟩ rfl rfl hl.1 rfl (xm_room (Nat.le_of_ble_eq_true rfl)) dM_value_5 ⟨Nat.zero_le _, Nat.zero_le _⟩) hS (fun q _ h => hFc q h) hFc (fun r7 u9 t H1 locs ht hvm hr9 hB hz1 hk1 hS => ?_)
      obtain ⟨hP1, hK1, hD1⟩ := hB
      rw [ht] at hP1
      have hP : va_P D xcl (xMw cT aM ad rd gd vad o1 []) H1 := hP1
      have hD : va_D A (xMw cT aM ad rd gd vad o1 []) := hD1.weaken (fun k q _ h => hFc q.1 h)
      generalize H1 = H at hP hS ⊢
      rw [hr9]
      refine W.eq (g2 := F0 m 8 ls [.int o5]) (by first | rfl | (skip; rfl)) ?_
      refine lv_istore_n (lv' := [(1, .int o5), (0, .ref aM)]) hx hb dM_value_8 rfl hl (by decide) rfl (fun ls hl => ?_)
      refine lv_iload_n hx hb dM_value_9 rfl (lv_at hl 0 rfl) ?_
      refine lv_bipush (v := 110) hx hb dM_value_10 (by decide) ?_
      refine lv_icmp_ne (tgt := 23) hx hb dM_value_12 (by decide) (fun hc => ?_) (fun hc => ?_)
      · rw [if_neg hc] at hf
        refine lv_iload_n hx hb dM_value_23 rfl (lv_at hl 0 rfl) ?_
        refine lv_bipush (v := 116) hx hb dM_value_24 (by decide) ?_
        refine lv_icmp_ne (tgt := 37) hx hb dM_value_26 (by decide) (fun hc => ?_) (fun hc => ?_)
        · rw [if_neg hc] at hf
          refine lv_iload_n hx hb dM_value_37 rfl (lv_at hl 0 rfl) ?_
          refine lv_bipush (v := 102) hx hb dM_value_38 (by decide) ?_
          refine lv_icmp_ne (tgt := 51) hx hb dM_value_40 (by decide) (fun hc => ?_) (fun hc => ?_)
          · rw [if_neg hc] at hf
            refine lv_iload_n hx hb dM_value_51 rfl (lv_at hl 0 rfl) ?_
            refine lv_bipush (v := 34) hx hb dM_value_52 (by decide) ?_
            refine lv_icmp_ne (tgt := 62) hx hb dM_value_54 (by decide) (fun hc => ?_) (fun hc => ?_)
            · rw [if_neg hc] at hf
              refine lv_iload_n hx hb dM_value_62 rfl (lv_at hl 0 rfl) ?_
              refine lv_bipush (v := 45) hx hb dM_value_63 (by decide) ?_
              refine lv_icmp_eq (tgt := 75) hx hb dM_value_65 (by decide) (fun hc => ?_) (fun hc => ?_)
              · rw [if_pos hc] at hf
                refine lv_aload_n hx hb dM_value_75 rfl (lv_at hl 1 rfl) ?_
                obtain ⟨o8, hq9, hf⟩ := xbind hf
                by_cases hk10 : o8.1 = 0
                · rw [if_pos hk10] at hf
                  obtain ⟨hm11, hf⟩ := xmoE hf
                  have hFc := xm_free hD hS hA
                  refine va_callq (va_runV (C := "ValueBenchModel") (As := []) (rest := []) ⟨hx, hb, hml, hown, htx⟩ (gM_jsonNumber l hl9 D cT aK aV H.size n aM ad rd gd vad o1 o8 hq9 hk10) ⟨callB_of 0 htx (xw_goodC kw_6_77) rfl rfl rfl (htx _ kw_1_5) (htx _ kw_6_74) ⟨by decide, by decide, by decide +kernel⟩ ⟨Nat.le_of_ble_eq_true rfl, Nat.le_of_ble_eq_true rfl⟩, (htx _ kw_6_76), (htx _ kp_M_jsonNumber)⟩ ⟨xPre_blind, va_recv hK hP (ci := 5) rfl (q0 := 0) rfl, (fun U hU hW => ⟨rfl, xPre_of hZ hS hFc hP hD hK U hU hW⟩)⟩ rfl rfl hl.1 rfl (xm_room (Nat.le_of_ble_eq_true rfl)) dM_value_76 ⟨hm11.1, hm11.2⟩) hS (fun q _ h => hFc q h) hFc (fun r12 u9 t H1 locs ht hvm hr9 hB hz1 hk1 hS => ?_)
                  obtain ⟨hP1, hK1, hD1⟩ := hB
                  rw [ht] at hP1
                  obtain ⟨ad13, gd14, vad15⟩ := u9
                  obtain ⟨hr9, hv16, hn17⟩ := hr9
                  have hP : va_P D xcl (xMw cT aM ad13 rd gd14 vad15 o8.2.2.2.2 []) H1 := hP1
                  have hD : va_D A (xMw cT aM ad13 rd gd14 vad15 o8.2.2.2.2 []) := hD1.weaken (fun k q _ h => hFc q.1 h)
                  generalize H1 = H at hP hS ⊢
                  have hE9 : ∀ p, p < xct st → vad15 p = vad p := fun p h => (hv16 p (Nat.lt_of_lt_of_le h hN)).trans (hE p h)
                  have hE := hE9
                  have hN : xct st ≤ xct o8.2.2.2.2 := Nat.le_trans hN hn17
                  rw [hr9]
                  refine W.eq (g2 := F0 m 79 ls [xv vad15 o8.2.2.2.1]) (by first | rfl | (skip; rfl)) ?_
                  obtain rfl := Option.some.inj hf
                  exact absurd (show (0 : Nat) = 3 from hkd) (by decide)
                rw [if_neg hk10] at hf
                by_cases hk18 : o8.1 = 1
                · rw [if_pos hk18] at hf
                  obtain ⟨hm19, hf⟩ := xmoE hf
                  have hFc := xm_free hD hS hA
                  refine xx_thr (vx_runV (C := "ValueBenchModel") (As := []) (rest := []) ⟨hx, hb, hml, hown, htx⟩ (gM_jsonNumber_1 l hl9 D cT aK aV H.size n aM ad rd gd vad o1 o8 hq9 hk18) ⟨callB_of 0 htx (xw_goodC kw_6_77) rfl rfl rfl (htx _ kw_1_5) (htx _ kw_6_74) ⟨by decide, by decide, by decide +kernel⟩ ⟨Nat.le_of_ble_eq_true rfl, Nat.le_of_ble_eq_true rfl⟩, (htx _ kw_6_76), (htx _ kp_M_jsonNumber)⟩ ⟨xPre_blind, va_recv hK hP (ci := 5) rfl (q0 := 0) rfl, (fun U hU hW => ⟨rfl, xPre_of hZ hS hFc hP hD hK U hU hW⟩)⟩ rfl rfl hl.1 rfl (xm_room (Nat.le_of_ble_eq_true rfl)) dM_value_76 ⟨hm19.1, hm19.2⟩) hS hFc (fun q _ h => hFc q h) (fun E ce q9 u9 t H1 locs ht hvm hr9 hB hz1 hk1 hS hce hcv hcl => ?_)
                  obtain ⟨rfl, hP1, hK1, hD1⟩ := hB
                  rw [ht] at hP1
                  obtain ⟨ad21, gd22, vad23⟩ := u9
                  obtain ⟨hv24, hn25⟩ := hr9
                  have hP : va_P D xcl (xMw cT aM ad21 rd gd22 vad23 o8.2.2.2.2 []) H1 := hP1
                  have hD : va_D A (xMw cT aM ad21 rd gd22 vad23 o8.2.2.2.2 []) := hD1.weaken (fun k q _ h => hFc q.1 h)
                  generalize H1 = H at hP hS hce ⊢
                  have hE9 : ∀ p, p < xct st → vad23 p = vad p := fun p h => (hv24 p (Nat.lt_of_lt_of_le h hN)).trans (hE p h)
                  have hE := hE9
                  have hN : xct st ≤ xct o8.2.2.2.2 := Nat.le_trans hN hn25
                  obtain rfl := Option.some.inj hf
                  exact vx_out (E := "java/lang/ArithmeticException") (fun x h => (hne x h).elim) hlocks hce hcv hcl (fun t ht ha => ⟨(ad21, gd22, vad23), ⟨hE, hN⟩, ⟨rfl, by rw [ht]; exact hP, va_K.moved ha hK, hD⟩, hS.F ht⟩) hS.2.2 (Nat.le_refl _) (Nat.le_refl _)
                rw [if_neg hk18] at hf
                by_cases hk26 : o8.1 = 2
                · rw [if_pos hk26] at hf
                  obtain ⟨hm27, hf⟩ := xmoE hf
                  obtain rfl := Option.some.inj hf
                  exact absurd (show (1 : Nat) = 3 from hkd) (by decide)
                rw [if_neg hk26] at hf
                exact nomatch hf
              · rw [if_neg hc] at hf
                refine lv_iload_n hx hb dM_value_68 rfl (lv_at hl 0 rfl) ?_
                obtain ⟨o8, hq9, hf⟩ := xbind hf
                refine va_calli (va_runS (As := [.int o5]) (rest := []) ⟨hx, hb, hml, hown, htx⟩ (gM_digit l hl9 D cT aK aV H.size n o5 o8 hq9) ⟨callB_of 1 htx (xw_goodC kw_6_73) rfl rfl rfl (htx _ kw_1_5) (htx _ kw_6_71) ⟨by decide, by decide, by decide +kernel⟩ ⟨Nat.le_of_ble_eq_true rfl, Nat.le_of_ble_eq_true rfl⟩, htx _ kw_6_72⟩ ⟨xPre_blind, (fun U hU hW => ⟨rfl, xPre_of hZ hS (xm_free0 hS hA) xm_Pnil xm_Dnil hK U hU hW⟩)⟩ rfl rfl hl.1 rfl (lv_room (Nat.le_of_ble_eq_true rfl)) dM_value_69 ⟨(Nat.zero_le _), (Nat.zero_le _)⟩) hS (fun q _ h => xm_free0 hS hA q h) (xm_free0 hS hA) (fun r10 u9 t H1 locs ht hvm hr9 hB hz1 hk1 hS => ?_)
                replace hP := xm_keep hP hk1
                generalize H1 = H at hP hS ⊢
                rw [hr9]
                refine W.eq (g2 := F0 m 72 ls [.int o8]) (by first | rfl | rw [xv1 (Nat.succ_ne_zero _)]) ?_
                refine lv_if_eq (tgt := 80) hx hb dM_value_72 (by decide) (fun hc => ?_) (fun hc => ?_)
                · rw [if_pos hc] at hf
                  refine lv_iload_n hx hb dM_value_80 rfl (lv_at hl 0 rfl) ?_
                  refine lv_bipush (v := 91) hx hb dM_value_81 (by decide) ?_
                  refine lv_icmp_eq (tgt := 92) hx hb dM_value_83 (by decide) (fun hc => ?_) (fun hc => ?_)
                  · rw [if_pos hc] at hf
                    refine lv_aload_n hx hb dM_value_92 rfl (lv_at hl 1 rfl) ?_
                    refine xm_get (v := .int (xsi o1 18)) hx hb htx hown hK hP 18 (by decide) rfl (htx _ kw_5_105) rfl dM_value_93 ?_
                    refine lv_aload_n hx hb dM_value_96 rfl (lv_at hl 1 rfl) ?_
                    refine xm_get (v := .int (xsi o1 19)) hx hb htx hown hK hP 19 (by decide) rfl (htx _ kw_5_106) rfl dM_value_97 ?_
                    refine lv_icmp_ne (tgt := 111) hx hb dM_value_100 (by decide) (fun hc => ?_) (fun hc => ?_)
                    · rw [if_neg hc] at hf
                      refine lv_aload_n hx hb dM_value_111 rfl (lv_at hl 1 rfl) ?_
                      refine lv_dup hx hb dM_value_112 rfl ?_
                      refine xm_get (v := .int (xsi o1 18)) hx hb htx hown hK hP 18 (by decide) rfl (htx _ kw_5_105) rfl dM_value_113 ?_
                      refine lv_iconst (v := 1) hx hb dM_value_116 (by decide) ?_
                      refine lv_iadd hx hb dM_value_117 ?_
                      refine xm_put (v := .int ((xsi o1 18) + (1 : Int32))) (W' := (xMw cT aM ad rd gd vad (xsI o1 18 ((xsi o1 18) + (1 : Int32))) [])) (ty := .int) hx hb htx hown hK hP hD hS 18 (by decide) rfl (htx _ kw_5_105) rfl rfl (by decide +kernel) rfl rfl dM_value_118 (fun H locs hP hD hS => ?_)
                      refine lv_aload_n hx hb dM_value_121 rfl (lv_at hl 1 rfl) ?_
                      refine lv_dup hx hb dM_value_122 rfl ?_
                      refine xm_get (v := .int (xsi o1 16)) hx hb htx hown hK hP 16 (by decide) rfl (htx _ kw_5_103) rfl dM_value_123 ?_
                      refine lv_iconst (v := 1) hx hb dM_value_126 (by decide) ?_
                      refine lv_iadd hx hb dM_value_127 ?_
                      refine xm_put (v := .int ((xsi o1 16) + (1 : Int32))) (W' := (xMw cT aM ad rd gd vad (xsI (xsI o1 18 ((xsi o1 18) + (1 : Int32))) 16 ((xsi o1 16) + (1 : Int32))) [])) (ty := .int) hx hb htx hown hK hP hD hS 16 (by decide) rfl (htx _ kw_5_103) rfl rfl (by decide +kernel) rfl rfl dM_value_128 (fun H locs hP hD hS => ?_)
                      refine lv_iload_n hx hb dM_value_131 rfl (lv_at hl 0 rfl) ?_
                      refine lv_bipush (v := 91) hx hb dM_value_132 (by decide) ?_
                      refine lv_icmp_ne (tgt := 144) hx hb dM_value_134 (by decide) (fun hc => ?_) (fun hc => ?_)
                      · rw [if_neg hc] at hf
                        refine lv_aload_n hx hb dM_value_144 rfl (lv_at hl 1 rfl) ?_
                        obtain ⟨o11, hq12, hf⟩ := xbind hf
                        by_cases hk13 : o11.1 = 0
                        · rw [if_pos hk13] at hf
                          obtain ⟨hm14, hf⟩ := xmoE hf
                          have hFc := xm_free hD hS hA
                          refine va_callq (va_runV (C := "ValueBenchModel") (As := []) (rest := []) ⟨hx, hb, hml, hown, htx⟩ (gM_members l hl9 D cT aK aV (16 * d) (400 * d) (fM_value d n) (fun sz => ih sz n) H.size n aM ad rd gd vad (xsI (xsI o1 18 ((xsi o1 18) + (1 : Int32))) 16 ((xsi o1 16) + (1 : Int32))) o11 hq12 hk13) ⟨callB_of 0 htx (xw_goodC kw_6_116) rfl rfl rfl (htx _ kw_1_5) (htx _ kw_6_113) ⟨by decide, by decide, by decide +kernel⟩ ⟨(by show (16 * d + 9) + 1 ≤ 16 * (d + 1); omega), (by show 8 + (6 + 11) + (400 * d + 167) ≤ 400 * (d + 1); omega)⟩, (htx _ kw_6_115), (htx _ kp_M_members)⟩ ⟨xPre_blind, va_recv hK hP (ci := 5) rfl (q0 := 0) rfl, (fun U hU hW => ⟨rfl, xPre_of hZ hS hFc hP hD hK U hU hW⟩)⟩ rfl rfl hl.1 rfl (xm_room (Nat.le_of_ble_eq_true rfl)) dM_value_145 ⟨hm14.1, hm14.2⟩) hS (fun q _ h => hFc q h) hFc (fun r15 u9 t H1 locs ht hvm hr9 hB hz1 hk1 hS => ?_)
                          obtain ⟨hP1, hK1, hD1⟩ := hB
                          rw [ht] at hP1
                          obtain ⟨ad16, gd17, vad18⟩ := u9
                          obtain ⟨hr9, hv19, hn20⟩ := hr9
                          have hP : va_P D xcl (xMw cT aM ad16 rd gd17 vad18 o11.2.2.2.2 []) H1 := hP1
                          have hD : va_D A (xMw cT aM ad16 rd gd17 vad18 o11.2.2.2.2 []) := hD1.weaken (fun k q _ h => hFc q.1 h)
                          generalize H1 = H at hP hS ⊢
                          have hE9 : ∀ p, p < xct st → vad18 p = vad p := fun p h => (hv19 p (Nat.lt_of_lt_of_le h hN)).trans (hE p h)
                          have hE := hE9
                          have hN : xct st ≤ xct o11.2.2.2.2 := Nat.le_trans hN hn20
                          rw [hr9]
                          refine W.eq (g2 := F0 m 148 ls [xv vad18 o11.2.2.2.1]) (by first | rfl | (skip; rfl)) ?_
                          refine xm_astore_n (lv' := [(2, xv vad18 o11.2.2.2.1), (1, .int o5), (0, .ref aM)]) hx hb (xvor _ _) dM_value_148 rfl hl (by decide) rfl (fun ls hl => ?_)
                          refine lv_aload_n hx hb dM_value_149 rfl (lv_at hl 2 rfl) ?_
                          refine lv_dup hx hb dM_value_150 rfl ?_
                          refine xm_get (v := .int (xsi o11.2.2.2.2 18)) hx hb htx hown hK hP 18 (by decide) rfl (htx _ kw_5_105) rfl dM_value_151 ?_
                          refine lv_iconst (v := 1) hx hb dM_value_154 (by decide) ?_
                          refine lv_isub hx hb dM_value_155 ?_
                          refine xm_put (v := .int ((xsi o11.2.2.2.2 18) - (1 : Int32))) (W' := (xMw cT aM ad16 rd gd17 vad18 (xsI o11.2.2.2.2 18 ((xsi o11.2.2.2.2 18) - (1 : Int32))) [])) (ty := .int) hx hb htx hown hK hP hD hS 18 (by decide) rfl (htx _ kw_5_105) rfl rfl (by decide +kernel) rfl rfl dM_value_156 (fun H locs hP hD hS => ?_)
                          refine xm_aload_n hx hb (xvor _ _) dM_value_159 rfl (lv_at hl 0 rfl) ?_
                          obtain rfl := Option.some.inj hf
                          exact absurd (show (0 : Nat) = 3 from hkd) (by decide)
                        rw [if_neg hk13] at hf
                        by_cases hk21 : o11.1 = 1
                        · rw [if_pos hk21] at hf
                          obtain ⟨hm22, hf⟩ := xmoE hf
                          obtain rfl := Option.some.inj hf
                          exact absurd (show (2 : Nat) = 3 from hkd) (by decide)
                        rw [if_neg hk21] at hf
                        by_cases hk29 : o11.1 = 2
                        · rw [if_pos hk29] at hf
                          obtain ⟨hm30, hf⟩ := xmoE hf
                          obtain rfl := Option.some.inj hf
                          exact absurd (show (1 : Nat) = 3 from hkd) (by decide)
                        rw [if_neg hk29] at hf
                        by_cases hk37 : o11.1 = 3
                        · rw [if_pos hk37] at hf
                          obtain ⟨hm38, hf⟩ := xmoE hf
                          have hFc := xm_free hD hS hA
                          refine xx_thr (vx_runV (C := "ValueBenchModel") (As := []) (rest := []) ⟨hx, hb, hml, hown, htx⟩ (gM_members_3 l hl9 D cT aK aV (16 * d) (400 * d) (fM_value d n) (fun sz => ih sz n) H.size n aM ad rd gd vad (xsI (xsI o1 18 ((xsi o1 18) + (1 : Int32))) 16 ((xsi o1 16) + (1 : Int32))) o11 hq12 hk37) ⟨callB_of 0 htx (xw_goodC kw_6_116) rfl rfl rfl (htx _ kw_1_5) (htx _ kw_6_113) ⟨by decide, by decide, by decide +kernel⟩ ⟨(by show (16 * d + 9) + 1 ≤ 16 * (d + 1); omega), (by show 8 + (6 + 11) + (400 * d + 167) ≤ 400 * (d + 1); omega)⟩, (htx _ kw_6_115), (htx _ kp_M_members)⟩ ⟨xPre_blind, va_recv hK hP (ci := 5) rfl (q0 := 0) rfl, (fun U hU hW => ⟨rfl, xPre_of hZ hS hFc hP hD hK U hU hW⟩)⟩ rfl rfl hl.1 rfl (xm_room (Nat.le_of_ble_eq_true rfl)) dM_value_145 ⟨hm38.1, hm38.2⟩) hS hFc (fun q _ h => hFc q h) (fun E ce q9 u9 t H1 locs ht hvm hr9 hB hz1 hk1 hS hce hcv hcl => ?_)
                          obtain ⟨rfl, hP1, hK1, hD1⟩ := hB
                          rw [ht] at hP1
                          obtain ⟨ad40, gd41, vad42⟩ := u9
                          obtain ⟨hv43, hn44⟩ := hr9
                          have hP : va_P D xcl (xMw cT aM ad40 rd gd41 vad42 o11.2.2.2.2 []) H1 := hP1
                          have hD : va_D A (xMw cT aM ad40 rd gd41 vad42 o11.2.2.2.2 []) := hD1.weaken (fun k q _ h => hFc q.1 h)
                          generalize H1 = H at hP hS hce ⊢
                          have hE9 : ∀ p, p < xct st → vad42 p = vad p := fun p h => (hv43 p (Nat.lt_of_lt_of_le h hN)).trans (hE p h)
                          have hE := hE9
                          have hN : xct st ≤ xct o11.2.2.2.2 := Nat.le_trans hN hn44
                          obtain rfl := Option.some.inj hf
                          exact vx_out (E := "java/lang/ArithmeticException") (fun x h => (hne x h).elim) hlocks hce hcv hcl (fun t ht ha => ⟨(ad40, gd41, vad42), ⟨hE, hN⟩, ⟨rfl, by rw [ht]; exact hP, va_K.moved ha hK, hD⟩, hS.F ht⟩) hS.2.2 (Nat.le_refl _) (Nat.le_refl _)
                        rw [if_neg hk37] at hf
                        exact nomatch hf
                      · rw [if_pos hc] at hf
                        refine lv_aload_n hx hb dM_value_137 rfl (lv_at hl 1 rfl) ?_
                        obtain ⟨o11, hq12, hf⟩ := xbind hf
                        by_cases hk13 : o11.1 = 0
                        · rw [if_pos hk13] at hf
                          obtain ⟨hm14, hf⟩ := xmoE hf
                          have hFc := xm_free hD hS hA
                          refine va_callq (va_runV (C := "ValueBenchModel") (As := []) (rest := []) ⟨hx, hb, hml, hown, htx⟩ (gM_elements l hl9 D cT aK aV (16 * d) (400 * d) (fM_value d n) (fun sz => ih sz n) H.size n aM ad rd gd vad (xsI (xsI o1 18 ((xsi o1 18) + (1 : Int32))) 16 ((xsi o1 16) + (1 : Int32))) o11 hq12 hk13) ⟨callB_of 0 htx (xw_goodC kw_6_102) rfl rfl rfl (htx _ kw_1_5) (htx _ kw_6_99) ⟨by decide, by decide, by decide +kernel⟩ ⟨(by show (16 * d + 8) + 1 ≤ 16 * (d + 1); omega), (by show 8 + (4 + 11) + (400 * d + 147) ≤ 400 * (d + 1); omega)⟩, (htx _ kw_6_101), (htx _ kp_M_elements)⟩ ⟨xPre_blind, va_recv hK hP (ci := 5) rfl (q0 := 0) rfl, (fun U hU hW => ⟨rfl, xPre_of hZ hS hFc hP hD hK U hU hW⟩)⟩ rfl rfl hl.1 rfl (xm_room (Nat.le_of_ble_eq_true rfl)) dM_value_138 ⟨hm14.1, hm14.2⟩) hS (fun q _ h => hFc q h) hFc (fun r15 u9 t H1 locs ht hvm hr9 hB hz1 hk1 hS => ?_)
                          obtain ⟨hP1, hK1, hD1⟩ := hB
                          rw [ht] at hP1
                          obtain ⟨ad16, gd17, vad18⟩ := u9
                          obtain ⟨hr9, hv19, hn20⟩ := hr9
                          have hP : va_P D xcl (xMw cT aM ad16 rd gd17 vad18 o11.2.2.2.2 []) H1 := hP1
                          have hD : va_D A (xMw cT aM ad16 rd gd17 vad18 o11.2.2.2.2 []) := hD1.weaken (fun k q _ h => hFc q.1 h)
                          generalize H1 = H at hP hS ⊢
                          have hE9 : ∀ p, p < xct st → vad18 p = vad p := fun p h => (hv19 p (Nat.lt_of_lt_of_le h hN)).trans (hE p h)
                          have hE := hE9
                          have hN : xct st ≤ xct o11.2.2.2.2 := Nat.le_trans hN hn20
                          rw [hr9]
                          refine W.eq (g2 := F0 m 141 ls [xv vad18 o11.2.2.2.1]) (by first | rfl | (skip; rfl)) ?_
                          refine lv_goto (tgt := 148) hx hb dM_value_141 (by decide) ?_
                          refine xm_astore_n (lv' := [(2, xv vad18 o11.2.2.2.1), (1, .int o5), (0, .ref aM)]) hx hb (xvor _ _) dM_value_148 rfl hl (by decide) rfl (fun ls hl => ?_)
                          refine lv_aload_n hx hb dM_value_149 rfl (lv_at hl 2 rfl) ?_
                          refine lv_dup hx hb dM_value_150 rfl ?_
                          refine xm_get (v := .int (xsi o11.2.2.2.2 18)) hx hb htx hown hK hP 18 (by decide) rfl (htx _ kw_5_105) rfl dM_value_151 ?_
                          refine lv_iconst (v := 1) hx hb dM_value_154 (by decide) ?_
                          refine lv_isub hx hb dM_value_155 ?_
                          refine xm_put (v := .int ((xsi o11.2.2.2.2 18) - (1 : Int32))) (W' := (xMw cT aM ad16 rd gd17 vad18 (xsI o11.2.2.2.2 18 ((xsi o11.2.2.2.2 18) - (1 : Int32))) [])) (ty := .int) hx hb htx hown hK hP hD hS 18 (by decide) rfl (htx _ kw_5_105) rfl rfl (by decide +kernel) rfl rfl dM_value_156 (fun H locs hP hD hS => ?_)
                          refine xm_aload_n hx hb (xvor _ _) dM_value_159 rfl (lv_at hl 0 rfl) ?_
                          obtain rfl := Option.some.inj hf
                          exact absurd (show (0 : Nat) = 3 from hkd) (by decide)
                        rw [if_neg hk13] at hf
                        by_cases hk21 : o11.1 = 1
                        · rw [if_pos hk21] at hf
                          obtain ⟨hm22, hf⟩ := xmoE hf
                          obtain rfl := Option.some.inj hf
                          exact absurd (show (2 : Nat) = 3 from hkd) (by decide)
                        rw [if_neg hk21] at hf
                        by_cases hk29 : o11.1 = 2
                        · rw [if_pos hk29] at hf
                          obtain ⟨hm30, hf⟩ := xmoE hf
                          obtain rfl := Option.some.inj hf
                          exact absurd (show (1 : Nat) = 3 from hkd) (by decide)
                        rw [if_neg hk29] at hf
                        by_cases hk37 : o11.1 = 3
                        · rw [if_pos hk37] at hf
                          obtain ⟨hm38, hf⟩ := xmoE hf
                          have hFc := xm_free hD hS hA
                          refine xx_thr (vx_runV (C := "ValueBenchModel") (As := []) (rest := []) ⟨hx, hb, hml, hown, htx⟩ (gM_elements_3 l hl9 D cT aK aV (16 * d) (400 * d) (fM_value d n) (fun sz => ih sz n) H.size n aM ad rd gd vad (xsI (xsI o1 18 ((xsi o1 18) + (1 : Int32))) 16 ((xsi o1 16) + (1 : Int32))) o11 hq12 hk37) ⟨callB_of 0 htx (xw_goodC kw_6_102) rfl rfl rfl (htx _ kw_1_5) (htx _ kw_6_99) ⟨by decide, by decide, by decide +kernel⟩ ⟨(by show (16 * d + 8) + 1 ≤ 16 * (d + 1); omega), (by show 8 + (4 + 11) + (400 * d + 147) ≤ 400 * (d + 1); omega)⟩, (htx _ kw_6_101), (htx _ kp_M_elements)⟩ ⟨xPre_blind, va_recv hK hP (ci := 5) rfl (q0 := 0) rfl, (fun U hU hW => ⟨rfl, xPre_of hZ hS hFc hP hD hK U hU hW⟩)⟩ rfl rfl hl.1 rfl (xm_room (Nat.le_of_ble_eq_true rfl)) dM_value_138 ⟨hm38.1, hm38.2⟩) hS hFc (fun q _ h => hFc q h) (fun E ce q9 u9 t H1 locs ht hvm hr9 hB hz1 hk1 hS hce hcv hcl => ?_)
                          obtain ⟨rfl, hP1, hK1, hD1⟩ := hB
                          rw [ht] at hP1
                          obtain ⟨ad40, gd41, vad42⟩ := u9
                          obtain ⟨hv43, hn44⟩ := hr9
                          have hP : va_P D xcl (xMw cT aM ad40 rd gd41 vad42 o11.2.2.2.2 []) H1 := hP1
                          have hD : va_D A (xMw cT aM ad40 rd gd41 vad42 o11.2.2.2.2 []) := hD1.weaken (fun k q _ h => hFc q.1 h)
                          generalize H1 = H at hP hS hce ⊢
                          have hE9 : ∀ p, p < xct st → vad42 p = vad p := fun p h => (hv43 p (Nat.lt_of_lt_of_le h hN)).trans (hE p h)
                          have hE := hE9
                          have hN : xct st ≤ xct o11.2.2.2.2 := Nat.le_trans hN hn44
                          obtain rfl := Option.some.inj hf
                          exact vx_out (E := "java/lang/ArithmeticException") (fun x h => (hne x h).elim) hlocks hce hcv hcl (fun t ht ha => ⟨(ad40, gd41, vad42), ⟨hE, hN⟩, ⟨rfl, by rw [ht]; exact hP, va_K.moved ha hK, hD⟩, hS.F ht⟩) hS.2.2 (Nat.le_refl _) (Nat.le_refl _)
                        rw [if_neg hk37] at hf
                        exact nomatch hf
                    · rw [if_pos hc] at hf
                      refine lv_aload_n hx hb dM_value_103 rfl (lv_at hl 1 rfl) ?_
                      refine lv_aload_n hx hb dM_value_104 rfl (lv_at hl 1 rfl) ?_
                      refine xm_get (v := .int (xsi o1 16)) hx hb htx hown hK hP 16 (by decide) rfl (htx _ kw_5_103) rfl dM_value_105 ?_
                      obtain ⟨o11, hq12, hf⟩ := xbind hf
                      by_cases hk13 : o11.1 = 1
                      · rw [if_pos hk13] at hf
                        obtain ⟨hm14, hf⟩ := xmoE hf
                        obtain rfl := Option.some.inj hf
                        exact absurd (show (1 : Nat) = 3 from hkd) (by decide)
                      rw [if_neg hk13] at hf
                      exact nomatch hf
                  · rw [if_neg hc] at hf
                    refine lv_iload_n hx hb dM_value_86 rfl (lv_at hl 0 rfl) ?_
                    refine lv_bipush (v := 123) hx hb dM_value_87 (by decide) ?_
                    refine lv_icmp_ne (tgt := 103) hx hb dM_value_89 (by decide) (fun hc => ?_) (fun hc => ?_)
                    · rw [if_neg hc] at hf
                      refine lv_aload_n hx hb dM_value_103 rfl (lv_at hl 1 rfl) ?_
                      refine lv_aload_n hx hb dM_value_104 rfl (lv_at hl 1 rfl) ?_
                      refine xm_get (v := .int (xsi o1 16)) hx hb htx hown hK hP 16 (by decide) rfl (htx _ kw_5_103) rfl dM_value_105 ?_
                      obtain ⟨o11, hq12, hf⟩ := xbind hf
                      by_cases hk13 : o11.1 = 1
                      · rw [if_pos hk13] at hf
                        obtain ⟨hm14, hf⟩ := xmoE hf
                        obtain rfl := Option.some.inj hf
                        exact absurd (show (1 : Nat) = 3 from hkd) (by decide)
                      rw [if_neg hk13] at hf
                      exact nomatch hf
                    · rw [if_pos hc] at hf
                      refine lv_aload_n hx hb dM_value_92 rfl (lv_at hl 1 rfl) ?_
                      refine xm_get (v := .int (xsi o1 18)) hx hb htx hown hK hP 18 (by decide) rfl (htx _ kw_5_105) rfl dM_value_93 ?_
                      refine lv_aload_n hx hb dM_value_96 rfl (lv_at hl 1 rfl) ?_
                      refine xm_get (v := .int (xsi o1 19)) hx hb htx hown hK hP 19 (by decide) rfl (htx _ kw_5_106) rfl dM_value_97 ?_
                      refine lv_icmp_ne (tgt := 111) hx hb dM_value_100 (by decide) (fun hc => ?_) (fun hc => ?_)
                      · rw [if_neg hc] at hf
                        refine lv_aload_n hx hb dM_value_111 rfl (lv_at hl 1 rfl) ?_
                        refine lv_dup hx hb dM_value_112 rfl ?_
                        refine xm_get (v := .int (xsi o1 18)) hx hb htx hown hK hP 18 (by decide) rfl (htx _ kw_5_105) rfl dM_value_113 ?_
                        refine lv_iconst (v := 1) hx hb dM_value_116 (by decide) ?_
                        refine lv_iadd hx hb dM_value_117 ?_
                        refine xm_put (v := .int ((xsi o1 18) + (1 : Int32))) (W' := (xMw cT aM ad rd gd vad (xsI o1 18 ((xsi o1 18) + (1 : Int32))) [])) (ty := .int) hx hb htx hown hK hP hD hS 18 (by decide) rfl (htx _ kw_5_105) rfl rfl (by decide +kernel) rfl rfl dM_value_118 (fun H locs hP hD hS => ?_)
                        refine lv_aload_n hx hb dM_value_121 rfl (lv_at hl 1 rfl) ?_
                        refine lv_dup hx hb dM_value_122 rfl ?_
                        refine xm_get (v := .int (xsi o1 16)) hx hb htx hown hK hP 16 (by decide) rfl (htx _ kw_5_103) rfl dM_value_123 ?_
                        refine lv_iconst (v := 1) hx hb dM_value_126 (by decide) ?_
                        refine lv_iadd hx hb dM_value_127 ?_
                        refine xm_put (v := .int ((xsi o1 16) + (1 : Int32))) (W' := (xMw cT aM ad rd gd vad (xsI (xsI o1 18 ((xsi o1 18) + (1 : Int32))) 16 ((xsi o1 16) + (1 : Int32))) [])) (ty := .int) hx hb htx hown hK hP hD hS 16 (by decide) rfl (htx _ kw_5_103) rfl rfl (by decide +kernel) rfl rfl dM_value_128 (fun H locs hP hD hS => ?_)
                        refine lv_iload_n hx hb dM_value_131 rfl (lv_at hl 0 rfl) ?_
                        refine lv_bipush (v := 91) hx hb dM_value_132 (by decide) ?_
                        refine lv_icmp_ne (tgt := 144) hx hb dM_value_134 (by decide) (fun hc => ?_) (fun hc => ?_)
                        · rw [if_neg hc] at hf
                          refine lv_aload_n hx hb dM_value_144 rfl (lv_at hl 1 rfl) ?_
                          obtain ⟨o11, hq12, hf⟩ := xbind hf
                          by_cases hk13 : o11.1 = 0
                          · rw [if_pos hk13] at hf
                            obtain ⟨hm14, hf⟩ := xmoE hf
                            have hFc := xm_free hD hS hA
                            refine va_callq (va_runV (C := "ValueBenchModel") (As := []) (rest := []) ⟨hx, hb, hml, hown, htx⟩ (gM_members l hl9 D cT aK aV (16 * d) (400 * d) (fM_value d n) (fun sz => ih sz n) H.size n aM ad rd gd vad (xsI (xsI o1 18 ((xsi o1 18) + (1 : Int32))) 16 ((xsi o1 16) + (1 : Int32))) o11 hq12 hk13) ⟨callB_of 0 htx (xw_goodC kw_6_116) rfl rfl rfl (htx _ kw_1_5) (htx _ kw_6_113) ⟨by decide, by decide, by decide +kernel⟩ ⟨(by show (16 * d + 9) + 1 ≤ 16 * (d + 1); omega), (by show 8 + (6 + 11) + (400 * d + 167) ≤ 400 * (d + 1); omega)⟩, (htx _ kw_6_115), (htx _ kp_M_members)⟩ ⟨xPre_blind, va_recv hK hP (ci := 5) rfl (q0 := 0) rfl, (fun U hU hW => ⟨rfl, xPre_of hZ hS hFc hP hD hK U hU hW⟩)⟩ rfl rfl hl.1 rfl (xm_room (Nat.le_of_ble_eq_true rfl)) dM_value_145 ⟨hm14.1, hm14.2⟩) hS (fun q _ h => hFc q h) hFc (fun r15 u9 t H1 locs ht hvm hr9 hB hz1 hk1 hS => ?_)
                            obtain ⟨hP1, hK1, hD1⟩ := hB
                            rw [ht] at hP1
                            obtain ⟨ad16, gd17, vad18⟩ := u9
                            obtain ⟨hr9, hv19, hn20⟩ := hr9
                            have hP : va_P D xcl (xMw cT aM ad16 rd gd17 vad18 o11.2.2.2.2 []) H1 := hP1
                            have hD : va_D A (xMw cT aM ad16 rd gd17 vad18 o11.2.2.2.2 []) := hD1.weaken (fun k q _ h => hFc q.1 h)
                            generalize H1 = H at hP hS ⊢
                            have hE9 : ∀ p, p < xct st → vad18 p = vad p := fun p h => (hv19 p (Nat.lt_of_lt_of_le h hN)).trans (hE p h)
                            have hE := hE9
                            have hN : xct st ≤ xct o11.2.2.2.2 := Nat.le_trans hN hn20
                            rw [hr9]
                            refine W.eq (g2 := F0 m 148 ls [xv vad18 o11.2.2.2.1]) (by first | rfl | (skip; rfl)) ?_
                            refine xm_astore_n (lv' := [(2, xv vad18 o11.2.2.2.1), (1, .int o5), (0, .ref aM)]) hx hb (xvor _ _) dM_value_148 rfl hl (by decide) rfl (fun ls hl => ?_)
                            refine lv_aload_n hx hb dM_value_149 rfl (lv_at hl 2 rfl) ?_
                            refine lv_dup hx hb dM_value_150 rfl ?_
                            refine xm_get (v := .int (xsi o11.2.2.2.2 18)) hx hb htx hown hK hP 18 (by decide) rfl (htx _ kw_5_105) rfl dM_value_151 ?_
                            refine lv_iconst (v := 1) hx hb dM_value_154 (by decide) ?_
                            refine lv_isub hx hb dM_value_155 ?_
                            refine xm_put (v := .int ((xsi o11.2.2.2.2 18) - (1 : Int32))) (W' := (xMw cT aM ad16 rd gd17 vad18 (xsI o11.2.2.2.2 18 ((xsi o11.2.2.2.2 18) - (1 : Int32))) [])) (ty := .int) hx hb htx hown hK hP hD hS 18 (by decide) rfl (htx _ kw_5_105) rfl rfl (by decide +kernel) rfl rfl dM_value_156 (fun H locs hP hD hS => ?_)
                            refine xm_aload_n hx hb (xvor _ _) dM_value_159 rfl (lv_at hl 0 rfl) ?_
                            obtain rfl := Option.some.inj hf
                            exact absurd (show (0 : Nat) = 3 from hkd) (by decide)
                          rw [if_neg hk13] at hf
                          by_cases hk21 : o11.1 = 1
                          · rw [if_pos hk21] at hf
                            obtain ⟨hm22, hf⟩ := xmoE hf
                            obtain rfl := Option.some.inj hf
                            exact absurd (show (2 : Nat) = 3 from hkd) (by decide)
                          rw [if_neg hk21] at hf
                          by_cases hk29 : o11.1 = 2
                          · rw [if_pos hk29] at hf
                            obtain ⟨hm30, hf⟩ := xmoE hf
                            obtain rfl := Option.some.inj hf
                            exact absurd (show (1 : Nat) = 3 from hkd) (by decide)
                          rw [if_neg hk29] at hf
                          by_cases hk37 : o11.1 = 3
                          · rw [if_pos hk37] at hf
                            obtain ⟨hm38, hf⟩ := xmoE hf
                            have hFc := xm_free hD hS hA
                            refine xx_thr (vx_runV (C := "ValueBenchModel") (As := []) (rest := []) ⟨hx, hb, hml, hown, htx⟩ (gM_members_3 l hl9 D cT aK aV (16 * d) (400 * d) (fM_value d n) (fun sz => ih sz n) H.size n aM ad rd gd vad (xsI (xsI o1 18 ((xsi o1 18) + (1 : Int32))) 16 ((xsi o1 16) + (1 : Int32))) o11 hq12 hk37) ⟨callB_of 0 htx (xw_goodC kw_6_116) rfl rfl rfl (htx _ kw_1_5) (htx _ kw_6_113) ⟨by decide, by decide, by decide +kernel⟩ ⟨(by show (16 * d + 9) + 1 ≤ 16 * (d + 1); omega), (by show 8 + (6 + 11) + (400 * d + 167) ≤ 400 * (d + 1); omega)⟩, (htx _ kw_6_115), (htx _ kp_M_members)⟩ ⟨xPre_blind, va_recv hK hP (ci := 5) rfl (q0 := 0) rfl, (fun U hU hW => ⟨rfl, xPre_of hZ hS hFc hP hD hK U hU hW⟩)⟩ rfl rfl hl.1 rfl (xm_room (Nat.le_of_ble_eq_true rfl)) dM_value_145 ⟨hm38.1, hm38.2⟩) hS hFc (fun q _ h => hFc q h) (fun E ce q9 u9 t H1 locs ht hvm hr9 hB hz1 hk1 hS hce hcv hcl => ?_)
                            obtain ⟨rfl, hP1, hK1, hD1⟩ := hB
                            rw [ht] at hP1
                            obtain ⟨ad40, gd41, vad42⟩ := u9
                            obtain ⟨hv43, hn44⟩ := hr9
                            have hP : va_P D xcl (xMw cT aM ad40 rd gd41 vad42 o11.2.2.2.2 []) H1 := hP1
                            have hD : va_D A (xMw cT aM ad40 rd gd41 vad42 o11.2.2.2.2 []) := hD1.weaken (fun k q _ h => hFc q.1 h)
                            generalize H1 = H at hP hS hce ⊢
                            have hE9 : ∀ p, p < xct st → vad42 p = vad p := fun p h => (hv43 p (Nat.lt_of_lt_of_le h hN)).trans (hE p h)
                            have hE := hE9
                            have hN : xct st ≤ xct o11.2.2.2.2 := Nat.le_trans hN hn44
                            obtain rfl := Option.some.inj hf
                            exact vx_out (E := "java/lang/ArithmeticException") (fun x h => (hne x h).elim) hlocks hce hcv hcl (fun t ht ha => ⟨(ad40, gd41, vad42), ⟨hE, hN⟩, ⟨rfl, by rw [ht]; exact hP, va_K.moved ha hK, hD⟩, hS.F ht⟩) hS.2.2 (Nat.le_refl _) (Nat.le_refl _)
                          rw [if_neg hk37] at hf
                          exact nomatch hf
                        · rw [if_pos hc] at hf
                          refine lv_aload_n hx hb dM_value_137 rfl (lv_at hl 1 rfl) ?_
                          obtain ⟨o11, hq12, hf⟩ := xbind hf
                          by_cases hk13 : o11.1 = 0
                          · rw [if_pos hk13] at hf
                            obtain ⟨hm14, hf⟩ := xmoE hf
                            have hFc := xm_free hD hS hA
                            refine va_callq (va_runV (C := "ValueBenchModel") (As := []) (rest := []) ⟨hx, hb, hml, hown, htx⟩ (gM_elements l hl9 D cT aK aV (16 * d) (400 * d) (fM_value d n) (fun sz => ih sz n) H.size n aM ad rd gd vad (xsI (xsI o1 18 ((xsi o1 18) + (1 : Int32))) 16 ((xsi o1 16) + (1 : Int32))) o11 hq12 hk13) ⟨callB_of 0 htx (xw_goodC kw_6_102) rfl rfl rfl (htx _ kw_1_5) (htx _ kw_6_99) ⟨by decide, by decide, by decide +kernel⟩ ⟨(by show (16 * d + 8) + 1 ≤ 16 * (d + 1); omega), (by show 8 + (4 + 11) + (400 * d + 147) ≤ 400 * (d + 1); omega)⟩, (htx _ kw_6_101), (htx _ kp_M_elements)⟩ ⟨xPre_blind, va_recv hK hP (ci := 5) rfl (q0 := 0) rfl, (fun U hU hW => ⟨rfl, xPre_of hZ hS hFc hP hD hK U hU hW⟩)⟩ rfl rfl hl.1 rfl (xm_room (Nat.le_of_ble_eq_true rfl)) dM_value_138 ⟨hm14.1, hm14.2⟩) hS (fun q _ h => hFc q h) hFc (fun r15 u9 t H1 locs ht hvm hr9 hB hz1 hk1 hS => ?_)
                            obtain ⟨hP1, hK1, hD1⟩ := hB
                            rw [ht] at hP1
                            obtain ⟨ad16, gd17, vad18⟩ := u9
                            obtain ⟨hr9, hv19, hn20⟩ := hr9
                            have hP : va_P D xcl (xMw cT aM ad16 rd gd17 vad18 o11.2.2.2.2 []) H1 := hP1
                            have hD : va_D A (xMw cT aM ad16 rd gd17 vad18 o11.2.2.2.2 []) := hD1.weaken (fun k q _ h => hFc q.1 h)
                            generalize H1 = H at hP hS ⊢
                            have hE9 : ∀ p, p < xct st → vad18 p = vad p := fun p h => (hv19 p (Nat.lt_of_lt_of_le h hN)).trans (hE p h)
                            have hE := hE9
                            have hN : xct st ≤ xct o11.2.2.2.2 := Nat.le_trans hN hn20
                            rw [hr9]
                            refine W.eq (g2 := F0 m 141 ls [xv vad18 o11.2.2.2.1]) (by first | rfl | (skip; rfl)) ?_
                            refine lv_goto (tgt := 148) hx hb dM_value_141 (by decide) ?_
                            refine xm_astore_n (lv' := [(2, xv vad18 o11.2.2.2.1), (1, .int o5), (0, .ref aM)]) hx hb (xvor _ _) dM_value_148 rfl hl (by decide) rfl (fun ls hl => ?_)
                            refine lv_aload_n hx hb dM_value_149 rfl (lv_at hl 2 rfl) ?_
                            refine lv_dup hx hb dM_value_150 rfl ?_
                            refine xm_get (v := .int (xsi o11.2.2.2.2 18)) hx hb htx hown hK hP 18 (by decide) rfl (htx _ kw_5_105) rfl dM_value_151 ?_
                            refine lv_iconst (v := 1) hx hb dM_value_154 (by decide) ?_
                            refine lv_isub hx hb dM_value_155 ?_
                            refine xm_put (v := .int ((xsi o11.2.2.2.2 18) - (1 : Int32))) (W' := (xMw cT aM ad16 rd gd17 vad18 (xsI o11.2.2.2.2 18 ((xsi o11.2.2.2.2 18) - (1 : Int32))) [])) (ty := .int) hx hb htx hown hK hP hD hS 18 (by decide) rfl (htx _ kw_5_105) rfl rfl (by decide +kernel) rfl rfl dM_value_156 (fun H locs hP hD hS => ?_)
                            refine xm_aload_n hx hb (xvor _ _) dM_value_159 rfl (lv_at hl 0 rfl) ?_
                            obtain rfl := Option.some.inj hf
                            exact absurd (show (0 : Nat) = 3 from hkd) (by decide)
                          rw [if_neg hk13] at hf
                          by_cases hk21 : o11.1 = 1
                          · rw [if_pos hk21] at hf
                            obtain ⟨hm22, hf⟩ := xmoE hf
                            obtain rfl := Option.some.inj hf
                            exact absurd (show (2 : Nat) = 3 from hkd) (by decide)
                          rw [if_neg hk21] at hf
                          by_cases hk29 : o11.1 = 2
                          · rw [if_pos hk29] at hf
                            obtain ⟨hm30, hf⟩ := xmoE hf
                            obtain rfl := Option.some.inj hf
                            exact absurd (show (1 : Nat) = 3 from hkd) (by decide)
                          rw [if_neg hk29] at hf
                          by_cases hk37 : o11.1 = 3
                          · rw [if_pos hk37] at hf
                            obtain ⟨hm38, hf⟩ := xmoE hf
                            have hFc := xm_free hD hS hA
                            refine xx_thr (vx_runV (C := "ValueBenchModel") (As := []) (rest := []) ⟨hx, hb, hml, hown, htx⟩ (gM_elements_3 l hl9 D cT aK aV (16 * d) (400 * d) (fM_value d n) (fun sz => ih sz n) H.size n aM ad rd gd vad (xsI (xsI o1 18 ((xsi o1 18) + (1 : Int32))) 16 ((xsi o1 16) + (1 : Int32))) o11 hq12 hk37) ⟨callB_of 0 htx (xw_goodC kw_6_102) rfl rfl rfl (htx _ kw_1_5) (htx _ kw_6_99) ⟨by decide, by decide, by decide +kernel⟩ ⟨(by show (16 * d + 8) + 1 ≤ 16 * (d + 1); omega), (by show 8 + (4 + 11) + (400 * d + 147) ≤ 400 * (d + 1); omega)⟩, (htx _ kw_6_101), (htx _ kp_M_elements)⟩ ⟨xPre_blind, va_recv hK hP (ci := 5) rfl (q0 := 0) rfl, (fun U hU hW => ⟨rfl, xPre_of hZ hS hFc hP hD hK U hU hW⟩)⟩ rfl rfl hl.1 rfl (xm_room (Nat.le_of_ble_eq_true rfl)) dM_value_138 ⟨hm38.1, hm38.2⟩) hS hFc (fun q _ h => hFc q h) (fun E ce q9 u9 t H1 locs ht hvm hr9 hB hz1 hk1 hS hce hcv hcl => ?_)
                            obtain ⟨rfl, hP1, hK1, hD1⟩ := hB
                            rw [ht] at hP1
                            obtain ⟨ad40, gd41, vad42⟩ := u9
                            obtain ⟨hv43, hn44⟩ := hr9
                            have hP : va_P D xcl (xMw cT aM ad40 rd gd41 vad42 o11.2.2.2.2 []) H1 := hP1
                            have hD : va_D A (xMw cT aM ad40 rd gd41 vad42 o11.2.2.2.2 []) := hD1.weaken (fun k q _ h => hFc q.1 h)
                            generalize H1 = H at hP hS hce ⊢
                            have hE9 : ∀ p, p < xct st → vad42 p = vad p := fun p h => (hv43 p (Nat.lt_of_lt_of_le h hN)).trans (hE p h)
                            have hE := hE9
                            have hN : xct st ≤ xct o11.2.2.2.2 := Nat.le_trans hN hn44
                            obtain rfl := Option.some.inj hf
                            exact vx_out (E := "java/lang/ArithmeticException") (fun x h => (hne x h).elim) hlocks hce hcv hcl (fun t ht ha => ⟨(ad40, gd41, vad42), ⟨hE, hN⟩, ⟨rfl, by rw [ht]; exact hP, va_K.moved ha hK, hD⟩, hS.F ht⟩) hS.2.2 (Nat.le_refl _) (Nat.le_refl _)
                          rw [if_neg hk37] at hf
                          exact nomatch hf
                      · rw [if_pos hc] at hf
                        refine lv_aload_n hx hb dM_value_103 rfl (lv_at hl 1 rfl) ?_
                        refine lv_aload_n hx hb dM_value_104 rfl (lv_at hl 1 rfl) ?_
                        refine xm_get (v := .int (xsi o1 16)) hx hb htx hown hK hP 16 (by decide) rfl (htx _ kw_5_103) rfl dM_value_105 ?_
                        obtain ⟨o11, hq12, hf⟩ := xbind hf
                        by_cases hk13 : o11.1 = 1
                        · rw [if_pos hk13] at hf
                          obtain ⟨hm14, hf⟩ := xmoE hf
                          obtain rfl := Option.some.inj hf
                          exact absurd (show (1 : Nat) = 3 from hkd) (by decide)
                        rw [if_neg hk13] at hf
                        exact nomatch hf
                · rw [if_neg hc] at hf
                  refine lv_aload_n hx hb dM_value_75 rfl (lv_at hl 1 rfl) ?_
                  obtain ⟨o11, hq12, hf⟩ := xbind hf
                  by_cases hk13 : o11.1 = 0
                  · rw [if_pos hk13] at hf
                    obtain ⟨hm14, hf⟩ := xmoE hf
                    have hFc := xm_free hD hS hA
                    refine va_callq (va_runV (C := "ValueBenchModel") (As := []) (rest := []) ⟨hx, hb, hml, hown, htx⟩ (gM_jsonNumber l hl9 D cT aK aV H.size n aM ad rd gd vad o1 o11 hq12 hk13) ⟨callB_of 0 htx (xw_goodC kw_6_77) rfl rfl rfl (htx _ kw_1_5) (htx _ kw_6_74) ⟨by decide, by decide, by decide +kernel⟩ ⟨Nat.le_of_ble_eq_true rfl, Nat.le_of_ble_eq_true rfl⟩, (htx _ kw_6_76), (htx _ kp_M_jsonNumber)⟩ ⟨xPre_blind, va_recv hK hP (ci := 5) rfl (q0 := 0) rfl, (fun U hU hW => ⟨rfl, xPre_of hZ hS hFc hP hD hK U hU hW⟩)⟩ rfl rfl hl.1 rfl (xm_room (Nat.le_of_ble_eq_true rfl)) dM_value_76 ⟨hm14.1, hm14.2⟩) hS (fun q _ h => hFc q h) hFc (fun r15 u9 t H1 locs ht hvm hr9 hB hz1 hk1 hS => ?_)
                    obtain ⟨hP1, hK1, hD1⟩ := hB
                    rw [ht] at hP1
                    obtain ⟨ad16, gd17, vad18⟩ := u9
                    obtain ⟨hr9, hv19, hn20⟩ := hr9
                    have hP : va_P D xcl (xMw cT aM ad16 rd gd17 vad18 o11.2.2.2.2 []) H1 := hP1
                    have hD : va_D A (xMw cT aM ad16 rd gd17 vad18 o11.2.2.2.2 []) := hD1.weaken (fun k q _ h => hFc q.1 h)
                    generalize H1 = H at hP hS ⊢
                    have hE9 : ∀ p, p < xct st → vad18 p = vad p := fun p h => (hv19 p (Nat.lt_of_lt_of_le h hN)).trans (hE p h)
                    have hE := hE9
                    have hN : xct st ≤ xct o11.2.2.2.2 := Nat.le_trans hN hn20
                    rw [hr9]
                    refine W.eq (g2 := F0 m 79 ls [xv vad18 o11.2.2.2.1]) (by first | rfl | (skip; rfl)) ?_
                    obtain rfl := Option.some.inj hf
                    exact absurd (show (0 : Nat) = 3 from hkd) (by decide)
                  rw [if_neg hk13] at hf
                  by_cases hk21 : o11.1 = 1
                  · rw [if_pos hk21] at hf
                    obtain ⟨hm22, hf⟩ := xmoE hf
                    have hFc := xm_free hD hS hA
                    refine xx_thr (vx_runV (C := "ValueBenchModel") (As := []) (rest := []) ⟨hx, hb, hml, hown, htx⟩ (gM_jsonNumber_1 l hl9 D cT aK aV H.size n aM ad rd gd vad o1 o11 hq12 hk21) ⟨callB_of 0 htx (xw_goodC kw_6_77) rfl rfl rfl (htx _ kw_1_5) (htx _ kw_6_74) ⟨by decide, by decide, by decide +kernel⟩ ⟨Nat.le_of_ble_eq_true rfl, Nat.le_of_ble_eq_true rfl⟩, (htx _ kw_6_76), (htx _ kp_M_jsonNumber)⟩ ⟨xPre_blind, va_recv hK hP (ci := 5) rfl (q0 := 0) rfl, (fun U hU hW => ⟨rfl, xPre_of hZ hS hFc hP hD hK U hU hW⟩)⟩ rfl rfl hl.1 rfl (xm_room (Nat.le_of_ble_eq_true rfl)) dM_value_76 ⟨hm22.1, hm22.2⟩) hS hFc (fun q _ h => hFc q h) (fun E ce q9 u9 t H1 locs ht hvm hr9 hB hz1 hk1 hS hce hcv hcl => ?_)
                    obtain ⟨rfl, hP1, hK1, hD1⟩ := hB
                    rw [ht] at hP1
                    obtain ⟨ad24, gd25, vad26⟩ := u9
                    obtain ⟨hv27, hn28⟩ := hr9
                    have hP : va_P D xcl (xMw cT aM ad24 rd gd25 vad26 o11.2.2.2.2 []) H1 := hP1
                    have hD : va_D A (xMw cT aM ad24 rd gd25 vad26 o11.2.2.2.2 []) := hD1.weaken (fun k q _ h => hFc q.1 h)
                    generalize H1 = H at hP hS hce ⊢
                    have hE9 : ∀ p, p < xct st → vad26 p = vad p := fun p h => (hv27 p (Nat.lt_of_lt_of_le h hN)).trans (hE p h)
                    have hE := hE9
                    have hN : xct st ≤ xct o11.2.2.2.2 := Nat.le_trans hN hn28
                    obtain rfl := Option.some.inj hf
                    exact vx_out (E := "java/lang/ArithmeticException") (fun x h => (hne x h).elim) hlocks hce hcv hcl (fun t ht ha => ⟨(ad24, gd25, vad26), ⟨hE, hN⟩, ⟨rfl, by rw [ht]; exact hP, va_K.moved ha hK, hD⟩, hS.F ht⟩) hS.2.2 (Nat.le_refl _) (Nat.le_refl _)
                  rw [if_neg hk21] at hf
                  by_cases hk29 : o11.1 = 2
                  · rw [if_pos hk29] at hf
                    obtain ⟨hm30, hf⟩ := xmoE hf
                    obtain rfl := Option.some.inj hf
                    exact absurd (show (1 : Nat) = 3 from hkd) (by decide)
                  rw [if_neg hk29] at hf
                  exact nomatch hf
            · rw [if_pos hc] at hf
              refine lv_aload_n hx hb dM_value_57 rfl (lv_at hl 1 rfl) ?_
              obtain ⟨o8, hq9, hf⟩ := xbind hf
              by_cases hk10 : o8.1 = 0
              · rw [if_pos hk10] at hf
                obtain ⟨hm11, hf⟩ := xmoE hf
                have hFc := xm_free hD hS hA
                refine va_callq (va_runV (C := "ValueBenchModel") (As := []) (rest := []) ⟨hx, hb, hml, hown, htx⟩ (gM_jsonString l hl9 D cT aK aV H.size n aM ad rd gd vad o1 o8 hq9 hk10) ⟨callB_of 0 htx (xw_goodC kw_6_46) rfl rfl rfl (htx _ kw_1_5) (htx _ kw_6_43) ⟨by decide, by decide, by decide +kernel⟩ ⟨Nat.le_of_ble_eq_true rfl, Nat.le_of_ble_eq_true rfl⟩, (htx _ kw_6_45), (htx _ kp_M_jsonString)⟩ ⟨xPre_blind, va_recv hK hP (ci := 5) rfl (q0 := 0) rfl, (fun U hU hW => ⟨rfl, xPre_of hZ hS hFc hP hD hK U hU hW⟩)⟩ rfl rfl hl.1 rfl (xm_room (Nat.le_of_ble_eq_true rfl)) dM_value_58 ⟨hm11.1, hm11.2⟩) hS (fun q _ h => hFc q h) hFc (fun r12 u9 t H1 locs ht hvm hr9 hB hz1 hk1 hS => ?_)
                obtain ⟨hP1, hK1, hD1⟩ := hB
                rw [ht] at hP1
                obtain ⟨ad13, gd14, vad15⟩ := u9
                obtain ⟨hr9, hv16, hn17⟩ := hr9
                have hP : va_P D xcl (xMw cT aM ad13 rd gd14 vad15 o8.2.2.2.2 []) H1 := hP1
                have hD : va_D A (xMw cT aM ad13 rd gd14 vad15 o8.2.2.2.2 []) := hD1.weaken (fun k q _ h => hFc q.1 h)
                generalize H1 = H at hP hS ⊢
                have hE9 : ∀ p, p < xct st → vad15 p = vad p := fun p h => (hv16 p (Nat.lt_of_lt_of_le h hN)).trans (hE p h)
                have hE := hE9
                have hN : xct st ≤ xct o8.2.2.2.2 := Nat.le_trans hN hn17
                rw [hr9]
                refine W.eq (g2 := F0 m 61 ls [xv vad15 o8.2.2.2.1]) (by first | rfl | (skip; rfl)) ?_
                obtain rfl := Option.some.inj hf
                exact absurd (show (0 : Nat) = 3 from hkd) (by decide)
              rw [if_neg hk10] at hf
              by_cases hk18 : o8.1 = 1
              · rw [if_pos hk18] at hf
                obtain ⟨hm19, hf⟩ := xmoE hf
                obtain rfl := Option.some.inj hf
                exact absurd (show (2 : Nat) = 3 from hkd) (by decide)
              rw [if_neg hk18] at hf
              by_cases hk26 : o8.1 = 2
              · rw [if_pos hk26] at hf
                obtain ⟨hm27, hf⟩ := xmoE hf
                obtain rfl := Option.some.inj hf
                exact absurd (show (1 : Nat) = 3 from hkd) (by decide)
              rw [if_neg hk26] at hf
              exact nomatch hf
          · rw [if_pos hc] at hf
            refine lv_aload_n hx hb dM_value_43 rfl (lv_at hl 1 rfl) ?_
            refine va_ldcS (q := aK 11) hx hb hown (hZ.2.2.2.2.2.2.2.2.1 ("ValueBenchModel", 238, "false", 11) (List.mem_of_getElem? (i := 19) rfl)) dM_value_44 ?_
            refine lv_iconst (v := 1) hx hb dM_value_46 (by decide) ?_
            obtain ⟨o8, hq9, hf⟩ := xbind hf
            by_cases hk10 : o8.1 = 0
            · rw [if_pos hk10] at hf
              obtain ⟨hm11, hf⟩ := xmoE hf
              have hFc := xm_free hD hS hA
              refine va_callq (va_runV (C := "ValueBenchModel") (As := [.ref (aK 11), .int 1]) (rest := []) ⟨hx, hb, hml, hown, htx⟩ (gM_says l hl9 D cT aK aV H.size n aM ad rd gd vad o1 (1 : Int32) o8 hq9 hk10) ⟨callB_of 2 htx (xw_goodC kw_5_237) rfl rfl rfl (htx _ kw_1_5) (htx _ kw_5_234) ⟨by decide, by decide, by decide +kernel⟩ ⟨Nat.le_of_ble_eq_true rfl, Nat.le_of_ble_eq_true rfl⟩, (htx _ kw_5_236), (htx _ kp_M_says)⟩ ⟨xPre_blind, va_recv hK hP (ci := 5) rfl (q0 := 0) rfl, (fun U hU hW => ⟨rfl, xPre_of hZ hS hFc hP hD hK U hU hW⟩)⟩ rfl rfl hl.1 rfl (xm_room (Nat.le_of_ble_eq_true rfl)) dM_value_47 ⟨hm11.1, hm11.2⟩) hS (fun q _ h => hFc q h) hFc (fun r12 u9 t H1 locs ht hvm hr9 hB hz1 hk1 hS => ?_)
              obtain ⟨hP1, hK1, hD1⟩ := hB
              rw [ht] at hP1
              obtain ⟨ad13, gd14, vad15⟩ := u9
              obtain ⟨hr9, hv16, hn17⟩ := hr9
              have hP : va_P D xcl (xMw cT aM ad13 rd gd14 vad15 o8.2.2.2.2 []) H1 := hP1
              have hD : va_D A (xMw cT aM ad13 rd gd14 vad15 o8.2.2.2.2 []) := hD1.weaken (fun k q _ h => hFc q.1 h)
              generalize H1 = H at hP hS ⊢
              have hE9 : ∀ p, p < xct st → vad15 p = vad p := fun p h => (hv16 p (Nat.lt_of_lt_of_le h hN)).trans (hE p h)
              have hE := hE9
              have hN : xct st ≤ xct o8.2.2.2.2 := Nat.le_trans hN hn17
              rw [hr9]
              refine W.eq (g2 := F0 m 50 ls [xv vad15 o8.2.2.2.1]) (by first | rfl | (skip; rfl)) ?_
              obtain rfl := Option.some.inj hf
              exact absurd (show (0 : Nat) = 3 from hkd) (by decide)
            rw [if_neg hk10] at hf
            by_cases hk18 : o8.1 = 1
            · rw [if_pos hk18] at hf
              obtain ⟨hm19, hf⟩ := xmoE hf
              obtain rfl := Option.some.inj hf
              exact absurd (show (1 : Nat) = 3 from hkd) (by decide)
            rw [if_neg hk18] at hf
            exact nomatch hf
        · rw [if_pos hc] at hf
          refine lv_aload_n hx hb dM_value_29 rfl (lv_at hl 1 rfl) ?_
          refine va_ldcS (q := aK 12) hx hb hown (hZ.2.2.2.2.2.2.2.2.1 ("ValueBenchModel", 236, "true", 12) (List.mem_of_getElem? (i := 18) rfl)) dM_value_30 ?_
          refine lv_iconst (v := 2) hx hb dM_value_32 (by decide) ?_
          obtain ⟨o8, hq9, hf⟩ := xbind hf
          by_cases hk10 : o8.1 = 0
          · rw [if_pos hk10] at hf
            obtain ⟨hm11, hf⟩ := xmoE hf
            have hFc := xm_free hD hS hA
            refine va_callq (va_runV (C := "ValueBenchModel") (As := [.ref (aK 12), .int 2]) (rest := []) ⟨hx, hb, hml, hown, htx⟩ (gM_saysa l hl9 D cT aK aV H.size n aM ad rd gd vad o1 (2 : Int32) o8 hq9 hk10) ⟨callB_of 2 htx (xw_goodC kw_5_237) rfl rfl rfl (htx _ kw_1_5) (htx _ kw_5_234) ⟨by decide, by decide, by decide +kernel⟩ ⟨Nat.le_of_ble_eq_true rfl, Nat.le_of_ble_eq_true rfl⟩, (htx _ kw_5_236), (htx _ kp_M_says)⟩ ⟨xPre_blind, va_recv hK hP (ci := 5) rfl (q0 := 0) rfl, (fun U hU hW => ⟨rfl, xPre_of hZ hS hFc hP hD hK U hU hW⟩)⟩ rfl rfl hl.1 rfl (xm_room (Nat.le_of_ble_eq_true rfl)) dM_value_33 ⟨hm11.1, hm11.2⟩) hS (fun q _ h => hFc q h) hFc (fun r12 u9 t H1 locs ht hvm hr9 hB hz1 hk1 hS => ?_)
            obtain ⟨hP1, hK1, hD1⟩ := hB
            rw [ht] at hP1
            obtain ⟨ad13, gd14, vad15⟩ := u9
            obtain ⟨hr9, hv16, hn17⟩ := hr9
            have hP : va_P D xcl (xMw cT aM ad13 rd gd14 vad15 o8.2.2.2.2 []) H1 := hP1
            have hD : va_D A (xMw cT aM ad13 rd gd14 vad15 o8.2.2.2.2 []) := hD1.weaken (fun k q _ h => hFc q.1 h)
            generalize H1 = H at hP hS ⊢
            have hE9 : ∀ p, p < xct st → vad15 p = vad p := fun p h => (hv16 p (Nat.lt_of_lt_of_le h hN)).trans (hE p h)
            have hE := hE9
            have hN : xct st ≤ xct o8.2.2.2.2 := Nat.le_trans hN hn17
            rw [hr9]
            refine W.eq (g2 := F0 m 36 ls [xv vad15 o8.2.2.2.1]) (by first | rfl | (skip; rfl)) ?_
            obtain rfl := Option.some.inj hf
            exact absurd (show (0 : Nat) = 3 from hkd) (by decide)
          rw [if_neg hk10] at hf
          by_cases hk18 : o8.1 = 1
          · rw [if_pos hk18] at hf
            obtain ⟨hm19, hf⟩ := xmoE hf
            obtain rfl := Option.some.inj hf
            exact absurd (show (1 : Nat) = 3 from hkd) (by decide)
          rw [if_neg hk18] at hf
          exact nomatch hf
      · rw [if_pos hc] at hf
        refine lv_aload_n hx hb dM_value_15 rfl (lv_at hl 1 rfl) ?_
        refine va_ldcS (q := aK 10) hx hb hown (hZ.2.2.2.2.2.2.2.2.1 ("ValueBenchModel", 69, "null", 10) (List.mem_of_getElem? (i := 17) rfl)) dM_value_16 ?_
        refine lv_iconst (v := 0) hx hb dM_value_18 (by decide) ?_
        obtain ⟨o8, hq9, hf⟩ := xbind hf
        by_cases hk10 : o8.1 = 0
        · rw [if_pos hk10] at hf
          obtain ⟨hm11, hf⟩ := xmoE hf
          have hFc := xm_free hD hS hA
          refine va_callq (va_runV (C := "ValueBenchModel") (As := [.ref (aK 10), .int 0]) (rest := []) ⟨hx, hb, hml, hown, htx⟩ (gM_saysb l hl9 D cT aK aV H.size n aM ad rd gd vad o1 (0 : Int32) o8 hq9 hk10) ⟨callB_of 2 htx (xw_goodC kw_5_237) rfl rfl rfl (htx _ kw_1_5) (htx _ kw_5_234) ⟨by decide, by decide, by decide +kernel⟩ ⟨Nat.le_of_ble_eq_true rfl, Nat.le_of_ble_eq_true rfl⟩, (htx _ kw_5_236), (htx _ kp_M_says)⟩ ⟨xPre_blind, va_recv hK hP (ci := 5) rfl (q0 := 0) rfl, (fun U hU hW => ⟨rfl, xPre_of hZ hS hFc hP hD hK U hU hW⟩)⟩ rfl rfl hl.1 rfl (xm_room (Nat.le_of_ble_eq_true rfl)) dM_value_19 ⟨hm11.1, hm11.2⟩) hS (fun q _ h => hFc q h) hFc (fun r12 u9 t H1 locs ht hvm hr9 hB hz1 hk1 hS => ?_)
          obtain ⟨hP1, hK1, hD1⟩ := hB
          rw [ht] at hP1
          obtain ⟨ad13, gd14, vad15⟩ := u9
          obtain ⟨hr9, hv16, hn17⟩ := hr9
          have hP : va_P D xcl (xMw cT aM ad13 rd gd14 vad15 o8.2.2.2.2 []) H1 := hP1
          have hD : va_D A (xMw cT aM ad13 rd gd14 vad15 o8.2.2.2.2 []) := hD1.weaken (fun k q _ h => hFc q.1 h)
          generalize H1 = H at hP hS ⊢
          have hE9 : ∀ p, p < xct st → vad15 p = vad p := fun p h => (hv16 p (Nat.lt_of_lt_of_le h hN)).trans (hE p h)
          have hE := hE9
          have hN : xct st ≤ xct o8.2.2.2.2 := Nat.le_trans hN hn17
          rw [hr9]
          refine W.eq (g2 := F0 m 22 ls [xv vad15 o8.2.2.2.1]) (by first | rfl | (skip; rfl)) ?_
          obtain rfl := Option.some.inj hf
          exact absurd (show (0 : Nat) = 3 from hkd) (by decide)
        rw [if_neg hk10] at hf
        by_cases hk18 : o8.1 = 1
        · rw [if_pos hk18] at hf
          obtain ⟨hm19, hf⟩ := xmoE hf
          obtain rfl := Option.some.inj hf
          exact absurd (show (1 : Nat) = 3 from hkd) (by decide)
        rw [if_neg hk18] at hf
        exact nomatch hf
