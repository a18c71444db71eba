set_option maxHeartbeats 400000000 in
set_option maxRecDepth 100000 in
theorem gM_fromJson (l : Launch) (hl9 : l.stackTraces = false) (D : va_G) (cT : Nat → ClassId) (aK aV : Nat → Nat) (sz d n : Nat) (aM : Nat) (ad rd gd vad : Nat → Nat) (st : xS) (c0 : Nat) (out : Nat × Nat × Nat × Nat × xS) (hf : fM_fromJson d n st c0 = some out) (hkd : out.1 = 0) : xMet l yM_fromJson wyM_fromJson (16 * d + 8) out.2.1 out.2.2.1 (400 * d + 145) D cT aK aV sz [.ref aM, xv vad c0] (xMw cT aM ad rd gd vad st []) (fun A => va_Qq (fun (r : Option Nat) (u : xU) => r = xca u.2.2 out.2.2.2.1 ∧ xE vad st out.2.2.2.2 u) (fun u t => xB D xcl cT A (xMw cT aM u.1 rd u.2.1 u.2.2 out.2.2.2.2 []) t) A) := by
  refine va_MetW (cc := prog_13_method_60_code) (maxL := 10) (ret := (some (.object "ValueBenchModel$V"))) (hh := [(49, 72, 75, 205)]) (by decide) rfl ?_
  intro p e s m args below meth c s₁ B hml hv
  obtain ⟨rfl, hsz, hZ, hP, hK, hD0⟩ := hv
  have hx := B.exec
  have hb := B.bytes
  have hr := B.returns
  have hts := atoms_spec (ws := wyM_fromJson) B.pre
  have htx := fun w h => hts w (List.mem_cons_of_mem _ h)
  have hown : s.vm.findClass "ValueBenchModel" = some m.cls := findClass_of_methodNamed B.named
  have hlocks := B.notSynchronized
  subst hsz
  have hD := hD0.self (sz := s.heap.size)
  generalize hAe : va_A (xMw cT aM ad rd gd vad st []) s.heap.size = A at hD hZ ⊢
  have hA : ∀ q : Nat, s.heap.size ≤ q → A q := fun q h => by rw [← hAe]; exact Or.inr h
  have hS : va_S A s.heap s.heap [] := va_S.rf
  have hl := lv_entry ([.ref aM, xv vad c0]) (n := 10) (by simp [lg_sl, xvcat, xrscat, xcI, xcL, xcR, xcN])
  rw [show lv_args 0 [.ref aM, xv vad c0] = [(0, .ref aM), (1, xv vad c0)] from by simp [lv_args, xvcat, xrscat, xcI, xcL, xcR, xcN]] at hl
  rw [lg_entry_eq]
  generalize (lg_sl ([.ref aM, xv vad c0]) ++ List.replicate (10 - (lg_sl ([.ref aM, xv vad c0])).length) Slot.unset).toArray = ls at hl ⊢
  have hl : lv_has ls 10 [(0, .ref aM), (1, xv vad c0)] := hl
  have htab := vx_table (x := yM_fromJson) B (hts _ List.mem_cons_self)
  have hE : ∀ p, p < xct st → vad p = vad p := fun _ _ => rfl
  have hN : xct st ≤ xct st := Nat.le_refl _
  unfold fM_fromJson at hf
  refine lv_aload_n hx hb dM_fromJson_0 rfl (lv_at hl 0 rfl) ?_
  refine xm_aload_n hx hb (xvor _ _) dM_fromJson_1 rfl (lv_at hl 1 rfl) ?_
  obtain ⟨o1, hq2, hf⟩ := xbind hf
  by_cases hk3 : o1.1 = 0
  · rw [if_pos hk3] at hf
    obtain ⟨hg4, hf⟩ := xifn hf
    obtain ⟨hm5, hf⟩ := xmoE hf
    have hFc := xm_free hD hS hA
    refine va_callq (va_runV (C := "ValueBenchModel") (As := [xv vad c0]) (rest := []) ⟨hx, hb, hml, hown, htx⟩ (gM_text l hl9 D cT aK aV s.heap.size n aM ad rd gd vad st c0 o1 hq2 hk3) ⟨callB_of 1 htx (xw_goodC kw_7_54) rfl rfl rfl (htx _ kw_1_5) (htx _ kw_7_51) ⟨by decide, by decide, by decide +kernel⟩ ⟨Nat.le_of_ble_eq_true rfl, Nat.le_of_ble_eq_true rfl⟩, (htx _ kw_7_53), (htx _ kp_M_text)⟩ ⟨xPre_blind, va_recv hK hP (ci := 5) rfl (q0 := 0) rfl, (fun U hU hW => ⟨rfl, xPre_of hZ hS hFc hP hD hK U hU hW⟩)⟩ rfl rfl hl.1 rfl (xm_room (Nat.le_of_ble_eq_true rfl)) dM_fromJson_2 ⟨hm5.1, hm5.2⟩) hS (fun q _ h => hFc q h) hFc (fun r6 u9 t H1 locs ht hvm hr9 hB hz1 hk1 hS => ?_)
    obtain ⟨hP1, hK1, hD1⟩ := hB
    rw [ht] at hP1
    obtain ⟨ad7, gd8, vad9⟩ := u9
    obtain ⟨hr9, hv10, hn11⟩ := hr9
    have hP : va_P D xcl (xMw cT aM ad7 rd gd8 vad9 o1.2.2.2.2 []) H1 := hP1
    have hD : va_D A (xMw cT aM ad7 rd gd8 vad9 o1.2.2.2.2 []) := hD1.weaken (fun k q _ h => hFc q.1 h)
    generalize H1 = H at hP hS ⊢
    have hE9 : ∀ p, p < xct st → vad9 p = vad p := fun p h => (hv10 p (Nat.lt_of_lt_of_le h hN)).trans (hE p h)
    have hE := hE9
    have hN : xct st ≤ xct o1.2.2.2.2 := Nat.le_trans hN hn11
    have ev12 : xv vad c0 = xv vad9 c0 := xvE hv10 hg4
    have hl : lv_has ls 10 [(0, .ref aM), (1, xv vad9 c0)] := by first | exact hl | ((try (rw [← ev12])); exact hl)
    rw [hr9]
    refine W.eq (g2 := F0 m 5 ls [xv vad9 o1.2.2.2.1]) (by first | rfl | ((try (rw [ev12])); rfl)) ?_
    refine lv_pop hx hb dM_fromJson_5 (xvcat _ _) ?_
    refine lv_aload_n hx hb dM_fromJson_6 rfl (lv_at hl 0 rfl) ?_
    refine xm_get (v := xrs ad7 rd gd8 (xsr o1.2.2.2.2)) hx hb htx hown hK hP 15 (by decide) rfl (htx _ kw_5_102) rfl dM_fromJson_7 ?_
    refine xm_astore_n (lv' := [(2, xrs ad7 rd gd8 (xsr o1.2.2.2.2)), (0, .ref aM), (1, xv vad9 c0)]) hx hb (xrsor _ _ _ _) dM_fromJson_10 rfl hl (by decide) (by simp only [List.filter, xvcat, xrscat, xcI, xcL, xcR, xcN]; rfl) (fun ls hl => ?_)
    refine lv_aload_n hx hb dM_fromJson_11 rfl (lv_at hl 1 rfl) ?_
    refine xm_get (v := .int (xsi o1.2.2.2.2 16)) hx hb htx hown hK hP 16 (by decide) rfl (htx _ kw_5_103) rfl dM_fromJson_12 ?_
    refine lv_istore_n (lv' := [(3, .int (xsi o1.2.2.2.2 16)), (2, xrs ad7 rd gd8 (xsr o1.2.2.2.2)), (0, .ref aM), (1, xv vad9 c0)]) hx hb dM_fromJson_15 rfl hl (by decide) (by simp only [List.filter, xvcat, xrscat, xcI, xcL, xcR, xcN]; rfl) (fun ls hl => ?_)
    refine lv_aload_n hx hb dM_fromJson_16 rfl (lv_at hl 2 rfl) ?_
    refine xm_get (v := .int (xsi o1.2.2.2.2 17)) hx hb htx hown hK hP 17 (by decide) rfl (htx _ kw_5_104) rfl dM_fromJson_17 ?_
    refine lv_istore (lv' := [(4, .int (xsi o1.2.2.2.2 17)), (3, .int (xsi o1.2.2.2.2 16)), (2, xrs ad7 rd gd8 (xsr o1.2.2.2.2)), (0, .ref aM), (1, xv vad9 c0)]) hx hb dM_fromJson_20 hl (by decide) rfl (fun ls hl => ?_)
    refine lv_aload_n hx hb dM_fromJson_22 rfl (lv_at hl 3 rfl) ?_
    refine xm_get (v := .int (xsi o1.2.2.2.2 20)) hx hb htx hown hK hP 20 (by decide) rfl (htx _ kw_5_107) rfl dM_fromJson_23 ?_
    refine lv_istore (lv' := [(5, .int (xsi o1.2.2.2.2 20)), (4, .int (xsi o1.2.2.2.2 17)), (3, .int (xsi o1.2.2.2.2 16)), (2, xrs ad7 rd gd8 (xsr o1.2.2.2.2)), (0, .ref aM), (1, xv vad9 c0)]) hx hb dM_fromJson_26 hl (by decide) rfl (fun ls hl => ?_)
    refine lv_aload_n hx hb dM_fromJson_28 rfl (lv_at hl 4 rfl) ?_
    refine xm_get (v := .int (xsi o1.2.2.2.2 12)) hx hb htx hown hK hP 12 (by decide) rfl (htx _ kw_5_99) rfl dM_fromJson_29 ?_
    refine lv_istore (lv' := [(6, .int (xsi o1.2.2.2.2 12)), (5, .int (xsi o1.2.2.2.2 20)), (4, .int (xsi o1.2.2.2.2 17)), (3, .int (xsi o1.2.2.2.2 16)), (2, xrs ad7 rd gd8 (xsr o1.2.2.2.2)), (0, .ref aM), (1, xv vad9 c0)]) hx hb dM_fromJson_32 hl (by decide) rfl (fun ls hl => ?_)
    refine lv_aload_n hx hb dM_fromJson_34 rfl (lv_at hl 5 rfl) ?_
    refine xm_get (v := .int (xsi o1.2.2.2.2 19)) hx hb htx hown hK hP 19 (by decide) rfl (htx _ kw_5_106) rfl dM_fromJson_35 ?_
    refine lv_istore (lv' := [(7, .int (xsi o1.2.2.2.2 19)), (6, .int (xsi o1.2.2.2.2 12)), (5, .int (xsi o1.2.2.2.2 20)), (4, .int (xsi o1.2.2.2.2 17)), (3, .int (xsi o1.2.2.2.2 16)), (2, xrs ad7 rd gd8 (xsr o1.2.2.2.2)), (0, .ref aM), (1, xv vad9 c0)]) hx hb dM_fromJson_38 hl (by decide) rfl (fun ls hl => ?_)
    refine lv_aload_n hx hb dM_fromJson_40 rfl (lv_at hl 6 rfl) ?_
    refine lv_bipush (v := 40) hx hb dM_fromJson_41 (by decide) ?_
    refine xm_put (v := .int 40) (W' := (xMw cT aM ad7 rd gd8 vad9 (xsI o1.2.2.2.2 19 40) [])) (ty := .int) hx hb htx hown hK hP hD hS 19 (by decide) rfl (htx _ kw_5_106) rfl rfl (by decide +kernel) rfl rfl dM_fromJson_43 (fun H locs hP hD hS => ?_)
    refine lv_null hx hb dM_fromJson_46 ?_
    refine lv_astoreN (lv' := [(8, .null), (7, .int (xsi o1.2.2.2.2 19)), (6, .int (xsi o1.2.2.2.2 12)), (5, .int (xsi o1.2.2.2.2 20)), (4, .int (xsi o1.2.2.2.2 17)), (3, .int (xsi o1.2.2.2.2 16)), (2, xrs ad7 rd gd8 (xsr o1.2.2.2.2)), (0, .ref aM), (1, xv vad9 c0)]) hx hb dM_fromJson_47 hl (by decide) rfl (fun ls hl => ?_)
    refine lv_aload_n hx hb dM_fromJson_49 rfl (lv_at hl 7 rfl) ?_
    refine lv_aload_n hx hb dM_fromJson_50 rfl (lv_at hl 7 rfl) ?_
    refine xm_get (v := .ref (ad7 3)) hx hb htx hown hK hP 3 (by decide) rfl (htx _ kw_5_90) rfl dM_fromJson_51 ?_
    refine xm_aload_n hx hb (xvor _ _) dM_fromJson_54 rfl (lv_at hl 8 rfl) ?_
    obtain ⟨hg13, hf⟩ := xifn hf
    refine xm_vget (v := .int ((xpi o1.2.2.2.2 2) (c0 - 1))) hx hb htx hown hK hP 2 (by decide) hg13 rfl ((hZ.1 (100, "off", "I") (List.mem_of_getElem? (i := 2) rfl)).use rfl) rfl dM_fromJson_55 ?_
    refine xm_aload_n hx hb (xvor _ _) dM_fromJson_58 rfl (lv_at hl 8 rfl) ?_
    refine xm_vget (v := .int ((xpi o1.2.2.2.2 2) (c0 - 1))) hx hb htx hown hK hP 2 (by decide) hg13 rfl ((hZ.1 (100, "off", "I") (List.mem_of_getElem? (i := 2) rfl)).use rfl) rfl dM_fromJson_59 ?_
    refine xm_aload_n hx hb (xvor _ _) dM_fromJson_62 rfl (lv_at hl 8 rfl) ?_
    refine xm_vget (v := .int ((xpi o1.2.2.2.2 3) (c0 - 1))) hx hb htx hown hK hP 3 (by decide) hg13 rfl ((hZ.1 (103, "count", "I") (List.mem_of_getElem? (i := 3) rfl)).use rfl) rfl dM_fromJson_63 ?_
    refine lv_iadd hx hb dM_fromJson_66 ?_
    obtain ⟨o14, hq15, hf⟩ := xbind hf
    have hl := lv_sub (l' := [(8, .null), (7, .int (xsi o1.2.2.2.2 19)), (6, .int (xsi o1.2.2.2.2 12)), (5, .int (xsi o1.2.2.2.2 20)), (4, .int (xsi o1.2.2.2.2 17)), (3, .int (xsi o1.2.2.2.2 16)), (2, xrs ad7 rd gd8 (xsr o1.2.2.2.2)), (0, .ref aM)]) hl [0, 1, 2, 3, 4, 5, 6, 7] rfl
    by_cases hk16 : o14.1 = 0
    · rw [if_pos hk16] at hf
      obtain ⟨hg17, hf⟩ := xifn hf
      obtain ⟨hm18, hf⟩ := xmoE hf
      have hFc := xm_free hD hS hA
      refine va_callq (va_runV (C := "ValueBenchModel") (As := [.ref (ad7 3), .int ((xpi o1.2.2.2.2 2) (c0 - 1)), .int (((xpi o1.2.2.2.2 2) (c0 - 1)) + ((xpi o1.2.2.2.2 3) (c0 - 1)))]) (rest := []) ⟨hx, hb, hml, hown, htx⟩ (gM_json l hl9 D cT aK aV H.size d n aM ad7 rd gd8 vad9 (xsI o1.2.2.2.2 19 40) 3 ((xpi o1.2.2.2.2 2) (c0 - 1)) (((xpi o1.2.2.2.2 2) (c0 - 1)) + ((xpi o1.2.2.2.2 3) (c0 - 1))) o14 hq15 hk16) ⟨callB_of 3 htx (xw_goodC kw_5_221) rfl rfl rfl (htx _ kw_1_5) (htx _ kw_5_218) ⟨by decide, by decide, by decide +kernel⟩ ⟨(by show (16 * d + 7) + 1 ≤ 16 * d + 8; omega), (by show 8 + (5 + 11) + (400 * d + 121) ≤ 400 * d + 145; omega)⟩, (htx _ kw_5_220), (htx _ kp_M_json)⟩ ⟨xPre_blind, va_recv hK hP (ci := 5) rfl (q0 := 0) rfl, (fun U hU hW => ⟨rfl, xPre_of hZ hS hFc hP hD hK U hU hW⟩)⟩ rfl rfl hl.1 rfl (xm_room (Nat.le_of_ble_eq_true rfl)) dM_fromJson_67 ⟨hm18.1, hm18.2⟩) hS (fun q _ h => hFc q h) hFc (fun r19 u9 t H1 locs ht hvm hr9 hB hz1 hk1 hS => ?_)
      obtain ⟨hP1, hK1, hD1⟩ := hB
      rw [ht] at hP1
      obtain ⟨ad20, gd21, vad22⟩ := u9
      obtain ⟨hr9, hv23, hn24⟩ := hr9
      have hP : va_P D xcl (xMw cT aM ad20 rd gd21 vad22 o14.2.2.2.2 []) H1 := hP1
      have hD : va_D A (xMw cT aM ad20 rd gd21 vad22 o14.2.2.2.2 []) := hD1.weaken (fun k q _ h => hFc q.1 h)
      generalize H1 = H at hP hS ⊢
      have hE9 : ∀ p, p < xct st → vad22 p = vad p := fun p h => (hv23 p (Nat.lt_of_lt_of_le h hN)).trans (hE p h)
      have hE := hE9
      have hN : xct st ≤ xct o14.2.2.2.2 := Nat.le_trans hN hn24
      have ev25 : xrs ad7 rd gd8 (xsr o1.2.2.2.2) = xrs ad20 rd gd21 (xsr o1.2.2.2.2) := xrsE hg17
      have hl : lv_has ls 10 [(8, .null), (7, .int (xsi o1.2.2.2.2 19)), (6, .int (xsi o1.2.2.2.2 12)), (5, .int (xsi o1.2.2.2.2 20)), (4, .int (xsi o1.2.2.2.2 17)), (3, .int (xsi o1.2.2.2.2 16)), (2, xrs ad20 rd gd21 (xsr o1.2.2.2.2)), (0, .ref aM)] := by first | exact hl | ((try (rw [← ev25])); exact hl)
      rw [hr9]
      refine W.eq (g2 := F0 m 70 ls [xv vad22 o14.2.2.2.1]) (by first | rfl | ((try (rw [ev25])); rfl)) ?_
      refine xm_astore (lv' := [(8, xv vad22 o14.2.2.2.1), (7, .int (xsi o1.2.2.2.2 19)), (6, .int (xsi o1.2.2.2.2 12)), (5, .int (xsi o1.2.2.2.2 20)), (4, .int (xsi o1.2.2.2.2 17)), (3, .int (xsi o1.2.2.2.2 16)), (2, xrs ad20 rd gd21 (xsr o1.2.2.2.2)), (0, .ref aM)]) hx hb (xvor _ _) dM_fromJson_70 hl (by decide) rfl (fun ls hl => ?_)
      refine lv_goto (tgt := 80) hx hb dM_fromJson_72 (by decide) ?_
      refine lv_aload_n hx hb dM_fromJson_80 rfl (lv_at hl 7 rfl) ?_
      refine xm_aload_n hx hb (xrsor _ _ _ _) dM_fromJson_81 rfl (lv_at hl 6 rfl) ?_
      refine xm_put (v := xrs ad20 rd gd21 (xsr o1.2.2.2.2)) (W' := (xMw cT aM ad20 rd gd21 vad22 (xsX o14.2.2.2.2 (xsr o1.2.2.2.2)) [])) (ty := (.array .byte)) hx hb htx hown hK hP hD hS 15 (by decide) rfl (htx _ kw_5_102) rfl rfl (by decide +kernel) (xnar (xrsor _ _ _ _)) (xfit (xrsor _ _ _ _)) dM_fromJson_82 (fun H locs hP hD hS => ?_)
      refine lv_aload_n hx hb dM_fromJson_85 rfl (lv_at hl 7 rfl) ?_
      refine lv_iload_n hx hb dM_fromJson_86 rfl (lv_at hl 5 rfl) ?_
      refine xm_put (v := .int (xsi o1.2.2.2.2 16)) (W' := (xMw cT aM ad20 rd gd21 vad22 (xsI (xsX o14.2.2.2.2 (xsr o1.2.2.2.2)) 16 (xsi o1.2.2.2.2 16)) [])) (ty := .int) hx hb htx hown hK hP hD hS 16 (by decide) rfl (htx _ kw_5_103) rfl rfl (by decide +kernel) rfl rfl dM_fromJson_87 (fun H locs hP hD hS => ?_)
      refine lv_aload_n hx hb dM_fromJson_90 rfl (lv_at hl 7 rfl) ?_
      refine lv_iload hx hb dM_fromJson_91 (lv_at hl 4 rfl) ?_
      refine xm_put (v := .int (xsi o1.2.2.2.2 17)) (W' := (xMw cT aM ad20 rd gd21 vad22 (xsI (xsI (xsX o14.2.2.2.2 (xsr o1.2.2.2.2)) 16 (xsi o1.2.2.2.2 16)) 17 (xsi o1.2.2.2.2 17)) [])) (ty := .int) hx hb htx hown hK hP hD hS 17 (by decide) rfl (htx _ kw_5_104) rfl rfl (by decide +kernel) rfl rfl dM_fromJson_93 (fun H locs hP hD hS => ?_)
      refine lv_aload_n hx hb dM_fromJson_96 rfl (lv_at hl 7 rfl) ?_
      refine lv_iload hx hb dM_fromJson_97 (lv_at hl 3 rfl) ?_
      refine xm_put (v := .int (xsi o1.2.2.2.2 20)) (W' := (xMw cT aM ad20 rd gd21 vad22 (xsI (xsI (xsI (xsX o14.2.2.2.2 (xsr o1.2.2.2.2)) 16 (xsi o1.2.2.2.2 16)) 17 (xsi o1.2.2.2.2 17)) 20 (xsi o1.2.2.2.2 20)) [])) (ty := .int) hx hb htx hown hK hP hD hS 20 (by decide) rfl (htx _ kw_5_107) rfl rfl (by decide +kernel) rfl rfl dM_fromJson_99 (fun H locs hP hD hS => ?_)
      refine lv_aload_n hx hb dM_fromJson_102 rfl (lv_at hl 7 rfl) ?_
      refine lv_iload hx hb dM_fromJson_103 (lv_at hl 2 rfl) ?_
      refine xm_put (v := .int (xsi o1.2.2.2.2 12)) (W' := (xMw cT aM ad20 rd gd21 vad22 (xsI (xsI (xsI (xsI (xsX o14.2.2.2.2 (xsr o1.2.2.2.2)) 16 (xsi o1.2.2.2.2 16)) 17 (xsi o1.2.2.2.2 17)) 20 (xsi o1.2.2.2.2 20)) 12 (xsi o1.2.2.2.2 12)) [])) (ty := .int) hx hb htx hown hK hP hD hS 12 (by decide) rfl (htx _ kw_5_99) rfl rfl (by decide +kernel) rfl rfl dM_fromJson_105 (fun H locs hP hD hS => ?_)
      refine lv_aload_n hx hb dM_fromJson_108 rfl (lv_at hl 7 rfl) ?_
      refine lv_iload hx hb dM_fromJson_109 (lv_at hl 1 rfl) ?_
      refine xm_put (v := .int (xsi o1.2.2.2.2 19)) (W' := (xMw cT aM ad20 rd gd21 vad22 (xsI (xsI (xsI (xsI (xsI (xsX o14.2.2.2.2 (xsr o1.2.2.2.2)) 16 (xsi o1.2.2.2.2 16)) 17 (xsi o1.2.2.2.2 17)) 20 (xsi o1.2.2.2.2 20)) 12 (xsi o1.2.2.2.2 12)) 19 (xsi o1.2.2.2.2 19)) [])) (ty := .int) hx hb htx hown hK hP hD hS 19 (by decide) rfl (htx _ kw_5_106) rfl rfl (by decide +kernel) rfl rfl dM_fromJson_111 (fun H locs hP hD hS => ?_)
      refine xm_aload hx hb (xvor _ _) dM_fromJson_114 (lv_at hl 0 rfl) ?_
      refine xm_ifnonnull (tgt := 127) hx hb dM_fromJson_116 (by decide) (fun hc => ?_) (fun hc => ?_)
      · rw [if_neg hc] at hf
        refine xm_aload hx hb (xvor _ _) dM_fromJson_127 (lv_at hl 0 rfl) ?_
        obtain rfl := Option.some.inj hf
        exact W.aret (v := xv vad22 o14.2.2.2.1) hx hb hr (Or.inl ⟨_, rfl⟩) (xvor _ _) (fun t ht hW => ⟨⟨xca vad22 o14.2.2.2.1, (ad20, gd21, vad22), rfl, ⟨rfl, hE, hN⟩, by rw [ht]; exact hP, va_K.moved hW.alike hK, hD⟩, hS.F ht⟩) hS.2.2 dM_fromJson_129
      · rw [if_pos hc] at hf
        refine lv_aload_n hx hb dM_fromJson_119 rfl (lv_at hl 7 rfl) ?_
        refine lv_iconst (v := 5) hx hb dM_fromJson_120 (by decide) ?_
        obtain ⟨o26, hq27, hf⟩ := xbind hf
        have hl := lv_sub (l' := [(7, .int (xsi o1.2.2.2.2 19)), (6, .int (xsi o1.2.2.2.2 12)), (5, .int (xsi o1.2.2.2.2 20)), (4, .int (xsi o1.2.2.2.2 17)), (3, .int (xsi o1.2.2.2.2 16)), (0, .ref aM)]) hl [1, 2, 3, 4, 5, 7] rfl
        by_cases hk28 : o26.1 = 1
        · rw [if_pos hk28] at hf
          obtain ⟨hm29, hf⟩ := xmoE hf
          obtain rfl := Option.some.inj hf
          exact absurd (show (1 : Nat) = 0 from hkd) (by decide)
        rw [if_neg hk28] at hf
        exact nomatch hf
    rw [if_neg hk16] at hf
    by_cases hk26 : o14.1 = 1
    · rw [if_pos hk26] at hf
      obtain ⟨hg27, hf⟩ := xifn hf
      obtain ⟨hm28, hf⟩ := xmoE hf
      have hFc := xm_free hD hS hA
      refine xx_thr (vx_runV (C := "ValueBenchModel") (As := [.ref (ad7 3), .int ((xpi o1.2.2.2.2 2) (c0 - 1)), .int (((xpi o1.2.2.2.2 2) (c0 - 1)) + ((xpi o1.2.2.2.2 3) (c0 - 1)))]) (rest := []) ⟨hx, hb, hml, hown, htx⟩ (gM_json_1 l hl9 D cT aK aV H.size d n aM ad7 rd gd8 vad9 (xsI o1.2.2.2.2 19 40) 3 ((xpi o1.2.2.2.2 2) (c0 - 1)) (((xpi o1.2.2.2.2 2) (c0 - 1)) + ((xpi o1.2.2.2.2 3) (c0 - 1))) o14 hq15 hk26) ⟨callB_of 3 htx (xw_goodC kw_5_221) rfl rfl rfl (htx _ kw_1_5) (htx _ kw_5_218) ⟨by decide, by decide, by decide +kernel⟩ ⟨(by show (16 * d + 7) + 1 ≤ 16 * d + 8; omega), (by show 8 + (5 + 11) + (400 * d + 121) ≤ 400 * d + 145; omega)⟩, (htx _ kw_5_220), (htx _ kp_M_json)⟩ ⟨xPre_blind, va_recv hK hP (ci := 5) rfl (q0 := 0) rfl, (fun U hU hW => ⟨rfl, xPre_of hZ hS hFc hP hD hK U hU hW⟩)⟩ rfl rfl hl.1 rfl (xm_room (Nat.le_of_ble_eq_true rfl)) dM_fromJson_67 ⟨hm28.1, hm28.2⟩) hS hFc (fun q _ h => hFc q h) (fun E ce q9 u9 t H1 locs ht hvm hr9 hB hz1 hk1 hS hce hcv hcl => ?_)
      obtain ⟨rfl, hP1, hK1, hD1⟩ := hB
      rw [ht] at hP1
      obtain ⟨ad30, gd31, vad32⟩ := u9
      obtain ⟨hv33, hn34⟩ := hr9
      have hP : va_P D xcl (xMw cT aM ad30 rd gd31 vad32 o14.2.2.2.2 []) H1 := hP1
      have hD : va_D A (xMw cT aM ad30 rd gd31 vad32 o14.2.2.2.2 []) := hD1.weaken (fun k q _ h => hFc q.1 h)
      generalize H1 = H at hP hS hce ⊢
      have hE9 : ∀ p, p < xct st → vad32 p = vad p := fun p h => (hv33 p (Nat.lt_of_lt_of_le h hN)).trans (hE p h)
      have hE := hE9
      have hN : xct st ≤ xct o14.2.2.2.2 := Nat.le_trans hN hn34
      have ev35 : xrs ad7 rd gd8 (xsr o1.2.2.2.2) = xrs ad30 rd gd31 (xsr o1.2.2.2.2) := xrsE hg27
      have hl : lv_has ls 10 [(8, .null), (7, .int (xsi o1.2.2.2.2 19)), (6, .int (xsi o1.2.2.2.2 12)), (5, .int (xsi o1.2.2.2.2 20)), (4, .int (xsi o1.2.2.2.2 17)), (3, .int (xsi o1.2.2.2.2 16)), (2, xrs ad30 rd gd31 (xsr o1.2.2.2.2)), (0, .ref aM)] := by first | exact hl | ((try (rw [← ev35])); exact hl)
      refine vx_catch (own := "ValueBenchModel") (name := "java/lang/UnsupportedOperationException") (E := "java/lang/UnsupportedOperationException") hown [] ⟨49, 72, 75, 205⟩ [] (by rw [htab]; rfl) (fun z hz => nomatch hz) (by decide) (by decide) (htx _ kw_5_204) ((hZ.2.2.2.2.2.1 "java/lang/UnsupportedOperationException" (List.mem_of_getElem? (i := 2) rfl)).use rfl) hce hcv hcl ?_
      refine lv_astore (lv' := [(9, .ref q9), (8, .null), (7, .int (xsi o1.2.2.2.2 19)), (6, .int (xsi o1.2.2.2.2 12)), (5, .int (xsi o1.2.2.2.2 20)), (4, .int (xsi o1.2.2.2.2 17)), (3, .int (xsi o1.2.2.2.2 16)), (2, xrs ad30 rd gd31 (xsr o1.2.2.2.2)), (0, .ref aM)]) hx hb dM_fromJson_75 hl (by decide) rfl (fun ls hl => ?_)
      refine lv_null hx hb dM_fromJson_77 ?_
      refine lv_astoreN (lv' := [(8, .null), (9, .ref q9), (7, .int (xsi o1.2.2.2.2 19)), (6, .int (xsi o1.2.2.2.2 12)), (5, .int (xsi o1.2.2.2.2 20)), (4, .int (xsi o1.2.2.2.2 17)), (3, .int (xsi o1.2.2.2.2 16)), (2, xrs ad30 rd gd31 (xsr o1.2.2.2.2)), (0, .ref aM)]) hx hb dM_fromJson_78 hl (by decide) rfl (fun ls hl => ?_)
      refine lv_aload_n hx hb dM_fromJson_80 rfl (lv_at hl 8 rfl) ?_
      refine xm_aload_n hx hb (xrsor _ _ _ _) dM_fromJson_81 rfl (lv_at hl 7 rfl) ?_
      refine xm_put (v := xrs ad30 rd gd31 (xsr o1.2.2.2.2)) (W' := (xMw cT aM ad30 rd gd31 vad32 (xsX o14.2.2.2.2 (xsr o1.2.2.2.2)) [])) (ty := (.array .byte)) hx hb htx hown hK hP hD hS 15 (by decide) rfl (htx _ kw_5_102) rfl rfl (by decide +kernel) (xnar (xrsor _ _ _ _)) (xfit (xrsor _ _ _ _)) dM_fromJson_82 (fun H locs hP hD hS => ?_)
      refine lv_aload_n hx hb dM_fromJson_85 rfl (lv_at hl 8 rfl) ?_
      refine lv_iload_n hx hb dM_fromJson_86 rfl (lv_at hl 6 rfl) ?_
      refine xm_put (v := .int (xsi o1.2.2.2.2 16)) (W' := (xMw cT aM ad30 rd gd31 vad32 (xsI (xsX o14.2.2.2.2 (xsr o1.2.2.2.2)) 16 (xsi o1.2.2.2.2 16)) [])) (ty := .int) hx hb htx hown hK hP hD hS 16 (by decide) rfl (htx _ kw_5_103) rfl rfl (by decide +kernel) rfl rfl dM_fromJson_87 (fun H locs hP hD hS => ?_)
      refine lv_aload_n hx hb dM_fromJson_90 rfl (lv_at hl 8 rfl) ?_
      refine lv_iload hx hb dM_fromJson_91 (lv_at hl 5 rfl) ?_
      refine xm_put (v := .int (xsi o1.2.2.2.2 17)) (W' := (xMw cT aM ad30 rd gd31 vad32 (xsI (xsI (xsX o14.2.2.2.2 (xsr o1.2.2.2.2)) 16 (xsi o1.2.2.2.2 16)) 17 (xsi o1.2.2.2.2 17)) [])) (ty := .int) hx hb htx hown hK hP hD hS 17 (by decide) rfl (htx _ kw_5_104) rfl rfl (by decide +kernel) rfl rfl dM_fromJson_93 (fun H locs hP hD hS => ?_)
      refine lv_aload_n hx hb dM_fromJson_96 rfl (lv_at hl 8 rfl) ?_
      refine lv_iload hx hb dM_fromJson_97 (lv_at hl 4 rfl) ?_
      refine xm_put (v := .int (xsi o1.2.2.2.2 20)) (W' := (xMw cT aM ad30 rd gd31 vad32 (xsI (xsI (xsI (xsX o14.2.2.2.2 (xsr o1.2.2.2.2)) 16 (xsi o1.2.2.2.2 16)) 17 (xsi o1.2.2.2.2 17)) 20 (xsi o1.2.2.2.2 20)) [])) (ty := .int) hx hb htx hown hK hP hD hS 20 (by decide) rfl (htx _ kw_5_107) rfl rfl (by decide +kernel) rfl rfl dM_fromJson_99 (fun H locs hP hD hS => ?_)
      refine lv_aload_n hx hb dM_fromJson_102 rfl (lv_at hl 8 rfl) ?_
      refine lv_iload hx hb dM_fromJson_103 (lv_at hl 3 rfl) ?_
      refine xm_put (v := .int (xsi o1.2.2.2.2 12)) (W' := (xMw cT aM ad30 rd gd31 vad32 (xsI (xsI (xsI (xsI (xsX o14.2.2.2.2 (xsr o1.2.2.2.2)) 16 (xsi o1.2.2.2.2 16)) 17 (xsi o1.2.2.2.2 17)) 20 (xsi o1.2.2.2.2 20)) 12 (xsi o1.2.2.2.2 12)) [])) (ty := .int) hx hb htx hown hK hP hD hS 12 (by decide) rfl (htx _ kw_5_99) rfl rfl (by decide +kernel) rfl rfl dM_fromJson_105 (fun H locs hP hD hS => ?_)
      refine lv_aload_n hx hb dM_fromJson_108 rfl (lv_at hl 8 rfl) ?_
      refine lv_iload hx hb dM_fromJson_109 (lv_at hl 2 rfl) ?_
      refine xm_put (v := .int (xsi o1.2.2.2.2 19)) (W' := (xMw cT aM ad30 rd gd31 vad32 (xsI (xsI (xsI (xsI (xsI (xsX o14.2.2.2.2 (xsr o1.2.2.2.2)) 16 (xsi o1.2.2.2.2 16)) 17 (xsi o1.2.2.2.2 17)) 20 (xsi o1.2.2.2.2 20)) 12 (xsi o1.2.2.2.2 12)) 19 (xsi o1.2.2.2.2 19)) [])) (ty := .int) hx hb htx hown hK hP hD hS 19 (by decide) rfl (htx _ kw_5_106) rfl rfl (by decide +kernel) rfl rfl dM_fromJson_111 (fun H locs hP hD hS => ?_)
      refine lv_aloadN hx hb dM_fromJson_114 (lv_at hl 0 rfl) ?_
      refine lv_ifnonnullN hx hb dM_fromJson_116 ?_
      refine lv_aload_n hx hb dM_fromJson_119 rfl (lv_at hl 8 rfl) ?_
      refine lv_iconst (v := 5) hx hb dM_fromJson_120 (by decide) ?_
      obtain ⟨o36, hq37, hf⟩ := xbind hf
      have hl := lv_sub (l' := [(8, .null), (9, .ref q9), (7, .int (xsi o1.2.2.2.2 19)), (6, .int (xsi o1.2.2.2.2 12)), (5, .int (xsi o1.2.2.2.2 20)), (4, .int (xsi o1.2.2.2.2 17)), (3, .int (xsi o1.2.2.2.2 16)), (0, .ref aM)]) hl [0, 1, 2, 3, 4, 5, 6, 8] rfl
      by_cases hk38 : o36.1 = 1
      · rw [if_pos hk38] at hf
        obtain ⟨hm39, hf⟩ := xmoE hf
        obtain rfl := Option.some.inj hf
        exact absurd (show (1 : Nat) = 0 from hkd) (by decide)
      rw [if_neg hk38] at hf
      exact nomatch hf
    rw [if_neg hk26] at hf
    by_cases hk46 : o14.1 = 2
    · rw [if_pos hk46] at hf
      exact nomatch hf
    rw [if_neg hk46] at hf
    by_cases hk56 : o14.1 = 3
    · rw [if_pos hk56] at hf
      exact nomatch hf
    rw [if_neg hk56] at hf
    exact nomatch hf
  rw [if_neg hk3] at hf
  by_cases hk66 : o1.1 = 1
  · rw [if_pos hk66] at hf
    obtain ⟨hg67, hf⟩ := xifn hf
    obtain ⟨hm68, hf⟩ := xmoE hf
    obtain rfl := Option.some.inj hf
    exact absurd (show (1 : Nat) = 0 from hkd) (by decide)
  rw [if_neg hk66] at hf
  exact nomatch hf
set_option maxHeartbeats 400000000 in
set_option maxRecDepth 100000 in
theorem gM_fromJson_1 (l : Launch) (hl9 : l.stackTraces = false) (D : va_G) (cT : Nat → ClassId) (aK aV : Nat → Nat) (sz d n : Nat) (aM : Nat) (ad rd gd vad : Nat → Nat) (st : xS) (c0 : Nat) (out : Nat × Nat × Nat × Nat × xS) (hf : fM_fromJson d n st c0 = some out) (hkd : out.1 = 1) : xMetY l yM_fromJson wyM_fromJson (16 * d + 8) out.2.1 out.2.2.1 (400 * d + 145) D cT aK aV sz [.ref aM, xv vad c0] (xMw cT aM ad rd gd vad st []) "java/lang/ArithmeticException" (fun u => xE vad st out.2.2.2.2 u) (fun A u t => xB D xcl cT A (xMw cT aM u.1 rd u.2.1 u.2.2 out.2.2.2.2 []) t) := by
  refine vx_ofWH (cc := prog_13_method_60_code) (maxL := 10) (ret := (some (.object "ValueBenchModel$V"))) (hh := [(49, 72, 75, 205)]) (by decide) rfl ?_
  intro p e s m args below meth c s₁ B hml hv
  obtain ⟨rfl, hsz, hZ, hP, hK, hD0⟩ := hv
  have hx := B.exec
  have hb := B.bytes
  have hr := B.returns
  have hts := atoms_spec (ws := wyM_fromJson) B.pre
  have htx := fun w h => hts w (List.mem_cons_of_mem _ h)
  have hown : s.vm.findClass "ValueBenchModel" = some m.cls := findClass_of_methodNamed B.named
  have hlocks := B.notSynchronized
  subst hsz
  have hD := hD0.self (sz := s.heap.size)
  generalize hAe : va_A (xMw cT aM ad rd gd vad st []) s.heap.size = A at hD hZ ⊢
  have hA : ∀ q : Nat, s.heap.size ≤ q → A q := fun q h => by rw [← hAe]; exact Or.inr h
  have hS : va_S A s.heap s.heap [] := va_S.rf
  have hl := lv_entry ([.ref aM, xv vad c0]) (n := 10) (by simp [lg_sl, xvcat, xrscat, xcI, xcL, xcR, xcN])
  rw [show lv_args 0 [.ref aM, xv vad c0] = [(0, .ref aM), (1, xv vad c0)] from by simp [lv_args, xvcat, xrscat, xcI, xcL, xcR, xcN]] at hl
  rw [lg_entry_eq]
  generalize (lg_sl ([.ref aM, xv vad c0]) ++ List.replicate (10 - (lg_sl ([.ref aM, xv vad c0])).length) Slot.unset).toArray = ls at hl ⊢
  have hl : lv_has ls 10 [(0, .ref aM), (1, xv vad c0)] := hl
  have htab := vx_table (x := yM_fromJson) B (hts _ List.mem_cons_self)
  have hE : ∀ p, p < xct st → vad p = vad p := fun _ _ => rfl
  have hN : xct st ≤ xct st := Nat.le_refl _
  unfold fM_fromJson at hf
  refine lv_aload_n hx hb dM_fromJson_0 rfl (lv_at hl 0 rfl) ?_
  refine xm_aload_n hx hb (xvor _ _) dM_fromJson_1 rfl (lv_at hl 1 rfl) ?_
  obtain ⟨o1, hq2, hf⟩ := xbind hf
  by_cases hk3 : o1.1 = 0
  · rw [if_pos hk3] at hf
    obtain ⟨hg4, hf⟩ := xifn hf
    obtain ⟨hm5, hf⟩ := xmoE hf
    have hFc := xm_free hD hS hA
    refine va_callq (va_runV (C := "ValueBenchModel") (As := [xv vad c0]) (rest := []) ⟨hx, hb, hml, hown, htx⟩ (gM_text l hl9 D cT aK aV s.heap.size n aM ad rd gd vad st c0 o1 hq2 hk3) ⟨callB_of 1 htx (xw_goodC kw_7_54) rfl rfl rfl (htx _ kw_1_5) (htx _ kw_7_51) ⟨by decide, by decide, by decide +kernel⟩ ⟨Nat.le_of_ble_eq_true rfl, Nat.le_of_ble_eq_true rfl⟩, (htx _ kw_7_53), (htx _ kp_M_text)⟩ ⟨xPre_blind, va_recv hK hP (ci := 5) rfl (q0 := 0) rfl, (fun U hU hW => ⟨rfl, xPre_of hZ hS hFc hP hD hK U hU hW⟩)⟩ rfl rfl hl.1 rfl (xm_room (Nat.le_of_ble_eq_true rfl)) dM_fromJson_2 ⟨hm5.1, hm5.2⟩) hS (fun q _ h => hFc q h) hFc (fun r6 u9 t H1 locs ht hvm hr9 hB hz1 hk1 hS => ?_)
    obtain ⟨hP1, hK1, hD1⟩ := hB
    rw [ht] at hP1
    obtain ⟨ad7, gd8, vad9⟩ := u9
    obtain ⟨hr9, hv10, hn11⟩ := hr9
    have hP : va_P D xcl (xMw cT aM ad7 rd gd8 vad9 o1.2.2.2.2 []) H1 := hP1
    have hD : va_D A (xMw cT aM ad7 rd gd8 vad9 o1.2.2.2.2 []) := hD1.weaken (fun k q _ h => hFc q.1 h)
    generalize H1 = H at hP hS ⊢
    have hE9 : ∀ p, p < xct st → vad9 p = vad p := fun p h => (hv10 p (Nat.lt_of_lt_of_le h hN)).trans (hE p h)
    have hE := hE9
    have hN : xct st ≤ xct o1.2.2.2.2 := Nat.le_trans hN hn11
    have ev12 : xv vad c0 = xv vad9 c0 := xvE hv10 hg4
    have hl : lv_has ls 10 [(0, .ref aM), (1, xv vad9 c0)] := by first | exact hl | ((try (rw [← ev12])); exact hl)
    rw [hr9]
    refine W.eq (g2 := F0 m 5 ls [xv vad9 o1.2.2.2.1]) (by first | rfl | ((try (rw [ev12])); rfl)) ?_
    refine lv_pop hx hb dM_fromJson_5 (xvcat _ _) ?_
    refine lv_aload_n hx hb dM_fromJson_6 rfl (lv_at hl 0 rfl) ?_
    refine xm_get (v := xrs ad7 rd gd8 (xsr o1.2.2.2.2)) hx hb htx hown hK hP 15 (by decide) rfl (htx _ kw_5_102) rfl dM_fromJson_7 ?_
    refine xm_astore_n (lv' := [(2, xrs ad7 rd gd8 (xsr o1.2.2.2.2)), (0, .ref aM), (1, xv vad9 c0)]) hx hb (xrsor _ _ _ _) dM_fromJson_10 rfl hl (by decide) (by simp only [List.filter, xvcat, xrscat, xcI, xcL, xcR, xcN]; rfl) (fun ls hl => ?_)
    refine lv_aload_n hx hb dM_fromJson_11 rfl (lv_at hl 1 rfl) ?_
    refine xm_get (v := .int (xsi o1.2.2.2.2 16)) hx hb htx hown hK hP 16 (by decide) rfl (htx _ kw_5_103) rfl dM_fromJson_12 ?_
    refine lv_istore_n (lv' := [(3, .int (xsi o1.2.2.2.2 16)), (2, xrs ad7 rd gd8 (xsr o1.2.2.2.2)), (0, .ref aM), (1, xv vad9 c0)]) hx hb dM_fromJson_15 rfl hl (by decide) (by simp only [List.filter, xvcat, xrscat, xcI, xcL, xcR, xcN]; rfl) (fun ls hl => ?_)
    refine lv_aload_n hx hb dM_fromJson_16 rfl (lv_at hl 2 rfl) ?_
    refine xm_get (v := .int (xsi o1.2.2.2.2 17)) hx hb htx hown hK hP 17 (by decide) rfl (htx _ kw_5_104) rfl dM_fromJson_17 ?_
    refine lv_istore (lv' := [(4, .int (xsi o1.2.2.2.2 17)), (3, .int (xsi o1.2.2.2.2 16)), (2, xrs ad7 rd gd8 (xsr o1.2.2.2.2)), (0, .ref aM), (1, xv vad9 c0)]) hx hb dM_fromJson_20 hl (by decide) rfl (fun ls hl => ?_)
    refine lv_aload_n hx hb dM_fromJson_22 rfl (lv_at hl 3 rfl) ?_
    refine xm_get (v := .int (xsi o1.2.2.2.2 20)) hx hb htx hown hK hP 20 (by decide) rfl (htx _ kw_5_107) rfl dM_fromJson_23 ?_
    refine lv_istore (lv' := [(5, .int (xsi o1.2.2.2.2 20)), (4, .int (xsi o1.2.2.2.2 17)), (3, .int (xsi o1.2.2.2.2 16)), (2, xrs ad7 rd gd8 (xsr o1.2.2.2.2)), (0, .ref aM), (1, xv vad9 c0)]) hx hb dM_fromJson_26 hl (by decide) rfl (fun ls hl => ?_)
    refine lv_aload_n hx hb dM_fromJson_28 rfl (lv_at hl 4 rfl) ?_
    refine xm_get (v := .int (xsi o1.2.2.2.2 12)) hx hb htx hown hK hP 12 (by decide) rfl (htx _ kw_5_99) rfl dM_fromJson_29 ?_
    refine lv_istore (lv' := [(6, .int (xsi o1.2.2.2.2 12)), (5, .int (xsi o1.2.2.2.2 20)), (4, .int (xsi o1.2.2.2.2 17)), (3, .int (xsi o1.2.2.2.2 16)), (2, xrs ad7 rd gd8 (xsr o1.2.2.2.2)), (0, .ref aM), (1, xv vad9 c0)]) hx hb dM_fromJson_32 hl (by decide) rfl (fun ls hl => ?_)
    refine lv_aload_n hx hb dM_fromJson_34 rfl (lv_at hl 5 rfl) ?_
    refine xm_get (v := .int (xsi o1.2.2.2.2 19)) hx hb htx hown hK hP 19 (by decide) rfl (htx _ kw_5_106) rfl dM_fromJson_35 ?_
    refine lv_istore (lv' := [(7, .int (xsi o1.2.2.2.2 19)), (6, .int (xsi o1.2.2.2.2 12)), (5, .int (xsi o1.2.2.2.2 20)), (4, .int (xsi o1.2.2.2.2 17)), (3, .int (xsi o1.2.2.2.2 16)), (2, xrs ad7 rd gd8 (xsr o1.2.2.2.2)), (0, .ref aM), (1, xv vad9 c0)]) hx hb dM_fromJson_38 hl (by decide) rfl (fun ls hl => ?_)
    refine lv_aload_n hx hb dM_fromJson_40 rfl (lv_at hl 6 rfl) ?_
    refine lv_bipush (v := 40) hx hb dM_fromJson_41 (by decide) ?_
    refine xm_put (v := .int 40) (W' := (xMw cT aM ad7 rd gd8 vad9 (xsI o1.2.2.2.2 19 40) [])) (ty := .int) hx hb htx hown hK hP hD hS 19 (by decide) rfl (htx _ kw_5_106) rfl rfl (by decide +kernel) rfl rfl dM_fromJson_43 (fun H locs hP hD hS => ?_)
    refine lv_null hx hb dM_fromJson_46 ?_
    refine lv_astoreN (lv' := [(8, .null), (7, .int (xsi o1.2.2.2.2 19)), (6, .int (xsi o1.2.2.2.2 12)), (5, .int (xsi o1.2.2.2.2 20)), (4, .int (xsi o1.2.2.2.2 17)), (3, .int (xsi o1.2.2.2.2 16)), (2, xrs ad7 rd gd8 (xsr o1.2.2.2.2)), (0, .ref aM), (1, xv vad9 c0)]) hx hb dM_fromJson_47 hl (by decide) rfl (fun ls hl => ?_)
    refine lv_aload_n hx hb dM_fromJson_49 rfl (lv_at hl 7 rfl) ?_
    refine lv_aload_n hx hb dM_fromJson_50 rfl (lv_at hl 7 rfl) ?_
    refine xm_get (v := .ref (ad7 3)) hx hb htx hown hK hP 3 (by decide) rfl (htx _ kw_5_90) rfl dM_fromJson_51 ?_
    refine xm_aload_n hx hb (xvor _ _) dM_fromJson_54 rfl (lv_at hl 8 rfl) ?_
    obtain ⟨hg13, hf⟩ := xifn hf
    refine xm_vget (v := .int ((xpi o1.2.2.2.2 2) (c0 - 1))) hx hb htx hown hK hP 2 (by decide) hg13 rfl ((hZ.1 (100, "off", "I") (List.mem_of_getElem? (i := 2) rfl)).use rfl) rfl dM_fromJson_55 ?_
    refine xm_aload_n hx hb (xvor _ _) dM_fromJson_58 rfl (lv_at hl 8 rfl) ?_
    refine xm_vget (v := .int ((xpi o1.2.2.2.2 2) (c0 - 1))) hx hb htx hown hK hP 2 (by decide) hg13 rfl ((hZ.1 (100, "off", "I") (List.mem_of_getElem? (i := 2) rfl)).use rfl) rfl dM_fromJson_59 ?_
    refine xm_aload_n hx hb (xvor _ _) dM_fromJson_62 rfl (lv_at hl 8 rfl) ?_
    refine xm_vget (v := .int ((xpi o1.2.2.2.2 3) (c0 - 1))) hx hb htx hown hK hP 3 (by decide) hg13 rfl ((hZ.1 (103, "count", "I") (List.mem_of_getElem? (i := 3) rfl)).use rfl) rfl dM_fromJson_63 ?_
    refine lv_iadd hx hb dM_fromJson_66 ?_
    obtain ⟨o14, hq15, hf⟩ := xbind hf
    have hl := lv_sub (l' := [(8, .null), (7, .int (xsi o1.2.2.2.2 19)), (6, .int (xsi o1.2.2.2.2 12)), (5, .int (xsi o1.2.2.2.2 20)), (4, .int (xsi o1.2.2.2.2 17)), (3, .int (xsi o1.2.2.2.2 16)), (2, xrs ad7 rd gd8 (xsr o1.2.2.2.2)), (0, .ref aM)]) hl [0, 1, 2, 3, 4, 5, 6, 7] rfl
    by_cases hk16 : o14.1 = 0
    · rw [if_pos hk16] at hf
      obtain ⟨hg17, hf⟩ := xifn hf
      obtain ⟨hm18, hf⟩ := xmoE hf
      have hFc := xm_free hD hS hA
      refine va_callq (va_runV (C := "ValueBenchModel") (As := [.ref (ad7 3), .int ((xpi o1.2.2.2.2 2) (c0 - 1)), .int (((xpi o1.2.2.2.2 2) (c0 - 1)) + ((xpi o1.2.2.2.2 3) (c0 - 1)))]) (rest := []) ⟨hx, hb, hml, hown, htx⟩ (gM_json l hl9 D cT aK aV H.size d n aM ad7 rd gd8 vad9 (xsI o1.2.2.2.2 19 40) 3 ((xpi o1.2.2.2.2 2) (c0 - 1)) (((xpi o1.2.2.2.2 2) (c0 - 1)) + ((xpi o1.2.2.2.2 3) (c0 - 1))) o14 hq15 hk16) ⟨callB_of 3 htx (xw_goodC kw_5_221) rfl rfl rfl (htx _ kw_1_5) (htx _ kw_5_218) ⟨by decide, by decide, by decide +kernel⟩ ⟨(by show (16 * d + 7) + 1 ≤ 16 * d + 8; omega), (by show 8 + (5 + 11) + (400 * d + 121) ≤ 400 * d + 145; omega)⟩, (htx _ kw_5_220), (htx _ kp_M_json)⟩ ⟨xPre_blind, va_recv hK hP (ci := 5) rfl (q0 := 0) rfl, (fun U hU hW => ⟨rfl, xPre_of hZ hS hFc hP hD hK U hU hW⟩)⟩ rfl rfl hl.1 rfl (xm_room (Nat.le_of_ble_eq_true rfl)) dM_fromJson_67 ⟨hm18.1, hm18.2⟩) hS (fun q _ h => hFc q h) hFc (fun r19 u9 t H1 locs ht hvm hr9 hB hz1 hk1 hS => ?_)
      obtain ⟨hP1, hK1, hD1⟩ := hB
      rw [ht] at hP1
      obtain ⟨ad20, gd21, vad22⟩ := u9
      obtain ⟨hr9, hv23, hn24⟩ := hr9
      have hP : va_P D xcl (xMw cT aM ad20 rd gd21 vad22 o14.2.2.2.2 []) H1 := hP1
      have hD : va_D A (xMw cT aM ad20 rd gd21 vad22 o14.2.2.2.2 []) := hD1.weaken (fun k q _ h => hFc q.1 h)
      generalize H1 = H at hP hS ⊢
      have hE9 : ∀ p, p < xct st → vad22 p = vad p := fun p h => (hv23 p (Nat.lt_of_lt_of_le h hN)).trans (hE p h)
      have hE := hE9
      have hN : xct st ≤ xct o14.2.2.2.2 := Nat.le_trans hN hn24
      have ev25 : xrs ad7 rd gd8 (xsr o1.2.2.2.2) = xrs ad20 rd gd21 (xsr o1.2.2.2.2) := xrsE hg17
      have hl : lv_has ls 10 [(8, .null), (7, .int (xsi o1.2.2.2.2 19)), (6, .int (xsi o1.2.2.2.2 12)), (5, .int (xsi o1.2.2.2.2 20)), (4, .int (xsi o1.2.2.2.2 17)), (3, .int (xsi o1.2.2.2.2 16)), (2, xrs ad20 rd gd21 (xsr o1.2.2.2.2)), (0, .ref aM)] := by first | exact hl | ((try (rw [← ev25])); exact hl)
      rw [hr9]
      refine W.eq (g2 := F0 m 70 ls [xv vad22 o14.2.2.2.1]) (by first | rfl | ((try (rw [ev25])); rfl)) ?_
      refine xm_astore (lv' := [(8, xv vad22 o14.2.2.2.1), (7, .int (xsi o1.2.2.2.2 19)), (6, .int (xsi o1.2.2.2.2 12)), (5, .int (xsi o1.2.2.2.2 20)), (4, .int (xsi o1.2.2.2.2 17)), (3, .int (xsi o1.2.2.2.2 16)), (2, xrs ad20 rd gd21 (xsr o1.2.2.2.2)), (0, .ref aM)]) hx hb (xvor _ _) dM_fromJson_70 hl (by decide) rfl (fun ls hl => ?_)
      refine lv_goto (tgt := 80) hx hb dM_fromJson_72 (by decide) ?_
      refine lv_aload_n hx hb dM_fromJson_80 rfl (lv_at hl 7 rfl) ?_
      refine xm_aload_n hx hb (xrsor _ _ _ _) dM_fromJson_81 rfl (lv_at hl 6 rfl) ?_
      refine xm_put (v := xrs ad20 rd gd21 (xsr o1.2.2.2.2)) (W' := (xMw cT aM ad20 rd gd21 vad22 (xsX o14.2.2.2.2 (xsr o1.2.2.2.2)) [])) (ty := (.array .byte)) hx hb htx hown hK hP hD hS 15 (by decide) rfl (htx _ kw_5_102) rfl rfl (by decide +kernel) (xnar (xrsor _ _ _ _)) (xfit (xrsor _ _ _ _)) dM_fromJson_82 (fun H locs hP hD hS => ?_)
      refine lv_aload_n hx hb dM_fromJson_85 rfl (lv_at hl 7 rfl) ?_
      refine lv_iload_n hx hb dM_fromJson_86 rfl (lv_at hl 5 rfl) ?_
      refine xm_put (v := .int (xsi o1.2.2.2.2 16)) (W' := (xMw cT aM ad20 rd gd21 vad22 (xsI (xsX o14.2.2.2.2 (xsr o1.2.2.2.2)) 16 (xsi o1.2.2.2.2 16)) [])) (ty := .int) hx hb htx hown hK hP hD hS 16 (by decide) rfl (htx _ kw_5_103) rfl rfl (by decide +kernel) rfl rfl dM_fromJson_87 (fun H locs hP hD hS => ?_)
      refine lv_aload_n hx hb dM_fromJson_90 rfl (lv_at hl 7 rfl) ?_
      refine lv_iload hx hb dM_fromJson_91 (lv_at hl 4 rfl) ?_
      refine xm_put (v := .int (xsi o1.2.2.2.2 17)) (W' := (xMw cT aM ad20 rd gd21 vad22 (xsI (xsI (xsX o14.2.2.2.2 (xsr o1.2.2.2.2)) 16 (xsi o1.2.2.2.2 16)) 17 (xsi o1.2.2.2.2 17)) [])) (ty := .int) hx hb htx hown hK hP hD hS 17 (by decide) rfl (htx _ kw_5_104) rfl rfl (by decide +kernel) rfl rfl dM_fromJson_93 (fun H locs hP hD hS => ?_)
      refine lv_aload_n hx hb dM_fromJson_96 rfl (lv_at hl 7 rfl) ?_
      refine lv_iload hx hb dM_fromJson_97 (lv_at hl 3 rfl) ?_
      refine xm_put (v := .int (xsi o1.2.2.2.2 20)) (W' := (xMw cT aM ad20 rd gd21 vad22 (xsI (xsI (xsI (xsX o14.2.2.2.2 (xsr o1.2.2.2.2)) 16 (xsi o1.2.2.2.2 16)) 17 (xsi o1.2.2.2.2 17)) 20 (xsi o1.2.2.2.2 20)) [])) (ty := .int) hx hb htx hown hK hP hD hS 20 (by decide) rfl (htx _ kw_5_107) rfl rfl (by decide +kernel) rfl rfl dM_fromJson_99 (fun H locs hP hD hS => ?_)
      refine lv_aload_n hx hb dM_fromJson_102 rfl (lv_at hl 7 rfl) ?_
      refine lv_iload hx hb dM_fromJson_103 (lv_at hl 2 rfl) ?_
      refine xm_put (v := .int (xsi o1.2.2.2.2 12)) (W' := (xMw cT aM ad20 rd gd21 vad22 (xsI (xsI (xsI (xsI (xsX o14.2.2.2.2 (xsr o1.2.2.2.2)) 16 (xsi o1.2.2.2.2 16)) 17 (xsi o1.2.2.2.2 17)) 20 (xsi o1.2.2.2.2 20)) 12 (xsi o1.2.2.2.2 12)) [])) (ty := .int) hx hb htx hown hK hP hD hS 12 (by decide) rfl (htx _ kw_5_99) rfl rfl (by decide +kernel) rfl rfl dM_fromJson_105 (fun H locs hP hD hS => ?_)
      refine lv_aload_n hx hb dM_fromJson_108 rfl (lv_at hl 7 rfl) ?_
      refine lv_iload hx hb dM_fromJson_109 (lv_at hl 1 rfl) ?_
      refine xm_put (v := .int (xsi o1.2.2.2.2 19)) (W' := (xMw cT aM ad20 rd gd21 vad22 (xsI (xsI (xsI (xsI (xsI (xsX o14.2.2.2.2 (xsr o1.2.2.2.2)) 16 (xsi o1.2.2.2.2 16)) 17 (xsi o1.2.2.2.2 17)) 20 (xsi o1.2.2.2.2 20)) 12 (xsi o1.2.2.2.2 12)) 19 (xsi o1.2.2.2.2 19)) [])) (ty := .int) hx hb htx hown hK hP hD hS 19 (by decide) rfl (htx _ kw_5_106) rfl rfl (by decide +kernel) rfl rfl dM_fromJson_111 (fun H locs hP hD hS => ?_)
      refine xm_aload hx hb (xvor _ _) dM_fromJson_114 (lv_at hl 0 rfl) ?_
      refine xm_ifnonnull (tgt := 127) hx hb dM_fromJson_116 (by decide) (fun hc => ?_) (fun hc => ?_)
      · rw [if_neg hc] at hf
        refine xm_aload hx hb (xvor _ _) dM_fromJson_127 (lv_at hl 0 rfl) ?_
        obtain rfl := Option.some.inj hf
        exact absurd (show (0 : Nat) = 1 from hkd) (by decide)
      · rw [if_pos hc] at hf
        refine lv_aload_n hx hb dM_fromJson_119 rfl (lv_at hl 7 rfl) ?_
        refine lv_iconst (v := 5) hx hb dM_fromJson_120 (by decide) ?_
        obtain ⟨o26, hq27, hf⟩ := xbind hf
        have hl := lv_sub (l' := [(7, .int (xsi o1.2.2.2.2 19)), (6, .int (xsi o1.2.2.2.2 12)), (5, .int (xsi o1.2.2.2.2 20)), (4, .int (xsi o1.2.2.2.2 17)), (3, .int (xsi o1.2.2.2.2 16)), (0, .ref aM)]) hl [1, 2, 3, 4, 5, 7] rfl
        by_cases hk28 : o26.1 = 1
        · rw [if_pos hk28] at hf
          obtain ⟨hm29, hf⟩ := xmoE hf
          have hFc := xm_free hD hS hA
          refine xx_thr (vx_runV (C := "ValueBenchModel") (As := [.int 5]) (rest := []) ⟨hx, hb, hml, hown, htx⟩ (gM_refuse_1 l hl9 D cT aK aV H.size n aM ad20 rd gd21 vad22 (xsI (xsI (xsI (xsI (xsI (xsX o14.2.2.2.2 (xsr o1.2.2.2.2)) 16 (xsi o1.2.2.2.2 16)) 17 (xsi o1.2.2.2.2 17)) 20 (xsi o1.2.2.2.2 20)) 12 (xsi o1.2.2.2.2 12)) 19 (xsi o1.2.2.2.2 19)) (5 : Int32) o26 hq27 hk28) ⟨callB_of 1 htx (xw_goodC kw_6_93) rfl rfl rfl (htx _ kw_1_5) (htx _ kw_6_90) ⟨by decide, by decide, by decide +kernel⟩ ⟨Nat.le_of_ble_eq_true rfl, Nat.le_of_ble_eq_true rfl⟩, (htx _ kw_6_92), (htx _ kp_M_refuse)⟩ ⟨xPre_blind, va_recv hK hP (ci := 5) rfl (q0 := 0) rfl, (fun U hU hW => ⟨rfl, xPre_of hZ hS hFc hP hD hK U hU hW⟩)⟩ rfl rfl hl.1 rfl (xm_room (Nat.le_of_ble_eq_true rfl)) dM_fromJson_121 ⟨hm29.1, hm29.2⟩) hS hFc (fun q _ h => hFc q h) (fun E ce q9 u9 t H1 locs ht hvm hr9 hB hz1 hk1 hS hce hcv hcl => ?_)
          obtain ⟨rfl, hP1, hK1, hD1⟩ := hB
          rw [ht] at hP1
          obtain ⟨ad31, gd32, vad33⟩ := u9
          obtain ⟨hv34, hn35⟩ := hr9
          have hP : va_P D xcl (xMw cT aM ad31 rd gd32 vad33 o26.2.2.2.2 []) H1 := hP1
          have hD : va_D A (xMw cT aM ad31 rd gd32 vad33 o26.2.2.2.2 []) := hD1.weaken (fun k q _ h => hFc q.1 h)
          generalize H1 = H at hP hS hce ⊢
          have hE9 : ∀ p, p < xct st → vad33 p = vad p := fun p h => (hv34 p (Nat.lt_of_lt_of_le h hN)).trans (hE p h)
          have hE := hE9
          have hN : xct st ≤ xct o26.2.2.2.2 := Nat.le_trans hN hn35
          obtain rfl := Option.some.inj hf
          exact vx_out (E := "java/lang/ArithmeticException") (by rw [htab]; decide) hlocks hce hcv hcl (fun t ht ha => ⟨(ad31, gd32, vad33), ⟨hE, hN⟩, ⟨rfl, by rw [ht]; exact hP, va_K.moved ha hK, hD⟩, hS.F ht⟩) hS.2.2 (Nat.le_refl _) (Nat.le_refl _)
        rw [if_neg hk28] at hf
        exact nomatch hf
    rw [if_neg hk16] at hf
    by_cases hk26 : o14.1 = 1
    · rw [if_pos hk26] at hf
      obtain ⟨hg27, hf⟩ := xifn hf
      obtain ⟨hm28, hf⟩ := xmoE hf
      have hFc := xm_free hD hS hA
      refine xx_thr (vx_runV (C := "ValueBenchModel") (As := [.ref (ad7 3), .int ((xpi o1.2.2.2.2 2) (c0 - 1)), .int (((xpi o1.2.2.2.2 2) (c0 - 1)) + ((xpi o1.2.2.2.2 3) (c0 - 1)))]) (rest := []) ⟨hx, hb, hml, hown, htx⟩ (gM_json_1 l hl9 D cT aK aV H.size d n aM ad7 rd gd8 vad9 (xsI o1.2.2.2.2 19 40) 3 ((xpi o1.2.2.2.2 2) (c0 - 1)) (((xpi o1.2.2.2.2 2) (c0 - 1)) + ((xpi o1.2.2.2.2 3) (c0 - 1))) o14 hq15 hk26) ⟨callB_of 3 htx (xw_goodC kw_5_221) rfl rfl rfl (htx _ kw_1_5) (htx _ kw_5_218) ⟨by decide, by decide, by decide +kernel⟩ ⟨(by show (16 * d + 7) + 1 ≤ 16 * d + 8; omega), (by show 8 + (5 + 11) + (400 * d + 121) ≤ 400 * d + 145; omega)⟩, (htx _ kw_5_220), (htx _ kp_M_json)⟩ ⟨xPre_blind, va_recv hK hP (ci := 5) rfl (q0 := 0) rfl, (fun U hU hW => ⟨rfl, xPre_of hZ hS hFc hP hD hK U hU hW⟩)⟩ rfl rfl hl.1 rfl (xm_room (Nat.le_of_ble_eq_true rfl)) dM_fromJson_67 ⟨hm28.1, hm28.2⟩) hS hFc (fun q _ h => hFc q h) (fun E ce q9 u9 t H1 locs ht hvm hr9 hB hz1 hk1 hS hce hcv hcl => ?_)
      obtain ⟨rfl, hP1, hK1, hD1⟩ := hB
      rw [ht] at hP1
      obtain ⟨ad30, gd31, vad32⟩ := u9
      obtain ⟨hv33, hn34⟩ := hr9
      have hP : va_P D xcl (xMw cT aM ad30 rd gd31 vad32 o14.2.2.2.2 []) H1 := hP1
      have hD : va_D A (xMw cT aM ad30 rd gd31 vad32 o14.2.2.2.2 []) := hD1.weaken (fun k q _ h => hFc q.1 h)
      generalize H1 = H at hP hS hce ⊢
      have hE9 : ∀ p, p < xct st → vad32 p = vad p := fun p h => (hv33 p (Nat.lt_of_lt_of_le h hN)).trans (hE p h)
      have hE := hE9
      have hN : xct st ≤ xct o14.2.2.2.2 := Nat.le_trans hN hn34
      have ev35 : xrs ad7 rd gd8 (xsr o1.2.2.2.2) = xrs ad30 rd gd31 (xsr o1.2.2.2.2) := xrsE hg27
      have hl : lv_has ls 10 [(8, .null), (7, .int (xsi o1.2.2.2.2 19)), (6, .int (xsi o1.2.2.2.2 12)), (5, .int (xsi o1.2.2.2.2 20)), (4, .int (xsi o1.2.2.2.2 17)), (3, .int (xsi o1.2.2.2.2 16)), (2, xrs ad30 rd gd31 (xsr o1.2.2.2.2)), (0, .ref aM)] := by first | exact hl | ((try (rw [← ev35])); exact hl)
      refine vx_catch (own := "ValueBenchModel") (name := "java/lang/UnsupportedOperationException") (E := "java/lang/UnsupportedOperationException") hown [] ⟨49, 72, 75, 205⟩ [] (by rw [htab]; rfl) (fun z hz => nomatch hz) (by decide) (by decide) (htx _ kw_5_204) ((hZ.2.2.2.2.2.1 "java/lang/UnsupportedOperationException" (List.mem_of_getElem? (i := 2) rfl)).use rfl) hce hcv hcl ?_
      refine lv_astore (lv' := [(9, .ref q9), (8, .null), (7, .int (xsi o1.2.2.2.2 19)), (6, .int (xsi o1.2.2.2.2 12)), (5, .int (xsi o1.2.2.2.2 20)), (4, .int (xsi o1.2.2.2.2 17)), (3, .int (xsi o1.2.2.2.2 16)), (2, xrs ad30 rd gd31 (xsr o1.2.2.2.2)), (0, .ref aM)]) hx hb dM_fromJson_75 hl (by decide) rfl (fun ls hl => ?_)
      refine lv_null hx hb dM_fromJson_77 ?_
      refine lv_astoreN (lv' := [(8, .null), (9, .ref q9), (7, .int (xsi o1.2.2.2.2 19)), (6, .int (xsi o1.2.2.2.2 12)), (5, .int (xsi o1.2.2.2.2 20)), (4, .int (xsi o1.2.2.2.2 17)), (3, .int (xsi o1.2.2.2.2 16)), (2, xrs ad30 rd gd31 (xsr o1.2.2.2.2)), (0, .ref aM)]) hx hb dM_fromJson_78 hl (by decide) rfl (fun ls hl => ?_)
      refine lv_aload_n hx hb dM_fromJson_80 rfl (lv_at hl 8 rfl) ?_
      refine xm_aload_n hx hb (xrsor _ _ _ _) dM_fromJson_81 rfl (lv_at hl 7 rfl) ?_
      refine xm_put (v := xrs ad30 rd gd31 (xsr o1.2.2.2.2)) (W' := (xMw cT aM ad30 rd gd31 vad32 (xsX o14.2.2.2.2 (xsr o1.2.2.2.2)) [])) (ty := (.array .byte)) hx hb htx hown hK hP hD hS 15 (by decide) rfl (htx _ kw_5_102) rfl rfl (by decide +kernel) (xnar (xrsor _ _ _ _)) (xfit (xrsor _ _ _ _)) dM_fromJson_82 (fun H locs hP hD hS => ?_)
      refine lv_aload_n hx hb dM_fromJson_85 rfl (lv_at hl 8 rfl) ?_
      refine lv_iload_n hx hb dM_fromJson_86 rfl (lv_at hl 6 rfl) ?_
      refine xm_put (v := .int (xsi o1.2.2.2.2 16)) (W' := (xMw cT aM ad30 rd gd31 vad32 (xsI (xsX o14.2.2.2.2 (xsr o1.2.2.2.2)) 16 (xsi o1.2.2.2.2 16)) [])) (ty := .int) hx hb htx hown hK hP hD hS 16 (by decide) rfl (htx _ kw_5_103) rfl rfl (by decide +kernel) rfl rfl dM_fromJson_87 (fun H locs hP hD hS => ?_)
      refine lv_aload_n hx hb dM_fromJson_90 rfl (lv_at hl 8 rfl) ?_
      refine lv_iload hx hb dM_fromJson_91 (lv_at hl 5 rfl) ?_
      refine xm_put (v := .int (xsi o1.2.2.2.2 17)) (W' := (xMw cT aM ad30 rd gd31 vad32 (xsI (xsI (xsX o14.2.2.2.2 (xsr o1.2.2.2.2)) 16 (xsi o1.2.2.2.2 16)) 17 (xsi o1.2.2.2.2 17)) [])) (ty := .int) hx hb htx hown hK hP hD hS 17 (by decide) rfl (htx _ kw_5_104) rfl rfl (by decide +kernel) rfl rfl dM_fromJson_93 (fun H locs hP hD hS => ?_)
      refine lv_aload_n hx hb dM_fromJson_96 rfl (lv_at hl 8 rfl) ?_
      refine lv_iload hx hb dM_fromJson_97 (lv_at hl 4 rfl) ?_
      refine xm_put (v := .int (xsi o1.2.2.2.2 20)) (W' := (xMw cT aM ad30 rd gd31 vad32 (xsI (xsI (xsI (xsX o14.2.2.2.2 (xsr o1.2.2.2.2)) 16 (xsi o1.2.2.2.2 16)) 17 (xsi o1.2.2.2.2 17)) 20 (xsi o1.2.2.2.2 20)) [])) (ty := .int) hx hb htx hown hK hP hD hS 20 (by decide) rfl (htx _ kw_5_107) rfl rfl (by decide +kernel) rfl rfl dM_fromJson_99 (fun H locs hP hD hS => ?_)
      refine lv_aload_n hx hb dM_fromJson_102 rfl (lv_at hl 8 rfl) ?_
      refine lv_iload hx hb dM_fromJson_103 (lv_at hl 3 rfl) ?_
      refine xm_put (v := .int (xsi o1.2.2.2.2 12)) (W' := (xMw cT aM ad30 rd gd31 vad32 (xsI (xsI (xsI (xsI (xsX o14.2.2.2.2 (xsr o1.2.2.2.2)) 16 (xsi o1.2.2.2.2 16)) 17 (xsi o1.2.2.2.2 17)) 20 (xsi o1.2.2.2.2 20)) 12 (xsi o1.2.2.2.2 12)) [])) (ty := .int) hx hb htx hown hK hP hD hS 12 (by decide) rfl (htx _ kw_5_99) rfl rfl (by decide +kernel) rfl rfl dM_fromJson_105 (fun H locs hP hD hS => ?_)
      refine lv_aload_n hx hb dM_fromJson_108 rfl (lv_at hl 8 rfl) ?_
      refine lv_iload hx hb dM_fromJson_109 (lv_at hl 2 rfl) ?_
      refine xm_put (v := .int (xsi o1.2.2.2.2 19)) (W' := (xMw cT aM ad30 rd gd31 vad32 (xsI (xsI (xsI (xsI (xsI (xsX o14.2.2.2.2 (xsr o1.2.2.2.2)) 16 (xsi o1.2.2.2.2 16)) 17 (xsi o1.2.2.2.2 17)) 20 (xsi o1.2.2.2.2 20)) 12 (xsi o1.2.2.2.2 12)) 19 (xsi o1.2.2.2.2 19)) [])) (ty := .int) hx hb htx hown hK hP hD hS 19 (by decide) rfl (htx _ kw_5_106) rfl rfl (by decide +kernel) rfl rfl dM_fromJson_111 (fun H locs hP hD hS => ?_)
      refine lv_aloadN hx hb dM_fromJson_114 (lv_at hl 0 rfl) ?_
      refine lv_ifnonnullN hx hb dM_fromJson_116 ?_
      refine lv_aload_n hx hb dM_fromJson_119 rfl (lv_at hl 8 rfl) ?_
      refine lv_iconst (v := 5) hx hb dM_fromJson_120 (by decide) ?_
      obtain ⟨o36, hq37, hf⟩ := xbind hf
      have hl := lv_sub (l' := [(8, .null), (9, .ref q9), (7, .int (xsi o1.2.2.2.2 19)), (6, .int (xsi o1.2.2.2.2 12)), (5, .int (xsi o1.2.2.2.2 20)), (4, .int (xsi o1.2.2.2.2 17)), (3, .int (xsi o1.2.2.2.2 16)), (0, .ref aM)]) hl [0, 1, 2, 3, 4, 5, 6, 8] rfl
      by_cases hk38 : o36.1 = 1
      · rw [if_pos hk38] at hf
        obtain ⟨hm39, hf⟩ := xmoE hf
        have hFc := xm_free hD hS hA
        refine xx_thr (vx_runV (C := "ValueBenchModel") (As := [.int 5]) (rest := []) ⟨hx, hb, hml, hown, htx⟩ (gM_refuse_1 l hl9 D cT aK aV H.size n aM ad30 rd gd31 vad32 (xsI (xsI (xsI (xsI (xsI (xsX o14.2.2.2.2 (xsr o1.2.2.2.2)) 16 (xsi o1.2.2.2.2 16)) 17 (xsi o1.2.2.2.2 17)) 20 (xsi o1.2.2.2.2 20)) 12 (xsi o1.2.2.2.2 12)) 19 (xsi o1.2.2.2.2 19)) (5 : Int32) o36 hq37 hk38) ⟨callB_of 1 htx (xw_goodC kw_6_93) rfl rfl rfl (htx _ kw_1_5) (htx _ kw_6_90) ⟨by decide, by decide, by decide +kernel⟩ ⟨Nat.le_of_ble_eq_true rfl, Nat.le_of_ble_eq_true rfl⟩, (htx _ kw_6_92), (htx _ kp_M_refuse)⟩ ⟨xPre_blind, va_recv hK hP (ci := 5) rfl (q0 := 0) rfl, (fun U hU hW => ⟨rfl, xPre_of hZ hS hFc hP hD hK U hU hW⟩)⟩ rfl rfl hl.1 rfl (xm_room (Nat.le_of_ble_eq_true rfl)) dM_fromJson_121 ⟨hm39.1, hm39.2⟩) hS hFc (fun q _ h => hFc q h) (fun E ce q9 u9 t H1 locs ht hvm hr9 hB hz1 hk1 hS hce hcv hcl => ?_)
        obtain ⟨rfl, hP1, hK1, hD1⟩ := hB
        rw [ht] at hP1
        obtain ⟨ad41, gd42, vad43⟩ := u9
        obtain ⟨hv44, hn45⟩ := hr9
        have hP : va_P D xcl (xMw cT aM ad41 rd gd42 vad43 o36.2.2.2.2 []) H1 := hP1
        have hD : va_D A (xMw cT aM ad41 rd gd42 vad43 o36.2.2.2.2 []) := hD1.weaken (fun k q _ h => hFc q.1 h)
        generalize H1 = H at hP hS hce ⊢
        have hE9 : ∀ p, p < xct st → vad43 p = vad p := fun p h => (hv44 p (Nat.lt_of_lt_of_le h hN)).trans (hE p h)
        have hE := hE9
        have hN : xct st ≤ xct o36.2.2.2.2 := Nat.le_trans hN hn45
        obtain rfl := Option.some.inj hf
        exact vx_out (E := "java/lang/ArithmeticException") (by rw [htab]; decide) hlocks hce hcv hcl (fun t ht ha => ⟨(ad41, gd42, vad43), ⟨hE, hN⟩, ⟨rfl, by rw [ht]; exact hP, va_K.moved ha hK, hD⟩, hS.F ht⟩) hS.2.2 (Nat.le_refl _) (Nat.le_refl _)
      rw [if_neg hk38] at hf
      exact nomatch hf
    rw [if_neg hk26] at hf
    by_cases hk46 : o14.1 = 2
    · rw [if_pos hk46] at hf
      exact nomatch hf
    rw [if_neg hk46] at hf
    by_cases hk56 : o14.1 = 3
    · rw [if_pos hk56] at hf
      exact nomatch hf
    rw [if_neg hk56] at hf
    exact nomatch hf
  rw [if_neg hk3] at hf
  by_cases hk66 : o1.1 = 1
  · rw [if_pos hk66] at hf
    obtain ⟨hg67, hf⟩ := xifn hf
    obtain ⟨hm68, hf⟩ := xmoE hf
    have hFc := xm_free hD hS hA
    refine xx_thr (vx_runV (C := "ValueBenchModel") (As := [xv vad c0]) (rest := []) ⟨hx, hb, hml, hown, htx⟩ (gM_text_1 l hl9 D cT aK aV s.heap.size n aM ad rd gd vad st c0 o1 hq2 hk66) ⟨callB_of 1 htx (xw_goodC kw_7_54) rfl rfl rfl (htx _ kw_1_5) (htx _ kw_7_51) ⟨by decide, by decide, by decide +kernel⟩ ⟨Nat.le_of_ble_eq_true rfl, Nat.le_of_ble_eq_true rfl⟩, (htx _ kw_7_53), (htx _ kp_M_text)⟩ ⟨xPre_blind, va_recv hK hP (ci := 5) rfl (q0 := 0) rfl, (fun U hU hW => ⟨rfl, xPre_of hZ hS hFc hP hD hK U hU hW⟩)⟩ rfl rfl hl.1 rfl (xm_room (Nat.le_of_ble_eq_true rfl)) dM_fromJson_2 ⟨hm68.1, hm68.2⟩) hS hFc (fun q _ h => hFc q h) (fun E ce q9 u9 t H1 locs ht hvm hr9 hB hz1 hk1 hS hce hcv hcl => ?_)
    obtain ⟨rfl, hP1, hK1, hD1⟩ := hB
    rw [ht] at hP1
    obtain ⟨ad70, gd71, vad72⟩ := u9
    obtain ⟨hv73, hn74⟩ := hr9
    have hP : va_P D xcl (xMw cT aM ad70 rd gd71 vad72 o1.2.2.2.2 []) H1 := hP1
    have hD : va_D A (xMw cT aM ad70 rd gd71 vad72 o1.2.2.2.2 []) := hD1.weaken (fun k q _ h => hFc q.1 h)
    generalize H1 = H at hP hS hce ⊢
    have hE9 : ∀ p, p < xct st → vad72 p = vad p := fun p h => (hv73 p (Nat.lt_of_lt_of_le h hN)).trans (hE p h)
    have hE := hE9
    have hN : xct st ≤ xct o1.2.2.2.2 := Nat.le_trans hN hn74
    have ev75 : xv vad c0 = xv vad72 c0 := xvE hv73 hg67
    have hl : lv_has ls 10 [(0, .ref aM), (1, xv vad72 c0)] := by first | exact hl | ((try (rw [← ev75])); exact hl)
    obtain rfl := Option.some.inj hf
    exact vx_out (E := "java/lang/ArithmeticException") (by rw [htab]; decide) hlocks hce hcv hcl (fun t ht ha => ⟨(ad70, gd71, vad72), ⟨hE, hN⟩, ⟨rfl, by rw [ht]; exact hP, va_K.moved ha hK, hD⟩, hS.F ht⟩) hS.2.2 (Nat.le_refl _) (Nat.le_refl _)
  rw [if_neg hk66] at hf
  exact nomatch hf
set_option maxHeartbeats 400000000 in
set_option maxRecDepth 100000 in
theorem gM_reversed (l : Launch) (hl9 : l.stackTraces = false) (D : va_G) (cT : Nat → ClassId) (aK aV : Nat → Nat) (sz n : Nat) (aM : Nat) (ad rd gd vad : Nat → Nat) (st : xS) (c0 : Nat) (out : Nat × Nat × Nat × Nat × xS) (hf : fM_reversed n st c0 = some out) (hkd : out.1 = 0) : xMet l yM_reversed wyM_reversed 8 out.2.1 out.2.2.1 147 D cT aK aV sz [.ref aM, xv vad c0] (xMw cT aM ad rd gd vad st []) (fun A => va_Qq (fun (r : Option Nat) (u : xU) => r = xca u.2.2 out.2.2.2.1 ∧ xE vad st out.2.2.2.2 u) (fun u t => xB D xcl cT A (xMw cT aM u.1 rd u.2.1 u.2.2 out.2.2.2.2 []) t) A) := by
  refine Met.ofW (cc := prog_13_method_61_code) (maxL := 4) (ret := (some (.object "ValueBenchModel$V"))) (by decide) rfl ?_
  intro p e s m args below meth c s₁ B hml hv
  obtain ⟨rfl, hsz, hZ, hP, hK, hD0⟩ := hv
  have hx := B.exec
  have hb := B.bytes
  have hr := B.returns
  have hts := atoms_spec (ws := wyM_reversed) B.pre
  have htx := fun w h => hts w (List.mem_cons_of_mem _ h)
  have hown : s.vm.findClass "ValueBenchModel" = some m.cls := findClass_of_methodNamed B.named
  have hlocks := B.notSynchronized
  subst hsz
  have hD := hD0.self (sz := s.heap.size)
  generalize hAe : va_A (xMw cT aM ad rd gd vad st []) s.heap.size = A at hD hZ ⊢
  have hA : ∀ q : Nat, s.heap.size ≤ q → A q := fun q h => by rw [← hAe]; exact Or.inr h
  have hS : va_S A s.heap s.heap [] := va_S.rf
  have hl := lv_entry ([.ref aM, xv vad c0]) (n := 4) (by simp [lg_sl, xvcat, xrscat, xcI, xcL, xcR, xcN])
  rw [show lv_args 0 [.ref aM, xv vad c0] = [(0, .ref aM), (1, xv vad c0)] from by simp [lv_args, xvcat, xrscat, xcI, xcL, xcR, xcN]] at hl
  rw [lg_entry_eq]
  generalize (lg_sl ([.ref aM, xv vad c0]) ++ List.replicate (4 - (lg_sl ([.ref aM, xv vad c0])).length) Slot.unset).toArray = ls at hl ⊢
  have hl : lv_has ls 4 [(0, .ref aM), (1, xv vad c0)] := hl
  have hE : ∀ p, p < xct st → vad p = vad p := fun _ _ => rfl
  have hN : xct st ≤ xct st := Nat.le_refl _
  unfold fM_reversed at hf
  refine xloopM (σ := Nat × Int32 × Int32 × Nat × xS × Nat × Nat) (fun n x H locs ls => (∃ (adL gdL vadL : Nat → Nat), x.1 = 1 ∧ fM_reversed_b n x.1 x.2.1 x.2.2.1 x.2.2.2.1 x.2.2.2.2.1 x.2.2.2.2.2.1 x.2.2.2.2.2.2 = some out ∧ va_P D xcl (xMw cT aM adL rd gdL vadL x.2.2.2.2.1 []) H ∧ va_D A (xMw cT aM adL rd gdL vadL x.2.2.2.2.1 []) ∧ va_S A s.heap H locs ∧ lv_has ls 4 [(3, .int x.2.1), (2, .int x.2.2.1), (0, .ref aM), (1, xv vadL x.2.2.2.1)] ∧ (∀ p, p < xct st → vadL p = vad p) ∧ xct st ≤ xct x.2.2.2.2.1) ∨ (∃ (adL gdL vadL : Nat → Nat), x.1 = 2 ∧ fM_reversed_b n x.1 x.2.1 x.2.2.1 x.2.2.2.1 x.2.2.2.2.1 x.2.2.2.2.2.1 x.2.2.2.2.2.2 = some out ∧ va_P D xcl (xMw cT aM adL rd gdL vadL x.2.2.2.2.1 []) H ∧ va_D A (xMw cT aM adL rd gdL vadL x.2.2.2.2.1 []) ∧ va_S A s.heap H locs ∧ lv_has ls 4 [(3, .int x.2.1), (2, .int x.2.2.1), (0, .ref aM), (1, xv vadL x.2.2.2.1)] ∧ (∀ p, p < xct st → vadL p = vad p) ∧ xct st ≤ xct x.2.2.2.2.1)) (fun x => if x.1 = 1 then 37 else 84) (fun x => x.2.2.2.2.2.1) (fun x => x.2.2.2.2.2.2) (fun x H locs ls h => by rcases h with h | h; (obtain ⟨_, _, _, h⟩ := h; exact absurd h.2.1 (by rw [fM_reversed_b]; exact fun h => nomatch h)); (obtain ⟨_, _, _, h⟩ := h; exact absurd h.2.1 (by rw [fM_reversed_b]; exact fun h => nomatch h))) (fun n ih x H locs ls hv => ?_) (fun key => ?_)
  · obtain ⟨lb, y3, y2, y1, ws9, wc, wn⟩ := x
    rcases hv with ⟨adL, gdL, vadL, hj, hf, hP, hD, hS, hl, hE, hN⟩ | ⟨adL, gdL, vadL, hj, hf, hP, hD, hS, hl, hE, hN⟩
    · subst hj
      have hf : fM_reversed_b (n + 1) 1 y3 y2 y1 ws9 wc wn = some out := hf
      rw [fM_reversed_b, if_pos rfl] at hf
      obtain ⟨hP, hD⟩ : xPD D xcl A (xMw cT aM adL rd gdL vadL ws9 []) H := ⟨hP, hD⟩
      have hl : lv_has ls 4 [(3, .int y3), (2, .int y2), (0, .ref aM), (1, xv vadL y1)] := hl
      refine W.eq (g2 := F0 m 37 ls []) rfl ?_
      show W p l e _ s m _ below meth c H locs wc wn _ _
      obtain ⟨hm0, hf⟩ := xmoE hf
      refine lv_iload_n hx hb dM_reversed_37 rfl (lv_at hl 0 rfl) ?_
      refine lv_if_lt (tgt := 62) hx hb dM_reversed_38 (by decide) (fun hc => ?_) (fun hc => ?_)
      · rw [if_pos hc] at hf
        refine lv_aload_n hx hb dM_reversed_62 rfl (lv_at hl 2 rfl) ?_
        refine lv_iload_n hx hb dM_reversed_63 rfl (lv_at hl 1 rfl) ?_
        obtain ⟨o1, hq2, hf⟩ := xbind hf
        have hl := lv_sub (l' := [(3, .int y3), (2, .int y2), (0, .ref aM)]) hl [0, 1, 2] rfl
        by_cases hk3 : o1.1 = 0
        · rw [if_pos hk3] at hf
          obtain ⟨hm4, hf⟩ := xmoE hf
          have hFc := xm_free hD hS hA
          refine va_callq (va_runV (C := "ValueBenchModel") (As := [.int y2]) (rest := []) ⟨hx, hb, hml, hown, htx⟩ (gM_string l hl9 D cT aK aV H.size n aM adL rd gdL vadL ws9 y2 o1 hq2 hk3) ⟨callB_of 1 htx (xw_goodC kw_6_61) rfl rfl rfl (htx _ kw_1_5) (htx _ kw_6_58) ⟨by decide, by decide, by decide +kernel⟩ ⟨Nat.le_of_ble_eq_true rfl, Nat.le_of_ble_eq_true rfl⟩, (htx _ kw_6_60), (htx _ kp_M_string)⟩ ⟨xPre_blind, va_recv hK hP (ci := 5) rfl (q0 := 0) rfl, (fun U hU hW => ⟨rfl, xPre_of hZ hS hFc hP hD hK U hU hW⟩)⟩ rfl rfl hl.1 rfl (xm_room (Nat.le_of_ble_eq_true rfl)) dM_reversed_64 ⟨hm4.1, hm4.2⟩) hS (fun q _ h => hFc q h) hFc (fun r5 u9 t H1 locs ht hvm hr9 hB hz1 hk1 hS => ?_)
          obtain ⟨hP1, hK1, hD1⟩ := hB
          rw [ht] at hP1
          obtain ⟨ad6, gd7, vad8⟩ := u9
          obtain ⟨hr9, hv9, hn10⟩ := hr9
          have hP : va_P D xcl (xMw cT aM ad6 rd gd7 vad8 o1.2.2.2.2 []) H1 := hP1
          have hD : va_D A (xMw cT aM ad6 rd gd7 vad8 o1.2.2.2.2 []) := hD1.weaken (fun k q _ h => hFc q.1 h)
          generalize H1 = H at hP hS ⊢
          have hE9 : ∀ p, p < xct st → vad8 p = vad p := fun p h => (hv9 p (Nat.lt_of_lt_of_le h hN)).trans (hE p h)
          have hE := hE9
          have hN : xct st ≤ xct o1.2.2.2.2 := Nat.le_trans hN hn10
          rw [hr9]
          refine W.eq (g2 := F0 m 67 ls [xv vad8 o1.2.2.2.1]) (by first | rfl | (skip; rfl)) ?_
          obtain rfl := Option.some.inj hf
          exact W.aret (v := xv vad8 o1.2.2.2.1) hx hb hr (Or.inl ⟨_, rfl⟩) (xvor _ _) (fun t ht hW => ⟨⟨xca vad8 o1.2.2.2.1, (ad6, gd7, vad8), rfl, ⟨rfl, hE, hN⟩, by rw [ht]; exact hP, va_K.moved hW.alike hK, hD⟩, hS.F ht⟩) hS.2.2 dM_reversed_67
        rw [if_neg hk3] at hf
        by_cases hk11 : o1.1 = 1
        · rw [if_pos hk11] at hf
          obtain ⟨hm12, hf⟩ := xmoE hf
          obtain rfl := Option.some.inj hf
          exact absurd (show (2 : Nat) = 0 from hkd) (by decide)
        rw [if_neg hk11] at hf
        exact nomatch hf
      · rw [if_neg hc] at hf
        refine lv_aload_n hx hb dM_reversed_41 rfl (lv_at hl 2 rfl) ?_
        refine lv_aload_n hx hb dM_reversed_42 rfl (lv_at hl 2 rfl) ?_
        refine xm_get (v := .ref (adL 3)) hx hb htx hown hK hP 3 (by decide) rfl (htx _ kw_5_90) rfl dM_reversed_43 ?_
        refine xm_aload_n hx hb (xvor _ _) dM_reversed_46 rfl (lv_at hl 3 rfl) ?_
        obtain ⟨hg1, hf⟩ := xifn hf
        refine xm_vget (v := .int ((xpi ws9 2) (y1 - 1))) hx hb htx hown hK hP 2 (by decide) hg1 rfl ((hZ.1 (100, "off", "I") (List.mem_of_getElem? (i := 2) rfl)).use rfl) rfl dM_reversed_47 ?_
        refine lv_iload_n hx hb dM_reversed_50 rfl (lv_at hl 0 rfl) ?_
        refine lv_iadd hx hb dM_reversed_51 ?_
        obtain ⟨hg2, hf⟩ := xifn hf
        refine va_bald hx hb hK hP 2 0 rfl rfl hg2 dM_reversed_52 ?_
        refine W.eq (g2 := F0 m 53 ls [.int ((xba ws9 3) (((xpi ws9 2) (y1 - 1)) + y3).toNatClampNeg), .ref aM]) rfl ?_
        obtain ⟨o3, hq4, hf⟩ := xbind hf
        obtain ⟨hm5, hf⟩ := xmoE hf
        have hFc := xm_free hD hS hA
        refine va_callv (va_runV (C := "ValueBenchModel") (As := [.int ((xba ws9 3) (((xpi ws9 2) (y1 - 1)) + y3).toNatClampNeg)]) (rest := []) ⟨hx, hb, hml, hown, htx⟩ (gM_letter l hl9 D cT aK aV H.size n aM adL rd gdL vadL ws9 ((xba ws9 3) (((xpi ws9 2) (y1 - 1)) + y3).toNatClampNeg) o3 hq4) ⟨callB_of 1 htx (xw_goodC kw_6_54) rfl rfl rfl (htx _ kw_1_5) (htx _ kw_6_51) ⟨by decide, by decide, by decide +kernel⟩ ⟨Nat.le_of_ble_eq_true rfl, Nat.le_of_ble_eq_true rfl⟩, (htx _ kw_6_53), (htx _ kp_M_letter)⟩ ⟨xPre_blind, va_recv hK hP (ci := 5) rfl (q0 := 0) rfl, (fun U hU hW => ⟨rfl, xPre_of hZ hS hFc hP hD hK U hU hW⟩)⟩ rfl rfl hl.1 rfl (xm_room (Nat.le_of_ble_eq_true rfl)) dM_reversed_53 ⟨hm5.1, hm5.2⟩) hS (fun q _ h => hFc q h) hFc (fun u9 t H1 locs ht hvm hr9 hB hz1 hk1 hS => ?_)
        obtain ⟨hP1, hK1, hD1⟩ := hB
        rw [ht] at hP1
        obtain ⟨ad7, gd8, vad9⟩ := u9
        obtain ⟨hv10, hn11⟩ := hr9
        have hP : va_P D xcl (xMw cT aM ad7 rd gd8 vad9 o3.2.2 []) H1 := hP1
        have hD : va_D A (xMw cT aM ad7 rd gd8 vad9 o3.2.2 []) := hD1.weaken (fun k q _ h => hFc q.1 h)
        generalize H1 = H at hP hS ⊢
        have hE9 : ∀ p, p < xct st → vad9 p = vad p := fun p h => (hv10 p (Nat.lt_of_lt_of_le h hN)).trans (hE p h)
        have hE := hE9
        have hN : xct st ≤ xct o3.2.2 := Nat.le_trans hN hn11
        have ev12 : xv vadL y1 = xv vad9 y1 := xvE hv10 (fun h => hg1 (Or.inr h))
        have hl : lv_has ls 4 [(3, .int y3), (2, .int y2), (0, .ref aM), (1, xv vad9 y1)] := by first | exact hl | ((try (rw [← ev12])); exact hl)
        refine W.eq (g2 := F0 m 56 ls []) (by first | rfl | ((try (rw [ev12])); rfl)) ?_
        refine lv_iinc (v := (y3 + (-1))) (lv' := [(3, .int (y3 + (-1))), (2, .int y2), (0, .ref aM), (1, xv vad9 y1)]) hx hb dM_reversed_56 hl (k := 0) rfl rfl (by decide) rfl (fun ls hl => ?_)
        refine lv_goto (tgt := 37) hx hb dM_reversed_59 (by decide) ?_
        exact ih (1, (y3 + (-1)), y2, y1, o3.2.2, (wc + o3.1), (wn + o3.2.1)) _ _ ls (Or.inl ⟨ad7, gd8, vad9, rfl, hf, hP, hD, hS, lv_sub hl [0, 1, 2, 3] rfl, hE, hN⟩)
    · subst hj
      have hf : fM_reversed_b (n + 1) 2 y3 y2 y1 ws9 wc wn = some out := hf
      rw [fM_reversed_b, if_neg (by decide)] at hf
      obtain ⟨hP, hD⟩ : xPD D xcl A (xMw cT aM adL rd gdL vadL ws9 []) H := ⟨hP, hD⟩
      have hl : lv_has ls 4 [(3, .int y3), (2, .int y2), (0, .ref aM), (1, xv vadL y1)] := hl
      refine W.eq (g2 := F0 m 84 ls []) rfl ?_
      show W p l e _ s m _ below meth c H locs wc wn _ _
      obtain ⟨hm0, hf⟩ := xmoE hf
      refine lv_iload_n hx hb dM_reversed_84 rfl (lv_at hl 0 rfl) ?_
      refine lv_if_lt (tgt := 105) hx hb dM_reversed_85 (by decide) (fun hc => ?_) (fun hc => ?_)
      · rw [if_pos hc] at hf
        refine lv_aload_n hx hb dM_reversed_105 rfl (lv_at hl 2 rfl) ?_
        refine lv_iconst (v := 5) hx hb dM_reversed_106 (by decide) ?_
        refine lv_iload_n hx hb dM_reversed_107 rfl (lv_at hl 1 rfl) ?_
        obtain ⟨o1, hq2, hf⟩ := xbind hf
        have hl := lv_sub (l' := [(3, .int y3), (2, .int y2), (0, .ref aM)]) hl [0, 1, 2] rfl
        by_cases hk3 : o1.1 = 0
        · rw [if_pos hk3] at hf
          obtain ⟨hm4, hf⟩ := xmoE hf
          have hFc := xm_free hD hS hA
          refine va_callq (va_runV (C := "ValueBenchModel") (As := [.int 5, .int y2]) (rest := []) ⟨hx, hb, hml, hown, htx⟩ (gM_whole l hl9 D cT aK aV H.size n aM adL rd gdL vadL ws9 (5 : Int32) y2 o1 hq2 hk3) ⟨callB_of 2 htx (xw_goodC kw_6_106) rfl rfl rfl (htx _ kw_1_5) (htx _ kw_6_103) ⟨by decide, by decide, by decide +kernel⟩ ⟨Nat.le_of_ble_eq_true rfl, Nat.le_of_ble_eq_true rfl⟩, (htx _ kw_6_105), (htx _ kp_M_whole)⟩ ⟨xPre_blind, va_recv hK hP (ci := 5) rfl (q0 := 0) rfl, (fun U hU hW => ⟨rfl, xPre_of hZ hS hFc hP hD hK U hU hW⟩)⟩ rfl rfl hl.1 rfl (xm_room (Nat.le_of_ble_eq_true rfl)) dM_reversed_108 ⟨hm4.1, hm4.2⟩) hS (fun q _ h => hFc q h) hFc (fun r5 u9 t H1 locs ht hvm hr9 hB hz1 hk1 hS => ?_)
          obtain ⟨hP1, hK1, hD1⟩ := hB
          rw [ht] at hP1
          obtain ⟨ad6, gd7, vad8⟩ := u9
          obtain ⟨hr9, hv9, hn10⟩ := hr9
          have hP : va_P D xcl (xMw cT aM ad6 rd gd7 vad8 o1.2.2.2.2 []) H1 := hP1
          have hD : va_D A (xMw cT aM ad6 rd gd7 vad8 o1.2.2.2.2 []) := hD1.weaken (fun k q _ h => hFc q.1 h)
          generalize H1 = H at hP hS ⊢
          have hE9 : ∀ p, p < xct st → vad8 p = vad p := fun p h => (hv9 p (Nat.lt_of_lt_of_le h hN)).trans (hE p h)
          have hE := hE9
          have hN : xct st ≤ xct o1.2.2.2.2 := Nat.le_trans hN hn10
          rw [hr9]
          refine W.eq (g2 := F0 m 111 ls [xv vad8 o1.2.2.2.1]) (by first | rfl | (skip; rfl)) ?_
          obtain rfl := Option.some.inj hf
          exact W.aret (v := xv vad8 o1.2.2.2.1) hx hb hr (Or.inl ⟨_, rfl⟩) (xvor _ _) (fun t ht hW => ⟨⟨xca vad8 o1.2.2.2.1, (ad6, gd7, vad8), rfl, ⟨rfl, hE, hN⟩, by rw [ht]; exact hP, va_K.moved hW.alike hK, hD⟩, hS.F ht⟩) hS.2.2 dM_reversed_111
        rw [if_neg hk3] at hf
        by_cases hk11 : o1.1 = 1
        · rw [if_pos hk11] at hf
          obtain ⟨hm12, hf⟩ := xmoE hf
          obtain rfl := Option.some.inj hf
          exact absurd (show (2 : Nat) = 0 from hkd) (by decide)
        rw [if_neg hk11] at hf
        exact nomatch hf
      · rw [if_neg hc] at hf
        refine lv_aload_n hx hb dM_reversed_88 rfl (lv_at hl 2 rfl) ?_
        refine lv_null hx hb dM_reversed_89 ?_
        refine lv_aload_n hx hb dM_reversed_90 rfl (lv_at hl 2 rfl) ?_
        refine xm_aload_n hx hb (xvor _ _) dM_reversed_91 rfl (lv_at hl 3 rfl) ?_
        refine lv_iload_n hx hb dM_reversed_92 rfl (lv_at hl 0 rfl) ?_
        obtain ⟨o1, hq2, hf⟩ := xbind hf
        have hFc := xm_free hD hS hA
        refine va_callq (va_runV (C := "ValueBenchModel") (As := [xv vadL y1, .int y3]) (rest := [.null, .ref aM]) ⟨hx, hb, hml, hown, htx⟩ (gM_kid l hl9 D cT aK aV H.size n aM adL rd gdL vadL ws9 y1 y3 o1 hq2) ⟨callB_of 2 htx (xw_goodC kw_6_158) rfl rfl rfl (htx _ kw_1_5) (htx _ kw_6_155) ⟨by decide, by decide, by decide +kernel⟩ ⟨Nat.le_of_ble_eq_true rfl, Nat.le_of_ble_eq_true rfl⟩, (htx _ kw_6_157), (htx _ kp_M_kid)⟩ ⟨xPre_blind, va_recv hK hP (ci := 5) rfl (q0 := 0) rfl, (fun U hU hW => ⟨rfl, xPre_of hZ hS hFc hP hD hK U hU hW⟩)⟩ rfl rfl hl.1 rfl (xm_room (Nat.le_of_ble_eq_true rfl)) dM_reversed_93 ⟨hm0.1, hm0.2⟩) hS (fun q _ h => hFc q h) hFc (fun r3 u9 t H1 locs ht hvm hr9 hB hz1 hk1 hS => ?_)
        obtain ⟨hP1, hK1, hD1⟩ := hB
        rw [ht] at hP1
        have hP : va_P D xcl (xMw cT aM adL rd gdL vadL ws9 []) H1 := hP1
        have hD : va_D A (xMw cT aM adL rd gdL vadL ws9 []) := hD1.weaken (fun k q _ h => hFc q.1 h)
        generalize H1 = H at hP hS ⊢
        rw [hr9]
        refine W.eq (g2 := F0 m 96 ls [xv vadL o1, .null, .ref aM]) (by first | rfl | (skip; rfl)) ?_
        obtain ⟨o4, hq5, hf⟩ := xbind hf
        obtain ⟨hg6, hf⟩ := xifn hf
        obtain ⟨hm7, hf⟩ := xmoE hf
        have hFc := xm_free hD hS hA
        refine va_callv (va_runV (C := "ValueBenchModel") (As := [.null, xv vadL o1]) (rest := []) ⟨hx, hb, hml, hown, htx⟩ (gM_wait l hl9 D cT aK aV H.size n aM adL rd gdL vadL ws9 0 o1 o4 hq5) ⟨callB_of 2 htx (xw_goodC kw_6_112) rfl rfl rfl (htx _ kw_1_5) (htx _ kw_6_109) ⟨by decide, by decide, by decide +kernel⟩ ⟨Nat.le_of_ble_eq_true rfl, Nat.le_of_ble_eq_true rfl⟩, (htx _ kw_6_111), (htx _ kp_M_wait)⟩ ⟨xPre_blind, va_recv hK hP (ci := 5) rfl (q0 := 0) rfl, (fun U hU hW => ⟨rfl, xPre_of hZ hS hFc hP hD hK U hU hW⟩)⟩ rfl rfl hl.1 rfl (xm_room (Nat.le_of_ble_eq_true rfl)) dM_reversed_96 ⟨hm7.1, hm7.2⟩) hS (fun q _ h => hFc q h) hFc (fun u9 t H1 locs ht hvm hr9 hB hz1 hk1 hS => ?_)
        obtain ⟨hP1, hK1, hD1⟩ := hB
        rw [ht] at hP1
        obtain ⟨ad9, gd10, vad11⟩ := u9
        obtain ⟨hv12, hn13⟩ := hr9
        have hP : va_P D xcl (xMw cT aM ad9 rd gd10 vad11 o4.2.2 []) H1 := hP1
        have hD : va_D A (xMw cT aM ad9 rd gd10 vad11 o4.2.2 []) := hD1.weaken (fun k q _ h => hFc q.1 h)
        generalize H1 = H at hP hS ⊢
        have hE9 : ∀ p, p < xct st → vad11 p = vad p := fun p h => (hv12 p (Nat.lt_of_lt_of_le h hN)).trans (hE p h)
        have hE := hE9
        have hN : xct st ≤ xct o4.2.2 := Nat.le_trans hN hn13
        have ev14 : xv vadL y1 = xv vad11 y1 := xvE hv12 hg6
        have hl : lv_has ls 4 [(3, .int y3), (2, .int y2), (0, .ref aM), (1, xv vad11 y1)] := by first | exact hl | ((try (rw [← ev14])); exact hl)
        refine W.eq (g2 := F0 m 99 ls []) (by first | rfl | ((try (rw [ev14])); rfl)) ?_
        refine lv_iinc (v := (y3 + (-1))) (lv' := [(3, .int (y3 + (-1))), (2, .int y2), (0, .ref aM), (1, xv vad11 y1)]) hx hb dM_reversed_99 hl (k := 0) rfl rfl (by decide) rfl (fun ls hl => ?_)
        refine lv_goto (tgt := 84) hx hb dM_reversed_102 (by decide) ?_
        exact ih (2, (y3 + (-1)), y2, y1, o4.2.2, (wc + o4.1), (wn + o4.2.1)) _ _ ls (Or.inr (⟨ad9, gd10, vad11, rfl, hf, hP, hD, hS, lv_sub hl [0, 1, 2, 3] rfl, hE, hN⟩))
  refine xm_aload_n hx hb (xvor _ _) dM_reversed_0 rfl (lv_at hl 1 rfl) ?_
  obtain ⟨hg1, hf⟩ := xifn hf
  refine xm_vget (v := .int ((xpi st 0) (c0 - 1))) hx hb htx hown hK hP 0 (by decide) hg1 rfl ((hZ.1 (93, "kind", "I") (List.mem_of_getElem? (i := 0) rfl)).use rfl) rfl dM_reversed_1 ?_
  refine lv_if_ne (tgt := 17) hx hb dM_reversed_4 (by decide) (fun hc => ?_) (fun hc => ?_)
  · rw [if_neg hc] at hf
    refine xm_aload_n hx hb (xvor _ _) dM_reversed_17 rfl (lv_at hl 1 rfl) ?_
    refine xm_vget (v := .int ((xpi st 0) (c0 - 1))) hx hb htx hown hK hP 0 (by decide) hg1 rfl ((hZ.1 (93, "kind", "I") (List.mem_of_getElem? (i := 0) rfl)).use rfl) rfl dM_reversed_18 ?_
    refine lv_iconst (v := 4) hx hb dM_reversed_21 (by decide) ?_
    refine lv_icmp_ne (tgt := 68) hx hb dM_reversed_22 (by decide) (fun hc => ?_) (fun hc => ?_)
    · rw [if_neg hc] at hf
      refine lv_aload_n hx hb dM_reversed_68 rfl (lv_at hl 0 rfl) ?_
      refine xm_get (v := .int (xsi st 12)) hx hb htx hown hK hP 12 (by decide) rfl (htx _ kw_5_99) rfl dM_reversed_69 ?_
      refine lv_istore_n (lv' := [(2, .int (xsi st 12)), (0, .ref aM), (1, xv vad c0)]) hx hb dM_reversed_72 rfl hl (by decide) (by simp only [List.filter, xvcat, xrscat, xcI, xcL, xcR, xcN]; rfl) (fun ls hl => ?_)
      refine lv_aload_n hx hb dM_reversed_73 rfl (lv_at hl 1 rfl) ?_
      refine xm_aload_n hx hb (xvor _ _) dM_reversed_74 rfl (lv_at hl 2 rfl) ?_
      obtain ⟨o2, hq3, hf⟩ := xbind hf
      by_cases hk4 : o2.1 = 0
      · rw [if_pos hk4] at hf
        obtain ⟨hm5, hf⟩ := xmoE hf
        have hFc := xm_free hD hS hA
        refine va_callq (va_runV (C := "ValueBenchModel") (As := [xv vad c0]) (rest := []) ⟨hx, hb, hml, hown, htx⟩ (gM_array l hl9 D cT aK aV s.heap.size n aM ad rd gd vad st c0 o2 hq3 hk4) ⟨callB_of 1 htx (xw_goodC kw_7_42) rfl rfl rfl (htx _ kw_1_5) (htx _ kw_7_39) ⟨by decide, by decide, by decide +kernel⟩ ⟨Nat.le_of_ble_eq_true rfl, Nat.le_of_ble_eq_true rfl⟩, (htx _ kw_7_41), (htx _ kp_M_array)⟩ ⟨xPre_blind, va_recv hK hP (ci := 5) rfl (q0 := 0) rfl, (fun U hU hW => ⟨rfl, xPre_of hZ hS hFc hP hD hK U hU hW⟩)⟩ rfl rfl hl.1 rfl (xm_room (Nat.le_of_ble_eq_true rfl)) dM_reversed_75 ⟨hm5.1, hm5.2⟩) hS (fun q _ h => hFc q h) hFc (fun r6 u9 t H1 locs ht hvm hr9 hB hz1 hk1 hS => ?_)
        obtain ⟨hP1, hK1, hD1⟩ := hB
        rw [ht] at hP1
        obtain ⟨ad7, gd8, vad9⟩ := u9
        obtain ⟨hr9, hv10, hn11⟩ := hr9
        have hP : va_P D xcl (xMw cT aM ad7 rd gd8 vad9 o2.2.2.2.2 []) H1 := hP1
        have hD : va_D A (xMw cT aM ad7 rd gd8 vad9 o2.2.2.2.2 []) := hD1.weaken (fun k q _ h => hFc q.1 h)
        generalize H1 = H at hP hS ⊢
        have hE9 : ∀ p, p < xct st → vad9 p = vad p := fun p h => (hv10 p (Nat.lt_of_lt_of_le h hN)).trans (hE p h)
        have hE := hE9
        have hN : xct st ≤ xct o2.2.2.2.2 := Nat.le_trans hN hn11
        have ev12 : xv vad c0 = xv vad9 c0 := xvE hv10 (fun h => hg1 (Or.inr h))
        have hl : lv_has ls 4 [(2, .int (xsi st 12)), (0, .ref aM), (1, xv vad9 c0)] := by first | exact hl | ((try (rw [← ev12])); exact hl)
        rw [hr9]
        refine W.eq (g2 := F0 m 78 ls [xv vad9 o2.2.2.2.1]) (by first | rfl | ((try (rw [ev12])); rfl)) ?_
        obtain ⟨hg13, hf⟩ := xifn hf
        refine xm_vget (v := .int ((xpi o2.2.2.2.2 3) (o2.2.2.2.1 - 1))) hx hb htx hown hK hP 3 (by decide) hg13 rfl ((hZ.1 (103, "count", "I") (List.mem_of_getElem? (i := 3) rfl)).use rfl) rfl dM_reversed_78 ?_
        refine lv_iconst (v := 1) hx hb dM_reversed_81 (by decide) ?_
        refine lv_isub hx hb dM_reversed_82 ?_
        refine lv_istore_n (lv' := [(3, .int (((xpi o2.2.2.2.2 3) (o2.2.2.2.1 - 1)) - (1 : Int32))), (2, .int (xsi st 12)), (0, .ref aM), (1, xv vad9 c0)]) hx hb dM_reversed_83 rfl hl (by decide) rfl (fun ls hl => ?_)
        exact key n (2, (((xpi o2.2.2.2.2 3) (o2.2.2.2.1 - 1)) - (1 : Int32)), (xsi st 12), c0, o2.2.2.2.2, (0 + o2.2.1), (0 + o2.2.2.1)) _ _ ls (Or.inr (⟨ad7, gd8, vad9, rfl, hf, hP, hD, hS, lv_sub hl [0, 1, 2, 3] rfl, hE, hN⟩))
      rw [if_neg hk4] at hf
      by_cases hk14 : o2.1 = 1
      · rw [if_pos hk14] at hf
        obtain ⟨hm15, hf⟩ := xmoE hf
        obtain rfl := Option.some.inj hf
        exact absurd (show (1 : Nat) = 0 from hkd) (by decide)
      rw [if_neg hk14] at hf
      exact nomatch hf
    · rw [if_pos hc] at hf
      refine lv_aload_n hx hb dM_reversed_25 rfl (lv_at hl 0 rfl) ?_
      refine xm_get (v := .int (xsi st 4)) hx hb htx hown hK hP 4 (by decide) rfl (htx _ kw_5_91) rfl dM_reversed_26 ?_
      refine lv_istore_n (lv' := [(2, .int (xsi st 4)), (0, .ref aM), (1, xv vad c0)]) hx hb dM_reversed_29 rfl hl (by decide) (by simp only [List.filter, xvcat, xrscat, xcI, xcL, xcR, xcN]; rfl) (fun ls hl => ?_)
      refine xm_aload_n hx hb (xvor _ _) dM_reversed_30 rfl (lv_at hl 2 rfl) ?_
      refine xm_vget (v := .int ((xpi st 3) (c0 - 1))) hx hb htx hown hK hP 3 (by decide) hg1 rfl ((hZ.1 (103, "count", "I") (List.mem_of_getElem? (i := 3) rfl)).use rfl) rfl dM_reversed_31 ?_
      refine lv_iconst (v := 1) hx hb dM_reversed_34 (by decide) ?_
      refine lv_isub hx hb dM_reversed_35 ?_
      refine lv_istore_n (lv' := [(3, .int (((xpi st 3) (c0 - 1)) - (1 : Int32))), (2, .int (xsi st 4)), (0, .ref aM), (1, xv vad c0)]) hx hb dM_reversed_36 rfl hl (by decide) rfl (fun ls hl => ?_)
      exact key n (1, (((xpi st 3) (c0 - 1)) - (1 : Int32)), (xsi st 4), c0, st, 0, 0) _ _ ls (Or.inl ⟨ad, gd, vad, rfl, hf, hP, hD, hS, lv_sub hl [0, 1, 2, 3] rfl, hE, hN⟩)
  · rw [if_pos hc] at hf
    refine lv_aload_n hx hb dM_reversed_7 rfl (lv_at hl 0 rfl) ?_
    refine lv_iconst (v := 5) hx hb dM_reversed_8 (by decide) ?_
    refine lv_aload_n hx hb dM_reversed_9 rfl (lv_at hl 0 rfl) ?_
    refine xm_get (v := .int (xsi st 12)) hx hb htx hown hK hP 12 (by decide) rfl (htx _ kw_5_99) rfl dM_reversed_10 ?_
    obtain ⟨o2, hq3, hf⟩ := xbind hf
    have hl := lv_sub (l' := [(0, .ref aM)]) hl [0] rfl
    by_cases hk4 : o2.1 = 0
    · rw [if_pos hk4] at hf
      obtain ⟨hm5, hf⟩ := xmoE hf
      have hFc := xm_free hD hS hA
      refine va_callq (va_runV (C := "ValueBenchModel") (As := [.int 5, .int (xsi st 12)]) (rest := []) ⟨hx, hb, hml, hown, htx⟩ (gM_whole l hl9 D cT aK aV s.heap.size n aM ad rd gd vad st (5 : Int32) (xsi st 12) o2 hq3 hk4) ⟨callB_of 2 htx (xw_goodC kw_6_106) rfl rfl rfl (htx _ kw_1_5) (htx _ kw_6_103) ⟨by decide, by decide, by decide +kernel⟩ ⟨Nat.le_of_ble_eq_true rfl, Nat.le_of_ble_eq_true rfl⟩, (htx _ kw_6_105), (htx _ kp_M_whole)⟩ ⟨xPre_blind, va_recv hK hP (ci := 5) rfl (q0 := 0) rfl, (fun U hU hW => ⟨rfl, xPre_of hZ hS hFc hP hD hK U hU hW⟩)⟩ rfl rfl hl.1 rfl (xm_room (Nat.le_of_ble_eq_true rfl)) dM_reversed_13 ⟨hm5.1, hm5.2⟩) hS (fun q _ h => hFc q h) hFc (fun r6 u9 t H1 locs ht hvm hr9 hB hz1 hk1 hS => ?_)
      obtain ⟨hP1, hK1, hD1⟩ := hB
      rw [ht] at hP1
      obtain ⟨ad7, gd8, vad9⟩ := u9
      obtain ⟨hr9, hv10, hn11⟩ := hr9
      have hP : va_P D xcl (xMw cT aM ad7 rd gd8 vad9 o2.2.2.2.2 []) H1 := hP1
      have hD : va_D A (xMw cT aM ad7 rd gd8 vad9 o2.2.2.2.2 []) := hD1.weaken (fun k q _ h => hFc q.1 h)
      generalize H1 = H at hP hS ⊢
      have hE9 : ∀ p, p < xct st → vad9 p = vad p := fun p h => (hv10 p (Nat.lt_of_lt_of_le h hN)).trans (hE p h)
      have hE := hE9
      have hN : xct st ≤ xct o2.2.2.2.2 := Nat.le_trans hN hn11
      rw [hr9]
      refine W.eq (g2 := F0 m 16 ls [xv vad9 o2.2.2.2.1]) (by first | rfl | (skip; rfl)) ?_
      obtain rfl := Option.some.inj hf
      exact W.aret (v := xv vad9 o2.2.2.2.1) hx hb hr (Or.inl ⟨_, rfl⟩) (xvor _ _) (fun t ht hW => ⟨⟨xca vad9 o2.2.2.2.1, (ad7, gd8, vad9), rfl, ⟨rfl, hE, hN⟩, by rw [ht]; exact hP, va_K.moved hW.alike hK, hD⟩, hS.F ht⟩) hS.2.2 dM_reversed_16
    rw [if_neg hk4] at hf
    by_cases hk12 : o2.1 = 1
    · rw [if_pos hk12] at hf
      obtain ⟨hm13, hf⟩ := xmoE hf
      obtain rfl := Option.some.inj hf
      exact absurd (show (2 : Nat) = 0 from hkd) (by decide)
    rw [if_neg hk12] at hf
    exact nomatch hf
set_option maxHeartbeats 400000000 in
set_option maxRecDepth 100000 in
theorem gM_reversed_1 (l : Launch) (hl9 : l.stackTraces = false) (D : va_G) (cT : Nat → ClassId) (aK aV : Nat → Nat) (sz n : Nat) (aM : Nat) (ad rd gd vad : Nat → Nat) (st : xS) (c0 : Nat) (out : Nat × Nat × Nat × Nat × xS) (hf : fM_reversed n st c0 = some out) (hkd : out.1 = 1) : xMetY l yM_reversed wyM_reversed 8 out.2.1 out.2.2.1 147 D cT aK aV sz [.ref aM, xv vad c0] (xMw cT aM ad rd gd vad st []) "java/lang/ArithmeticException" (fun u => xE vad st out.2.2.2.2 u) (fun A u t => xB D xcl cT A (xMw cT aM u.1 rd u.2.1 u.2.2 out.2.2.2.2 []) t) := by
  refine vx_ofW (cc := prog_13_method_61_code) (maxL := 4) (ret := (some (.object "ValueBenchModel$V"))) (by decide) rfl ?_
  intro p e s m args below meth c s₁ B hml hne hv
  obtain ⟨rfl, hsz, hZ, hP, hK, hD0⟩ := hv
  have hx := B.exec
  have hb := B.bytes
  have hr := B.returns
  have hts := atoms_spec (ws := wyM_reversed) B.pre
  have htx := fun w h => hts w (List.mem_cons_of_mem _ h)
  have hown : s.vm.findClass "ValueBenchModel" = some m.cls := findClass_of_methodNamed B.named
  have hlocks := B.notSynchronized
  subst hsz
  have hD := hD0.self (sz := s.heap.size)
  generalize hAe : va_A (xMw cT aM ad rd gd vad st []) s.heap.size = A at hD hZ ⊢
  have hA : ∀ q : Nat, s.heap.size ≤ q → A q := fun q h => by rw [← hAe]; exact Or.inr h
  have hS : va_S A s.heap s.heap [] := va_S.rf
  have hl := lv_entry ([.ref aM, xv vad c0]) (n := 4) (by simp [lg_sl, xvcat, xrscat, xcI, xcL, xcR, xcN])
  rw [show lv_args 0 [.ref aM, xv vad c0] = [(0, .ref aM), (1, xv vad c0)] from by simp [lv_args, xvcat, xrscat, xcI, xcL, xcR, xcN]] at hl
  rw [lg_entry_eq]
  generalize (lg_sl ([.ref aM, xv vad c0]) ++ List.replicate (4 - (lg_sl ([.ref aM, xv vad c0])).length) Slot.unset).toArray = ls at hl ⊢
  have hl : lv_has ls 4 [(0, .ref aM), (1, xv vad c0)] := hl
  have hE : ∀ p, p < xct st → vad p = vad p := fun _ _ => rfl
  have hN : xct st ≤ xct st := Nat.le_refl _
  unfold fM_reversed at hf
  refine xloopM (σ := Nat × Int32 × Int32 × Nat × xS × Nat × Nat) (fun n x H locs ls => (∃ (adL gdL vadL : Nat → Nat), x.1 = 1 ∧ fM_reversed_b n x.1 x.2.1 x.2.2.1 x.2.2.2.1 x.2.2.2.2.1 x.2.2.2.2.2.1 x.2.2.2.2.2.2 = some out ∧ va_P D xcl (xMw cT aM adL rd gdL vadL x.2.2.2.2.1 []) H ∧ va_D A (xMw cT aM adL rd gdL vadL x.2.2.2.2.1 []) ∧ va_S A s.heap H locs ∧ lv_has ls 4 [(3, .int x.2.1), (2, .int x.2.2.1), (0, .ref aM), (1, xv vadL x.2.2.2.1)] ∧ (∀ p, p < xct st → vadL p = vad p) ∧ xct st ≤ xct x.2.2.2.2.1) ∨ (∃ (adL gdL vadL : Nat → Nat), x.1 = 2 ∧ fM_reversed_b n x.1 x.2.1 x.2.2.1 x.2.2.2.1 x.2.2.2.2.1 x.2.2.2.2.2.1 x.2.2.2.2.2.2 = some out ∧ va_P D xcl (xMw cT aM adL rd gdL vadL x.2.2.2.2.1 []) H ∧ va_D A (xMw cT aM adL rd gdL vadL x.2.2.2.2.1 []) ∧ va_S A s.heap H locs ∧ lv_has ls 4 [(3, .int x.2.1), (2, .int x.2.2.1), (0, .ref aM), (1, xv vadL x.2.2.2.1)] ∧ (∀ p, p < xct st → vadL p = vad p) ∧ xct st ≤ xct x.2.2.2.2.1)) (fun x => if x.1 = 1 then 37 else 84) (fun x => x.2.2.2.2.2.1) (fun x => x.2.2.2.2.2.2) (fun x H locs ls h => by rcases h with h | h; (obtain ⟨_, _, _, h⟩ := h; exact absurd h.2.1 (by rw [fM_reversed_b]; exact fun h => nomatch h)); (obtain ⟨_, _, _, h⟩ := h; exact absurd h.2.1 (by rw [fM_reversed_b]; exact fun h => nomatch h))) (fun n ih x H locs ls hv => ?_) (fun key => ?_)
  · obtain ⟨lb, y3, y2, y1, ws9, wc, wn⟩ := x
    rcases hv with ⟨adL, gdL, vadL, hj, hf, hP, hD, hS, hl, hE, hN⟩ | ⟨adL, gdL, vadL, hj, hf, hP, hD, hS, hl, hE, hN⟩
    · subst hj
      have hf : fM_reversed_b (n + 1) 1 y3 y2 y1 ws9 wc wn = some out := hf
      rw [fM_reversed_b, if_pos rfl] at hf
      obtain ⟨hP, hD⟩ : xPD D xcl A (xMw cT aM adL rd gdL vadL ws9 []) H := ⟨hP, hD⟩
      have hl : lv_has ls 4 [(3, .int y3), (2, .int y2), (0, .ref aM), (1, xv vadL y1)] := hl
      refine W.eq (g2 := F0 m 37 ls []) rfl ?_
      show W p l e _ s m _ below meth c H locs wc wn _ _
      obtain ⟨hm0, hf⟩ := xmoE hf
      refine lv_iload_n hx hb dM_reversed_37 rfl (lv_at hl 0 rfl) ?_
      refine lv_if_lt (tgt := 62) hx hb dM_reversed_38 (by decide) (fun hc => ?_) (fun hc => ?_)
      · rw [if_pos hc] at hf
        refine lv_aload_n hx hb dM_reversed_62 rfl (lv_at hl 2 rfl) ?_
        refine lv_iload_n hx hb dM_reversed_63 rfl (lv_at hl 1 rfl) ?_
        obtain ⟨o1, hq2, hf⟩ := xbind hf
        have hl := lv_sub (l' := [(3, .int y3), (2, .int y2), (0, .ref aM)]) hl [0, 1, 2] rfl
        by_cases hk3 : o1.1 = 0
        · rw [if_pos hk3] at hf
          obtain ⟨hm4, hf⟩ := xmoE hf
          have hFc := xm_free hD hS hA
          refine va_callq (va_runV (C := "ValueBenchModel") (As := [.int y2]) (rest := []) ⟨hx, hb, hml, hown, htx⟩ (gM_string l hl9 D cT aK aV H.size n aM adL rd gdL vadL ws9 y2 o1 hq2 hk3) ⟨callB_of 1 htx (xw_goodC kw_6_61) rfl rfl rfl (htx _ kw_1_5) (htx _ kw_6_58) ⟨by decide, by decide, by decide +kernel⟩ ⟨Nat.le_of_ble_eq_true rfl, Nat.le_of_ble_eq_true rfl⟩, (htx _ kw_6_60), (htx _ kp_M_string)⟩ ⟨xPre_blind, va_recv hK hP (ci := 5) rfl (q0 := 0) rfl, (fun U hU hW => ⟨rfl, xPre_of hZ hS hFc hP hD hK U hU hW⟩)⟩ rfl rfl hl.1 rfl (xm_room (Nat.le_of_ble_eq_true rfl)) dM_reversed_64 ⟨hm4.1, hm4.2⟩) hS (fun q _ h => hFc q h) hFc (fun r5 u9 t H1 locs ht hvm hr9 hB hz1 hk1 hS => ?_)
          obtain ⟨hP1, hK1, hD1⟩ := hB
          rw [ht] at hP1
          obtain ⟨ad6, gd7, vad8⟩ := u9
          obtain ⟨hr9, hv9, hn10⟩ := hr9
          have hP : va_P D xcl (xMw cT aM ad6 rd gd7 vad8 o1.2.2.2.2 []) H1 := hP1
          have hD : va_D A (xMw cT aM ad6 rd gd7 vad8 o1.2.2.2.2 []) := hD1.weaken (fun k q _ h => hFc q.1 h)
          generalize H1 = H at hP hS ⊢
          have hE9 : ∀ p, p < xct st → vad8 p = vad p := fun p h => (hv9 p (Nat.lt_of_lt_of_le h hN)).trans (hE p h)
          have hE := hE9
          have hN : xct st ≤ xct o1.2.2.2.2 := Nat.le_trans hN hn10
          rw [hr9]
          refine W.eq (g2 := F0 m 67 ls [xv vad8 o1.2.2.2.1]) (by first | rfl | (skip; rfl)) ?_
          obtain rfl := Option.some.inj hf
          exact absurd (show (0 : Nat) = 1 from hkd) (by decide)
        rw [if_neg hk3] at hf
        by_cases hk11 : o1.1 = 1
        · rw [if_pos hk11] at hf
          obtain ⟨hm12, hf⟩ := xmoE hf
          obtain rfl := Option.some.inj hf
          exact absurd (show (2 : Nat) = 1 from hkd) (by decide)
        rw [if_neg hk11] at hf
        exact nomatch hf
      · rw [if_neg hc] at hf
        refine lv_aload_n hx hb dM_reversed_41 rfl (lv_at hl 2 rfl) ?_
        refine lv_aload_n hx hb dM_reversed_42 rfl (lv_at hl 2 rfl) ?_
        refine xm_get (v := .ref (adL 3)) hx hb htx hown hK hP 3 (by decide) rfl (htx _ kw_5_90) rfl dM_reversed_43 ?_
        refine xm_aload_n hx hb (xvor _ _) dM_reversed_46 rfl (lv_at hl 3 rfl) ?_
        obtain ⟨hg1, hf⟩ := xifn hf
        refine xm_vget (v := .int ((xpi ws9 2) (y1 - 1))) hx hb htx hown hK hP 2 (by decide) hg1 rfl ((hZ.1 (100, "off", "I") (List.mem_of_getElem? (i := 2) rfl)).use rfl) rfl dM_reversed_47 ?_
        refine lv_iload_n hx hb dM_reversed_50 rfl (lv_at hl 0 rfl) ?_
        refine lv_iadd hx hb dM_reversed_51 ?_
        obtain ⟨hg2, hf⟩ := xifn hf
        refine va_bald hx hb hK hP 2 0 rfl rfl hg2 dM_reversed_52 ?_
        refine W.eq (g2 := F0 m 53 ls [.int ((xba ws9 3) (((xpi ws9 2) (y1 - 1)) + y3).toNatClampNeg), .ref aM]) rfl ?_
        obtain ⟨o3, hq4, hf⟩ := xbind hf
        obtain ⟨hm5, hf⟩ := xmoE hf
        have hFc := xm_free hD hS hA
        refine va_callv (va_runV (C := "ValueBenchModel") (As := [.int ((xba ws9 3) (((xpi ws9 2) (y1 - 1)) + y3).toNatClampNeg)]) (rest := []) ⟨hx, hb, hml, hown, htx⟩ (gM_letter l hl9 D cT aK aV H.size n aM adL rd gdL vadL ws9 ((xba ws9 3) (((xpi ws9 2) (y1 - 1)) + y3).toNatClampNeg) o3 hq4) ⟨callB_of 1 htx (xw_goodC kw_6_54) rfl rfl rfl (htx _ kw_1_5) (htx _ kw_6_51) ⟨by decide, by decide, by decide +kernel⟩ ⟨Nat.le_of_ble_eq_true rfl, Nat.le_of_ble_eq_true rfl⟩, (htx _ kw_6_53), (htx _ kp_M_letter)⟩ ⟨xPre_blind, va_recv hK hP (ci := 5) rfl (q0 := 0) rfl, (fun U hU hW => ⟨rfl, xPre_of hZ hS hFc hP hD hK U hU hW⟩)⟩ rfl rfl hl.1 rfl (xm_room (Nat.le_of_ble_eq_true rfl)) dM_reversed_53 ⟨hm5.1, hm5.2⟩) hS (fun q _ h => hFc q h) hFc (fun u9 t H1 locs ht hvm hr9 hB hz1 hk1 hS => ?_)
        obtain ⟨hP1, hK1, hD1⟩ := hB
        rw [ht] at hP1
        obtain ⟨ad7, gd8, vad9⟩ := u9
        obtain ⟨hv10, hn11⟩ := hr9
        have hP : va_P D xcl (xMw cT aM ad7 rd gd8 vad9 o3.2.2 []) H1 := hP1
        have hD : va_D A (xMw cT aM ad7 rd gd8 vad9 o3.2.2 []) := hD1.weaken (fun k q _ h => hFc q.1 h)
        generalize H1 = H at hP hS ⊢
        have hE9 : ∀ p, p < xct st → vad9 p = vad p := fun p h => (hv10 p (Nat.lt_of_lt_of_le h hN)).trans (hE p h)
        have hE := hE9
        have hN : xct st ≤ xct o3.2.2 := Nat.le_trans hN hn11
        have ev12 : xv vadL y1 = xv vad9 y1 := xvE hv10 (fun h => hg1 (Or.inr h))
        have hl : lv_has ls 4 [(3, .int y3), (2, .int y2), (0, .ref aM), (1, xv vad9 y1)] := by first | exact hl | ((try (rw [← ev12])); exact hl)
        refine W.eq (g2 := F0 m 56 ls []) (by first | rfl | ((try (rw [ev12])); rfl)) ?_
        refine lv_iinc (v := (y3 + (-1))) (lv' := [(3, .int (y3 + (-1))), (2, .int y2), (0, .ref aM), (1, xv vad9 y1)]) hx hb dM_reversed_56 hl (k := 0) rfl rfl (by decide) rfl (fun ls hl => ?_)
        refine lv_goto (tgt := 37) hx hb dM_reversed_59 (by decide) ?_
        exact ih (1, (y3 + (-1)), y2, y1, o3.2.2, (wc + o3.1), (wn + o3.2.1)) _ _ ls (Or.inl ⟨ad7, gd8, vad9, rfl, hf, hP, hD, hS, lv_sub hl [0, 1, 2, 3] rfl, hE, hN⟩)
    · subst hj
      have hf : fM_reversed_b (n + 1) 2 y3 y2 y1 ws9 wc wn = some out := hf
      rw [fM_reversed_b, if_neg (by decide)] at hf
      obtain ⟨hP, hD⟩ : xPD D xcl A (xMw cT aM adL rd gdL vadL ws9 []) H := ⟨hP, hD⟩
      have hl : lv_has ls 4 [(3, .int y3), (2, .int y2), (0, .ref aM), (1, xv vadL y1)] := hl
      refine W.eq (g2 := F0 m 84 ls []) rfl ?_
      show W p l e _ s m _ below meth c H locs wc wn _ _
      obtain ⟨hm0, hf⟩ := xmoE hf
      refine lv_iload_n hx hb dM_reversed_84 rfl (lv_at hl 0 rfl) ?_
      refine lv_if_lt (tgt := 105) hx hb dM_reversed_85 (by decide) (fun hc => ?_) (fun hc => ?_)
      · rw [if_pos hc] at hf
        refine lv_aload_n hx hb dM_reversed_105 rfl (lv_at hl 2 rfl) ?_
        refine lv_iconst (v := 5) hx hb dM_reversed_106 (by decide) ?_
        refine lv_iload_n hx hb dM_reversed_107 rfl (lv_at hl 1 rfl) ?_
        obtain ⟨o1, hq2, hf⟩ := xbind hf
        have hl := lv_sub (l' := [(3, .int y3), (2, .int y2), (0, .ref aM)]) hl [0, 1, 2] rfl
        by_cases hk3 : o1.1 = 0
        · rw [if_pos hk3] at hf
          obtain ⟨hm4, hf⟩ := xmoE hf
          have hFc := xm_free hD hS hA
          refine va_callq (va_runV (C := "ValueBenchModel") (As := [.int 5, .int y2]) (rest := []) ⟨hx, hb, hml, hown, htx⟩ (gM_whole l hl9 D cT aK aV H.size n aM adL rd gdL vadL ws9 (5 : Int32) y2 o1 hq2 hk3) ⟨callB_of 2 htx (xw_goodC kw_6_106) rfl rfl rfl (htx _ kw_1_5) (htx _ kw_6_103) ⟨by decide, by decide, by decide +kernel⟩ ⟨Nat.le_of_ble_eq_true rfl, Nat.le_of_ble_eq_true rfl⟩, (htx _ kw_6_105), (htx _ kp_M_whole)⟩ ⟨xPre_blind, va_recv hK hP (ci := 5) rfl (q0 := 0) rfl, (fun U hU hW => ⟨rfl, xPre_of hZ hS hFc hP hD hK U hU hW⟩)⟩ rfl rfl hl.1 rfl (xm_room (Nat.le_of_ble_eq_true rfl)) dM_reversed_108 ⟨hm4.1, hm4.2⟩) hS (fun q _ h => hFc q h) hFc (fun r5 u9 t H1 locs ht hvm hr9 hB hz1 hk1 hS => ?_)
          obtain ⟨hP1, hK1, hD1⟩ := hB
          rw [ht] at hP1
          obtain ⟨ad6, gd7, vad8⟩ := u9
          obtain ⟨hr9, hv9, hn10⟩ := hr9
          have hP : va_P D xcl (xMw cT aM ad6 rd gd7 vad8 o1.2.2.2.2 []) H1 := hP1
          have hD : va_D A (xMw cT aM ad6 rd gd7 vad8 o1.2.2.2.2 []) := hD1.weaken (fun k q _ h => hFc q.1 h)
          generalize H1 = H at hP hS ⊢
          have hE9 : ∀ p, p < xct st → vad8 p = vad p := fun p h => (hv9 p (Nat.lt_of_lt_of_le h hN)).trans (hE p h)
          have hE := hE9
          have hN : xct st ≤ xct o1.2.2.2.2 := Nat.le_trans hN hn10
          rw [hr9]
          refine W.eq (g2 := F0 m 111 ls [xv vad8 o1.2.2.2.1]) (by first | rfl | (skip; rfl)) ?_
          obtain rfl := Option.some.inj hf
          exact absurd (show (0 : Nat) = 1 from hkd) (by decide)
        rw [if_neg hk3] at hf
        by_cases hk11 : o1.1 = 1
        · rw [if_pos hk11] at hf
          obtain ⟨hm12, hf⟩ := xmoE hf
          obtain rfl := Option.some.inj hf
          exact absurd (show (2 : Nat) = 1 from hkd) (by decide)
        rw [if_neg hk11] at hf
        exact nomatch hf
      · rw [if_neg hc] at hf
        refine lv_aload_n hx hb dM_reversed_88 rfl (lv_at hl 2 rfl) ?_
        refine lv_null hx hb dM_reversed_89 ?_
        refine lv_aload_n hx hb dM_reversed_90 rfl (lv_at hl 2 rfl) ?_
        refine xm_aload_n hx hb (xvor _ _) dM_reversed_91 rfl (lv_at hl 3 rfl) ?_
        refine lv_iload_n hx hb dM_reversed_92 rfl (lv_at hl 0 rfl) ?_
        obtain ⟨o1, hq2, hf⟩ := xbind hf
        have hFc := xm_free hD hS hA
        refine va_callq (va_runV (C := "ValueBenchModel") (As := [xv vadL y1, .int y3]) (rest := [.null, .ref aM]) ⟨hx, hb, hml, hown, htx⟩ (gM_kid l hl9 D cT aK aV H.size n aM adL rd gdL vadL ws9 y1 y3 o1 hq2) ⟨callB_of 2 htx (xw_goodC kw_6_158) rfl rfl rfl (htx _ kw_1_5) (htx _ kw_6_155) ⟨by decide, by decide, by decide +kernel⟩ ⟨Nat.le_of_ble_eq_true rfl, Nat.le_of_ble_eq_true rfl⟩, (htx _ kw_6_157), (htx _ kp_M_kid)⟩ ⟨xPre_blind, va_recv hK hP (ci := 5) rfl (q0 := 0) rfl, (fun U hU hW => ⟨rfl, xPre_of hZ hS hFc hP hD hK U hU hW⟩)⟩ rfl rfl hl.1 rfl (xm_room (Nat.le_of_ble_eq_true rfl)) dM_reversed_93 ⟨hm0.1, hm0.2⟩) hS (fun q _ h => hFc q h) hFc (fun r3 u9 t H1 locs ht hvm hr9 hB hz1 hk1 hS => ?_)
        obtain ⟨hP1, hK1, hD1⟩ := hB
        rw [ht] at hP1
        have hP : va_P D xcl (xMw cT aM adL rd gdL vadL ws9 []) H1 := hP1
        have hD : va_D A (xMw cT aM adL rd gdL vadL ws9 []) := hD1.weaken (fun k q _ h => hFc q.1 h)
        generalize H1 = H at hP hS ⊢
        rw [hr9]
        refine W.eq (g2 := F0 m 96 ls [xv vadL o1, .null, .ref aM]) (by first | rfl | (skip; rfl)) ?_
        obtain ⟨o4, hq5, hf⟩ := xbind hf
        obtain ⟨hg6, hf⟩ := xifn hf
        obtain ⟨hm7, hf⟩ := xmoE hf
        have hFc := xm_free hD hS hA
        refine va_callv (va_runV (C := "ValueBenchModel") (As := [.null, xv vadL o1]) (rest := []) ⟨hx, hb, hml, hown, htx⟩ (gM_wait l hl9 D cT aK aV H.size n aM adL rd gdL vadL ws9 0 o1 o4 hq5) ⟨callB_of 2 htx (xw_goodC kw_6_112) rfl rfl rfl (htx _ kw_1_5) (htx _ kw_6_109) ⟨by decide, by decide, by decide +kernel⟩ ⟨Nat.le_of_ble_eq_true rfl, Nat.le_of_ble_eq_true rfl⟩, (htx _ kw_6_111), (htx _ kp_M_wait)⟩ ⟨xPre_blind, va_recv hK hP (ci := 5) rfl (q0 := 0) rfl, (fun U hU hW => ⟨rfl, xPre_of hZ hS hFc hP hD hK U hU hW⟩)⟩ rfl rfl hl.1 rfl (xm_room (Nat.le_of_ble_eq_true rfl)) dM_reversed_96 ⟨hm7.1, hm7.2⟩) hS (fun q _ h => hFc q h) hFc (fun u9 t H1 locs ht hvm hr9 hB hz1 hk1 hS => ?_)
        obtain ⟨hP1, hK1, hD1⟩ := hB
        rw [ht] at hP1
        obtain ⟨ad9, gd10, vad11⟩ := u9
        obtain ⟨hv12, hn13⟩ := hr9
        have hP : va_P D xcl (xMw cT aM ad9 rd gd10 vad11 o4.2.2 []) H1 := hP1
        have hD : va_D A (xMw cT aM ad9 rd gd10 vad11 o4.2.2 []) := hD1.weaken (fun k q _ h => hFc q.1 h)
        generalize H1 = H at hP hS ⊢
        have hE9 : ∀ p, p < xct st → vad11 p = vad p := fun p h => (hv12 p (Nat.lt_of_lt_of_le h hN)).trans (hE p h)
        have hE := hE9
        have hN : xct st ≤ xct o4.2.2 := Nat.le_trans hN hn13
        have ev14 : xv vadL y1 = xv vad11 y1 := xvE hv12 hg6
        have hl : lv_has ls 4 [(3, .int y3), (2, .int y2), (0, .ref aM), (1, xv vad11 y1)] := by first | exact hl | ((try (rw [← ev14])); exact hl)
        refine W.eq (g2 := F0 m 99 ls []) (by first | rfl | ((try (rw [ev14])); rfl)) ?_
        refine lv_iinc (v := (y3 + (-1))) (lv' := [(3, .int (y3 + (-1))), (2, .int y2), (0, .ref aM), (1, xv vad11 y1)]) hx hb dM_reversed_99 hl (k := 0) rfl rfl (by decide) rfl (fun ls hl => ?_)
        refine lv_goto (tgt := 84) hx hb dM_reversed_102 (by decide) ?_
        exact ih (2, (y3 + (-1)), y2, y1, o4.2.2, (wc + o4.1), (wn + o4.2.1)) _ _ ls (Or.inr (⟨ad9, gd10, vad11, rfl, hf, hP, hD, hS, lv_sub hl [0, 1, 2, 3] rfl, hE, hN⟩))
  refine xm_aload_n hx hb (xvor _ _) dM_reversed_0 rfl (lv_at hl 1 rfl) ?_
  obtain ⟨hg1, hf⟩ := xifn hf
  refine xm_vget (v := .int ((xpi st 0) (c0 - 1))) hx hb htx hown hK hP 0 (by decide) hg1 rfl ((hZ.1 (93, "kind", "I") (List.mem_of_getElem? (i := 0) rfl)).use rfl) rfl dM_reversed_1 ?_
  refine lv_if_ne (tgt := 17) hx hb dM_reversed_4 (by decide) (fun hc => ?_) (fun hc => ?_)
  · rw [if_neg hc] at hf
    refine xm_aload_n hx hb (xvor _ _) dM_reversed_17 rfl (lv_at hl 1 rfl) ?_
    refine xm_vget (v := .int ((xpi st 0) (c0 - 1))) hx hb htx hown hK hP 0 (by decide) hg1 rfl ((hZ.1 (93, "kind", "I") (List.mem_of_getElem? (i := 0) rfl)).use rfl) rfl dM_reversed_18 ?_
    refine lv_iconst (v := 4) hx hb dM_reversed_21 (by decide) ?_
    refine lv_icmp_ne (tgt := 68) hx hb dM_reversed_22 (by decide) (fun hc => ?_) (fun hc => ?_)
    · rw [if_neg hc] at hf
      refine lv_aload_n hx hb dM_reversed_68 rfl (lv_at hl 0 rfl) ?_
      refine xm_get (v := .int (xsi st 12)) hx hb htx hown hK hP 12 (by decide) rfl (htx _ kw_5_99) rfl dM_reversed_69 ?_
      refine lv_istore_n (lv' := [(2, .int (xsi st 12)), (0, .ref aM), (1, xv vad c0)]) hx hb dM_reversed_72 rfl hl (by decide) (by simp only [List.filter, xvcat, xrscat, xcI, xcL, xcR, xcN]; rfl) (fun ls hl => ?_)
      refine lv_aload_n hx hb dM_reversed_73 rfl (lv_at hl 1 rfl) ?_
      refine xm_aload_n hx hb (xvor _ _) dM_reversed_74 rfl (lv_at hl 2 rfl) ?_
      obtain ⟨o2, hq3, hf⟩ := xbind hf
      by_cases hk4 : o2.1 = 0
      · rw [if_pos hk4] at hf
        obtain ⟨hm5, hf⟩ := xmoE hf
        have hFc := xm_free hD hS hA
        refine va_callq (va_runV (C := "ValueBenchModel") (As := [xv vad c0]) (rest := []) ⟨hx, hb, hml, hown, htx⟩ (gM_array l hl9 D cT aK aV s.heap.size n aM ad rd gd vad st c0 o2 hq3 hk4) ⟨callB_of 1 htx (xw_goodC kw_7_42) rfl rfl rfl (htx _ kw_1_5) (htx _ kw_7_39) ⟨by decide, by decide, by decide +kernel⟩ ⟨Nat.le_of_ble_eq_true rfl, Nat.le_of_ble_eq_true rfl⟩, (htx _ kw_7_41), (htx _ kp_M_array)⟩ ⟨xPre_blind, va_recv hK hP (ci := 5) rfl (q0 := 0) rfl, (fun U hU hW => ⟨rfl, xPre_of hZ hS hFc hP hD hK U hU hW⟩)⟩ rfl rfl hl.1 rfl (xm_room (Nat.le_of_ble_eq_true rfl)) dM_reversed_75 ⟨hm5.1, hm5.2⟩) hS (fun q _ h => hFc q h) hFc (fun r6 u9 t H1 locs ht hvm hr9 hB hz1 hk1 hS => ?_)
        obtain ⟨hP1, hK1, hD1⟩ := hB
        rw [ht] at hP1
        obtain ⟨ad7, gd8, vad9⟩ := u9
        obtain ⟨hr9, hv10, hn11⟩ := hr9
        have hP : va_P D xcl (xMw cT aM ad7 rd gd8 vad9 o2.2.2.2.2 []) H1 := hP1
        have hD : va_D A (xMw cT aM ad7 rd gd8 vad9 o2.2.2.2.2 []) := hD1.weaken (fun k q _ h => hFc q.1 h)
        generalize H1 = H at hP hS ⊢
        have hE9 : ∀ p, p < xct st → vad9 p = vad p := fun p h => (hv10 p (Nat.lt_of_lt_of_le h hN)).trans (hE p h)
        have hE := hE9
        have hN : xct st ≤ xct o2.2.2.2.2 := Nat.le_trans hN hn11
        have ev12 : xv vad c0 = xv vad9 c0 := xvE hv10 (fun h => hg1 (Or.inr h))
        have hl : lv_has ls 4 [(2, .int (xsi st 12)), (0, .ref aM), (1, xv vad9 c0)] := by first | exact hl | ((try (rw [← ev12])); exact hl)
        rw [hr9]
        refine W.eq (g2 := F0 m 78 ls [xv vad9 o2.2.2.2.1]) (by first | rfl | ((try (rw [ev12])); rfl)) ?_
        obtain ⟨hg13, hf⟩ := xifn hf
        refine xm_vget (v := .int ((xpi o2.2.2.2.2 3) (o2.2.2.2.1 - 1))) hx hb htx hown hK hP 3 (by decide) hg13 rfl ((hZ.1 (103, "count", "I") (List.mem_of_getElem? (i := 3) rfl)).use rfl) rfl dM_reversed_78 ?_
        refine lv_iconst (v := 1) hx hb dM_reversed_81 (by decide) ?_
        refine lv_isub hx hb dM_reversed_82 ?_
        refine lv_istore_n (lv' := [(3, .int (((xpi o2.2.2.2.2 3) (o2.2.2.2.1 - 1)) - (1 : Int32))), (2, .int (xsi st 12)), (0, .ref aM), (1, xv vad9 c0)]) hx hb dM_reversed_83 rfl hl (by decide) rfl (fun ls hl => ?_)
        exact key n (2, (((xpi o2.2.2.2.2 3) (o2.2.2.2.1 - 1)) - (1 : Int32)), (xsi st 12), c0, o2.2.2.2.2, (0 + o2.2.1), (0 + o2.2.2.1)) _ _ ls (Or.inr (⟨ad7, gd8, vad9, rfl, hf, hP, hD, hS, lv_sub hl [0, 1, 2, 3] rfl, hE, hN⟩))
      rw [if_neg hk4] at hf
      by_cases hk14 : o2.1 = 1
      · rw [if_pos hk14] at hf
        obtain ⟨hm15, hf⟩ := xmoE hf
        have hFc := xm_free hD hS hA
        refine xx_thr (vx_runV (C := "ValueBenchModel") (As := [xv vad c0]) (rest := []) ⟨hx, hb, hml, hown, htx⟩ (gM_array_1 l hl9 D cT aK aV s.heap.size n aM ad rd gd vad st c0 o2 hq3 hk14) ⟨callB_of 1 htx (xw_goodC kw_7_42) rfl rfl rfl (htx _ kw_1_5) (htx _ kw_7_39) ⟨by decide, by decide, by decide +kernel⟩ ⟨Nat.le_of_ble_eq_true rfl, Nat.le_of_ble_eq_true rfl⟩, (htx _ kw_7_41), (htx _ kp_M_array)⟩ ⟨xPre_blind, va_recv hK hP (ci := 5) rfl (q0 := 0) rfl, (fun U hU hW => ⟨rfl, xPre_of hZ hS hFc hP hD hK U hU hW⟩)⟩ rfl rfl hl.1 rfl (xm_room (Nat.le_of_ble_eq_true rfl)) dM_reversed_75 ⟨hm15.1, hm15.2⟩) hS hFc (fun q _ h => hFc q h) (fun E ce q9 u9 t H1 locs ht hvm hr9 hB hz1 hk1 hS hce hcv hcl => ?_)
        obtain ⟨rfl, hP1, hK1, hD1⟩ := hB
        rw [ht] at hP1
        obtain ⟨ad17, gd18, vad19⟩ := u9
        obtain ⟨hv20, hn21⟩ := hr9
        have hP : va_P D xcl (xMw cT aM ad17 rd gd18 vad19 o2.2.2.2.2 []) H1 := hP1
        have hD : va_D A (xMw cT aM ad17 rd gd18 vad19 o2.2.2.2.2 []) := hD1.weaken (fun k q _ h => hFc q.1 h)
        generalize H1 = H at hP hS hce ⊢
        have hE9 : ∀ p, p < xct st → vad19 p = vad p := fun p h => (hv20 p (Nat.lt_of_lt_of_le h hN)).trans (hE p h)
        have hE := hE9
        have hN : xct st ≤ xct o2.2.2.2.2 := Nat.le_trans hN hn21
        have ev22 : xv vad c0 = xv vad19 c0 := xvE hv20 (fun h => hg1 (Or.inr h))
        have hl : lv_has ls 4 [(2, .int (xsi st 12)), (0, .ref aM), (1, xv vad19 c0)] := by first | exact hl | ((try (rw [← ev22])); exact hl)
        obtain rfl := Option.some.inj hf
        exact vx_out (E := "java/lang/ArithmeticException") (fun x h => (hne x h).elim) hlocks hce hcv hcl (fun t ht ha => ⟨(ad17, gd18, vad19), ⟨hE, hN⟩, ⟨rfl, by rw [ht]; exact hP, va_K.moved ha hK, hD⟩, hS.F ht⟩) hS.2.2 (Nat.le_refl _) (Nat.le_refl _)
      rw [if_neg hk14] at hf
      exact nomatch hf
    · rw [if_pos hc] at hf
      refine lv_aload_n hx hb dM_reversed_25 rfl (lv_at hl 0 rfl) ?_
      refine xm_get (v := .int (xsi st 4)) hx hb htx hown hK hP 4 (by decide) rfl (htx _ kw_5_91) rfl dM_reversed_26 ?_
      refine lv_istore_n (lv' := [(2, .int (xsi st 4)), (0, .ref aM), (1, xv vad c0)]) hx hb dM_reversed_29 rfl hl (by decide) (by simp only [List.filter, xvcat, xrscat, xcI, xcL, xcR, xcN]; rfl) (fun ls hl => ?_)
      refine xm_aload_n hx hb (xvor _ _) dM_reversed_30 rfl (lv_at hl 2 rfl) ?_
      refine xm_vget (v := .int ((xpi st 3) (c0 - 1))) hx hb htx hown hK hP 3 (by decide) hg1 rfl ((hZ.1 (103, "count", "I") (List.mem_of_getElem? (i := 3) rfl)).use rfl) rfl dM_reversed_31 ?_
      refine lv_iconst (v := 1) hx hb dM_reversed_34 (by decide) ?_
      refine lv_isub hx hb dM_reversed_35 ?_
      refine lv_istore_n (lv' := [(3, .int (((xpi st 3) (c0 - 1)) - (1 : Int32))), (2, .int (xsi st 4)), (0, .ref aM), (1, xv vad c0)]) hx hb dM_reversed_36 rfl hl (by decide) rfl (fun ls hl => ?_)
      exact key n (1, (((xpi st 3) (c0 - 1)) - (1 : Int32)), (xsi st 4), c0, st, 0, 0) _ _ ls (Or.inl ⟨ad, gd, vad, rfl, hf, hP, hD, hS, lv_sub hl [0, 1, 2, 3] rfl, hE, hN⟩)
  · rw [if_pos hc] at hf
    refine lv_aload_n hx hb dM_reversed_7 rfl (lv_at hl 0 rfl) ?_
    refine lv_iconst (v := 5) hx hb dM_reversed_8 (by decide) ?_
    refine lv_aload_n hx hb dM_reversed_9 rfl (lv_at hl 0 rfl) ?_
    refine xm_get (v := .int (xsi st 12)) hx hb htx hown hK hP 12 (by decide) rfl (htx _ kw_5_99) rfl dM_reversed_10 ?_
    obtain ⟨o2, hq3, hf⟩ := xbind hf
    have hl := lv_sub (l' := [(0, .ref aM)]) hl [0] rfl
    by_cases hk4 : o2.1 = 0
    · rw [if_pos hk4] at hf
      obtain ⟨hm5, hf⟩ := xmoE hf
      have hFc := xm_free hD hS hA
      refine va_callq (va_runV (C := "ValueBenchModel") (As := [.int 5, .int (xsi st 12)]) (rest := []) ⟨hx, hb, hml, hown, htx⟩ (gM_whole l hl9 D cT aK aV s.heap.size n aM ad rd gd vad st (5 : Int32) (xsi st 12) o2 hq3 hk4) ⟨callB_of 2 htx (xw_goodC kw_6_106) rfl rfl rfl (htx _ kw_1_5) (htx _ kw_6_103) ⟨by decide, by decide, by decide +kernel⟩ ⟨Nat.le_of_ble_eq_true rfl, Nat.le_of_ble_eq_true rfl⟩, (htx _ kw_6_105), (htx _ kp_M_whole)⟩ ⟨xPre_blind, va_recv hK hP (ci := 5) rfl (q0 := 0) rfl, (fun U hU hW => ⟨rfl, xPre_of hZ hS hFc hP hD hK U hU hW⟩)⟩ rfl rfl hl.1 rfl (xm_room (Nat.le_of_ble_eq_true rfl)) dM_reversed_13 ⟨hm5.1, hm5.2⟩) hS (fun q _ h => hFc q h) hFc (fun r6 u9 t H1 locs ht hvm hr9 hB hz1 hk1 hS => ?_)
      obtain ⟨hP1, hK1, hD1⟩ := hB
      rw [ht] at hP1
      obtain ⟨ad7, gd8, vad9⟩ := u9
      obtain ⟨hr9, hv10, hn11⟩ := hr9
      have hP : va_P D xcl (xMw cT aM ad7 rd gd8 vad9 o2.2.2.2.2 []) H1 := hP1
      have hD : va_D A (xMw cT aM ad7 rd gd8 vad9 o2.2.2.2.2 []) := hD1.weaken (fun k q _ h => hFc q.1 h)
      generalize H1 = H at hP hS ⊢
      have hE9 : ∀ p, p < xct st → vad9 p = vad p := fun p h => (hv10 p (Nat.lt_of_lt_of_le h hN)).trans (hE p h)
      have hE := hE9
      have hN : xct st ≤ xct o2.2.2.2.2 := Nat.le_trans hN hn11
      rw [hr9]
      refine W.eq (g2 := F0 m 16 ls [xv vad9 o2.2.2.2.1]) (by first | rfl | (skip; rfl)) ?_
      obtain rfl := Option.some.inj hf
      exact absurd (show (0 : Nat) = 1 from hkd) (by decide)
    rw [if_neg hk4] at hf
    by_cases hk12 : o2.1 = 1
    · rw [if_pos hk12] at hf
      obtain ⟨hm13, hf⟩ := xmoE hf
      obtain rfl := Option.some.inj hf
      exact absurd (show (2 : Nat) = 1 from hkd) (by decide)
    rw [if_neg hk12] at hf
    exact nomatch hf
set_option maxHeartbeats 400000000 in
set_option maxRecDepth 100000 in
theorem gM_reversed_2 (l : Launch) (hl9 : l.stackTraces = false) (D : va_G) (cT : Nat → ClassId) (aK aV : Nat → Nat) (sz n : Nat) (aM : Nat) (ad rd gd vad : Nat → Nat) (st : xS) (c0 : Nat) (out : Nat × Nat × Nat × Nat × xS) (hf : fM_reversed n st c0 = some out) (hkd : out.1 = 2) : xMetY l yM_reversed wyM_reversed 8 out.2.1 out.2.2.1 147 D cT aK aV sz [.ref aM, xv vad c0] (xMw cT aM ad rd gd vad st []) "java/lang/IndexOutOfBoundsException" (fun u => xE vad st out.2.2.2.2 u) (fun A u t => xB D xcl cT A (xMw cT aM u.1 rd u.2.1 u.2.2 out.2.2.2.2 []) t) := by
  refine vx_ofW (cc := prog_13_method_61_code) (maxL := 4) (ret := (some (.object "ValueBenchModel$V"))) (by decide) rfl ?_
  intro p e s m args below meth c s₁ B hml hne hv
  obtain ⟨rfl, hsz, hZ, hP, hK, hD0⟩ := hv
  have hx := B.exec
  have hb := B.bytes
  have hr := B.returns
  have hts := atoms_spec (ws := wyM_reversed) B.pre
  have htx := fun w h => hts w (List.mem_cons_of_mem _ h)
  have hown : s.vm.findClass "ValueBenchModel" = some m.cls := findClass_of_methodNamed B.named
  have hlocks := B.notSynchronized
  subst hsz
  have hD := hD0.self (sz := s.heap.size)
  generalize hAe : va_A (xMw cT aM ad rd gd vad st []) s.heap.size = A at hD hZ ⊢
  have hA : ∀ q : Nat, s.heap.size ≤ q → A q := fun q h => by rw [← hAe]; exact Or.inr h
  have hS : va_S A s.heap s.heap [] := va_S.rf
  have hl := lv_entry ([.ref aM, xv vad c0]) (n := 4) (by simp [lg_sl, xvcat, xrscat, xcI, xcL, xcR, xcN])
  rw [show lv_args 0 [.ref aM, xv vad c0] = [(0, .ref aM), (1, xv vad c0)] from by simp [lv_args, xvcat, xrscat, xcI, xcL, xcR, xcN]] at hl
  rw [lg_entry_eq]
  generalize (lg_sl ([.ref aM, xv vad c0]) ++ List.replicate (4 - (lg_sl ([.ref aM, xv vad c0])).length) Slot.unset).toArray = ls at hl ⊢
  have hl : lv_has ls 4 [(0, .ref aM), (1, xv vad c0)] := hl
  have hE : ∀ p, p < xct st → vad p = vad p := fun _ _ => rfl
  have hN : xct st ≤ xct st := Nat.le_refl _
  unfold fM_reversed at hf
  refine xloopM (σ := Nat × Int32 × Int32 × Nat × xS × Nat × Nat) (fun n x H locs ls => (∃ (adL gdL vadL : Nat → Nat), x.1 = 1 ∧ fM_reversed_b n x.1 x.2.1 x.2.2.1 x.2.2.2.1 x.2.2.2.2.1 x.2.2.2.2.2.1 x.2.2.2.2.2.2 = some out ∧ va_P D xcl (xMw cT aM adL rd gdL vadL x.2.2.2.2.1 []) H ∧ va_D A (xMw cT aM adL rd gdL vadL x.2.2.2.2.1 []) ∧ va_S A s.heap H locs ∧ lv_has ls 4 [(3, .int x.2.1), (2, .int x.2.2.1), (0, .ref aM), (1, xv vadL x.2.2.2.1)] ∧ (∀ p, p < xct st → vadL p = vad p) ∧ xct st ≤ xct x.2.2.2.2.1) ∨ (∃ (adL gdL vadL : Nat → Nat), x.1 = 2 ∧ fM_reversed_b n x.1 x.2.1 x.2.2.1 x.2.2.2.1 x.2.2.2.2.1 x.2.2.2.2.2.1 x.2.2.2.2.2.2 = some out ∧ va_P D xcl (xMw cT aM adL rd gdL vadL x.2.2.2.2.1 []) H ∧ va_D A (xMw cT aM adL rd gdL vadL x.2.2.2.2.1 []) ∧ va_S A s.heap H locs ∧ lv_has ls 4 [(3, .int x.2.1), (2, .int x.2.2.1), (0, .ref aM), (1, xv vadL x.2.2.2.1)] ∧ (∀ p, p < xct st → vadL p = vad p) ∧ xct st ≤ xct x.2.2.2.2.1)) (fun x => if x.1 = 1 then 37 else 84) (fun x => x.2.2.2.2.2.1) (fun x => x.2.2.2.2.2.2) (fun x H locs ls h => by rcases h with h | h; (obtain ⟨_, _, _, h⟩ := h; exact absurd h.2.1 (by rw [fM_reversed_b]; exact fun h => nomatch h)); (obtain ⟨_, _, _, h⟩ := h; exact absurd h.2.1 (by rw [fM_reversed_b]; exact fun h => nomatch h))) (fun n ih x H locs ls hv => ?_) (fun key => ?_)
  · obtain ⟨lb, y3, y2, y1, ws9, wc, wn⟩ := x
    rcases hv with ⟨adL, gdL, vadL, hj, hf, hP, hD, hS, hl, hE, hN⟩ | ⟨adL, gdL, vadL, hj, hf, hP, hD, hS, hl, hE, hN⟩
    · subst hj
      have hf : fM_reversed_b (n + 1) 1 y3 y2 y1 ws9 wc wn = some out := hf
      rw [fM_reversed_b, if_pos rfl] at hf
      obtain ⟨hP, hD⟩ : xPD D xcl A (xMw cT aM adL rd gdL vadL ws9 []) H := ⟨hP, hD⟩
      have hl : lv_has ls 4 [(3, .int y3), (2, .int y2), (0, .ref aM), (1, xv vadL y1)] := hl
      refine W.eq (g2 := F0 m 37 ls []) rfl ?_
      show W p l e _ s m _ below meth c H locs wc wn _ _
      obtain ⟨hm0, hf⟩ := xmoE hf
      refine lv_iload_n hx hb dM_reversed_37 rfl (lv_at hl 0 rfl) ?_
      refine lv_if_lt (tgt := 62) hx hb dM_reversed_38 (by decide) (fun hc => ?_) (fun hc => ?_)
      · rw [if_pos hc] at hf
        refine lv_aload_n hx hb dM_reversed_62 rfl (lv_at hl 2 rfl) ?_
        refine lv_iload_n hx hb dM_reversed_63 rfl (lv_at hl 1 rfl) ?_
        obtain ⟨o1, hq2, hf⟩ := xbind hf
        have hl := lv_sub (l' := [(3, .int y3), (2, .int y2), (0, .ref aM)]) hl [0, 1, 2] rfl
        by_cases hk3 : o1.1 = 0
        · rw [if_pos hk3] at hf
          obtain ⟨hm4, hf⟩ := xmoE hf
          have hFc := xm_free hD hS hA
          refine va_callq (va_runV (C := "ValueBenchModel") (As := [.int y2]) (rest := []) ⟨hx, hb, hml, hown, htx⟩ (gM_string l hl9 D cT aK aV H.size n aM adL rd gdL vadL ws9 y2 o1 hq2 hk3) ⟨callB_of 1 htx (xw_goodC kw_6_61) rfl rfl rfl (htx _ kw_1_5) (htx _ kw_6_58) ⟨by decide, by decide, by decide +kernel⟩ ⟨Nat.le_of_ble_eq_true rfl, Nat.le_of_ble_eq_true rfl⟩, (htx _ kw_6_60), (htx _ kp_M_string)⟩ ⟨xPre_blind, va_recv hK hP (ci := 5) rfl (q0 := 0) rfl, (fun U hU hW => ⟨rfl, xPre_of hZ hS hFc hP hD hK U hU hW⟩)⟩ rfl rfl hl.1 rfl (xm_room (Nat.le_of_ble_eq_true rfl)) dM_reversed_64 ⟨hm4.1, hm4.2⟩) hS (fun q _ h => hFc q h) hFc (fun r5 u9 t H1 locs ht hvm hr9 hB hz1 hk1 hS => ?_)
          obtain ⟨hP1, hK1, hD1⟩ := hB
          rw [ht] at hP1
          obtain ⟨ad6, gd7, vad8⟩ := u9
          obtain ⟨hr9, hv9, hn10⟩ := hr9
          have hP : va_P D xcl (xMw cT aM ad6 rd gd7 vad8 o1.2.2.2.2 []) H1 := hP1
          have hD : va_D A (xMw cT aM ad6 rd gd7 vad8 o1.2.2.2.2 []) := hD1.weaken (fun k q _ h => hFc q.1 h)
          generalize H1 = H at hP hS ⊢
          have hE9 : ∀ p, p < xct st → vad8 p = vad p := fun p h => (hv9 p (Nat.lt_of_lt_of_le h hN)).trans (hE p h)
          have hE := hE9
          have hN : xct st ≤ xct o1.2.2.2.2 := Nat.le_trans hN hn10
          rw [hr9]
          refine W.eq (g2 := F0 m 67 ls [xv vad8 o1.2.2.2.1]) (by first | rfl | (skip; rfl)) ?_
          obtain rfl := Option.some.inj hf
          exact absurd (show (0 : Nat) = 2 from hkd) (by decide)
        rw [if_neg hk3] at hf
        by_cases hk11 : o1.1 = 1
        · rw [if_pos hk11] at hf
          obtain ⟨hm12, hf⟩ := xmoE hf
          have hFc := xm_free hD hS hA
          refine xx_thr (vx_runV (C := "ValueBenchModel") (As := [.int y2]) (rest := []) ⟨hx, hb, hml, hown, htx⟩ (gM_string_1 l hl9 D cT aK aV H.size n aM adL rd gdL vadL ws9 y2 o1 hq2 hk11) ⟨callB_of 1 htx (xw_goodC kw_6_61) rfl rfl rfl (htx _ kw_1_5) (htx _ kw_6_58) ⟨by decide, by decide, by decide +kernel⟩ ⟨Nat.le_of_ble_eq_true rfl, Nat.le_of_ble_eq_true rfl⟩, (htx _ kw_6_60), (htx _ kp_M_string)⟩ ⟨xPre_blind, va_recv hK hP (ci := 5) rfl (q0 := 0) rfl, (fun U hU hW => ⟨rfl, xPre_of hZ hS hFc hP hD hK U hU hW⟩)⟩ rfl rfl hl.1 rfl (xm_room (Nat.le_of_ble_eq_true rfl)) dM_reversed_64 ⟨hm12.1, hm12.2⟩) hS hFc (fun q _ h => hFc q h) (fun E ce q9 u9 t H1 locs ht hvm hr9 hB hz1 hk1 hS hce hcv hcl => ?_)
          obtain ⟨rfl, hP1, hK1, hD1⟩ := hB
          rw [ht] at hP1
          obtain ⟨ad14, gd15, vad16⟩ := u9
          obtain ⟨hv17, hn18⟩ := hr9
          have hP : va_P D xcl (xMw cT aM ad14 rd gd15 vad16 o1.2.2.2.2 []) H1 := hP1
          have hD : va_D A (xMw cT aM ad14 rd gd15 vad16 o1.2.2.2.2 []) := hD1.weaken (fun k q _ h => hFc q.1 h)
          generalize H1 = H at hP hS hce ⊢
          have hE9 : ∀ p, p < xct st → vad16 p = vad p := fun p h => (hv17 p (Nat.lt_of_lt_of_le h hN)).trans (hE p h)
          have hE := hE9
          have hN : xct st ≤ xct o1.2.2.2.2 := Nat.le_trans hN hn18
          obtain rfl := Option.some.inj hf
          exact vx_out (E := "java/lang/IndexOutOfBoundsException") (fun x h => (hne x h).elim) hlocks hce hcv hcl (fun t ht ha => ⟨(ad14, gd15, vad16), ⟨hE, hN⟩, ⟨rfl, by rw [ht]; exact hP, va_K.moved ha hK, hD⟩, hS.F ht⟩) hS.2.2 (Nat.le_refl _) (Nat.le_refl _)
        rw [if_neg hk11] at hf
        exact nomatch hf
      · rw [if_neg hc] at hf
        refine lv_aload_n hx hb dM_reversed_41 rfl (lv_at hl 2 rfl) ?_
        refine lv_aload_n hx hb dM_reversed_42 rfl (lv_at hl 2 rfl) ?_
        refine xm_get (v := .ref (adL 3)) hx hb htx hown hK hP 3 (by decide) rfl (htx _ kw_5_90) rfl dM_reversed_43 ?_
        refine xm_aload_n hx hb (xvor _ _) dM_reversed_46 rfl (lv_at hl 3 rfl) ?_
        obtain ⟨hg1, hf⟩ := xifn hf
        refine xm_vget (v := .int ((xpi ws9 2) (y1 - 1))) hx hb htx hown hK hP 2 (by decide) hg1 rfl ((hZ.1 (100, "off", "I") (List.mem_of_getElem? (i := 2) rfl)).use rfl) rfl dM_reversed_47 ?_
        refine lv_iload_n hx hb dM_reversed_50 rfl (lv_at hl 0 rfl) ?_
        refine lv_iadd hx hb dM_reversed_51 ?_
        obtain ⟨hg2, hf⟩ := xifn hf
        refine va_bald hx hb hK hP 2 0 rfl rfl hg2 dM_reversed_52 ?_
        refine W.eq (g2 := F0 m 53 ls [.int ((xba ws9 3) (((xpi ws9 2) (y1 - 1)) + y3).toNatClampNeg), .ref aM]) rfl ?_
        obtain ⟨o3, hq4, hf⟩ := xbind hf
        obtain ⟨hm5, hf⟩ := xmoE hf
        have hFc := xm_free hD hS hA
        refine va_callv (va_runV (C := "ValueBenchModel") (As := [.int ((xba ws9 3) (((xpi ws9 2) (y1 - 1)) + y3).toNatClampNeg)]) (rest := []) ⟨hx, hb, hml, hown, htx⟩ (gM_letter l hl9 D cT aK aV H.size n aM adL rd gdL vadL ws9 ((xba ws9 3) (((xpi ws9 2) (y1 - 1)) + y3).toNatClampNeg) o3 hq4) ⟨callB_of 1 htx (xw_goodC kw_6_54) rfl rfl rfl (htx _ kw_1_5) (htx _ kw_6_51) ⟨by decide, by decide, by decide +kernel⟩ ⟨Nat.le_of_ble_eq_true rfl, Nat.le_of_ble_eq_true rfl⟩, (htx _ kw_6_53), (htx _ kp_M_letter)⟩ ⟨xPre_blind, va_recv hK hP (ci := 5) rfl (q0 := 0) rfl, (fun U hU hW => ⟨rfl, xPre_of hZ hS hFc hP hD hK U hU hW⟩)⟩ rfl rfl hl.1 rfl (xm_room (Nat.le_of_ble_eq_true rfl)) dM_reversed_53 ⟨hm5.1, hm5.2⟩) hS (fun q _ h => hFc q h) hFc (fun u9 t H1 locs ht hvm hr9 hB hz1 hk1 hS => ?_)
        obtain ⟨hP1, hK1, hD1⟩ := hB
        rw [ht] at hP1
        obtain ⟨ad7, gd8, vad9⟩ := u9
        obtain ⟨hv10, hn11⟩ := hr9
        have hP : va_P D xcl (xMw cT aM ad7 rd gd8 vad9 o3.2.2 []) H1 := hP1
        have hD : va_D A (xMw cT aM ad7 rd gd8 vad9 o3.2.2 []) := hD1.weaken (fun k q _ h => hFc q.1 h)
        generalize H1 = H at hP hS ⊢
        have hE9 : ∀ p, p < xct st → vad9 p = vad p := fun p h => (hv10 p (Nat.lt_of_lt_of_le h hN)).trans (hE p h)
        have hE := hE9
        have hN : xct st ≤ xct o3.2.2 := Nat.le_trans hN hn11
        have ev12 : xv vadL y1 = xv vad9 y1 := xvE hv10 (fun h => hg1 (Or.inr h))
        have hl : lv_has ls 4 [(3, .int y3), (2, .int y2), (0, .ref aM), (1, xv vad9 y1)] := by first | exact hl | ((try (rw [← ev12])); exact hl)
        refine W.eq (g2 := F0 m 56 ls []) (by first | rfl | ((try (rw [ev12])); rfl)) ?_
        refine lv_iinc (v := (y3 + (-1))) (lv' := [(3, .int (y3 + (-1))), (2, .int y2), (0, .ref aM), (1, xv vad9 y1)]) hx hb dM_reversed_56 hl (k := 0) rfl rfl (by decide) rfl (fun ls hl => ?_)
        refine lv_goto (tgt := 37) hx hb dM_reversed_59 (by decide) ?_
        exact ih (1, (y3 + (-1)), y2, y1, o3.2.2, (wc + o3.1), (wn + o3.2.1)) _ _ ls (Or.inl ⟨ad7, gd8, vad9, rfl, hf, hP, hD, hS, lv_sub hl [0, 1, 2, 3] rfl, hE, hN⟩)
    · subst hj
      have hf : fM_reversed_b (n + 1) 2 y3 y2 y1 ws9 wc wn = some out := hf
      rw [fM_reversed_b, if_neg (by decide)] at hf
      obtain ⟨hP, hD⟩ : xPD D xcl A (xMw cT aM adL rd gdL vadL ws9 []) H := ⟨hP, hD⟩
      have hl : lv_has ls 4 [(3, .int y3), (2, .int y2), (0, .ref aM), (1, xv vadL y1)] := hl
      refine W.eq (g2 := F0 m 84 ls []) rfl ?_
      show W p l e _ s m _ below meth c H locs wc wn _ _
      obtain ⟨hm0, hf⟩ := xmoE hf
      refine lv_iload_n hx hb dM_reversed_84 rfl (lv_at hl 0 rfl) ?_
      refine lv_if_lt (tgt := 105) hx hb dM_reversed_85 (by decide) (fun hc => ?_) (fun hc => ?_)
      · rw [if_pos hc] at hf
        refine lv_aload_n hx hb dM_reversed_105 rfl (lv_at hl 2 rfl) ?_
        refine lv_iconst (v := 5) hx hb dM_reversed_106 (by decide) ?_
        refine lv_iload_n hx hb dM_reversed_107 rfl (lv_at hl 1 rfl) ?_
        obtain ⟨o1, hq2, hf⟩ := xbind hf
        have hl := lv_sub (l' := [(3, .int y3), (2, .int y2), (0, .ref aM)]) hl [0, 1, 2] rfl
        by_cases hk3 : o1.1 = 0
        · rw [if_pos hk3] at hf
          obtain ⟨hm4, hf⟩ := xmoE hf
          have hFc := xm_free hD hS hA
          refine va_callq (va_runV (C := "ValueBenchModel") (As := [.int 5, .int y2]) (rest := []) ⟨hx, hb, hml, hown, htx⟩ (gM_whole l hl9 D cT aK aV H.size n aM adL rd gdL vadL ws9 (5 : Int32) y2 o1 hq2 hk3) ⟨callB_of 2 htx (xw_goodC kw_6_106) rfl rfl rfl (htx _ kw_1_5) (htx _ kw_6_103) ⟨by decide, by decide, by decide +kernel⟩ ⟨Nat.le_of_ble_eq_true rfl, Nat.le_of_ble_eq_true rfl⟩, (htx _ kw_6_105), (htx _ kp_M_whole)⟩ ⟨xPre_blind, va_recv hK hP (ci := 5) rfl (q0 := 0) rfl, (fun U hU hW => ⟨rfl, xPre_of hZ hS hFc hP hD hK U hU hW⟩)⟩ rfl rfl hl.1 rfl (xm_room (Nat.le_of_ble_eq_true rfl)) dM_reversed_108 ⟨hm4.1, hm4.2⟩) hS (fun q _ h => hFc q h) hFc (fun r5 u9 t H1 locs ht hvm hr9 hB hz1 hk1 hS => ?_)
          obtain ⟨hP1, hK1, hD1⟩ := hB
          rw [ht] at hP1
          obtain ⟨ad6, gd7, vad8⟩ := u9
          obtain ⟨hr9, hv9, hn10⟩ := hr9
          have hP : va_P D xcl (xMw cT aM ad6 rd gd7 vad8 o1.2.2.2.2 []) H1 := hP1
          have hD : va_D A (xMw cT aM ad6 rd gd7 vad8 o1.2.2.2.2 []) := hD1.weaken (fun k q _ h => hFc q.1 h)
          generalize H1 = H at hP hS ⊢
          have hE9 : ∀ p, p < xct st → vad8 p = vad p := fun p h => (hv9 p (Nat.lt_of_lt_of_le h hN)).trans (hE p h)
          have hE := hE9
          have hN : xct st ≤ xct o1.2.2.2.2 := Nat.le_trans hN hn10
          rw [hr9]
          refine W.eq (g2 := F0 m 111 ls [xv vad8 o1.2.2.2.1]) (by first | rfl | (skip; rfl)) ?_
          obtain rfl := Option.some.inj hf
          exact absurd (show (0 : Nat) = 2 from hkd) (by decide)
        rw [if_neg hk3] at hf
        by_cases hk11 : o1.1 = 1
        · rw [if_pos hk11] at hf
          obtain ⟨hm12, hf⟩ := xmoE hf
          have hFc := xm_free hD hS hA
          refine xx_thr (vx_runV (C := "ValueBenchModel") (As := [.int 5, .int y2]) (rest := []) ⟨hx, hb, hml, hown, htx⟩ (gM_whole_1 l hl9 D cT aK aV H.size n aM adL rd gdL vadL ws9 (5 : Int32) y2 o1 hq2 hk11) ⟨callB_of 2 htx (xw_goodC kw_6_106) rfl rfl rfl (htx _ kw_1_5) (htx _ kw_6_103) ⟨by decide, by decide, by decide +kernel⟩ ⟨Nat.le_of_ble_eq_true rfl, Nat.le_of_ble_eq_true rfl⟩, (htx _ kw_6_105), (htx _ kp_M_whole)⟩ ⟨xPre_blind, va_recv hK hP (ci := 5) rfl (q0 := 0) rfl, (fun U hU hW => ⟨rfl, xPre_of hZ hS hFc hP hD hK U hU hW⟩)⟩ rfl rfl hl.1 rfl (xm_room (Nat.le_of_ble_eq_true rfl)) dM_reversed_108 ⟨hm12.1, hm12.2⟩) hS hFc (fun q _ h => hFc q h) (fun E ce q9 u9 t H1 locs ht hvm hr9 hB hz1 hk1 hS hce hcv hcl => ?_)
          obtain ⟨rfl, hP1, hK1, hD1⟩ := hB
          rw [ht] at hP1
          obtain ⟨ad14, gd15, vad16⟩ := u9
          obtain ⟨hv17, hn18⟩ := hr9
          have hP : va_P D xcl (xMw cT aM ad14 rd gd15 vad16 o1.2.2.2.2 []) H1 := hP1
          have hD : va_D A (xMw cT aM ad14 rd gd15 vad16 o1.2.2.2.2 []) := hD1.weaken (fun k q _ h => hFc q.1 h)
          generalize H1 = H at hP hS hce ⊢
          have hE9 : ∀ p, p < xct st → vad16 p = vad p := fun p h => (hv17 p (Nat.lt_of_lt_of_le h hN)).trans (hE p h)
          have hE := hE9
          have hN : xct st ≤ xct o1.2.2.2.2 := Nat.le_trans hN hn18
          obtain rfl := Option.some.inj hf
          exact vx_out (E := "java/lang/IndexOutOfBoundsException") (fun x h => (hne x h).elim) hlocks hce hcv hcl (fun t ht ha => ⟨(ad14, gd15, vad16), ⟨hE, hN⟩, ⟨rfl, by rw [ht]; exact hP, va_K.moved ha hK, hD⟩, hS.F ht⟩) hS.2.2 (Nat.le_refl _) (Nat.le_refl _)
        rw [if_neg hk11] at hf
        exact nomatch hf
      · rw [if_neg hc] at hf
        refine lv_aload_n hx hb dM_reversed_88 rfl (lv_at hl 2 rfl) ?_
        refine lv_null hx hb dM_reversed_89 ?_
        refine lv_aload_n hx hb dM_reversed_90 rfl (lv_at hl 2 rfl) ?_
        refine xm_aload_n hx hb (xvor _ _) dM_reversed_91 rfl (lv_at hl 3 rfl) ?_
        refine lv_iload_n hx hb dM_reversed_92 rfl (lv_at hl 0 rfl) ?_
        obtain ⟨o1, hq2, hf⟩ := xbind hf
        have hFc := xm_free hD hS hA
        refine va_callq (va_runV (C := "ValueBenchModel") (As := [xv vadL y1, .int y3]) (rest := [.null, .ref aM]) ⟨hx, hb, hml, hown, htx⟩ (gM_kid l hl9 D cT aK aV H.size n aM adL rd gdL vadL ws9 y1 y3 o1 hq2) ⟨callB_of 2 htx (xw_goodC kw_6_158) rfl rfl rfl (htx _ kw_1_5) (htx _ kw_6_155) ⟨by decide, by decide, by decide +kernel⟩ ⟨Nat.le_of_ble_eq_true rfl, Nat.le_of_ble_eq_true rfl⟩, (htx _ kw_6_157), (htx _ kp_M_kid)⟩ ⟨xPre_blind, va_recv hK hP (ci := 5) rfl (q0 := 0) rfl, (fun U hU hW => ⟨rfl, xPre_of hZ hS hFc hP hD hK U hU hW⟩)⟩ rfl rfl hl.1 rfl (xm_room (Nat.le_of_ble_eq_true rfl)) dM_reversed_93 ⟨hm0.1, hm0.2⟩) hS (fun q _ h => hFc q h) hFc (fun r3 u9 t H1 locs ht hvm hr9 hB hz1 hk1 hS => ?_)
        obtain ⟨hP1, hK1, hD1⟩ := hB
        rw [ht] at hP1
        have hP : va_P D xcl (xMw cT aM adL rd gdL vadL ws9 []) H1 := hP1
        have hD : va_D A (xMw cT aM adL rd gdL vadL ws9 []) := hD1.weaken (fun k q _ h => hFc q.1 h)
        generalize H1 = H at hP hS ⊢
        rw [hr9]
        refine W.eq (g2 := F0 m 96 ls [xv vadL o1, .null, .ref aM]) (by first | rfl | (skip; rfl)) ?_
        obtain ⟨o4, hq5, hf⟩ := xbind hf
        obtain ⟨hg6, hf⟩ := xifn hf
        obtain ⟨hm7, hf⟩ := xmoE hf
        have hFc := xm_free hD hS hA
        refine va_callv (va_runV (C := "ValueBenchModel") (As := [.null, xv vadL o1]) (rest := []) ⟨hx, hb, hml, hown, htx⟩ (gM_wait l hl9 D cT aK aV H.size n aM adL rd gdL vadL ws9 0 o1 o4 hq5) ⟨callB_of 2 htx (xw_goodC kw_6_112) rfl rfl rfl (htx _ kw_1_5) (htx _ kw_6_109) ⟨by decide, by decide, by decide +kernel⟩ ⟨Nat.le_of_ble_eq_true rfl, Nat.le_of_ble_eq_true rfl⟩, (htx _ kw_6_111), (htx _ kp_M_wait)⟩ ⟨xPre_blind, va_recv hK hP (ci := 5) rfl (q0 := 0) rfl, (fun U hU hW => ⟨rfl, xPre_of hZ hS hFc hP hD hK U hU hW⟩)⟩ rfl rfl hl.1 rfl (xm_room (Nat.le_of_ble_eq_true rfl)) dM_reversed_96 ⟨hm7.1, hm7.2⟩) hS (fun q _ h => hFc q h) hFc (fun u9 t H1 locs ht hvm hr9 hB hz1 hk1 hS => ?_)
        obtain ⟨hP1, hK1, hD1⟩ := hB
        rw [ht] at hP1
        obtain ⟨ad9, gd10, vad11⟩ := u9
        obtain ⟨hv12, hn13⟩ := hr9
        have hP : va_P D xcl (xMw cT aM ad9 rd gd10 vad11 o4.2.2 []) H1 := hP1
        have hD : va_D A (xMw cT aM ad9 rd gd10 vad11 o4.2.2 []) := hD1.weaken (fun k q _ h => hFc q.1 h)
        generalize H1 = H at hP hS ⊢
        have hE9 : ∀ p, p < xct st → vad11 p = vad p := fun p h => (hv12 p (Nat.lt_of_lt_of_le h hN)).trans (hE p h)
        have hE := hE9
        have hN : xct st ≤ xct o4.2.2 := Nat.le_trans hN hn13
        have ev14 : xv vadL y1 = xv vad11 y1 := xvE hv12 hg6
        have hl : lv_has ls 4 [(3, .int y3), (2, .int y2), (0, .ref aM), (1, xv vad11 y1)] := by first | exact hl | ((try (rw [← ev14])); exact hl)
        refine W.eq (g2 := F0 m 99 ls []) (by first | rfl | ((try (rw [ev14])); rfl)) ?_
        refine lv_iinc (v := (y3 + (-1))) (lv' := [(3, .int (y3 + (-1))), (2, .int y2), (0, .ref aM), (1, xv vad11 y1)]) hx hb dM_reversed_99 hl (k := 0) rfl rfl (by decide) rfl (fun ls hl => ?_)
        refine lv_goto (tgt := 84) hx hb dM_reversed_102 (by decide) ?_
        exact ih (2, (y3 + (-1)), y2, y1, o4.2.2, (wc + o4.1), (wn + o4.2.1)) _ _ ls (Or.inr (⟨ad9, gd10, vad11, rfl, hf, hP, hD, hS, lv_sub hl [0, 1, 2, 3] rfl, hE, hN⟩))
  refine xm_aload_n hx hb (xvor _ _) dM_reversed_0 rfl (lv_at hl 1 rfl) ?_
  obtain ⟨hg1, hf⟩ := xifn hf
  refine xm_vget (v := .int ((xpi st 0) (c0 - 1))) hx hb htx hown hK hP 0 (by decide) hg1 rfl ((hZ.1 (93, "kind", "I") (List.mem_of_getElem? (i := 0) rfl)).use rfl) rfl dM_reversed_1 ?_
  refine lv_if_ne (tgt := 17) hx hb dM_reversed_4 (by decide) (fun hc => ?_) (fun hc => ?_)
  · rw [if_neg hc] at hf
    refine xm_aload_n hx hb (xvor _ _) dM_reversed_17 rfl (lv_at hl 1 rfl) ?_
    refine xm_vget (v := .int ((xpi st 0) (c0 - 1))) hx hb htx hown hK hP 0 (by decide) hg1 rfl ((hZ.1 (93, "kind", "I") (List.mem_of_getElem? (i := 0) rfl)).use rfl) rfl dM_reversed_18 ?_
    refine lv_iconst (v := 4) hx hb dM_reversed_21 (by decide) ?_
    refine lv_icmp_ne (tgt := 68) hx hb dM_reversed_22 (by decide) (fun hc => ?_) (fun hc => ?_)
    · rw [if_neg hc] at hf
      refine lv_aload_n hx hb dM_reversed_68 rfl (lv_at hl 0 rfl) ?_
      refine xm_get (v := .int (xsi st 12)) hx hb htx hown hK hP 12 (by decide) rfl (htx _ kw_5_99) rfl dM_reversed_69 ?_
      refine lv_istore_n (lv' := [(2, .int (xsi st 12)), (0, .ref aM), (1, xv vad c0)]) hx hb dM_reversed_72 rfl hl (by decide) (by simp only [List.filter, xvcat, xrscat, xcI, xcL, xcR, xcN]; rfl) (fun ls hl => ?_)
      refine lv_aload_n hx hb dM_reversed_73 rfl (lv_at hl 1 rfl) ?_
      refine xm_aload_n hx hb (xvor _ _) dM_reversed_74 rfl (lv_at hl 2 rfl) ?_
      obtain ⟨o2, hq3, hf⟩ := xbind hf
      by_cases hk4 : o2.1 = 0
      · rw [if_pos hk4] at hf
        obtain ⟨hm5, hf⟩ := xmoE hf
        have hFc := xm_free hD hS hA
        refine va_callq (va_runV (C := "ValueBenchModel") (As := [xv vad c0]) (rest := []) ⟨hx, hb, hml, hown, htx⟩ (gM_array l hl9 D cT aK aV s.heap.size n aM ad rd gd vad st c0 o2 hq3 hk4) ⟨callB_of 1 htx (xw_goodC kw_7_42) rfl rfl rfl (htx _ kw_1_5) (htx _ kw_7_39) ⟨by decide, by decide, by decide +kernel⟩ ⟨Nat.le_of_ble_eq_true rfl, Nat.le_of_ble_eq_true rfl⟩, (htx _ kw_7_41), (htx _ kp_M_array)⟩ ⟨xPre_blind, va_recv hK hP (ci := 5) rfl (q0 := 0) rfl, (fun U hU hW => ⟨rfl, xPre_of hZ hS hFc hP hD hK U hU hW⟩)⟩ rfl rfl hl.1 rfl (xm_room (Nat.le_of_ble_eq_true rfl)) dM_reversed_75 ⟨hm5.1, hm5.2⟩) hS (fun q _ h => hFc q h) hFc (fun r6 u9 t H1 locs ht hvm hr9 hB hz1 hk1 hS => ?_)
        obtain ⟨hP1, hK1, hD1⟩ := hB
        rw [ht] at hP1
        obtain ⟨ad7, gd8, vad9⟩ := u9
        obtain ⟨hr9, hv10, hn11⟩ := hr9
        have hP : va_P D xcl (xMw cT aM ad7 rd gd8 vad9 o2.2.2.2.2 []) H1 := hP1
        have hD : va_D A (xMw cT aM ad7 rd gd8 vad9 o2.2.2.2.2 []) := hD1.weaken (fun k q _ h => hFc q.1 h)
        generalize H1 = H at hP hS ⊢
        have hE9 : ∀ p, p < xct st → vad9 p = vad p := fun p h => (hv10 p (Nat.lt_of_lt_of_le h hN)).trans (hE p h)
        have hE := hE9
        have hN : xct st ≤ xct o2.2.2.2.2 := Nat.le_trans hN hn11
        have ev12 : xv vad c0 = xv vad9 c0 := xvE hv10 (fun h => hg1 (Or.inr h))
        have hl : lv_has ls 4 [(2, .int (xsi st 12)), (0, .ref aM), (1, xv vad9 c0)] := by first | exact hl | ((try (rw [← ev12])); exact hl)
        rw [hr9]
        refine W.eq (g2 := F0 m 78 ls [xv vad9 o2.2.2.2.1]) (by first | rfl | ((try (rw [ev12])); rfl)) ?_
        obtain ⟨hg13, hf⟩ := xifn hf
        refine xm_vget (v := .int ((xpi o2.2.2.2.2 3) (o2.2.2.2.1 - 1))) hx hb htx hown hK hP 3 (by decide) hg13 rfl ((hZ.1 (103, "count", "I") (List.mem_of_getElem? (i := 3) rfl)).use rfl) rfl dM_reversed_78 ?_
        refine lv_iconst (v := 1) hx hb dM_reversed_81 (by decide) ?_
        refine lv_isub hx hb dM_reversed_82 ?_
        refine lv_istore_n (lv' := [(3, .int (((xpi o2.2.2.2.2 3) (o2.2.2.2.1 - 1)) - (1 : Int32))), (2, .int (xsi st 12)), (0, .ref aM), (1, xv vad9 c0)]) hx hb dM_reversed_83 rfl hl (by decide) rfl (fun ls hl => ?_)
        exact key n (2, (((xpi o2.2.2.2.2 3) (o2.2.2.2.1 - 1)) - (1 : Int32)), (xsi st 12), c0, o2.2.2.2.2, (0 + o2.2.1), (0 + o2.2.2.1)) _ _ ls (Or.inr (⟨ad7, gd8, vad9, rfl, hf, hP, hD, hS, lv_sub hl [0, 1, 2, 3] rfl, hE, hN⟩))
      rw [if_neg hk4] at hf
      by_cases hk14 : o2.1 = 1
      · rw [if_pos hk14] at hf
        obtain ⟨hm15, hf⟩ := xmoE hf
        obtain rfl := Option.some.inj hf
        exact absurd (show (1 : Nat) = 2 from hkd) (by decide)
      rw [if_neg hk14] at hf
      exact nomatch hf
    · rw [if_pos hc] at hf
      refine lv_aload_n hx hb dM_reversed_25 rfl (lv_at hl 0 rfl) ?_
      refine xm_get (v := .int (xsi st 4)) hx hb htx hown hK hP 4 (by decide) rfl (htx _ kw_5_91) rfl dM_reversed_26 ?_
      refine lv_istore_n (lv' := [(2, .int (xsi st 4)), (0, .ref aM), (1, xv vad c0)]) hx hb dM_reversed_29 rfl hl (by decide) (by simp only [List.filter, xvcat, xrscat, xcI, xcL, xcR, xcN]; rfl) (fun ls hl => ?_)
      refine xm_aload_n hx hb (xvor _ _) dM_reversed_30 rfl (lv_at hl 2 rfl) ?_
      refine xm_vget (v := .int ((xpi st 3) (c0 - 1))) hx hb htx hown hK hP 3 (by decide) hg1 rfl ((hZ.1 (103, "count", "I") (List.mem_of_getElem? (i := 3) rfl)).use rfl) rfl dM_reversed_31 ?_
      refine lv_iconst (v := 1) hx hb dM_reversed_34 (by decide) ?_
      refine lv_isub hx hb dM_reversed_35 ?_
      refine lv_istore_n (lv' := [(3, .int (((xpi st 3) (c0 - 1)) - (1 : Int32))), (2, .int (xsi st 4)), (0, .ref aM), (1, xv vad c0)]) hx hb dM_reversed_36 rfl hl (by decide) rfl (fun ls hl => ?_)
      exact key n (1, (((xpi st 3) (c0 - 1)) - (1 : Int32)), (xsi st 4), c0, st, 0, 0) _ _ ls (Or.inl ⟨ad, gd, vad, rfl, hf, hP, hD, hS, lv_sub hl [0, 1, 2, 3] rfl, hE, hN⟩)
  · rw [if_pos hc] at hf
    refine lv_aload_n hx hb dM_reversed_7 rfl (lv_at hl 0 rfl) ?_
    refine lv_iconst (v := 5) hx hb dM_reversed_8 (by decide) ?_
    refine lv_aload_n hx hb dM_reversed_9 rfl (lv_at hl 0 rfl) ?_
    refine xm_get (v := .int (xsi st 12)) hx hb htx hown hK hP 12 (by decide) rfl (htx _ kw_5_99) rfl dM_reversed_10 ?_
    obtain ⟨o2, hq3, hf⟩ := xbind hf
    have hl := lv_sub (l' := [(0, .ref aM)]) hl [0] rfl
    by_cases hk4 : o2.1 = 0
    · rw [if_pos hk4] at hf
      obtain ⟨hm5, hf⟩ := xmoE hf
      have hFc := xm_free hD hS hA
      refine va_callq (va_runV (C := "ValueBenchModel") (As := [.int 5, .int (xsi st 12)]) (rest := []) ⟨hx, hb, hml, hown, htx⟩ (gM_whole l hl9 D cT aK aV s.heap.size n aM ad rd gd vad st (5 : Int32) (xsi st 12) o2 hq3 hk4) ⟨callB_of 2 htx (xw_goodC kw_6_106) rfl rfl rfl (htx _ kw_1_5) (htx _ kw_6_103) ⟨by decide, by decide, by decide +kernel⟩ ⟨Nat.le_of_ble_eq_true rfl, Nat.le_of_ble_eq_true rfl⟩, (htx _ kw_6_105), (htx _ kp_M_whole)⟩ ⟨xPre_blind, va_recv hK hP (ci := 5) rfl (q0 := 0) rfl, (fun U hU hW => ⟨rfl, xPre_of hZ hS hFc hP hD hK U hU hW⟩)⟩ rfl rfl hl.1 rfl (xm_room (Nat.le_of_ble_eq_true rfl)) dM_reversed_13 ⟨hm5.1, hm5.2⟩) hS (fun q _ h => hFc q h) hFc (fun r6 u9 t H1 locs ht hvm hr9 hB hz1 hk1 hS => ?_)
      obtain ⟨hP1, hK1, hD1⟩ := hB
      rw [ht] at hP1
      obtain ⟨ad7, gd8, vad9⟩ := u9
      obtain ⟨hr9, hv10, hn11⟩ := hr9
      have hP : va_P D xcl (xMw cT aM ad7 rd gd8 vad9 o2.2.2.2.2 []) H1 := hP1
      have hD : va_D A (xMw cT aM ad7 rd gd8 vad9 o2.2.2.2.2 []) := hD1.weaken (fun k q _ h => hFc q.1 h)
      generalize H1 = H at hP hS ⊢
      have hE9 : ∀ p, p < xct st → vad9 p = vad p := fun p h => (hv10 p (Nat.lt_of_lt_of_le h hN)).trans (hE p h)
      have hE := hE9
      have hN : xct st ≤ xct o2.2.2.2.2 := Nat.le_trans hN hn11
      rw [hr9]
      refine W.eq (g2 := F0 m 16 ls [xv vad9 o2.2.2.2.1]) (by first | rfl | (skip; rfl)) ?_
      obtain rfl := Option.some.inj hf
      exact absurd (show (0 : Nat) = 2 from hkd) (by decide)
    rw [if_neg hk4] at hf
    by_cases hk12 : o2.1 = 1
    · rw [if_pos hk12] at hf
      obtain ⟨hm13, hf⟩ := xmoE hf
      have hFc := xm_free hD hS hA
      refine xx_thr (vx_runV (C := "ValueBenchModel") (As := [.int 5, .int (xsi st 12)]) (rest := []) ⟨hx, hb, hml, hown, htx⟩ (gM_whole_1 l hl9 D cT aK aV s.heap.size n aM ad rd gd vad st (5 : Int32) (xsi st 12) o2 hq3 hk12) ⟨callB_of 2 htx (xw_goodC kw_6_106) rfl rfl rfl (htx _ kw_1_5) (htx _ kw_6_103) ⟨by decide, by decide, by decide +kernel⟩ ⟨Nat.le_of_ble_eq_true rfl, Nat.le_of_ble_eq_true rfl⟩, (htx _ kw_6_105), (htx _ kp_M_whole)⟩ ⟨xPre_blind, va_recv hK hP (ci := 5) rfl (q0 := 0) rfl, (fun U hU hW => ⟨rfl, xPre_of hZ hS hFc hP hD hK U hU hW⟩)⟩ rfl rfl hl.1 rfl (xm_room (Nat.le_of_ble_eq_true rfl)) dM_reversed_13 ⟨hm13.1, hm13.2⟩) hS hFc (fun q _ h => hFc q h) (fun E ce q9 u9 t H1 locs ht hvm hr9 hB hz1 hk1 hS hce hcv hcl => ?_)
      obtain ⟨rfl, hP1, hK1, hD1⟩ := hB
      rw [ht] at hP1
      obtain ⟨ad15, gd16, vad17⟩ := u9
      obtain ⟨hv18, hn19⟩ := hr9
      have hP : va_P D xcl (xMw cT aM ad15 rd gd16 vad17 o2.2.2.2.2 []) H1 := hP1
      have hD : va_D A (xMw cT aM ad15 rd gd16 vad17 o2.2.2.2.2 []) := hD1.weaken (fun k q _ h => hFc q.1 h)
      generalize H1 = H at hP hS hce ⊢
      have hE9 : ∀ p, p < xct st → vad17 p = vad p := fun p h => (hv18 p (Nat.lt_of_lt_of_le h hN)).trans (hE p h)
      have hE := hE9
      have hN : xct st ≤ xct o2.2.2.2.2 := Nat.le_trans hN hn19
      obtain rfl := Option.some.inj hf
      exact vx_out (E := "java/lang/IndexOutOfBoundsException") (fun x h => (hne x h).elim) hlocks hce hcv hcl (fun t ht ha => ⟨(ad15, gd16, vad17), ⟨hE, hN⟩, ⟨rfl, by rw [ht]; exact hP, va_K.moved ha hK, hD⟩, hS.F ht⟩) hS.2.2 (Nat.le_refl _) (Nat.le_refl _)
    rw [if_neg hk12] at hf
    exact nomatch hf
set_option maxHeartbeats 400000000 in
set_option maxRecDepth 100000 in
theorem gM_explode (l : Launch) (hl9 : l.stackTraces = false) (D : va_G) (cT : Nat → ClassId) (aK aV : Nat → Nat) (sz n : Nat) (aM : Nat) (ad rd gd vad : Nat → Nat) (st : xS) (c0 : Nat) (out : Nat × Nat × Nat × Nat × xS) (hf : fM_explode n st c0 = some out) (hkd : out.1 = 0) : xMet l yM_explode wyM_explode 8 out.2.1 out.2.2.1 147 D cT aK aV sz [.ref aM, xv vad c0] (xMw cT aM ad rd gd vad st []) (fun A => va_Qq (fun (r : Option Nat) (u : xU) => r = xca u.2.2 out.2.2.2.1 ∧ xE vad st out.2.2.2.2 u) (fun u t => xB D xcl cT A (xMw cT aM u.1 rd u.2.1 u.2.2 out.2.2.2.2 []) t) A) := by
  refine Met.ofW (cc := prog_13_method_62_code) (maxL := 4) (ret := (some (.object "ValueBenchModel$V"))) (by decide) rfl ?_
  intro p e s m args below meth c s₁ B hml hv
  obtain ⟨rfl, hsz, hZ, hP, hK, hD0⟩ := hv
  have hx := B.exec
  have hb := B.bytes
  have hr := B.returns
  have hts := atoms_spec (ws := wyM_explode) B.pre
  have htx := fun w h => hts w (List.mem_cons_of_mem _ h)
  have hown : s.vm.findClass "ValueBenchModel" = some m.cls := findClass_of_methodNamed B.named
  have hlocks := B.notSynchronized
  subst hsz
  have hD := hD0.self (sz := s.heap.size)
  generalize hAe : va_A (xMw cT aM ad rd gd vad st []) s.heap.size = A at hD hZ ⊢
  have hA : ∀ q : Nat, s.heap.size ≤ q → A q := fun q h => by rw [← hAe]; exact Or.inr h
  have hS : va_S A s.heap s.heap [] := va_S.rf
  have hl := lv_entry ([.ref aM, xv vad c0]) (n := 4) (by simp [lg_sl, xvcat, xrscat, xcI, xcL, xcR, xcN])
  rw [show lv_args 0 [.ref aM, xv vad c0] = [(0, .ref aM), (1, xv vad c0)] from by simp [lv_args, xvcat, xrscat, xcI, xcL, xcR, xcN]] at hl
  rw [lg_entry_eq]
  generalize (lg_sl ([.ref aM, xv vad c0]) ++ List.replicate (4 - (lg_sl ([.ref aM, xv vad c0])).length) Slot.unset).toArray = ls at hl ⊢
  have hl : lv_has ls 4 [(0, .ref aM), (1, xv vad c0)] := hl
  have hE : ∀ p, p < xct st → vad p = vad p := fun _ _ => rfl
  have hN : xct st ≤ xct st := Nat.le_refl _
  unfold fM_explode at hf
  refine xloopM (σ := Nat × Int32 × Int32 × Nat × xS × Nat × Nat) (fun n x H locs ls => (∃ (adL gdL vadL : Nat → Nat), x.1 = 1 ∧ fM_explode_b n x.1 x.2.1 x.2.2.1 x.2.2.2.1 x.2.2.2.2.1 x.2.2.2.2.2.1 x.2.2.2.2.2.2 = some out ∧ va_P D xcl (xMw cT aM adL rd gdL vadL x.2.2.2.2.1 []) H ∧ va_D A (xMw cT aM adL rd gdL vadL x.2.2.2.2.1 []) ∧ va_S A s.heap H locs ∧ lv_has ls 4 [(3, .int x.2.1), (2, .int x.2.2.1), (0, .ref aM), (1, xv vadL x.2.2.2.1)] ∧ (∀ p, p < xct st → vadL p = vad p) ∧ xct st ≤ xct x.2.2.2.2.1)) (fun x => 7) (fun x => x.2.2.2.2.2.1) (fun x => x.2.2.2.2.2.2) (fun x H locs ls h => by (obtain ⟨_, _, _, h⟩ := h; exact absurd h.2.1 (by rw [fM_explode_b]; exact fun h => nomatch h))) (fun n ih x H locs ls hv => ?_) (fun key => ?_)
  · obtain ⟨lb, y3, y2, y1, ws9, wc, wn⟩ := x
    rcases hv with ⟨adL, gdL, vadL, hj, hf, hP, hD, hS, hl, hE, hN⟩
    subst hj
    have hf : fM_explode_b (n + 1) 1 y3 y2 y1 ws9 wc wn = some out := hf
    rw [fM_explode_b] at hf
    obtain ⟨hP, hD⟩ : xPD D xcl A (xMw cT aM adL rd gdL vadL ws9 []) H := ⟨hP, hD⟩
    have hl : lv_has ls 4 [(3, .int y3), (2, .int y2), (0, .ref aM), (1, xv vadL y1)] := hl
    refine W.eq (g2 := F0 m 7 ls []) rfl ?_
    show W p l e _ s m _ below meth c H locs wc wn _ _
    obtain ⟨hm0, hf⟩ := xmoE hf
    refine lv_iload_n hx hb dM_explode_7 rfl (lv_at hl 0 rfl) ?_
    refine lv_aload_n hx hb dM_explode_8 rfl (lv_at hl 2 rfl) ?_
    refine xm_aload_n hx hb (xvor _ _) dM_explode_9 rfl (lv_at hl 3 rfl) ?_
    obtain ⟨o1, hq2, hf⟩ := xbind hf
    by_cases hk3 : o1.1 = 0
    · rw [if_pos hk3] at hf
      obtain ⟨hg4, hf⟩ := xifn hf
      obtain ⟨hm5, hf⟩ := xmoE hf
      have hFc := xm_free hD hS hA
      refine va_callq (va_runV (C := "ValueBenchModel") (As := [xv vadL y1]) (rest := [.int y3]) ⟨hx, hb, hml, hown, htx⟩ (gM_text l hl9 D cT aK aV H.size n aM adL rd gdL vadL ws9 y1 o1 hq2 hk3) ⟨callB_of 1 htx (xw_goodC kw_7_54) rfl rfl rfl (htx _ kw_1_5) (htx _ kw_7_51) ⟨by decide, by decide, by decide +kernel⟩ ⟨Nat.le_of_ble_eq_true rfl, Nat.le_of_ble_eq_true rfl⟩, (htx _ kw_7_53), (htx _ kp_M_text)⟩ ⟨xPre_blind, va_recv hK hP (ci := 5) rfl (q0 := 0) rfl, (fun U hU hW => ⟨rfl, xPre_of hZ hS hFc hP hD hK U hU hW⟩)⟩ rfl rfl hl.1 rfl (xm_room (Nat.le_of_ble_eq_true rfl)) dM_explode_10 ⟨hm5.1, hm5.2⟩) hS (fun q _ h => hFc q h) hFc (fun r6 u9 t H1 locs ht hvm hr9 hB hz1 hk1 hS => ?_)
      obtain ⟨hP1, hK1, hD1⟩ := hB
      rw [ht] at hP1
      obtain ⟨ad7, gd8, vad9⟩ := u9
      obtain ⟨hr9, hv10, hn11⟩ := hr9
      have hP : va_P D xcl (xMw cT aM ad7 rd gd8 vad9 o1.2.2.2.2 []) H1 := hP1
      have hD : va_D A (xMw cT aM ad7 rd gd8 vad9 o1.2.2.2.2 []) := hD1.weaken (fun k q _ h => hFc q.1 h)
      generalize H1 = H at hP hS ⊢
      have hE9 : ∀ p, p < xct st → vad9 p = vad p := fun p h => (hv10 p (Nat.lt_of_lt_of_le h hN)).trans (hE p h)
      have hE := hE9
      have hN : xct st ≤ xct o1.2.2.2.2 := Nat.le_trans hN hn11
      have ev12 : xv vadL y1 = xv vad9 y1 := xvE hv10 hg4
      have hl : lv_has ls 4 [(3, .int y3), (2, .int y2), (0, .ref aM), (1, xv vad9 y1)] := by first | exact hl | ((try (rw [← ev12])); exact hl)
      rw [hr9]
      refine W.eq (g2 := F0 m 13 ls [xv vad9 o1.2.2.2.1, .int y3]) (by first | rfl | ((try (rw [ev12])); rfl)) ?_
      obtain ⟨hg13, hf⟩ := xifn hf
      refine xm_vget (v := .int ((xpi o1.2.2.2.2 3) (o1.2.2.2.1 - 1))) hx hb htx hown hK hP 3 (by decide) hg13 rfl ((hZ.1 (103, "count", "I") (List.mem_of_getElem? (i := 3) rfl)).use rfl) rfl dM_explode_13 ?_
      refine lv_icmp_ge (tgt := 46) hx hb dM_explode_16 (by decide) (fun hc => ?_) (fun hc => ?_)
      · rw [if_pos hc] at hf
        refine lv_aload_n hx hb dM_explode_46 rfl (lv_at hl 2 rfl) ?_
        refine lv_iconst (v := 5) hx hb dM_explode_47 (by decide) ?_
        refine lv_iload_n hx hb dM_explode_48 rfl (lv_at hl 1 rfl) ?_
        obtain ⟨o14, hq15, hf⟩ := xbind hf
        have hl := lv_sub (l' := [(3, .int y3), (2, .int y2), (0, .ref aM)]) hl [0, 1, 2] rfl
        by_cases hk16 : o14.1 = 0
        · rw [if_pos hk16] at hf
          obtain ⟨hm17, hf⟩ := xmoE hf
          have hFc := xm_free hD hS hA
          refine va_callq (va_runV (C := "ValueBenchModel") (As := [.int 5, .int y2]) (rest := []) ⟨hx, hb, hml, hown, htx⟩ (gM_whole l hl9 D cT aK aV H.size n aM ad7 rd gd8 vad9 o1.2.2.2.2 (5 : Int32) y2 o14 hq15 hk16) ⟨callB_of 2 htx (xw_goodC kw_6_106) rfl rfl rfl (htx _ kw_1_5) (htx _ kw_6_103) ⟨by decide, by decide, by decide +kernel⟩ ⟨Nat.le_of_ble_eq_true rfl, Nat.le_of_ble_eq_true rfl⟩, (htx _ kw_6_105), (htx _ kp_M_whole)⟩ ⟨xPre_blind, va_recv hK hP (ci := 5) rfl (q0 := 0) rfl, (fun U hU hW => ⟨rfl, xPre_of hZ hS hFc hP hD hK U hU hW⟩)⟩ rfl rfl hl.1 rfl (xm_room (Nat.le_of_ble_eq_true rfl)) dM_explode_49 ⟨hm17.1, hm17.2⟩) hS (fun q _ h => hFc q h) hFc (fun r18 u9 t H1 locs ht hvm hr9 hB hz1 hk1 hS => ?_)
          obtain ⟨hP1, hK1, hD1⟩ := hB
          rw [ht] at hP1
          obtain ⟨ad19, gd20, vad21⟩ := u9
          obtain ⟨hr9, hv22, hn23⟩ := hr9
          have hP : va_P D xcl (xMw cT aM ad19 rd gd20 vad21 o14.2.2.2.2 []) H1 := hP1
          have hD : va_D A (xMw cT aM ad19 rd gd20 vad21 o14.2.2.2.2 []) := hD1.weaken (fun k q _ h => hFc q.1 h)
          generalize H1 = H at hP hS ⊢
          have hE9 : ∀ p, p < xct st → vad21 p = vad p := fun p h => (hv22 p (Nat.lt_of_lt_of_le h hN)).trans (hE p h)
          have hE := hE9
          have hN : xct st ≤ xct o14.2.2.2.2 := Nat.le_trans hN hn23
          rw [hr9]
          refine W.eq (g2 := F0 m 52 ls [xv vad21 o14.2.2.2.1]) (by first | rfl | (skip; rfl)) ?_
          obtain rfl := Option.some.inj hf
          exact W.aret (v := xv vad21 o14.2.2.2.1) hx hb hr (Or.inl ⟨_, rfl⟩) (xvor _ _) (fun t ht hW => ⟨⟨xca vad21 o14.2.2.2.1, (ad19, gd20, vad21), rfl, ⟨rfl, hE, hN⟩, by rw [ht]; exact hP, va_K.moved hW.alike hK, hD⟩, hS.F ht⟩) hS.2.2 dM_explode_52
        rw [if_neg hk16] at hf
        by_cases hk24 : o14.1 = 1
        · rw [if_pos hk24] at hf
          obtain ⟨hm25, hf⟩ := xmoE hf
          obtain rfl := Option.some.inj hf
          exact absurd (show (1 : Nat) = 0 from hkd) (by decide)
        rw [if_neg hk24] at hf
        exact nomatch hf
      · rw [if_neg hc] at hf
        refine lv_aload_n hx hb dM_explode_19 rfl (lv_at hl 2 rfl) ?_
        refine lv_null hx hb dM_explode_20 ?_
        refine lv_aload_n hx hb dM_explode_21 rfl (lv_at hl 2 rfl) ?_
        refine lv_aload_n hx hb dM_explode_22 rfl (lv_at hl 2 rfl) ?_
        refine xm_get (v := .ref (ad7 3)) hx hb htx hown hK hP 3 (by decide) rfl (htx _ kw_5_90) rfl dM_explode_23 ?_
        refine xm_aload_n hx hb (xvor _ _) dM_explode_26 rfl (lv_at hl 3 rfl) ?_
        obtain ⟨hg14, hf⟩ := xifn hf
        refine xm_vget (v := .int ((xpi o1.2.2.2.2 2) (y1 - 1))) hx hb htx hown hK hP 2 (by decide) hg14 rfl ((hZ.1 (100, "off", "I") (List.mem_of_getElem? (i := 2) rfl)).use rfl) rfl dM_explode_27 ?_
        refine lv_iload_n hx hb dM_explode_30 rfl (lv_at hl 0 rfl) ?_
        refine lv_iadd hx hb dM_explode_31 ?_
        obtain ⟨hg15, hf⟩ := xifn hf
        refine va_bald hx hb hK hP 2 0 rfl rfl hg15 dM_explode_32 ?_
        refine W.eq (g2 := F0 m 33 ls [.int ((xba o1.2.2.2.2 3) (((xpi o1.2.2.2.2 2) (y1 - 1)) + y3).toNatClampNeg), .ref aM, .null, .ref aM]) rfl ?_
        refine lv_i2l hx hb dM_explode_33 rfl ?_
        obtain ⟨o16, hq17, hf⟩ := xbind hf
        by_cases hk18 : o16.1 = 0
        · rw [if_pos hk18] at hf
          obtain ⟨hm19, hf⟩ := xmoE hf
          have hFc := xm_free hD hS hA
          refine va_callq (va_runV (C := "ValueBenchModel") (As := [.long ((xba o1.2.2.2.2 3) (((xpi o1.2.2.2.2 2) (y1 - 1)) + y3).toNatClampNeg).toInt64]) (rest := [.null, .ref aM]) ⟨hx, hb, hml, hown, htx⟩ (gM_number l hl9 D cT aK aV H.size n aM ad7 rd gd8 vad9 o1.2.2.2.2 (((xba o1.2.2.2.2 3) (((xpi o1.2.2.2.2 2) (y1 - 1)) + y3).toNatClampNeg).toInt64) o16 hq17 hk18) ⟨callB_of 1 htx (xw_goodC kw_6_88) rfl rfl rfl (htx _ kw_1_5) (htx _ kw_6_85) ⟨by decide, by decide, by decide +kernel⟩ ⟨Nat.le_of_ble_eq_true rfl, Nat.le_of_ble_eq_true rfl⟩, (htx _ kw_6_87), (htx _ kp_M_number)⟩ ⟨xPre_blind, va_recv hK hP (ci := 5) rfl (q0 := 0) rfl, (fun U hU hW => ⟨rfl, xPre_of hZ hS hFc hP hD hK U hU hW⟩)⟩ rfl rfl hl.1 rfl (xm_room (Nat.le_of_ble_eq_true rfl)) dM_explode_34 ⟨hm19.1, hm19.2⟩) hS (fun q _ h => hFc q h) hFc (fun r20 u9 t H1 locs ht hvm hr9 hB hz1 hk1 hS => ?_)
          obtain ⟨hP1, hK1, hD1⟩ := hB
          rw [ht] at hP1
          obtain ⟨ad21, gd22, vad23⟩ := u9
          obtain ⟨hr9, hv24, hn25⟩ := hr9
          have hP : va_P D xcl (xMw cT aM ad21 rd gd22 vad23 o16.2.2.2.2 []) H1 := hP1
          have hD : va_D A (xMw cT aM ad21 rd gd22 vad23 o16.2.2.2.2 []) := hD1.weaken (fun k q _ h => hFc q.1 h)
          generalize H1 = H at hP hS ⊢
          have hE9 : ∀ p, p < xct st → vad23 p = vad p := fun p h => (hv24 p (Nat.lt_of_lt_of_le h hN)).trans (hE p h)
          have hE := hE9
          have hN : xct st ≤ xct o16.2.2.2.2 := Nat.le_trans hN hn25
          have ev26 : xv vad9 y1 = xv vad23 y1 := xvE hv24 (fun h => hg14 (Or.inr h))
          have hl : lv_has ls 4 [(3, .int y3), (2, .int y2), (0, .ref aM), (1, xv vad23 y1)] := by first | exact hl | ((try (rw [← ev26])); exact hl)
          rw [hr9]
          refine W.eq (g2 := F0 m 37 ls [xv vad23 o16.2.2.2.1, .null, .ref aM]) (by first | rfl | ((try (rw [ev26])); rfl)) ?_
          obtain ⟨o27, hq28, hf⟩ := xbind hf
          obtain ⟨hg29, hf⟩ := xifn hf
          obtain ⟨hm30, hf⟩ := xmoE hf
          have hFc := xm_free hD hS hA
          refine va_callv (va_runV (C := "ValueBenchModel") (As := [.null, xv vad23 o16.2.2.2.1]) (rest := []) ⟨hx, hb, hml, hown, htx⟩ (gM_wait l hl9 D cT aK aV H.size n aM ad21 rd gd22 vad23 o16.2.2.2.2 0 o16.2.2.2.1 o27 hq28) ⟨callB_of 2 htx (xw_goodC kw_6_112) rfl rfl rfl (htx _ kw_1_5) (htx _ kw_6_109) ⟨by decide, by decide, by decide +kernel⟩ ⟨Nat.le_of_ble_eq_true rfl, Nat.le_of_ble_eq_true rfl⟩, (htx _ kw_6_111), (htx _ kp_M_wait)⟩ ⟨xPre_blind, va_recv hK hP (ci := 5) rfl (q0 := 0) rfl, (fun U hU hW => ⟨rfl, xPre_of hZ hS hFc hP hD hK U hU hW⟩)⟩ rfl rfl hl.1 rfl (xm_room (Nat.le_of_ble_eq_true rfl)) dM_explode_37 ⟨hm30.1, hm30.2⟩) hS (fun q _ h => hFc q h) hFc (fun u9 t H1 locs ht hvm hr9 hB hz1 hk1 hS => ?_)
          obtain ⟨hP1, hK1, hD1⟩ := hB
          rw [ht] at hP1
          obtain ⟨ad32, gd33, vad34⟩ := u9
          obtain ⟨hv35, hn36⟩ := hr9
          have hP : va_P D xcl (xMw cT aM ad32 rd gd33 vad34 o27.2.2 []) H1 := hP1
          have hD : va_D A (xMw cT aM ad32 rd gd33 vad34 o27.2.2 []) := hD1.weaken (fun k q _ h => hFc q.1 h)
          generalize H1 = H at hP hS ⊢
          have hE9 : ∀ p, p < xct st → vad34 p = vad p := fun p h => (hv35 p (Nat.lt_of_lt_of_le h hN)).trans (hE p h)
          have hE := hE9
          have hN : xct st ≤ xct o27.2.2 := Nat.le_trans hN hn36
          have ev37 : xv vad23 y1 = xv vad34 y1 := xvE hv35 hg29
          have hl : lv_has ls 4 [(3, .int y3), (2, .int y2), (0, .ref aM), (1, xv vad34 y1)] := by first | exact hl | ((try (rw [← ev37])); exact hl)
          refine W.eq (g2 := F0 m 40 ls []) (by first | rfl | ((try (rw [ev37])); rfl)) ?_
          refine lv_iinc (v := (y3 + 1)) (lv' := [(3, .int (y3 + 1)), (2, .int y2), (0, .ref aM), (1, xv vad34 y1)]) hx hb dM_explode_40 hl (k := 0) rfl rfl (by decide) rfl (fun ls hl => ?_)
          refine lv_goto (tgt := 7) hx hb dM_explode_43 (by decide) ?_
          exact ih (1, (y3 + 1), y2, y1, o27.2.2, (((wc + o1.2.1) + o16.2.1) + o27.1), (((wn + o1.2.2.1) + o16.2.2.1) + o27.2.1)) _ _ ls (⟨ad32, gd33, vad34, rfl, hf, hP, hD, hS, lv_sub hl [0, 1, 2, 3] rfl, hE, hN⟩)
        rw [if_neg hk18] at hf
        by_cases hk38 : o16.1 = 1
        · rw [if_pos hk38] at hf
          obtain ⟨hm39, hf⟩ := xmoE hf
          obtain rfl := Option.some.inj hf
          exact absurd (show (2 : Nat) = 0 from hkd) (by decide)
        rw [if_neg hk38] at hf
        exact nomatch hf
    rw [if_neg hk3] at hf
    by_cases hk14 : o1.1 = 1
    · rw [if_pos hk14] at hf
      obtain ⟨hg15, hf⟩ := xifn hf
      obtain ⟨hm16, hf⟩ := xmoE hf
      obtain rfl := Option.some.inj hf
      exact absurd (show (2 : Nat) = 0 from hkd) (by decide)
    rw [if_neg hk14] at hf
    exact nomatch hf
  refine lv_aload_n hx hb dM_explode_0 rfl (lv_at hl 0 rfl) ?_
  refine xm_get (v := .int (xsi st 12)) hx hb htx hown hK hP 12 (by decide) rfl (htx _ kw_5_99) rfl dM_explode_1 ?_
  refine lv_istore_n (lv' := [(2, .int (xsi st 12)), (0, .ref aM), (1, xv vad c0)]) hx hb dM_explode_4 rfl hl (by decide) (by simp only [List.filter, xvcat, xrscat, xcI, xcL, xcR, xcN]; rfl) (fun ls hl => ?_)
  refine lv_iconst (v := 0) hx hb dM_explode_5 (by decide) ?_
  refine lv_istore_n (lv' := [(3, .int 0), (2, .int (xsi st 12)), (0, .ref aM), (1, xv vad c0)]) hx hb dM_explode_6 rfl hl (by decide) rfl (fun ls hl => ?_)
  exact key n (1, (0 : Int32), (xsi st 12), c0, st, 0, 0) _ _ ls (⟨ad, gd, vad, rfl, hf, hP, hD, hS, lv_sub hl [0, 1, 2, 3] rfl, hE, hN⟩)
set_option maxHeartbeats 400000000 in
set_option maxRecDepth 100000 in
theorem gM_explode_1 (l : Launch) (hl9 : l.stackTraces = false) (D : va_G) (cT : Nat → ClassId) (aK aV : Nat → Nat) (sz n : Nat) (aM : Nat) (ad rd gd vad : Nat → Nat) (st : xS) (c0 : Nat) (out : Nat × Nat × Nat × Nat × xS) (hf : fM_explode n st c0 = some out) (hkd : out.1 = 1) : xMetY l yM_explode wyM_explode 8 out.2.1 out.2.2.1 147 D cT aK aV sz [.ref aM, xv vad c0] (xMw cT aM ad rd gd vad st []) "java/lang/IndexOutOfBoundsException" (fun u => xE vad st out.2.2.2.2 u) (fun A u t => xB D xcl cT A (xMw cT aM u.1 rd u.2.1 u.2.2 out.2.2.2.2 []) t) := by
  refine vx_ofW (cc := prog_13_method_62_code) (maxL := 4) (ret := (some (.object "ValueBenchModel$V"))) (by decide) rfl ?_
  intro p e s m args below meth c s₁ B hml hne hv
  obtain ⟨rfl, hsz, hZ, hP, hK, hD0⟩ := hv
  have hx := B.exec
  have hb := B.bytes
  have hr := B.returns
  have hts := atoms_spec (ws := wyM_explode) B.pre
  have htx := fun w h => hts w (List.mem_cons_of_mem _ h)
  have hown : s.vm.findClass "ValueBenchModel" = some m.cls := findClass_of_methodNamed B.named
  have hlocks := B.notSynchronized
  subst hsz
  have hD := hD0.self (sz := s.heap.size)
  generalize hAe : va_A (xMw cT aM ad rd gd vad st []) s.heap.size = A at hD hZ ⊢
  have hA : ∀ q : Nat, s.heap.size ≤ q → A q := fun q h => by rw [← hAe]; exact Or.inr h
  have hS : va_S A s.heap s.heap [] := va_S.rf
  have hl := lv_entry ([.ref aM, xv vad c0]) (n := 4) (by simp [lg_sl, xvcat, xrscat, xcI, xcL, xcR, xcN])
  rw [show lv_args 0 [.ref aM, xv vad c0] = [(0, .ref aM), (1, xv vad c0)] from by simp [lv_args, xvcat, xrscat, xcI, xcL, xcR, xcN]] at hl
  rw [lg_entry_eq]
  generalize (lg_sl ([.ref aM, xv vad c0]) ++ List.replicate (4 - (lg_sl ([.ref aM, xv vad c0])).length) Slot.unset).toArray = ls at hl ⊢
  have hl : lv_has ls 4 [(0, .ref aM), (1, xv vad c0)] := hl
  have hE : ∀ p, p < xct st → vad p = vad p := fun _ _ => rfl
  have hN : xct st ≤ xct st := Nat.le_refl _
  unfold fM_explode at hf
  refine xloopM (σ := Nat × Int32 × Int32 × Nat × xS × Nat × Nat) (fun n x H locs ls => (∃ (adL gdL vadL : Nat → Nat), x.1 = 1 ∧ fM_explode_b n x.1 x.2.1 x.2.2.1 x.2.2.2.1 x.2.2.2.2.1 x.2.2.2.2.2.1 x.2.2.2.2.2.2 = some out ∧ va_P D xcl (xMw cT aM adL rd gdL vadL x.2.2.2.2.1 []) H ∧ va_D A (xMw cT aM adL rd gdL vadL x.2.2.2.2.1 []) ∧ va_S A s.heap H locs ∧ lv_has ls 4 [(3, .int x.2.1), (2, .int x.2.2.1), (0, .ref aM), (1, xv vadL x.2.2.2.1)] ∧ (∀ p, p < xct st → vadL p = vad p) ∧ xct st ≤ xct x.2.2.2.2.1)) (fun x => 7) (fun x => x.2.2.2.2.2.1) (fun x => x.2.2.2.2.2.2) (fun x H locs ls h => by (obtain ⟨_, _, _, h⟩ := h; exact absurd h.2.1 (by rw [fM_explode_b]; exact fun h => nomatch h))) (fun n ih x H locs ls hv => ?_) (fun key => ?_)
  · obtain ⟨lb, y3, y2, y1, ws9, wc, wn⟩ := x
    rcases hv with ⟨adL, gdL, vadL, hj, hf, hP, hD, hS, hl, hE, hN⟩
    subst hj
    have hf : fM_explode_b (n + 1) 1 y3 y2 y1 ws9 wc wn = some out := hf
    rw [fM_explode_b] at hf
    obtain ⟨hP, hD⟩ : xPD D xcl A (xMw cT aM adL rd gdL vadL ws9 []) H := ⟨hP, hD⟩
    have hl : lv_has ls 4 [(3, .int y3), (2, .int y2), (0, .ref aM), (1, xv vadL y1)] := hl
    refine W.eq (g2 := F0 m 7 ls []) rfl ?_
    show W p l e _ s m _ below meth c H locs wc wn _ _
    obtain ⟨hm0, hf⟩ := xmoE hf
    refine lv_iload_n hx hb dM_explode_7 rfl (lv_at hl 0 rfl) ?_
    refine lv_aload_n hx hb dM_explode_8 rfl (lv_at hl 2 rfl) ?_
    refine xm_aload_n hx hb (xvor _ _) dM_explode_9 rfl (lv_at hl 3 rfl) ?_
    obtain ⟨o1, hq2, hf⟩ := xbind hf
    by_cases hk3 : o1.1 = 0
    · rw [if_pos hk3] at hf
      obtain ⟨hg4, hf⟩ := xifn hf
      obtain ⟨hm5, hf⟩ := xmoE hf
      have hFc := xm_free hD hS hA
      refine va_callq (va_runV (C := "ValueBenchModel") (As := [xv vadL y1]) (rest := [.int y3]) ⟨hx, hb, hml, hown, htx⟩ (gM_text l hl9 D cT aK aV H.size n aM adL rd gdL vadL ws9 y1 o1 hq2 hk3) ⟨callB_of 1 htx (xw_goodC kw_7_54) rfl rfl rfl (htx _ kw_1_5) (htx _ kw_7_51) ⟨by decide, by decide, by decide +kernel⟩ ⟨Nat.le_of_ble_eq_true rfl, Nat.le_of_ble_eq_true rfl⟩, (htx _ kw_7_53), (htx _ kp_M_text)⟩ ⟨xPre_blind, va_recv hK hP (ci := 5) rfl (q0 := 0) rfl, (fun U hU hW => ⟨rfl, xPre_of hZ hS hFc hP hD hK U hU hW⟩)⟩ rfl rfl hl.1 rfl (xm_room (Nat.le_of_ble_eq_true rfl)) dM_explode_10 ⟨hm5.1, hm5.2⟩) hS (fun q _ h => hFc q h) hFc (fun r6 u9 t H1 locs ht hvm hr9 hB hz1 hk1 hS => ?_)
      obtain ⟨hP1, hK1, hD1⟩ := hB
      rw [ht] at hP1
      obtain ⟨ad7, gd8, vad9⟩ := u9
      obtain ⟨hr9, hv10, hn11⟩ := hr9
      have hP : va_P D xcl (xMw cT aM ad7 rd gd8 vad9 o1.2.2.2.2 []) H1 := hP1
      have hD : va_D A (xMw cT aM ad7 rd gd8 vad9 o1.2.2.2.2 []) := hD1.weaken (fun k q _ h => hFc q.1 h)
      generalize H1 = H at hP hS ⊢
      have hE9 : ∀ p, p < xct st → vad9 p = vad p := fun p h => (hv10 p (Nat.lt_of_lt_of_le h hN)).trans (hE p h)
      have hE := hE9
      have hN : xct st ≤ xct o1.2.2.2.2 := Nat.le_trans hN hn11
      have ev12 : xv vadL y1 = xv vad9 y1 := xvE hv10 hg4
      have hl : lv_has ls 4 [(3, .int y3), (2, .int y2), (0, .ref aM), (1, xv vad9 y1)] := by first | exact hl | ((try (rw [← ev12])); exact hl)
      rw [hr9]
      refine W.eq (g2 := F0 m 13 ls [xv vad9 o1.2.2.2.1, .int y3]) (by first | rfl | ((try (rw [ev12])); rfl)) ?_
      obtain ⟨hg13, hf⟩ := xifn hf
      refine xm_vget (v := .int ((xpi o1.2.2.2.2 3) (o1.2.2.2.1 - 1))) hx hb htx hown hK hP 3 (by decide) hg13 rfl ((hZ.1 (103, "count", "I") (List.mem_of_getElem? (i := 3) rfl)).use rfl) rfl dM_explode_13 ?_
      refine lv_icmp_ge (tgt := 46) hx hb dM_explode_16 (by decide) (fun hc => ?_) (fun hc => ?_)
      · rw [if_pos hc] at hf
        refine lv_aload_n hx hb dM_explode_46 rfl (lv_at hl 2 rfl) ?_
        refine lv_iconst (v := 5) hx hb dM_explode_47 (by decide) ?_
        refine lv_iload_n hx hb dM_explode_48 rfl (lv_at hl 1 rfl) ?_
        obtain ⟨o14, hq15, hf⟩ := xbind hf
        have hl := lv_sub (l' := [(3, .int y3), (2, .int y2), (0, .ref aM)]) hl [0, 1, 2] rfl
        by_cases hk16 : o14.1 = 0
        · rw [if_pos hk16] at hf
          obtain ⟨hm17, hf⟩ := xmoE hf
          have hFc := xm_free hD hS hA
          refine va_callq (va_runV (C := "ValueBenchModel") (As := [.int 5, .int y2]) (rest := []) ⟨hx, hb, hml, hown, htx⟩ (gM_whole l hl9 D cT aK aV H.size n aM ad7 rd gd8 vad9 o1.2.2.2.2 (5 : Int32) y2 o14 hq15 hk16) ⟨callB_of 2 htx (xw_goodC kw_6_106) rfl rfl rfl (htx _ kw_1_5) (htx _ kw_6_103) ⟨by decide, by decide, by decide +kernel⟩ ⟨Nat.le_of_ble_eq_true rfl, Nat.le_of_ble_eq_true rfl⟩, (htx _ kw_6_105), (htx _ kp_M_whole)⟩ ⟨xPre_blind, va_recv hK hP (ci := 5) rfl (q0 := 0) rfl, (fun U hU hW => ⟨rfl, xPre_of hZ hS hFc hP hD hK U hU hW⟩)⟩ rfl rfl hl.1 rfl (xm_room (Nat.le_of_ble_eq_true rfl)) dM_explode_49 ⟨hm17.1, hm17.2⟩) hS (fun q _ h => hFc q h) hFc (fun r18 u9 t H1 locs ht hvm hr9 hB hz1 hk1 hS => ?_)
          obtain ⟨hP1, hK1, hD1⟩ := hB
          rw [ht] at hP1
          obtain ⟨ad19, gd20, vad21⟩ := u9
          obtain ⟨hr9, hv22, hn23⟩ := hr9
          have hP : va_P D xcl (xMw cT aM ad19 rd gd20 vad21 o14.2.2.2.2 []) H1 := hP1
          have hD : va_D A (xMw cT aM ad19 rd gd20 vad21 o14.2.2.2.2 []) := hD1.weaken (fun k q _ h => hFc q.1 h)
          generalize H1 = H at hP hS ⊢
          have hE9 : ∀ p, p < xct st → vad21 p = vad p := fun p h => (hv22 p (Nat.lt_of_lt_of_le h hN)).trans (hE p h)
          have hE := hE9
          have hN : xct st ≤ xct o14.2.2.2.2 := Nat.le_trans hN hn23
          rw [hr9]
          refine W.eq (g2 := F0 m 52 ls [xv vad21 o14.2.2.2.1]) (by first | rfl | (skip; rfl)) ?_
          obtain rfl := Option.some.inj hf
          exact absurd (show (0 : Nat) = 1 from hkd) (by decide)
        rw [if_neg hk16] at hf
        by_cases hk24 : o14.1 = 1
        · rw [if_pos hk24] at hf
          obtain ⟨hm25, hf⟩ := xmoE hf
          have hFc := xm_free hD hS hA
          refine xx_thr (vx_runV (C := "ValueBenchModel") (As := [.int 5, .int y2]) (rest := []) ⟨hx, hb, hml, hown, htx⟩ (gM_whole_1 l hl9 D cT aK aV H.size n aM ad7 rd gd8 vad9 o1.2.2.2.2 (5 : Int32) y2 o14 hq15 hk24) ⟨callB_of 2 htx (xw_goodC kw_6_106) rfl rfl rfl (htx _ kw_1_5) (htx _ kw_6_103) ⟨by decide, by decide, by decide +kernel⟩ ⟨Nat.le_of_ble_eq_true rfl, Nat.le_of_ble_eq_true rfl⟩, (htx _ kw_6_105), (htx _ kp_M_whole)⟩ ⟨xPre_blind, va_recv hK hP (ci := 5) rfl (q0 := 0) rfl, (fun U hU hW => ⟨rfl, xPre_of hZ hS hFc hP hD hK U hU hW⟩)⟩ rfl rfl hl.1 rfl (xm_room (Nat.le_of_ble_eq_true rfl)) dM_explode_49 ⟨hm25.1, hm25.2⟩) hS hFc (fun q _ h => hFc q h) (fun E ce q9 u9 t H1 locs ht hvm hr9 hB hz1 hk1 hS hce hcv hcl => ?_)
          obtain ⟨rfl, hP1, hK1, hD1⟩ := hB
          rw [ht] at hP1
          obtain ⟨ad27, gd28, vad29⟩ := u9
          obtain ⟨hv30, hn31⟩ := hr9
          have hP : va_P D xcl (xMw cT aM ad27 rd gd28 vad29 o14.2.2.2.2 []) H1 := hP1
          have hD : va_D A (xMw cT aM ad27 rd gd28 vad29 o14.2.2.2.2 []) := hD1.weaken (fun k q _ h => hFc q.1 h)
          generalize H1 = H at hP hS hce ⊢
          have hE9 : ∀ p, p < xct st → vad29 p = vad p := fun p h => (hv30 p (Nat.lt_of_lt_of_le h hN)).trans (hE p h)
          have hE := hE9
          have hN : xct st ≤ xct o14.2.2.2.2 := Nat.le_trans hN hn31
          obtain rfl := Option.some.inj hf
          exact vx_out (E := "java/lang/IndexOutOfBoundsException") (fun x h => (hne x h).elim) hlocks hce hcv hcl (fun t ht ha => ⟨(ad27, gd28, vad29), ⟨hE, hN⟩, ⟨rfl, by rw [ht]; exact hP, va_K.moved ha hK, hD⟩, hS.F ht⟩) hS.2.2 (Nat.le_refl _) (Nat.le_refl _)
        rw [if_neg hk24] at hf
        exact nomatch hf
      · rw [if_neg hc] at hf
        refine lv_aload_n hx hb dM_explode_19 rfl (lv_at hl 2 rfl) ?_
        refine lv_null hx hb dM_explode_20 ?_
        refine lv_aload_n hx hb dM_explode_21 rfl (lv_at hl 2 rfl) ?_
        refine lv_aload_n hx hb dM_explode_22 rfl (lv_at hl 2 rfl) ?_
        refine xm_get (v := .ref (ad7 3)) hx hb htx hown hK hP 3 (by decide) rfl (htx _ kw_5_90) rfl dM_explode_23 ?_
        refine xm_aload_n hx hb (xvor _ _) dM_explode_26 rfl (lv_at hl 3 rfl) ?_
        obtain ⟨hg14, hf⟩ := xifn hf
        refine xm_vget (v := .int ((xpi o1.2.2.2.2 2) (y1 - 1))) hx hb htx hown hK hP 2 (by decide) hg14 rfl ((hZ.1 (100, "off", "I") (List.mem_of_getElem? (i := 2) rfl)).use rfl) rfl dM_explode_27 ?_
        refine lv_iload_n hx hb dM_explode_30 rfl (lv_at hl 0 rfl) ?_
        refine lv_iadd hx hb dM_explode_31 ?_
        obtain ⟨hg15, hf⟩ := xifn hf
        refine va_bald hx hb hK hP 2 0 rfl rfl hg15 dM_explode_32 ?_
        refine W.eq (g2 := F0 m 33 ls [.int ((xba o1.2.2.2.2 3) (((xpi o1.2.2.2.2 2) (y1 - 1)) + y3).toNatClampNeg), .ref aM, .null, .ref aM]) rfl ?_
        refine lv_i2l hx hb dM_explode_33 rfl ?_
        obtain ⟨o16, hq17, hf⟩ := xbind hf
        by_cases hk18 : o16.1 = 0
        · rw [if_pos hk18] at hf
          obtain ⟨hm19, hf⟩ := xmoE hf
          have hFc := xm_free hD hS hA
          refine va_callq (va_runV (C := "ValueBenchModel") (As := [.long ((xba o1.2.2.2.2 3) (((xpi o1.2.2.2.2 2) (y1 - 1)) + y3).toNatClampNeg).toInt64]) (rest := [.null, .ref aM]) ⟨hx, hb, hml, hown, htx⟩ (gM_number l hl9 D cT aK aV H.size n aM ad7 rd gd8 vad9 o1.2.2.2.2 (((xba o1.2.2.2.2 3) (((xpi o1.2.2.2.2 2) (y1 - 1)) + y3).toNatClampNeg).toInt64) o16 hq17 hk18) ⟨callB_of 1 htx (xw_goodC kw_6_88) rfl rfl rfl (htx _ kw_1_5) (htx _ kw_6_85) ⟨by decide, by decide, by decide +kernel⟩ ⟨Nat.le_of_ble_eq_true rfl, Nat.le_of_ble_eq_true rfl⟩, (htx _ kw_6_87), (htx _ kp_M_number)⟩ ⟨xPre_blind, va_recv hK hP (ci := 5) rfl (q0 := 0) rfl, (fun U hU hW => ⟨rfl, xPre_of hZ hS hFc hP hD hK U hU hW⟩)⟩ rfl rfl hl.1 rfl (xm_room (Nat.le_of_ble_eq_true rfl)) dM_explode_34 ⟨hm19.1, hm19.2⟩) hS (fun q _ h => hFc q h) hFc (fun r20 u9 t H1 locs ht hvm hr9 hB hz1 hk1 hS => ?_)
          obtain ⟨hP1, hK1, hD1⟩ := hB
          rw [ht] at hP1
          obtain ⟨ad21, gd22, vad23⟩ := u9
          obtain ⟨hr9, hv24, hn25⟩ := hr9
          have hP : va_P D xcl (xMw cT aM ad21 rd gd22 vad23 o16.2.2.2.2 []) H1 := hP1
          have hD : va_D A (xMw cT aM ad21 rd gd22 vad23 o16.2.2.2.2 []) := hD1.weaken (fun k q _ h => hFc q.1 h)
          generalize H1 = H at hP hS ⊢
          have hE9 : ∀ p, p < xct st → vad23 p = vad p := fun p h => (hv24 p (Nat.lt_of_lt_of_le h hN)).trans (hE p h)
          have hE := hE9
          have hN : xct st ≤ xct o16.2.2.2.2 := Nat.le_trans hN hn25
          have ev26 : xv vad9 y1 = xv vad23 y1 := xvE hv24 (fun h => hg14 (Or.inr h))
          have hl : lv_has ls 4 [(3, .int y3), (2, .int y2), (0, .ref aM), (1, xv vad23 y1)] := by first | exact hl | ((try (rw [← ev26])); exact hl)
          rw [hr9]
          refine W.eq (g2 := F0 m 37 ls [xv vad23 o16.2.2.2.1, .null, .ref aM]) (by first | rfl | ((try (rw [ev26])); rfl)) ?_
          obtain ⟨o27, hq28, hf⟩ := xbind hf
          obtain ⟨hg29, hf⟩ := xifn hf
          obtain ⟨hm30, hf⟩ := xmoE hf
          have hFc := xm_free hD hS hA
          refine va_callv (va_runV (C := "ValueBenchModel") (As := [.null, xv vad23 o16.2.2.2.1]) (rest := []) ⟨hx, hb, hml, hown, htx⟩ (gM_wait l hl9 D cT aK aV H.size n aM ad21 rd gd22 vad23 o16.2.2.2.2 0 o16.2.2.2.1 o27 hq28) ⟨callB_of 2 htx (xw_goodC kw_6_112) rfl rfl rfl (htx _ kw_1_5) (htx _ kw_6_109) ⟨by decide, by decide, by decide +kernel⟩ ⟨Nat.le_of_ble_eq_true rfl, Nat.le_of_ble_eq_true rfl⟩, (htx _ kw_6_111), (htx _ kp_M_wait)⟩ ⟨xPre_blind, va_recv hK hP (ci := 5) rfl (q0 := 0) rfl, (fun U hU hW => ⟨rfl, xPre_of hZ hS hFc hP hD hK U hU hW⟩)⟩ rfl rfl hl.1 rfl (xm_room (Nat.le_of_ble_eq_true rfl)) dM_explode_37 ⟨hm30.1, hm30.2⟩) hS (fun q _ h => hFc q h) hFc (fun u9 t H1 locs ht hvm hr9 hB hz1 hk1 hS => ?_)
          obtain ⟨hP1, hK1, hD1⟩ := hB
          rw [ht] at hP1
          obtain ⟨ad32, gd33, vad34⟩ := u9
          obtain ⟨hv35, hn36⟩ := hr9
          have hP : va_P D xcl (xMw cT aM ad32 rd gd33 vad34 o27.2.2 []) H1 := hP1
          have hD : va_D A (xMw cT aM ad32 rd gd33 vad34 o27.2.2 []) := hD1.weaken (fun k q _ h => hFc q.1 h)
          generalize H1 = H at hP hS ⊢
          have hE9 : ∀ p, p < xct st → vad34 p = vad p := fun p h => (hv35 p (Nat.lt_of_lt_of_le h hN)).trans (hE p h)
          have hE := hE9
          have hN : xct st ≤ xct o27.2.2 := Nat.le_trans hN hn36
          have ev37 : xv vad23 y1 = xv vad34 y1 := xvE hv35 hg29
          have hl : lv_has ls 4 [(3, .int y3), (2, .int y2), (0, .ref aM), (1, xv vad34 y1)] := by first | exact hl | ((try (rw [← ev37])); exact hl)
          refine W.eq (g2 := F0 m 40 ls []) (by first | rfl | ((try (rw [ev37])); rfl)) ?_
          refine lv_iinc (v := (y3 + 1)) (lv' := [(3, .int (y3 + 1)), (2, .int y2), (0, .ref aM), (1, xv vad34 y1)]) hx hb dM_explode_40 hl (k := 0) rfl rfl (by decide) rfl (fun ls hl => ?_)
          refine lv_goto (tgt := 7) hx hb dM_explode_43 (by decide) ?_
          exact ih (1, (y3 + 1), y2, y1, o27.2.2, (((wc + o1.2.1) + o16.2.1) + o27.1), (((wn + o1.2.2.1) + o16.2.2.1) + o27.2.1)) _ _ ls (⟨ad32, gd33, vad34, rfl, hf, hP, hD, hS, lv_sub hl [0, 1, 2, 3] rfl, hE, hN⟩)
        rw [if_neg hk18] at hf
        by_cases hk38 : o16.1 = 1
        · rw [if_pos hk38] at hf
          obtain ⟨hm39, hf⟩ := xmoE hf
          obtain rfl := Option.some.inj hf
          exact absurd (show (2 : Nat) = 1 from hkd) (by decide)
        rw [if_neg hk38] at hf
        exact nomatch hf
    rw [if_neg hk3] at hf
    by_cases hk14 : o1.1 = 1
    · rw [if_pos hk14] at hf
      obtain ⟨hg15, hf⟩ := xifn hf
      obtain ⟨hm16, hf⟩ := xmoE hf
      obtain rfl := Option.some.inj hf
      exact absurd (show (2 : Nat) = 1 from hkd) (by decide)
    rw [if_neg hk14] at hf
    exact nomatch hf
  refine lv_aload_n hx hb dM_explode_0 rfl (lv_at hl 0 rfl) ?_
  refine xm_get (v := .int (xsi st 12)) hx hb htx hown hK hP 12 (by decide) rfl (htx _ kw_5_99) rfl dM_explode_1 ?_
  refine lv_istore_n (lv' := [(2, .int (xsi st 12)), (0, .ref aM), (1, xv vad c0)]) hx hb dM_explode_4 rfl hl (by decide) (by simp only [List.filter, xvcat, xrscat, xcI, xcL, xcR, xcN]; rfl) (fun ls hl => ?_)
  refine lv_iconst (v := 0) hx hb dM_explode_5 (by decide) ?_
  refine lv_istore_n (lv' := [(3, .int 0), (2, .int (xsi st 12)), (0, .ref aM), (1, xv vad c0)]) hx hb dM_explode_6 rfl hl (by decide) rfl (fun ls hl => ?_)
  exact key n (1, (0 : Int32), (xsi st 12), c0, st, 0, 0) _ _ ls (⟨ad, gd, vad, rfl, hf, hP, hD, hS, lv_sub hl [0, 1, 2, 3] rfl, hE, hN⟩)
set_option maxHeartbeats 400000000 in
set_option maxRecDepth 100000 in
theorem gM_explode_2 (l : Launch) (hl9 : l.stackTraces = false) (D : va_G) (cT : Nat → ClassId) (aK aV : Nat → Nat) (sz n : Nat) (aM : Nat) (ad rd gd vad : Nat → Nat) (st : xS) (c0 : Nat) (out : Nat × Nat × Nat × Nat × xS) (hf : fM_explode n st c0 = some out) (hkd : out.1 = 2) : xMetY l yM_explode wyM_explode 8 out.2.1 out.2.2.1 147 D cT aK aV sz [.ref aM, xv vad c0] (xMw cT aM ad rd gd vad st []) "java/lang/ArithmeticException" (fun u => xE vad st out.2.2.2.2 u) (fun A u t => xB D xcl cT A (xMw cT aM u.1 rd u.2.1 u.2.2 out.2.2.2.2 []) t) := by
  refine vx_ofW (cc := prog_13_method_62_code) (maxL := 4) (ret := (some (.object "ValueBenchModel$V"))) (by decide) rfl ?_
  intro p e s m args below meth c s₁ B hml hne hv
  obtain ⟨rfl, hsz, hZ, hP, hK, hD0⟩ := hv
  have hx := B.exec
  have hb := B.bytes
  have hr := B.returns
  have hts := atoms_spec (ws := wyM_explode) B.pre
  have htx := fun w h => hts w (List.mem_cons_of_mem _ h)
  have hown : s.vm.findClass "ValueBenchModel" = some m.cls := findClass_of_methodNamed B.named
  have hlocks := B.notSynchronized
  subst hsz
  have hD := hD0.self (sz := s.heap.size)
  generalize hAe : va_A (xMw cT aM ad rd gd vad st []) s.heap.size = A at hD hZ ⊢
  have hA : ∀ q : Nat, s.heap.size ≤ q → A q := fun q h => by rw [← hAe]; exact Or.inr h
  have hS : va_S A s.heap s.heap [] := va_S.rf
  have hl := lv_entry ([.ref aM, xv vad c0]) (n := 4) (by simp [lg_sl, xvcat, xrscat, xcI, xcL, xcR, xcN])
  rw [show lv_args 0 [.ref aM, xv vad c0] = [(0, .ref aM), (1, xv vad c0)] from by simp [lv_args, xvcat, xrscat, xcI, xcL, xcR, xcN]] at hl
  rw [lg_entry_eq]
  generalize (lg_sl ([.ref aM, xv vad c0]) ++ List.replicate (4 - (lg_sl ([.ref aM, xv vad c0])).length) Slot.unset).toArray = ls at hl ⊢
  have hl : lv_has ls 4 [(0, .ref aM), (1, xv vad c0)] := hl
  have hE : ∀ p, p < xct st → vad p = vad p := fun _ _ => rfl
  have hN : xct st ≤ xct st := Nat.le_refl _
  unfold fM_explode at hf
  refine xloopM (σ := Nat × Int32 × Int32 × Nat × xS × Nat × Nat) (fun n x H locs ls => (∃ (adL gdL vadL : Nat → Nat), x.1 = 1 ∧ fM_explode_b n x.1 x.2.1 x.2.2.1 x.2.2.2.1 x.2.2.2.2.1 x.2.2.2.2.2.1 x.2.2.2.2.2.2 = some out ∧ va_P D xcl (xMw cT aM adL rd gdL vadL x.2.2.2.2.1 []) H ∧ va_D A (xMw cT aM adL rd gdL vadL x.2.2.2.2.1 []) ∧ va_S A s.heap H locs ∧ lv_has ls 4 [(3, .int x.2.1), (2, .int x.2.2.1), (0, .ref aM), (1, xv vadL x.2.2.2.1)] ∧ (∀ p, p < xct st → vadL p = vad p) ∧ xct st ≤ xct x.2.2.2.2.1)) (fun x => 7) (fun x => x.2.2.2.2.2.1) (fun x => x.2.2.2.2.2.2) (fun x H locs ls h => by (obtain ⟨_, _, _, h⟩ := h; exact absurd h.2.1 (by rw [fM_explode_b]; exact fun h => nomatch h))) (fun n ih x H locs ls hv => ?_) (fun key => ?_)
  · obtain ⟨lb, y3, y2, y1, ws9, wc, wn⟩ := x
    rcases hv with ⟨adL, gdL, vadL, hj, hf, hP, hD, hS, hl, hE, hN⟩
    subst hj
    have hf : fM_explode_b (n + 1) 1 y3 y2 y1 ws9 wc wn = some out := hf
    rw [fM_explode_b] at hf
    obtain ⟨hP, hD⟩ : xPD D xcl A (xMw cT aM adL rd gdL vadL ws9 []) H := ⟨hP, hD⟩
    have hl : lv_has ls 4 [(3, .int y3), (2, .int y2), (0, .ref aM), (1, xv vadL y1)] := hl
    refine W.eq (g2 := F0 m 7 ls []) rfl ?_
    show W p l e _ s m _ below meth c H locs wc wn _ _
    obtain ⟨hm0, hf⟩ := xmoE hf
    refine lv_iload_n hx hb dM_explode_7 rfl (lv_at hl 0 rfl) ?_
    refine lv_aload_n hx hb dM_explode_8 rfl (lv_at hl 2 rfl) ?_
    refine xm_aload_n hx hb (xvor _ _) dM_explode_9 rfl (lv_at hl 3 rfl) ?_
    obtain ⟨o1, hq2, hf⟩ := xbind hf
    by_cases hk3 : o1.1 = 0
    · rw [if_pos hk3] at hf
      obtain ⟨hg4, hf⟩ := xifn hf
      obtain ⟨hm5, hf⟩ := xmoE hf
      have hFc := xm_free hD hS hA
      refine va_callq (va_runV (C := "ValueBenchModel") (As := [xv vadL y1]) (rest := [.int y3]) ⟨hx, hb, hml, hown, htx⟩ (gM_text l hl9 D cT aK aV H.size n aM adL rd gdL vadL ws9 y1 o1 hq2 hk3) ⟨callB_of 1 htx (xw_goodC kw_7_54) rfl rfl rfl (htx _ kw_1_5) (htx _ kw_7_51) ⟨by decide, by decide, by decide +kernel⟩ ⟨Nat.le_of_ble_eq_true rfl, Nat.le_of_ble_eq_true rfl⟩, (htx _ kw_7_53), (htx _ kp_M_text)⟩ ⟨xPre_blind, va_recv hK hP (ci := 5) rfl (q0 := 0) rfl, (fun U hU hW => ⟨rfl, xPre_of hZ hS hFc hP hD hK U hU hW⟩)⟩ rfl rfl hl.1 rfl (xm_room (Nat.le_of_ble_eq_true rfl)) dM_explode_10 ⟨hm5.1, hm5.2⟩) hS (fun q _ h => hFc q h) hFc (fun r6 u9 t H1 locs ht hvm hr9 hB hz1 hk1 hS => ?_)
      obtain ⟨hP1, hK1, hD1⟩ := hB
      rw [ht] at hP1
      obtain ⟨ad7, gd8, vad9⟩ := u9
      obtain ⟨hr9, hv10, hn11⟩ := hr9
      have hP : va_P D xcl (xMw cT aM ad7 rd gd8 vad9 o1.2.2.2.2 []) H1 := hP1
      have hD : va_D A (xMw cT aM ad7 rd gd8 vad9 o1.2.2.2.2 []) := hD1.weaken (fun k q _ h => hFc q.1 h)
      generalize H1 = H at hP hS ⊢
      have hE9 : ∀ p, p < xct st → vad9 p = vad p := fun p h => (hv10 p (Nat.lt_of_lt_of_le h hN)).trans (hE p h)
      have hE := hE9
      have hN : xct st ≤ xct o1.2.2.2.2 := Nat.le_trans hN hn11
      have ev12 : xv vadL y1 = xv vad9 y1 := xvE hv10 hg4
      have hl : lv_has ls 4 [(3, .int y3), (2, .int y2), (0, .ref aM), (1, xv vad9 y1)] := by first | exact hl | ((try (rw [← ev12])); exact hl)
      rw [hr9]
      refine W.eq (g2 := F0 m 13 ls [xv vad9 o1.2.2.2.1, .int y3]) (by first | rfl | ((try (rw [ev12])); rfl)) ?_
      obtain ⟨hg13, hf⟩ := xifn hf
      refine xm_vget (v := .int ((xpi o1.2.2.2.2 3) (o1.2.2.2.1 - 1))) hx hb htx hown hK hP 3 (by decide) hg13 rfl ((hZ.1 (103, "count", "I") (List.mem_of_getElem? (i := 3) rfl)).use rfl) rfl dM_explode_13 ?_
      refine lv_icmp_ge (tgt := 46) hx hb dM_explode_16 (by decide) (fun hc => ?_) (fun hc => ?_)
      · rw [if_pos hc] at hf
        refine lv_aload_n hx hb dM_explode_46 rfl (lv_at hl 2 rfl) ?_
        refine lv_iconst (v := 5) hx hb dM_explode_47 (by decide) ?_
        refine lv_iload_n hx hb dM_explode_48 rfl (lv_at hl 1 rfl) ?_
        obtain ⟨o14, hq15, hf⟩ := xbind hf
        have hl := lv_sub (l' := [(3, .int y3), (2, .int y2), (0, .ref aM)]) hl [0, 1, 2] rfl
        by_cases hk16 : o14.1 = 0
        · rw [if_pos hk16] at hf
          obtain ⟨hm17, hf⟩ := xmoE hf
          have hFc := xm_free hD hS hA
          refine va_callq (va_runV (C := "ValueBenchModel") (As := [.int 5, .int y2]) (rest := []) ⟨hx, hb, hml, hown, htx⟩ (gM_whole l hl9 D cT aK aV H.size n aM ad7 rd gd8 vad9 o1.2.2.2.2 (5 : Int32) y2 o14 hq15 hk16) ⟨callB_of 2 htx (xw_goodC kw_6_106) rfl rfl rfl (htx _ kw_1_5) (htx _ kw_6_103) ⟨by decide, by decide, by decide +kernel⟩ ⟨Nat.le_of_ble_eq_true rfl, Nat.le_of_ble_eq_true rfl⟩, (htx _ kw_6_105), (htx _ kp_M_whole)⟩ ⟨xPre_blind, va_recv hK hP (ci := 5) rfl (q0 := 0) rfl, (fun U hU hW => ⟨rfl, xPre_of hZ hS hFc hP hD hK U hU hW⟩)⟩ rfl rfl hl.1 rfl (xm_room (Nat.le_of_ble_eq_true rfl)) dM_explode_49 ⟨hm17.1, hm17.2⟩) hS (fun q _ h => hFc q h) hFc (fun r18 u9 t H1 locs ht hvm hr9 hB hz1 hk1 hS => ?_)
          obtain ⟨hP1, hK1, hD1⟩ := hB
          rw [ht] at hP1
          obtain ⟨ad19, gd20, vad21⟩ := u9
          obtain ⟨hr9, hv22, hn23⟩ := hr9
          have hP : va_P D xcl (xMw cT aM ad19 rd gd20 vad21 o14.2.2.2.2 []) H1 := hP1
          have hD : va_D A (xMw cT aM ad19 rd gd20 vad21 o14.2.2.2.2 []) := hD1.weaken (fun k q _ h => hFc q.1 h)
          generalize H1 = H at hP hS ⊢
          have hE9 : ∀ p, p < xct st → vad21 p = vad p := fun p h => (hv22 p (Nat.lt_of_lt_of_le h hN)).trans (hE p h)
          have hE := hE9
          have hN : xct st ≤ xct o14.2.2.2.2 := Nat.le_trans hN hn23
          rw [hr9]
          refine W.eq (g2 := F0 m 52 ls [xv vad21 o14.2.2.2.1]) (by first | rfl | (skip; rfl)) ?_
          obtain rfl := Option.some.inj hf
          exact absurd (show (0 : Nat) = 2 from hkd) (by decide)
        rw [if_neg hk16] at hf
        by_cases hk24 : o14.1 = 1
        · rw [if_pos hk24] at hf
          obtain ⟨hm25, hf⟩ := xmoE hf
          obtain rfl := Option.some.inj hf
          exact absurd (show (1 : Nat) = 2 from hkd) (by decide)
        rw [if_neg hk24] at hf
        exact nomatch hf
      · rw [if_neg hc] at hf
        refine lv_aload_n hx hb dM_explode_19 rfl (lv_at hl 2 rfl) ?_
        refine lv_null hx hb dM_explode_20 ?_
        refine lv_aload_n hx hb dM_explode_21 rfl (lv_at hl 2 rfl) ?_
        refine lv_aload_n hx hb dM_explode_22 rfl (lv_at hl 2 rfl) ?_
        refine xm_get (v := .ref (ad7 3)) hx hb htx hown hK hP 3 (by decide) rfl (htx _ kw_5_90) rfl dM_explode_23 ?_
        refine xm_aload_n hx hb (xvor _ _) dM_explode_26 rfl (lv_at hl 3 rfl) ?_
        obtain ⟨hg14, hf⟩ := xifn hf
        refine xm_vget (v := .int ((xpi o1.2.2.2.2 2) (y1 - 1))) hx hb htx hown hK hP 2 (by decide) hg14 rfl ((hZ.1 (100, "off", "I") (List.mem_of_getElem? (i := 2) rfl)).use rfl) rfl dM_explode_27 ?_
        refine lv_iload_n hx hb dM_explode_30 rfl (lv_at hl 0 rfl) ?_
        refine lv_iadd hx hb dM_explode_31 ?_
        obtain ⟨hg15, hf⟩ := xifn hf
        refine va_bald hx hb hK hP 2 0 rfl rfl hg15 dM_explode_32 ?_
        refine W.eq (g2 := F0 m 33 ls [.int ((xba o1.2.2.2.2 3) (((xpi o1.2.2.2.2 2) (y1 - 1)) + y3).toNatClampNeg), .ref aM, .null, .ref aM]) rfl ?_
        refine lv_i2l hx hb dM_explode_33 rfl ?_
        obtain ⟨o16, hq17, hf⟩ := xbind hf
        by_cases hk18 : o16.1 = 0
        · rw [if_pos hk18] at hf
          obtain ⟨hm19, hf⟩ := xmoE hf
          have hFc := xm_free hD hS hA
          refine va_callq (va_runV (C := "ValueBenchModel") (As := [.long ((xba o1.2.2.2.2 3) (((xpi o1.2.2.2.2 2) (y1 - 1)) + y3).toNatClampNeg).toInt64]) (rest := [.null, .ref aM]) ⟨hx, hb, hml, hown, htx⟩ (gM_number l hl9 D cT aK aV H.size n aM ad7 rd gd8 vad9 o1.2.2.2.2 (((xba o1.2.2.2.2 3) (((xpi o1.2.2.2.2 2) (y1 - 1)) + y3).toNatClampNeg).toInt64) o16 hq17 hk18) ⟨callB_of 1 htx (xw_goodC kw_6_88) rfl rfl rfl (htx _ kw_1_5) (htx _ kw_6_85) ⟨by decide, by decide, by decide +kernel⟩ ⟨Nat.le_of_ble_eq_true rfl, Nat.le_of_ble_eq_true rfl⟩, (htx _ kw_6_87), (htx _ kp_M_number)⟩ ⟨xPre_blind, va_recv hK hP (ci := 5) rfl (q0 := 0) rfl, (fun U hU hW => ⟨rfl, xPre_of hZ hS hFc hP hD hK U hU hW⟩)⟩ rfl rfl hl.1 rfl (xm_room (Nat.le_of_ble_eq_true rfl)) dM_explode_34 ⟨hm19.1, hm19.2⟩) hS (fun q _ h => hFc q h) hFc (fun r20 u9 t H1 locs ht hvm hr9 hB hz1 hk1 hS => ?_)
          obtain ⟨hP1, hK1, hD1⟩ := hB
          rw [ht] at hP1
          obtain ⟨ad21, gd22, vad23⟩ := u9
          obtain ⟨hr9, hv24, hn25⟩ := hr9
          have hP : va_P D xcl (xMw cT aM ad21 rd gd22 vad23 o16.2.2.2.2 []) H1 := hP1
          have hD : va_D A (xMw cT aM ad21 rd gd22 vad23 o16.2.2.2.2 []) := hD1.weaken (fun k q _ h => hFc q.1 h)
          generalize H1 = H at hP hS ⊢
          have hE9 : ∀ p, p < xct st → vad23 p = vad p := fun p h => (hv24 p (Nat.lt_of_lt_of_le h hN)).trans (hE p h)
          have hE := hE9
          have hN : xct st ≤ xct o16.2.2.2.2 := Nat.le_trans hN hn25
          have ev26 : xv vad9 y1 = xv vad23 y1 := xvE hv24 (fun h => hg14 (Or.inr h))
          have hl : lv_has ls 4 [(3, .int y3), (2, .int y2), (0, .ref aM), (1, xv vad23 y1)] := by first | exact hl | ((try (rw [← ev26])); exact hl)
          rw [hr9]
          refine W.eq (g2 := F0 m 37 ls [xv vad23 o16.2.2.2.1, .null, .ref aM]) (by first | rfl | ((try (rw [ev26])); rfl)) ?_
          obtain ⟨o27, hq28, hf⟩ := xbind hf
          obtain ⟨hg29, hf⟩ := xifn hf
          obtain ⟨hm30, hf⟩ := xmoE hf
          have hFc := xm_free hD hS hA
          refine va_callv (va_runV (C := "ValueBenchModel") (As := [.null, xv vad23 o16.2.2.2.1]) (rest := []) ⟨hx, hb, hml, hown, htx⟩ (gM_wait l hl9 D cT aK aV H.size n aM ad21 rd gd22 vad23 o16.2.2.2.2 0 o16.2.2.2.1 o27 hq28) ⟨callB_of 2 htx (xw_goodC kw_6_112) rfl rfl rfl (htx _ kw_1_5) (htx _ kw_6_109) ⟨by decide, by decide, by decide +kernel⟩ ⟨Nat.le_of_ble_eq_true rfl, Nat.le_of_ble_eq_true rfl⟩, (htx _ kw_6_111), (htx _ kp_M_wait)⟩ ⟨xPre_blind, va_recv hK hP (ci := 5) rfl (q0 := 0) rfl, (fun U hU hW => ⟨rfl, xPre_of hZ hS hFc hP hD hK U hU hW⟩)⟩ rfl rfl hl.1 rfl (xm_room (Nat.le_of_ble_eq_true rfl)) dM_explode_37 ⟨hm30.1, hm30.2⟩) hS (fun q _ h => hFc q h) hFc (fun u9 t H1 locs ht hvm hr9 hB hz1 hk1 hS => ?_)
          obtain ⟨hP1, hK1, hD1⟩ := hB
          rw [ht] at hP1
          obtain ⟨ad32, gd33, vad34⟩ := u9
          obtain ⟨hv35, hn36⟩ := hr9
          have hP : va_P D xcl (xMw cT aM ad32 rd gd33 vad34 o27.2.2 []) H1 := hP1
          have hD : va_D A (xMw cT aM ad32 rd gd33 vad34 o27.2.2 []) := hD1.weaken (fun k q _ h => hFc q.1 h)
          generalize H1 = H at hP hS ⊢
          have hE9 : ∀ p, p < xct st → vad34 p = vad p := fun p h => (hv35 p (Nat.lt_of_lt_of_le h hN)).trans (hE p h)
          have hE := hE9
          have hN : xct st ≤ xct o27.2.2 := Nat.le_trans hN hn36
          have ev37 : xv vad23 y1 = xv vad34 y1 := xvE hv35 hg29
          have hl : lv_has ls 4 [(3, .int y3), (2, .int y2), (0, .ref aM), (1, xv vad34 y1)] := by first | exact hl | ((try (rw [← ev37])); exact hl)
          refine W.eq (g2 := F0 m 40 ls []) (by first | rfl | ((try (rw [ev37])); rfl)) ?_
          refine lv_iinc (v := (y3 + 1)) (lv' := [(3, .int (y3 + 1)), (2, .int y2), (0, .ref aM), (1, xv vad34 y1)]) hx hb dM_explode_40 hl (k := 0) rfl rfl (by decide) rfl (fun ls hl => ?_)
          refine lv_goto (tgt := 7) hx hb dM_explode_43 (by decide) ?_
          exact ih (1, (y3 + 1), y2, y1, o27.2.2, (((wc + o1.2.1) + o16.2.1) + o27.1), (((wn + o1.2.2.1) + o16.2.2.1) + o27.2.1)) _ _ ls (⟨ad32, gd33, vad34, rfl, hf, hP, hD, hS, lv_sub hl [0, 1, 2, 3] rfl, hE, hN⟩)
        rw [if_neg hk18] at hf
        by_cases hk38 : o16.1 = 1
        · rw [if_pos hk38] at hf
          obtain ⟨hm39, hf⟩ := xmoE hf
          have hFc := xm_free hD hS hA
          refine xx_thr (vx_runV (C := "ValueBenchModel") (As := [.long ((xba o1.2.2.2.2 3) (((xpi o1.2.2.2.2 2) (y1 - 1)) + y3).toNatClampNeg).toInt64]) (rest := [.null, .ref aM]) ⟨hx, hb, hml, hown, htx⟩ (gM_number_1 l hl9 D cT aK aV H.size n aM ad7 rd gd8 vad9 o1.2.2.2.2 (((xba o1.2.2.2.2 3) (((xpi o1.2.2.2.2 2) (y1 - 1)) + y3).toNatClampNeg).toInt64) o16 hq17 hk38) ⟨callB_of 1 htx (xw_goodC kw_6_88) rfl rfl rfl (htx _ kw_1_5) (htx _ kw_6_85) ⟨by decide, by decide, by decide +kernel⟩ ⟨Nat.le_of_ble_eq_true rfl, Nat.le_of_ble_eq_true rfl⟩, (htx _ kw_6_87), (htx _ kp_M_number)⟩ ⟨xPre_blind, va_recv hK hP (ci := 5) rfl (q0 := 0) rfl, (fun U hU hW => ⟨rfl, xPre_of hZ hS hFc hP hD hK U hU hW⟩)⟩ rfl rfl hl.1 rfl (xm_room (Nat.le_of_ble_eq_true rfl)) dM_explode_34 ⟨hm39.1, hm39.2⟩) hS hFc (fun q _ h => hFc q h) (fun E ce q9 u9 t H1 locs ht hvm hr9 hB hz1 hk1 hS hce hcv hcl => ?_)
          obtain ⟨rfl, hP1, hK1, hD1⟩ := hB
          rw [ht] at hP1
          obtain ⟨ad41, gd42, vad43⟩ := u9
          obtain ⟨hv44, hn45⟩ := hr9
          have hP : va_P D xcl (xMw cT aM ad41 rd gd42 vad43 o16.2.2.2.2 []) H1 := hP1
          have hD : va_D A (xMw cT aM ad41 rd gd42 vad43 o16.2.2.2.2 []) := hD1.weaken (fun k q _ h => hFc q.1 h)
          generalize H1 = H at hP hS hce ⊢
          have hE9 : ∀ p, p < xct st → vad43 p = vad p := fun p h => (hv44 p (Nat.lt_of_lt_of_le h hN)).trans (hE p h)
          have hE := hE9
          have hN : xct st ≤ xct o16.2.2.2.2 := Nat.le_trans hN hn45
          have ev46 : xv vad9 y1 = xv vad43 y1 := xvE hv44 (fun h => hg14 (Or.inr h))
          have hl : lv_has ls 4 [(3, .int y3), (2, .int y2), (0, .ref aM), (1, xv vad43 y1)] := by first | exact hl | ((try (rw [← ev46])); exact hl)
          obtain rfl := Option.some.inj hf
          exact vx_out (E := "java/lang/ArithmeticException") (fun x h => (hne x h).elim) hlocks hce hcv hcl (fun t ht ha => ⟨(ad41, gd42, vad43), ⟨hE, hN⟩, ⟨rfl, by rw [ht]; exact hP, va_K.moved ha hK, hD⟩, hS.F ht⟩) hS.2.2 (Nat.le_refl _) (Nat.le_refl _)
        rw [if_neg hk38] at hf
        exact nomatch hf
    rw [if_neg hk3] at hf
    by_cases hk14 : o1.1 = 1
    · rw [if_pos hk14] at hf
      obtain ⟨hg15, hf⟩ := xifn hf
      obtain ⟨hm16, hf⟩ := xmoE hf
      have hFc := xm_free hD hS hA
      refine xx_thr (vx_runV (C := "ValueBenchModel") (As := [xv vadL y1]) (rest := [.int y3]) ⟨hx, hb, hml, hown, htx⟩ (gM_text_1 l hl9 D cT aK aV H.size n aM adL rd gdL vadL ws9 y1 o1 hq2 hk14) ⟨callB_of 1 htx (xw_goodC kw_7_54) rfl rfl rfl (htx _ kw_1_5) (htx _ kw_7_51) ⟨by decide, by decide, by decide +kernel⟩ ⟨Nat.le_of_ble_eq_true rfl, Nat.le_of_ble_eq_true rfl⟩, (htx _ kw_7_53), (htx _ kp_M_text)⟩ ⟨xPre_blind, va_recv hK hP (ci := 5) rfl (q0 := 0) rfl, (fun U hU hW => ⟨rfl, xPre_of hZ hS hFc hP hD hK U hU hW⟩)⟩ rfl rfl hl.1 rfl (xm_room (Nat.le_of_ble_eq_true rfl)) dM_explode_10 ⟨hm16.1, hm16.2⟩) hS hFc (fun q _ h => hFc q h) (fun E ce q9 u9 t H1 locs ht hvm hr9 hB hz1 hk1 hS hce hcv hcl => ?_)
      obtain ⟨rfl, hP1, hK1, hD1⟩ := hB
      rw [ht] at hP1
      obtain ⟨ad18, gd19, vad20⟩ := u9
      obtain ⟨hv21, hn22⟩ := hr9
      have hP : va_P D xcl (xMw cT aM ad18 rd gd19 vad20 o1.2.2.2.2 []) H1 := hP1
      have hD : va_D A (xMw cT aM ad18 rd gd19 vad20 o1.2.2.2.2 []) := hD1.weaken (fun k q _ h => hFc q.1 h)
      generalize H1 = H at hP hS hce ⊢
      have hE9 : ∀ p, p < xct st → vad20 p = vad p := fun p h => (hv21 p (Nat.lt_of_lt_of_le h hN)).trans (hE p h)
      have hE := hE9
      have hN : xct st ≤ xct o1.2.2.2.2 := Nat.le_trans hN hn22
      have ev23 : xv vadL y1 = xv vad20 y1 := xvE hv21 hg15
      have hl : lv_has ls 4 [(3, .int y3), (2, .int y2), (0, .ref aM), (1, xv vad20 y1)] := by first | exact hl | ((try (rw [← ev23])); exact hl)
      obtain rfl := Option.some.inj hf
      exact vx_out (E := "java/lang/ArithmeticException") (fun x h => (hne x h).elim) hlocks hce hcv hcl (fun t ht ha => ⟨(ad18, gd19, vad20), ⟨hE, hN⟩, ⟨rfl, by rw [ht]; exact hP, va_K.moved ha hK, hD⟩, hS.F ht⟩) hS.2.2 (Nat.le_refl _) (Nat.le_refl _)
    rw [if_neg hk14] at hf
    exact nomatch hf
  refine lv_aload_n hx hb dM_explode_0 rfl (lv_at hl 0 rfl) ?_
  refine xm_get (v := .int (xsi st 12)) hx hb htx hown hK hP 12 (by decide) rfl (htx _ kw_5_99) rfl dM_explode_1 ?_
  refine lv_istore_n (lv' := [(2, .int (xsi st 12)), (0, .ref aM), (1, xv vad c0)]) hx hb dM_explode_4 rfl hl (by decide) (by simp only [List.filter, xvcat, xrscat, xcI, xcL, xcR, xcN]; rfl) (fun ls hl => ?_)
  refine lv_iconst (v := 0) hx hb dM_explode_5 (by decide) ?_
  refine lv_istore_n (lv' := [(3, .int 0), (2, .int (xsi st 12)), (0, .ref aM), (1, xv vad c0)]) hx hb dM_explode_6 rfl hl (by decide) rfl (fun ls hl => ?_)
  exact key n (1, (0 : Int32), (xsi st 12), c0, st, 0, 0) _ _ ls (⟨ad, gd, vad, rfl, hf, hP, hD, hS, lv_sub hl [0, 1, 2, 3] rfl, hE, hN⟩)
set_option maxHeartbeats 400000000 in
set_option maxRecDepth 100000 in
theorem gM_implode (l : Launch) (hl9 : l.stackTraces = false) (D : va_G) (cT : Nat → ClassId) (aK aV : Nat → Nat) (sz n : Nat) (aM : Nat) (ad rd gd vad : Nat → Nat) (st : xS) (c0 : Nat) (out : Nat × Nat × Nat × Nat × xS) (hf : fM_implode n st c0 = some out) (hkd : out.1 = 0) : xMet l yM_implode wyM_implode 8 out.2.1 out.2.2.1 142 D cT aK aV sz [.ref aM, xv vad c0] (xMw cT aM ad rd gd vad st []) (fun A => va_Qq (fun (r : Option Nat) (u : xU) => r = xca u.2.2 out.2.2.2.1 ∧ xE vad st out.2.2.2.2 u) (fun u t => xB D xcl cT A (xMw cT aM u.1 rd u.2.1 u.2.2 out.2.2.2.2 []) t) A) := by
  refine Met.ofW (cc := prog_13_method_63_code) (maxL := 4) (ret := (some (.object "ValueBenchModel$V"))) (by decide) rfl ?_
  intro p e s m args below meth c s₁ B hml hv
  obtain ⟨rfl, hsz, hZ, hP, hK, hD0⟩ := hv
  have hx := B.exec
  have hb := B.bytes
  have hr := B.returns
  have hts := atoms_spec (ws := wyM_implode) B.pre
  have htx := fun w h => hts w (List.mem_cons_of_mem _ h)
  have hown : s.vm.findClass "ValueBenchModel" = some m.cls := findClass_of_methodNamed B.named
  have hlocks := B.notSynchronized
  subst hsz
  have hD := hD0.self (sz := s.heap.size)
  generalize hAe : va_A (xMw cT aM ad rd gd vad st []) s.heap.size = A at hD hZ ⊢
  have hA : ∀ q : Nat, s.heap.size ≤ q → A q := fun q h => by rw [← hAe]; exact Or.inr h
  have hS : va_S A s.heap s.heap [] := va_S.rf
  have hl := lv_entry ([.ref aM, xv vad c0]) (n := 4) (by simp [lg_sl, xvcat, xrscat, xcI, xcL, xcR, xcN])
  rw [show lv_args 0 [.ref aM, xv vad c0] = [(0, .ref aM), (1, xv vad c0)] from by simp [lv_args, xvcat, xrscat, xcI, xcL, xcR, xcN]] at hl
  rw [lg_entry_eq]
  generalize (lg_sl ([.ref aM, xv vad c0]) ++ List.replicate (4 - (lg_sl ([.ref aM, xv vad c0])).length) Slot.unset).toArray = ls at hl ⊢
  have hl : lv_has ls 4 [(0, .ref aM), (1, xv vad c0)] := hl
  have hE : ∀ p, p < xct st → vad p = vad p := fun _ _ => rfl
  have hN : xct st ≤ xct st := Nat.le_refl _
  unfold fM_implode at hf
  refine xloopM (σ := Nat × Int32 × Nat × Int32 × xS × Nat × Nat) (fun n x H locs ls => (∃ (adL gdL vadL : Nat → Nat), x.1 = 1 ∧ fM_implode_b n x.1 x.2.1 x.2.2.1 x.2.2.2.1 x.2.2.2.2.1 x.2.2.2.2.2.1 x.2.2.2.2.2.2 = some out ∧ va_P D xcl (xMw cT aM adL rd gdL vadL x.2.2.2.2.1 []) H ∧ va_D A (xMw cT aM adL rd gdL vadL x.2.2.2.2.1 []) ∧ va_S A s.heap H locs ∧ lv_has ls 4 [(2, .int x.2.1), (0, .ref aM), (1, xv vadL x.2.2.1)] ∧ (∀ p, p < xct st → vadL p = vad p) ∧ xct st ≤ xct x.2.2.2.2.1) ∨ (∃ (adL gdL vadL : Nat → Nat), x.1 = 2 ∧ fM_implode_b n x.1 x.2.1 x.2.2.1 x.2.2.2.1 x.2.2.2.2.1 x.2.2.2.2.2.1 x.2.2.2.2.2.2 = some out ∧ va_P D xcl (xMw cT aM adL rd gdL vadL x.2.2.2.2.1 []) H ∧ va_D A (xMw cT aM adL rd gdL vadL x.2.2.2.2.1 []) ∧ va_S A s.heap H locs ∧ lv_has ls 4 [(2, .int x.2.1), (0, .ref aM), (1, xv vadL x.2.2.1)] ∧ (∀ p, p < xct st → vadL p = vad p) ∧ xct st ≤ xct x.2.2.2.2.1) ∨ (∃ (adL gdL vadL : Nat → Nat), x.1 = 3 ∧ fM_implode_b n x.1 x.2.1 x.2.2.1 x.2.2.2.1 x.2.2.2.2.1 x.2.2.2.2.2.1 x.2.2.2.2.2.2 = some out ∧ va_P D xcl (xMw cT aM adL rd gdL vadL x.2.2.2.2.1 []) H ∧ va_D A (xMw cT aM adL rd gdL vadL x.2.2.2.2.1 []) ∧ va_S A s.heap H locs ∧ lv_has ls 4 [(3, .int x.2.2.2.1), (2, .int x.2.1), (0, .ref aM), (1, xv vadL x.2.2.1)] ∧ (∀ p, p < xct st → vadL p = vad p) ∧ xct st ≤ xct x.2.2.2.2.1)) (fun x => if x.1 = 1 then 2 else if x.1 = 2 then 41 else 98) (fun x => x.2.2.2.2.2.1) (fun x => x.2.2.2.2.2.2) (fun x H locs ls h => by rcases h with h | h | h; (obtain ⟨_, _, _, h⟩ := h; exact absurd h.2.1 (by rw [fM_implode_b]; exact fun h => nomatch h)); (obtain ⟨_, _, _, h⟩ := h; exact absurd h.2.1 (by rw [fM_implode_b]; exact fun h => nomatch h)); (obtain ⟨_, _, _, h⟩ := h; exact absurd h.2.1 (by rw [fM_implode_b]; exact fun h => nomatch h))) (fun n ih x H locs ls hv => ?_) (fun key => ?_)
  · obtain ⟨lb, y2, y1, y3, ws9, wc, wn⟩ := x
    rcases hv with ⟨adL, gdL, vadL, hj, hf, hP, hD, hS, hl, hE, hN⟩ | ⟨adL, gdL, vadL, hj, hf, hP, hD, hS, hl, hE, hN⟩ | ⟨adL, gdL, vadL, hj, hf, hP, hD, hS, hl, hE, hN⟩
    · subst hj
      have hf : fM_implode_b (n + 1) 1 y2 y1 y3 ws9 wc wn = some out := hf
      rw [fM_implode_b, if_pos rfl] at hf
      obtain ⟨hP, hD⟩ : xPD D xcl A (xMw cT aM adL rd gdL vadL ws9 []) H := ⟨hP, hD⟩
      have hl : lv_has ls 4 [(2, .int y2), (0, .ref aM), (1, xv vadL y1)] := hl
      refine W.eq (g2 := F0 m 2 ls []) rfl ?_
      show W p l e _ s m _ below meth c H locs wc wn _ _
      obtain ⟨hm0, hf⟩ := xmoE hf
      refine lv_iload_n hx hb dM_implode_2 rfl (lv_at hl 0 rfl) ?_
      refine lv_aload_n hx hb dM_implode_3 rfl (lv_at hl 1 rfl) ?_
      refine xm_aload_n hx hb (xvor _ _) dM_implode_4 rfl (lv_at hl 2 rfl) ?_
      obtain ⟨o1, hq2, hf⟩ := xbind hf
      by_cases hk3 : o1.1 = 0
      · rw [if_pos hk3] at hf
        obtain ⟨hg4, hf⟩ := xifn hf
        obtain ⟨hm5, hf⟩ := xmoE hf
        have hFc := xm_free hD hS hA
        refine va_callq (va_runV (C := "ValueBenchModel") (As := [xv vadL y1]) (rest := [.int y2]) ⟨hx, hb, hml, hown, htx⟩ (gM_array l hl9 D cT aK aV H.size n aM adL rd gdL vadL ws9 y1 o1 hq2 hk3) ⟨callB_of 1 htx (xw_goodC kw_7_42) rfl rfl rfl (htx _ kw_1_5) (htx _ kw_7_39) ⟨by decide, by decide, by decide +kernel⟩ ⟨Nat.le_of_ble_eq_true rfl, Nat.le_of_ble_eq_true rfl⟩, (htx _ kw_7_41), (htx _ kp_M_array)⟩ ⟨xPre_blind, va_recv hK hP (ci := 5) rfl (q0 := 0) rfl, (fun U hU hW => ⟨rfl, xPre_of hZ hS hFc hP hD hK U hU hW⟩)⟩ rfl rfl hl.1 rfl (xm_room (Nat.le_of_ble_eq_true rfl)) dM_implode_5 ⟨hm5.1, hm5.2⟩) hS (fun q _ h => hFc q h) hFc (fun r6 u9 t H1 locs ht hvm hr9 hB hz1 hk1 hS => ?_)
        obtain ⟨hP1, hK1, hD1⟩ := hB
        rw [ht] at hP1
        obtain ⟨ad7, gd8, vad9⟩ := u9
        obtain ⟨hr9, hv10, hn11⟩ := hr9
        have hP : va_P D xcl (xMw cT aM ad7 rd gd8 vad9 o1.2.2.2.2 []) H1 := hP1
        have hD : va_D A (xMw cT aM ad7 rd gd8 vad9 o1.2.2.2.2 []) := hD1.weaken (fun k q _ h => hFc q.1 h)
        generalize H1 = H at hP hS ⊢
        have hE9 : ∀ p, p < xct st → vad9 p = vad p := fun p h => (hv10 p (Nat.lt_of_lt_of_le h hN)).trans (hE p h)
        have hE := hE9
        have hN : xct st ≤ xct o1.2.2.2.2 := Nat.le_trans hN hn11
        have ev12 : xv vadL y1 = xv vad9 y1 := xvE hv10 hg4
        have hl : lv_has ls 4 [(2, .int y2), (0, .ref aM), (1, xv vad9 y1)] := by first | exact hl | ((try (rw [← ev12])); exact hl)
        rw [hr9]
        refine W.eq (g2 := F0 m 8 ls [xv vad9 o1.2.2.2.1, .int y2]) (by first | rfl | ((try (rw [ev12])); rfl)) ?_
        obtain ⟨hg13, hf⟩ := xifn hf
        refine xm_vget (v := .int ((xpi o1.2.2.2.2 3) (o1.2.2.2.1 - 1))) hx hb htx hown hK hP 3 (by decide) hg13 rfl ((hZ.1 (103, "count", "I") (List.mem_of_getElem? (i := 3) rfl)).use rfl) rfl dM_implode_8 ?_
        refine lv_icmp_ge (tgt := 39) hx hb dM_implode_11 (by decide) (fun hc => ?_) (fun hc => ?_)
        · rw [if_pos hc] at hf
          refine lv_iconst (v := 0) hx hb dM_implode_39 (by decide) ?_
          refine lv_istore_n (lv' := [(2, .int 0), (0, .ref aM), (1, xv vad9 y1)]) hx hb dM_implode_40 rfl hl (by decide) (by simp only [List.filter, xvcat, xrscat, xcI, xcL, xcR, xcN]; rfl) (fun ls hl => ?_)
          exact ih (2, (0 : Int32), y1, 0, o1.2.2.2.2, (wc + o1.2.1), (wn + o1.2.2.1)) _ _ ls (Or.inr (Or.inl ⟨ad7, gd8, vad9, rfl, hf, hP, hD, hS, lv_sub hl [0, 1, 2] rfl, hE, hN⟩))
        · rw [if_neg hc] at hf
          refine lv_aload_n hx hb dM_implode_14 rfl (lv_at hl 1 rfl) ?_
          refine xm_aload_n hx hb (xvor _ _) dM_implode_15 rfl (lv_at hl 2 rfl) ?_
          refine lv_iload_n hx hb dM_implode_16 rfl (lv_at hl 0 rfl) ?_
          obtain ⟨o14, hq15, hf⟩ := xbind hf
          have hFc := xm_free hD hS hA
          refine va_callq (va_runV (C := "ValueBenchModel") (As := [xv vad9 y1, .int y2]) (rest := []) ⟨hx, hb, hml, hown, htx⟩ (gM_kid l hl9 D cT aK aV H.size n aM ad7 rd gd8 vad9 o1.2.2.2.2 y1 y2 o14 hq15) ⟨callB_of 2 htx (xw_goodC kw_6_158) rfl rfl rfl (htx _ kw_1_5) (htx _ kw_6_155) ⟨by decide, by decide, by decide +kernel⟩ ⟨Nat.le_of_ble_eq_true rfl, Nat.le_of_ble_eq_true rfl⟩, (htx _ kw_6_157), (htx _ kp_M_kid)⟩ ⟨xPre_blind, va_recv hK hP (ci := 5) rfl (q0 := 0) rfl, (fun U hU hW => ⟨rfl, xPre_of hZ hS hFc hP hD hK U hU hW⟩)⟩ rfl rfl hl.1 rfl (xm_room (Nat.le_of_ble_eq_true rfl)) dM_implode_17 ⟨hm5.1, hm5.2⟩) hS (fun q _ h => hFc q h) hFc (fun r16 u9 t H1 locs ht hvm hr9 hB hz1 hk1 hS => ?_)
          obtain ⟨hP1, hK1, hD1⟩ := hB
          rw [ht] at hP1
          have hP : va_P D xcl (xMw cT aM ad7 rd gd8 vad9 o1.2.2.2.2 []) H1 := hP1
          have hD : va_D A (xMw cT aM ad7 rd gd8 vad9 o1.2.2.2.2 []) := hD1.weaken (fun k q _ h => hFc q.1 h)
          generalize H1 = H at hP hS ⊢
          rw [hr9]
          refine W.eq (g2 := F0 m 20 ls [xv vad9 o14]) (by first | rfl | (skip; rfl)) ?_
          obtain ⟨hg17, hf⟩ := xifn hf
          refine xm_vget (v := .int ((xpi o1.2.2.2.2 0) (o14 - 1))) hx hb htx hown hK hP 0 (by decide) hg17 rfl ((hZ.1 (93, "kind", "I") (List.mem_of_getElem? (i := 0) rfl)).use rfl) rfl dM_implode_20 ?_
          refine lv_iconst (v := 3) hx hb dM_implode_23 (by decide) ?_
          refine lv_icmp_eq (tgt := 33) hx hb dM_implode_24 (by decide) (fun hc => ?_) (fun hc => ?_)
          · rw [if_pos hc] at hf
            refine lv_iinc (v := (y2 + 1)) (lv' := [(2, .int (y2 + 1)), (0, .ref aM), (1, xv vad9 y1)]) hx hb dM_implode_33 hl (k := 0) rfl rfl (by decide) (by simp only [List.filter, xvcat, xrscat, xcI, xcL, xcR, xcN]; rfl) (fun ls hl => ?_)
            refine lv_goto (tgt := 2) hx hb dM_implode_36 (by decide) ?_
            exact ih (1, (y2 + 1), y1, 0, o1.2.2.2.2, (wc + o1.2.1), (wn + o1.2.2.1)) _ _ ls (Or.inl ⟨ad7, gd8, vad9, rfl, hf, hP, hD, hS, lv_sub hl [0, 1, 2] rfl, hE, hN⟩)
          · rw [if_neg hc] at hf
            refine lv_aload_n hx hb dM_implode_27 rfl (lv_at hl 1 rfl) ?_
            refine lv_iconst (v := 1) hx hb dM_implode_28 (by decide) ?_
            obtain ⟨o18, hq19, hf⟩ := xbind hf
            have hl := lv_sub (l' := [(2, .int y2), (0, .ref aM)]) hl [0, 1] rfl
            by_cases hk20 : o18.1 = 1
            · rw [if_pos hk20] at hf
              obtain ⟨hm21, hf⟩ := xmoE hf
              obtain rfl := Option.some.inj hf
              exact absurd (show (1 : Nat) = 0 from hkd) (by decide)
            rw [if_neg hk20] at hf
            exact nomatch hf
      rw [if_neg hk3] at hf
      by_cases hk14 : o1.1 = 1
      · rw [if_pos hk14] at hf
        obtain ⟨hg15, hf⟩ := xifn hf
        obtain ⟨hm16, hf⟩ := xmoE hf
        obtain rfl := Option.some.inj hf
        exact absurd (show (1 : Nat) = 0 from hkd) (by decide)
      rw [if_neg hk14] at hf
      exact nomatch hf
    · subst hj
      have hf : fM_implode_b (n + 1) 2 y2 y1 y3 ws9 wc wn = some out := hf
      rw [fM_implode_b, if_neg (by decide), if_pos rfl] at hf
      obtain ⟨hP, hD⟩ : xPD D xcl A (xMw cT aM adL rd gdL vadL ws9 []) H := ⟨hP, hD⟩
      have hl : lv_has ls 4 [(2, .int y2), (0, .ref aM), (1, xv vadL y1)] := hl
      refine W.eq (g2 := F0 m 41 ls []) rfl ?_
      show W p l e _ s m _ below meth c H locs wc wn _ _
      obtain ⟨hm0, hf⟩ := xmoE hf
      refine lv_iload_n hx hb dM_implode_41 rfl (lv_at hl 0 rfl) ?_
      refine xm_aload_n hx hb (xvor _ _) dM_implode_42 rfl (lv_at hl 2 rfl) ?_
      obtain ⟨hg1, hf⟩ := xifn hf
      refine xm_vget (v := .int ((xpi ws9 3) (y1 - 1))) hx hb htx hown hK hP 3 (by decide) hg1 rfl ((hZ.1 (103, "count", "I") (List.mem_of_getElem? (i := 3) rfl)).use rfl) rfl dM_implode_43 ?_
      refine lv_icmp_ge (tgt := 91) hx hb dM_implode_46 (by decide) (fun hc => ?_) (fun hc => ?_)
      · rw [if_pos hc] at hf
        refine lv_aload_n hx hb dM_implode_91 rfl (lv_at hl 1 rfl) ?_
        refine xm_get (v := .int (xsi ws9 4)) hx hb htx hown hK hP 4 (by decide) rfl (htx _ kw_5_91) rfl dM_implode_92 ?_
        refine lv_istore_n (lv' := [(2, .int (xsi ws9 4)), (0, .ref aM), (1, xv vadL y1)]) hx hb dM_implode_95 rfl hl (by decide) (by simp only [List.filter, xvcat, xrscat, xcI, xcL, xcR, xcN]; rfl) (fun ls hl => ?_)
        refine lv_iconst (v := 0) hx hb dM_implode_96 (by decide) ?_
        refine lv_istore_n (lv' := [(3, .int 0), (2, .int (xsi ws9 4)), (0, .ref aM), (1, xv vadL y1)]) hx hb dM_implode_97 rfl hl (by decide) rfl (fun ls hl => ?_)
        exact ih (3, (xsi ws9 4), y1, (0 : Int32), ws9, wc, wn) _ _ ls (Or.inr (Or.inr (⟨adL, gdL, vadL, rfl, hf, hP, hD, hS, lv_sub hl [0, 1, 2, 3] rfl, hE, hN⟩)))
      · rw [if_neg hc] at hf
        refine lv_aload_n hx hb dM_implode_49 rfl (lv_at hl 1 rfl) ?_
        refine xm_aload_n hx hb (xvor _ _) dM_implode_50 rfl (lv_at hl 2 rfl) ?_
        refine lv_iload_n hx hb dM_implode_51 rfl (lv_at hl 0 rfl) ?_
        obtain ⟨o2, hq3, hf⟩ := xbind hf
        have hFc := xm_free hD hS hA
        refine va_callq (va_runV (C := "ValueBenchModel") (As := [xv vadL y1, .int y2]) (rest := []) ⟨hx, hb, hml, hown, htx⟩ (gM_kid l hl9 D cT aK aV H.size n aM adL rd gdL vadL ws9 y1 y2 o2 hq3) ⟨callB_of 2 htx (xw_goodC kw_6_158) rfl rfl rfl (htx _ kw_1_5) (htx _ kw_6_155) ⟨by decide, by decide, by decide +kernel⟩ ⟨Nat.le_of_ble_eq_true rfl, Nat.le_of_ble_eq_true rfl⟩, (htx _ kw_6_157), (htx _ kp_M_kid)⟩ ⟨xPre_blind, va_recv hK hP (ci := 5) rfl (q0 := 0) rfl, (fun U hU hW => ⟨rfl, xPre_of hZ hS hFc hP hD hK U hU hW⟩)⟩ rfl rfl hl.1 rfl (xm_room (Nat.le_of_ble_eq_true rfl)) dM_implode_52 ⟨hm0.1, hm0.2⟩) hS (fun q _ h => hFc q h) hFc (fun r4 u9 t H1 locs ht hvm hr9 hB hz1 hk1 hS => ?_)
        obtain ⟨hP1, hK1, hD1⟩ := hB
        rw [ht] at hP1
        have hP : va_P D xcl (xMw cT aM adL rd gdL vadL ws9 []) H1 := hP1
        have hD : va_D A (xMw cT aM adL rd gdL vadL ws9 []) := hD1.weaken (fun k q _ h => hFc q.1 h)
        generalize H1 = H at hP hS ⊢
        rw [hr9]
        refine W.eq (g2 := F0 m 55 ls [xv vadL o2]) (by first | rfl | (skip; rfl)) ?_
        obtain ⟨hg5, hf⟩ := xifn hf
        refine xm_vget (v := .long ((xpl ws9) (o2 - 1))) hx hb htx hown hK hP 1 (by decide) hg5 rfl ((hZ.1 (96, "n", "J") (List.mem_of_getElem? (i := 1) rfl)).use rfl) rfl dM_implode_55 ?_
        refine lv_lconst (v := 0) hx hb dM_implode_58 (by decide) ?_
        refine W.lcmp hx hb dM_implode_59 ?_
        refine lv_if_lt (tgt := 79) hx hb dM_implode_60 (by decide) (fun hc => ?_) (fun hc => ?_)
        · rw [if_pos hc] at hf
          refine lv_aload_n hx hb dM_implode_79 rfl (lv_at hl 1 rfl) ?_
          refine lv_iconst (v := 2) hx hb dM_implode_80 (by decide) ?_
          obtain ⟨o6, hq7, hf⟩ := xbind hf
          have hl := lv_sub (l' := [(2, .int y2), (0, .ref aM)]) hl [0, 1] rfl
          by_cases hk8 : o6.1 = 1
          · rw [if_pos hk8] at hf
            obtain ⟨hm9, hf⟩ := xmoE hf
            obtain rfl := Option.some.inj hf
            exact absurd (show (1 : Nat) = 0 from hkd) (by decide)
          rw [if_neg hk8] at hf
          exact nomatch hf
        · rw [if_neg hc] at hf
          refine lv_aload_n hx hb dM_implode_63 rfl (lv_at hl 1 rfl) ?_
          refine xm_aload_n hx hb (xvor _ _) dM_implode_64 rfl (lv_at hl 2 rfl) ?_
          refine lv_iload_n hx hb dM_implode_65 rfl (lv_at hl 0 rfl) ?_
          obtain ⟨o6, hq7, hf⟩ := xbind hf
          have hFc := xm_free hD hS hA
          refine va_callq (va_runV (C := "ValueBenchModel") (As := [xv vadL y1, .int y2]) (rest := []) ⟨hx, hb, hml, hown, htx⟩ (gM_kid l hl9 D cT aK aV H.size n aM adL rd gdL vadL ws9 y1 y2 o6 hq7) ⟨callB_of 2 htx (xw_goodC kw_6_158) rfl rfl rfl (htx _ kw_1_5) (htx _ kw_6_155) ⟨by decide, by decide, by decide +kernel⟩ ⟨Nat.le_of_ble_eq_true rfl, Nat.le_of_ble_eq_true rfl⟩, (htx _ kw_6_157), (htx _ kp_M_kid)⟩ ⟨xPre_blind, va_recv hK hP (ci := 5) rfl (q0 := 0) rfl, (fun U hU hW => ⟨rfl, xPre_of hZ hS hFc hP hD hK U hU hW⟩)⟩ rfl rfl hl.1 rfl (xm_room (Nat.le_of_ble_eq_true rfl)) dM_implode_66 ⟨hm0.1, hm0.2⟩) hS (fun q _ h => hFc q h) hFc (fun r8 u9 t H1 locs ht hvm hr9 hB hz1 hk1 hS => ?_)
          obtain ⟨hP1, hK1, hD1⟩ := hB
          rw [ht] at hP1
          have hP : va_P D xcl (xMw cT aM adL rd gdL vadL ws9 []) H1 := hP1
          have hD : va_D A (xMw cT aM adL rd gdL vadL ws9 []) := hD1.weaken (fun k q _ h => hFc q.1 h)
          generalize H1 = H at hP hS ⊢
          rw [hr9]
          refine W.eq (g2 := F0 m 69 ls [xv vadL o6]) (by first | rfl | (skip; rfl)) ?_
          obtain ⟨hg9, hf⟩ := xifn hf
          refine xm_vget (v := .long ((xpl ws9) (o6 - 1))) hx hb htx hown hK hP 1 (by decide) hg9 rfl ((hZ.1 (96, "n", "J") (List.mem_of_getElem? (i := 1) rfl)).use rfl) rfl dM_implode_69 ?_
          refine lv_ldc2 hx hb hown (htx _ kw_7_71) dM_implode_72 ?_
          refine W.lcmp hx hb dM_implode_75 ?_
          refine lv_if_le (tgt := 85) hx hb dM_implode_76 (by decide) (fun hc => ?_) (fun hc => ?_)
          · rw [if_pos hc] at hf
            refine lv_iinc (v := (y2 + 1)) (lv' := [(2, .int (y2 + 1)), (0, .ref aM), (1, xv vadL y1)]) hx hb dM_implode_85 hl (k := 0) rfl rfl (by decide) (by simp only [List.filter, xvcat, xrscat, xcI, xcL, xcR, xcN]; rfl) (fun ls hl => ?_)
            refine lv_goto (tgt := 41) hx hb dM_implode_88 (by decide) ?_
            exact ih (2, (y2 + 1), y1, 0, ws9, wc, wn) _ _ ls (Or.inr (Or.inl ⟨adL, gdL, vadL, rfl, hf, hP, hD, hS, lv_sub hl [0, 1, 2] rfl, hE, hN⟩))
          · rw [if_neg hc] at hf
            refine lv_aload_n hx hb dM_implode_79 rfl (lv_at hl 1 rfl) ?_
            refine lv_iconst (v := 2) hx hb dM_implode_80 (by decide) ?_
            obtain ⟨o10, hq11, hf⟩ := xbind hf
            have hl := lv_sub (l' := [(2, .int y2), (0, .ref aM)]) hl [0, 1] rfl
            by_cases hk12 : o10.1 = 1
            · rw [if_pos hk12] at hf
              obtain ⟨hm13, hf⟩ := xmoE hf
              obtain rfl := Option.some.inj hf
              exact absurd (show (1 : Nat) = 0 from hkd) (by decide)
            rw [if_neg hk12] at hf
            exact nomatch hf
    · subst hj
      have hf : fM_implode_b (n + 1) 3 y2 y1 y3 ws9 wc wn = some out := hf
      rw [fM_implode_b, if_neg (by decide), if_neg (by decide)] at hf
      obtain ⟨hP, hD⟩ : xPD D xcl A (xMw cT aM adL rd gdL vadL ws9 []) H := ⟨hP, hD⟩
      have hl : lv_has ls 4 [(3, .int y3), (2, .int y2), (0, .ref aM), (1, xv vadL y1)] := hl
      refine W.eq (g2 := F0 m 98 ls []) rfl ?_
      show W p l e _ s m _ below meth c H locs wc wn _ _
      obtain ⟨hm0, hf⟩ := xmoE hf
      refine lv_iload_n hx hb dM_implode_98 rfl (lv_at hl 0 rfl) ?_
      refine xm_aload_n hx hb (xvor _ _) dM_implode_99 rfl (lv_at hl 3 rfl) ?_
      obtain ⟨hg1, hf⟩ := xifn hf
      refine xm_vget (v := .int ((xpi ws9 3) (y1 - 1))) hx hb htx hown hK hP 3 (by decide) hg1 rfl ((hZ.1 (103, "count", "I") (List.mem_of_getElem? (i := 3) rfl)).use rfl) rfl dM_implode_100 ?_
      refine lv_icmp_ge (tgt := 126) hx hb dM_implode_103 (by decide) (fun hc => ?_) (fun hc => ?_)
      · rw [if_pos hc] at hf
        refine lv_aload_n hx hb dM_implode_126 rfl (lv_at hl 2 rfl) ?_
        refine lv_iload_n hx hb dM_implode_127 rfl (lv_at hl 1 rfl) ?_
        obtain ⟨o2, hq3, hf⟩ := xbind hf
        have hl := lv_sub (l' := [(3, .int y3), (2, .int y2), (0, .ref aM)]) hl [0, 1, 2] rfl
        by_cases hk4 : o2.1 = 0
        · rw [if_pos hk4] at hf
          obtain ⟨hm5, hf⟩ := xmoE hf
          have hFc := xm_free hD hS hA
          refine va_callq (va_runV (C := "ValueBenchModel") (As := [.int y2]) (rest := []) ⟨hx, hb, hml, hown, htx⟩ (gM_string l hl9 D cT aK aV H.size n aM adL rd gdL vadL ws9 y2 o2 hq3 hk4) ⟨callB_of 1 htx (xw_goodC kw_6_61) rfl rfl rfl (htx _ kw_1_5) (htx _ kw_6_58) ⟨by decide, by decide, by decide +kernel⟩ ⟨Nat.le_of_ble_eq_true rfl, Nat.le_of_ble_eq_true rfl⟩, (htx _ kw_6_60), (htx _ kp_M_string)⟩ ⟨xPre_blind, va_recv hK hP (ci := 5) rfl (q0 := 0) rfl, (fun U hU hW => ⟨rfl, xPre_of hZ hS hFc hP hD hK U hU hW⟩)⟩ rfl rfl hl.1 rfl (xm_room (Nat.le_of_ble_eq_true rfl)) dM_implode_128 ⟨hm5.1, hm5.2⟩) hS (fun q _ h => hFc q h) hFc (fun r6 u9 t H1 locs ht hvm hr9 hB hz1 hk1 hS => ?_)
          obtain ⟨hP1, hK1, hD1⟩ := hB
          rw [ht] at hP1
          obtain ⟨ad7, gd8, vad9⟩ := u9
          obtain ⟨hr9, hv10, hn11⟩ := hr9
          have hP : va_P D xcl (xMw cT aM ad7 rd gd8 vad9 o2.2.2.2.2 []) H1 := hP1
          have hD : va_D A (xMw cT aM ad7 rd gd8 vad9 o2.2.2.2.2 []) := hD1.weaken (fun k q _ h => hFc q.1 h)
          generalize H1 = H at hP hS ⊢
          have hE9 : ∀ p, p < xct st → vad9 p = vad p := fun p h => (hv10 p (Nat.lt_of_lt_of_le h hN)).trans (hE p h)
          have hE := hE9
          have hN : xct st ≤ xct o2.2.2.2.2 := Nat.le_trans hN hn11
          rw [hr9]
          refine W.eq (g2 := F0 m 131 ls [xv vad9 o2.2.2.2.1]) (by first | rfl | (skip; rfl)) ?_
          obtain rfl := Option.some.inj hf
          exact W.aret (v := xv vad9 o2.2.2.2.1) hx hb hr (Or.inl ⟨_, rfl⟩) (xvor _ _) (fun t ht hW => ⟨⟨xca vad9 o2.2.2.2.1, (ad7, gd8, vad9), rfl, ⟨rfl, hE, hN⟩, by rw [ht]; exact hP, va_K.moved hW.alike hK, hD⟩, hS.F ht⟩) hS.2.2 dM_implode_131
        rw [if_neg hk4] at hf
        by_cases hk12 : o2.1 = 1
        · rw [if_pos hk12] at hf
          obtain ⟨hm13, hf⟩ := xmoE hf
          obtain rfl := Option.some.inj hf
          exact absurd (show (2 : Nat) = 0 from hkd) (by decide)
        rw [if_neg hk12] at hf
        exact nomatch hf
      · rw [if_neg hc] at hf
        refine lv_aload_n hx hb dM_implode_106 rfl (lv_at hl 2 rfl) ?_
        refine lv_aload_n hx hb dM_implode_107 rfl (lv_at hl 2 rfl) ?_
        refine xm_aload_n hx hb (xvor _ _) dM_implode_108 rfl (lv_at hl 3 rfl) ?_
        refine lv_iload_n hx hb dM_implode_109 rfl (lv_at hl 0 rfl) ?_
        obtain ⟨o2, hq3, hf⟩ := xbind hf
        have hFc := xm_free hD hS hA
        refine va_callq (va_runV (C := "ValueBenchModel") (As := [xv vadL y1, .int y3]) (rest := [.ref aM]) ⟨hx, hb, hml, hown, htx⟩ (gM_kid l hl9 D cT aK aV H.size n aM adL rd gdL vadL ws9 y1 y3 o2 hq3) ⟨callB_of 2 htx (xw_goodC kw_6_158) rfl rfl rfl (htx _ kw_1_5) (htx _ kw_6_155) ⟨by decide, by decide, by decide +kernel⟩ ⟨Nat.le_of_ble_eq_true rfl, Nat.le_of_ble_eq_true rfl⟩, (htx _ kw_6_157), (htx _ kp_M_kid)⟩ ⟨xPre_blind, va_recv hK hP (ci := 5) rfl (q0 := 0) rfl, (fun U hU hW => ⟨rfl, xPre_of hZ hS hFc hP hD hK U hU hW⟩)⟩ rfl rfl hl.1 rfl (xm_room (Nat.le_of_ble_eq_true rfl)) dM_implode_110 ⟨hm0.1, hm0.2⟩) hS (fun q _ h => hFc q h) hFc (fun r4 u9 t H1 locs ht hvm hr9 hB hz1 hk1 hS => ?_)
        obtain ⟨hP1, hK1, hD1⟩ := hB
        rw [ht] at hP1
        have hP : va_P D xcl (xMw cT aM adL rd gdL vadL ws9 []) H1 := hP1
        have hD : va_D A (xMw cT aM adL rd gdL vadL ws9 []) := hD1.weaken (fun k q _ h => hFc q.1 h)
        generalize H1 = H at hP hS ⊢
        rw [hr9]
        refine W.eq (g2 := F0 m 113 ls [xv vadL o2, .ref aM]) (by first | rfl | (skip; rfl)) ?_
        obtain ⟨hg5, hf⟩ := xifn hf
        refine xm_vget (v := .long ((xpl ws9) (o2 - 1))) hx hb htx hown hK hP 1 (by decide) hg5 rfl ((hZ.1 (96, "n", "J") (List.mem_of_getElem? (i := 1) rfl)).use rfl) rfl dM_implode_113 ?_
        refine lv_l2i hx hb dM_implode_116 rfl ?_
        obtain ⟨o6, hq7, hf⟩ := xbind hf
        obtain ⟨hm8, hf⟩ := xmoE hf
        have hFc := xm_free hD hS hA
        refine va_callv (va_runV (C := "ValueBenchModel") (As := [.int ((xpl ws9) (o2 - 1)).toInt32]) (rest := []) ⟨hx, hb, hml, hown, htx⟩ (gM_letter l hl9 D cT aK aV H.size n aM adL rd gdL vadL ws9 (((xpl ws9) (o2 - 1)).toInt32) o6 hq7) ⟨callB_of 1 htx (xw_goodC kw_6_54) rfl rfl rfl (htx _ kw_1_5) (htx _ kw_6_51) ⟨by decide, by decide, by decide +kernel⟩ ⟨Nat.le_of_ble_eq_true rfl, Nat.le_of_ble_eq_true rfl⟩, (htx _ kw_6_53), (htx _ kp_M_letter)⟩ ⟨xPre_blind, va_recv hK hP (ci := 5) rfl (q0 := 0) rfl, (fun U hU hW => ⟨rfl, xPre_of hZ hS hFc hP hD hK U hU hW⟩)⟩ rfl rfl hl.1 rfl (xm_room (Nat.le_of_ble_eq_true rfl)) dM_implode_117 ⟨hm8.1, hm8.2⟩) hS (fun q _ h => hFc q h) hFc (fun u9 t H1 locs ht hvm hr9 hB hz1 hk1 hS => ?_)
        obtain ⟨hP1, hK1, hD1⟩ := hB
        rw [ht] at hP1
        obtain ⟨ad10, gd11, vad12⟩ := u9
        obtain ⟨hv13, hn14⟩ := hr9
        have hP : va_P D xcl (xMw cT aM ad10 rd gd11 vad12 o6.2.2 []) H1 := hP1
        have hD : va_D A (xMw cT aM ad10 rd gd11 vad12 o6.2.2 []) := hD1.weaken (fun k q _ h => hFc q.1 h)
        generalize H1 = H at hP hS ⊢
        have hE9 : ∀ p, p < xct st → vad12 p = vad p := fun p h => (hv13 p (Nat.lt_of_lt_of_le h hN)).trans (hE p h)
        have hE := hE9
        have hN : xct st ≤ xct o6.2.2 := Nat.le_trans hN hn14
        have ev15 : xv vadL y1 = xv vad12 y1 := xvE hv13 (fun h => hg1 (Or.inr h))
        have hl : lv_has ls 4 [(3, .int y3), (2, .int y2), (0, .ref aM), (1, xv vad12 y1)] := by first | exact hl | ((try (rw [← ev15])); exact hl)
        refine W.eq (g2 := F0 m 120 ls []) (by first | rfl | ((try (rw [ev15])); rfl)) ?_
        refine lv_iinc (v := (y3 + 1)) (lv' := [(3, .int (y3 + 1)), (2, .int y2), (0, .ref aM), (1, xv vad12 y1)]) hx hb dM_implode_120 hl (k := 0) rfl rfl (by decide) rfl (fun ls hl => ?_)
        refine lv_goto (tgt := 98) hx hb dM_implode_123 (by decide) ?_
        exact ih (3, y2, y1, (y3 + 1), o6.2.2, (wc + o6.1), (wn + o6.2.1)) _ _ ls (Or.inr (Or.inr (⟨ad10, gd11, vad12, rfl, hf, hP, hD, hS, lv_sub hl [0, 1, 2, 3] rfl, hE, hN⟩)))
  refine lv_iconst (v := 0) hx hb dM_implode_0 (by decide) ?_
  refine lv_istore_n (lv' := [(2, .int 0), (0, .ref aM), (1, xv vad c0)]) hx hb dM_implode_1 rfl hl (by decide) (by simp only [List.filter, xvcat, xrscat, xcI, xcL, xcR, xcN]; rfl) (fun ls hl => ?_)
  exact key n (1, (0 : Int32), c0, 0, st, 0, 0) _ _ ls (Or.inl ⟨ad, gd, vad, rfl, hf, hP, hD, hS, lv_sub hl [0, 1, 2] rfl, hE, hN⟩)
set_option maxHeartbeats 400000000 in
set_option maxRecDepth 100000 in
theorem gM_implode_1 (l : Launch) (hl9 : l.stackTraces = false) (D : va_G) (cT : Nat → ClassId) (aK aV : Nat → Nat) (sz n : Nat) (aM : Nat) (ad rd gd vad : Nat → Nat) (st : xS) (c0 : Nat) (out : Nat × Nat × Nat × Nat × xS) (hf : fM_implode n st c0 = some out) (hkd : out.1 = 1) : xMetY l yM_implode wyM_implode 8 out.2.1 out.2.2.1 142 D cT aK aV sz [.ref aM, xv vad c0] (xMw cT aM ad rd gd vad st []) "java/lang/ArithmeticException" (fun u => xE vad st out.2.2.2.2 u) (fun A u t => xB D xcl cT A (xMw cT aM u.1 rd u.2.1 u.2.2 out.2.2.2.2 []) t) := by
  refine vx_ofW (cc := prog_13_method_63_code) (maxL := 4) (ret := (some (.object "ValueBenchModel$V"))) (by decide) rfl ?_
  intro p e s m args below meth c s₁ B hml hne hv
  obtain ⟨rfl, hsz, hZ, hP, hK, hD0⟩ := hv
  have hx := B.exec
  have hb := B.bytes
  have hr := B.returns
  have hts := atoms_spec (ws := wyM_implode) B.pre
  have htx := fun w h => hts w (List.mem_cons_of_mem _ h)
  have hown : s.vm.findClass "ValueBenchModel" = some m.cls := findClass_of_methodNamed B.named
  have hlocks := B.notSynchronized
  subst hsz
  have hD := hD0.self (sz := s.heap.size)
  generalize hAe : va_A (xMw cT aM ad rd gd vad st []) s.heap.size = A at hD hZ ⊢
  have hA : ∀ q : Nat, s.heap.size ≤ q → A q := fun q h => by rw [← hAe]; exact Or.inr h
  have hS : va_S A s.heap s.heap [] := va_S.rf
  have hl := lv_entry ([.ref aM, xv vad c0]) (n := 4) (by simp [lg_sl, xvcat, xrscat, xcI, xcL, xcR, xcN])
  rw [show lv_args 0 [.ref aM, xv vad c0] = [(0, .ref aM), (1, xv vad c0)] from by simp [lv_args, xvcat, xrscat, xcI, xcL, xcR, xcN]] at hl
  rw [lg_entry_eq]
  generalize (lg_sl ([.ref aM, xv vad c0]) ++ List.replicate (4 - (lg_sl ([.ref aM, xv vad c0])).length) Slot.unset).toArray = ls at hl ⊢
  have hl : lv_has ls 4 [(0, .ref aM), (1, xv vad c0)] := hl
  have hE : ∀ p, p < xct st → vad p = vad p := fun _ _ => rfl
  have hN : xct st ≤ xct st := Nat.le_refl _
  unfold fM_implode at hf
  refine xloopM (σ := Nat × Int32 × Nat × Int32 × xS × Nat × Nat) (fun n x H locs ls => (∃ (adL gdL vadL : Nat → Nat), x.1 = 1 ∧ fM_implode_b n x.1 x.2.1 x.2.2.1 x.2.2.2.1 x.2.2.2.2.1 x.2.2.2.2.2.1 x.2.2.2.2.2.2 = some out ∧ va_P D xcl (xMw cT aM adL rd gdL vadL x.2.2.2.2.1 []) H ∧ va_D A (xMw cT aM adL rd gdL vadL x.2.2.2.2.1 []) ∧ va_S A s.heap H locs ∧ lv_has ls 4 [(2, .int x.2.1), (0, .ref aM), (1, xv vadL x.2.2.1)] ∧ (∀ p, p < xct st → vadL p = vad p) ∧ xct st ≤ xct x.2.2.2.2.1) ∨ (∃ (adL gdL vadL : Nat → Nat), x.1 = 2 ∧ fM_implode_b n x.1 x.2.1 x.2.2.1 x.2.2.2.1 x.2.2.2.2.1 x.2.2.2.2.2.1 x.2.2.2.2.2.2 = some out ∧ va_P D xcl (xMw cT aM adL rd gdL vadL x.2.2.2.2.1 []) H ∧ va_D A (xMw cT aM adL rd gdL vadL x.2.2.2.2.1 []) ∧ va_S A s.heap H locs ∧ lv_has ls 4 [(2, .int x.2.1), (0, .ref aM), (1, xv vadL x.2.2.1)] ∧ (∀ p, p < xct st → vadL p = vad p) ∧ xct st ≤ xct x.2.2.2.2.1) ∨ (∃ (adL gdL vadL : Nat → Nat), x.1 = 3 ∧ fM_implode_b n x.1 x.2.1 x.2.2.1 x.2.2.2.1 x.2.2.2.2.1 x.2.2.2.2.2.1 x.2.2.2.2.2.2 = some out ∧ va_P D xcl (xMw cT aM adL rd gdL vadL x.2.2.2.2.1 []) H ∧ va_D A (xMw cT aM adL rd gdL vadL x.2.2.2.2.1 []) ∧ va_S A s.heap H locs ∧ lv_has ls 4 [(3, .int x.2.2.2.1), (2, .int x.2.1), (0, .ref aM), (1, xv vadL x.2.2.1)] ∧ (∀ p, p < xct st → vadL p = vad p) ∧ xct st ≤ xct x.2.2.2.2.1)) (fun x => if x.1 = 1 then 2 else if x.1 = 2 then 41 else 98) (fun x => x.2.2.2.2.2.1) (fun x => x.2.2.2.2.2.2) (fun x H locs ls h => by rcases h with h | h | h; (obtain ⟨_, _, _, h⟩ := h; exact absurd h.2.1 (by rw [fM_implode_b]; exact fun h => nomatch h)); (obtain ⟨_, _, _, h⟩ := h; exact absurd h.2.1 (by rw [fM_implode_b]; exact fun h => nomatch h)); (obtain ⟨_, _, _, h⟩ := h; exact absurd h.2.1 (by rw [fM_implode_b]; exact fun h => nomatch h))) (fun n ih x H locs ls hv => ?_) (fun key => ?_)
  · obtain ⟨lb, y2, y1, y3, ws9, wc, wn⟩ := x
    rcases hv with ⟨adL, gdL, vadL, hj, hf, hP, hD, hS, hl, hE, hN⟩ | ⟨adL, gdL, vadL, hj, hf, hP, hD, hS, hl, hE, hN⟩ | ⟨adL, gdL, vadL, hj, hf, hP, hD, hS, hl, hE, hN⟩
    · subst hj
      have hf : fM_implode_b (n + 1) 1 y2 y1 y3 ws9 wc wn = some out := hf
      rw [fM_implode_b, if_pos rfl] at hf
      obtain ⟨hP, hD⟩ : xPD D xcl A (xMw cT aM adL rd gdL vadL ws9 []) H := ⟨hP, hD⟩
      have hl : lv_has ls 4 [(2, .int y2), (0, .ref aM), (1, xv vadL y1)] := hl
      refine W.eq (g2 := F0 m 2 ls []) rfl ?_
      show W p l e _ s m _ below meth c H locs wc wn _ _
      obtain ⟨hm0, hf⟩ := xmoE hf
      refine lv_iload_n hx hb dM_implode_2 rfl (lv_at hl 0 rfl) ?_
      refine lv_aload_n hx hb dM_implode_3 rfl (lv_at hl 1 rfl) ?_
      refine xm_aload_n hx hb (xvor _ _) dM_implode_4 rfl (lv_at hl 2 rfl) ?_
      obtain ⟨o1, hq2, hf⟩ := xbind hf
      by_cases hk3 : o1.1 = 0
      · rw [if_pos hk3] at hf
        obtain ⟨hg4, hf⟩ := xifn hf
        obtain ⟨hm5, hf⟩ := xmoE hf
        have hFc := xm_free hD hS hA
        refine va_callq (va_runV (C := "ValueBenchModel") (As := [xv vadL y1]) (rest := [.int y2]) ⟨hx, hb, hml, hown, htx⟩ (gM_array l hl9 D cT aK aV H.size n aM adL rd gdL vadL ws9 y1 o1 hq2 hk3) ⟨callB_of 1 htx (xw_goodC kw_7_42) rfl rfl rfl (htx _ kw_1_5) (htx _ kw_7_39) ⟨by decide, by decide, by decide +kernel⟩ ⟨Nat.le_of_ble_eq_true rfl, Nat.le_of_ble_eq_true rfl⟩, (htx _ kw_7_41), (htx _ kp_M_array)⟩ ⟨xPre_blind, va_recv hK hP (ci := 5) rfl (q0 := 0) rfl, (fun U hU hW => ⟨rfl, xPre_of hZ hS hFc hP hD hK U hU hW⟩)⟩ rfl rfl hl.1 rfl (xm_room (Nat.le_of_ble_eq_true rfl)) dM_implode_5 ⟨hm5.1, hm5.2⟩) hS (fun q _ h => hFc q h) hFc (fun r6 u9 t H1 locs ht hvm hr9 hB hz1 hk1 hS => ?_)
        obtain ⟨hP1, hK1, hD1⟩ := hB
        rw [ht] at hP1
        obtain ⟨ad7, gd8, vad9⟩ := u9
        obtain ⟨hr9, hv10, hn11⟩ := hr9
        have hP : va_P D xcl (xMw cT aM ad7 rd gd8 vad9 o1.2.2.2.2 []) H1 := hP1
        have hD : va_D A (xMw cT aM ad7 rd gd8 vad9 o1.2.2.2.2 []) := hD1.weaken (fun k q _ h => hFc q.1 h)
        generalize H1 = H at hP hS ⊢
        have hE9 : ∀ p, p < xct st → vad9 p = vad p := fun p h => (hv10 p (Nat.lt_of_lt_of_le h hN)).trans (hE p h)
        have hE := hE9
        have hN : xct st ≤ xct o1.2.2.2.2 := Nat.le_trans hN hn11
        have ev12 : xv vadL y1 = xv vad9 y1 := xvE hv10 hg4
        have hl : lv_has ls 4 [(2, .int y2), (0, .ref aM), (1, xv vad9 y1)] := by first | exact hl | ((try (rw [← ev12])); exact hl)
        rw [hr9]
        refine W.eq (g2 := F0 m 8 ls [xv vad9 o1.2.2.2.1, .int y2]) (by first | rfl | ((try (rw [ev12])); rfl)) ?_
        obtain ⟨hg13, hf⟩ := xifn hf
        refine xm_vget (v := .int ((xpi o1.2.2.2.2 3) (o1.2.2.2.1 - 1))) hx hb htx hown hK hP 3 (by decide) hg13 rfl ((hZ.1 (103, "count", "I") (List.mem_of_getElem? (i := 3) rfl)).use rfl) rfl dM_implode_8 ?_
        refine lv_icmp_ge (tgt := 39) hx hb dM_implode_11 (by decide) (fun hc => ?_) (fun hc => ?_)
        · rw [if_pos hc] at hf
          refine lv_iconst (v := 0) hx hb dM_implode_39 (by decide) ?_
          refine lv_istore_n (lv' := [(2, .int 0), (0, .ref aM), (1, xv vad9 y1)]) hx hb dM_implode_40 rfl hl (by decide) (by simp only [List.filter, xvcat, xrscat, xcI, xcL, xcR, xcN]; rfl) (fun ls hl => ?_)
          exact ih (2, (0 : Int32), y1, 0, o1.2.2.2.2, (wc + o1.2.1), (wn + o1.2.2.1)) _ _ ls (Or.inr (Or.inl ⟨ad7, gd8, vad9, rfl, hf, hP, hD, hS, lv_sub hl [0, 1, 2] rfl, hE, hN⟩))
        · rw [if_neg hc] at hf
          refine lv_aload_n hx hb dM_implode_14 rfl (lv_at hl 1 rfl) ?_
          refine xm_aload_n hx hb (xvor _ _) dM_implode_15 rfl (lv_at hl 2 rfl) ?_
          refine lv_iload_n hx hb dM_implode_16 rfl (lv_at hl 0 rfl) ?_
          obtain ⟨o14, hq15, hf⟩ := xbind hf
          have hFc := xm_free hD hS hA
          refine va_callq (va_runV (C := "ValueBenchModel") (As := [xv vad9 y1, .int y2]) (rest := []) ⟨hx, hb, hml, hown, htx⟩ (gM_kid l hl9 D cT aK aV H.size n aM ad7 rd gd8 vad9 o1.2.2.2.2 y1 y2 o14 hq15) ⟨callB_of 2 htx (xw_goodC kw_6_158) rfl rfl rfl (htx _ kw_1_5) (htx _ kw_6_155) ⟨by decide, by decide, by decide +kernel⟩ ⟨Nat.le_of_ble_eq_true rfl, Nat.le_of_ble_eq_true rfl⟩, (htx _ kw_6_157), (htx _ kp_M_kid)⟩ ⟨xPre_blind, va_recv hK hP (ci := 5) rfl (q0 := 0) rfl, (fun U hU hW => ⟨rfl, xPre_of hZ hS hFc hP hD hK U hU hW⟩)⟩ rfl rfl hl.1 rfl (xm_room (Nat.le_of_ble_eq_true rfl)) dM_implode_17 ⟨hm5.1, hm5.2⟩) hS (fun q _ h => hFc q h) hFc (fun r16 u9 t H1 locs ht hvm hr9 hB hz1 hk1 hS => ?_)
          obtain ⟨hP1, hK1, hD1⟩ := hB
          rw [ht] at hP1
          have hP : va_P D xcl (xMw cT aM ad7 rd gd8 vad9 o1.2.2.2.2 []) H1 := hP1
          have hD : va_D A (xMw cT aM ad7 rd gd8 vad9 o1.2.2.2.2 []) := hD1.weaken (fun k q _ h => hFc q.1 h)
          generalize H1 = H at hP hS ⊢
          rw [hr9]
          refine W.eq (g2 := F0 m 20 ls [xv vad9 o14]) (by first | rfl | (skip; rfl)) ?_
          obtain ⟨hg17, hf⟩ := xifn hf
          refine xm_vget (v := .int ((xpi o1.2.2.2.2 0) (o14 - 1))) hx hb htx hown hK hP 0 (by decide) hg17 rfl ((hZ.1 (93, "kind", "I") (List.mem_of_getElem? (i := 0) rfl)).use rfl) rfl dM_implode_20 ?_
          refine lv_iconst (v := 3) hx hb dM_implode_23 (by decide) ?_
          refine lv_icmp_eq (tgt := 33) hx hb dM_implode_24 (by decide) (fun hc => ?_) (fun hc => ?_)
          · rw [if_pos hc] at hf
            refine lv_iinc (v := (y2 + 1)) (lv' := [(2, .int (y2 + 1)), (0, .ref aM), (1, xv vad9 y1)]) hx hb dM_implode_33 hl (k := 0) rfl rfl (by decide) (by simp only [List.filter, xvcat, xrscat, xcI, xcL, xcR, xcN]; rfl) (fun ls hl => ?_)
            refine lv_goto (tgt := 2) hx hb dM_implode_36 (by decide) ?_
            exact ih (1, (y2 + 1), y1, 0, o1.2.2.2.2, (wc + o1.2.1), (wn + o1.2.2.1)) _ _ ls (Or.inl ⟨ad7, gd8, vad9, rfl, hf, hP, hD, hS, lv_sub hl [0, 1, 2] rfl, hE, hN⟩)
          · rw [if_neg hc] at hf
            refine lv_aload_n hx hb dM_implode_27 rfl (lv_at hl 1 rfl) ?_
            refine lv_iconst (v := 1) hx hb dM_implode_28 (by decide) ?_
            obtain ⟨o18, hq19, hf⟩ := xbind hf
            have hl := lv_sub (l' := [(2, .int y2), (0, .ref aM)]) hl [0, 1] rfl
            by_cases hk20 : o18.1 = 1
            · rw [if_pos hk20] at hf
              obtain ⟨hm21, hf⟩ := xmoE hf
              have hFc := xm_free hD hS hA
              refine xx_thr (vx_runV (C := "ValueBenchModel") (As := [.int 1]) (rest := []) ⟨hx, hb, hml, hown, htx⟩ (gM_refuse_1 l hl9 D cT aK aV H.size n aM ad7 rd gd8 vad9 o1.2.2.2.2 (1 : Int32) o18 hq19 hk20) ⟨callB_of 1 htx (xw_goodC kw_6_93) rfl rfl rfl (htx _ kw_1_5) (htx _ kw_6_90) ⟨by decide, by decide, by decide +kernel⟩ ⟨Nat.le_of_ble_eq_true rfl, Nat.le_of_ble_eq_true rfl⟩, (htx _ kw_6_92), (htx _ kp_M_refuse)⟩ ⟨xPre_blind, va_recv hK hP (ci := 5) rfl (q0 := 0) rfl, (fun U hU hW => ⟨rfl, xPre_of hZ hS hFc hP hD hK U hU hW⟩)⟩ rfl rfl hl.1 rfl (xm_room (Nat.le_of_ble_eq_true rfl)) dM_implode_29 ⟨hm21.1, hm21.2⟩) hS hFc (fun q _ h => hFc q h) (fun E ce q9 u9 t H1 locs ht hvm hr9 hB hz1 hk1 hS hce hcv hcl => ?_)
              obtain ⟨rfl, hP1, hK1, hD1⟩ := hB
              rw [ht] at hP1
              obtain ⟨ad23, gd24, vad25⟩ := u9
              obtain ⟨hv26, hn27⟩ := hr9
              have hP : va_P D xcl (xMw cT aM ad23 rd gd24 vad25 o18.2.2.2.2 []) H1 := hP1
              have hD : va_D A (xMw cT aM ad23 rd gd24 vad25 o18.2.2.2.2 []) := hD1.weaken (fun k q _ h => hFc q.1 h)
              generalize H1 = H at hP hS hce ⊢
              have hE9 : ∀ p, p < xct st → vad25 p = vad p := fun p h => (hv26 p (Nat.lt_of_lt_of_le h hN)).trans (hE p h)
              have hE := hE9
              have hN : xct st ≤ xct o18.2.2.2.2 := Nat.le_trans hN hn27
              obtain rfl := Option.some.inj hf
              exact vx_out (E := "java/lang/ArithmeticException") (fun x h => (hne x h).elim) hlocks hce hcv hcl (fun t ht ha => ⟨(ad23, gd24, vad25), ⟨hE, hN⟩, ⟨rfl, by rw [ht]; exact hP, va_K.moved ha hK, hD⟩, hS.F ht⟩) hS.2.2 (Nat.le_refl _) (Nat.le_refl _)
            rw [if_neg hk20] at hf
            exact nomatch hf
      rw [if_neg hk3] at hf
      by_cases hk14 : o1.1 = 1
      · rw [if_pos hk14] at hf
        obtain ⟨hg15, hf⟩ := xifn hf
        obtain ⟨hm16, hf⟩ := xmoE hf
        have hFc := xm_free hD hS hA
        refine xx_thr (vx_runV (C := "ValueBenchModel") (As := [xv vadL y1]) (rest := [.int y2]) ⟨hx, hb, hml, hown, htx⟩ (gM_array_1 l hl9 D cT aK aV H.size n aM adL rd gdL vadL ws9 y1 o1 hq2 hk14) ⟨callB_of 1 htx (xw_goodC kw_7_42) rfl rfl rfl (htx _ kw_1_5) (htx _ kw_7_39) ⟨by decide, by decide, by decide +kernel⟩ ⟨Nat.le_of_ble_eq_true rfl, Nat.le_of_ble_eq_true rfl⟩, (htx _ kw_7_41), (htx _ kp_M_array)⟩ ⟨xPre_blind, va_recv hK hP (ci := 5) rfl (q0 := 0) rfl, (fun U hU hW => ⟨rfl, xPre_of hZ hS hFc hP hD hK U hU hW⟩)⟩ rfl rfl hl.1 rfl (xm_room (Nat.le_of_ble_eq_true rfl)) dM_implode_5 ⟨hm16.1, hm16.2⟩) hS hFc (fun q _ h => hFc q h) (fun E ce q9 u9 t H1 locs ht hvm hr9 hB hz1 hk1 hS hce hcv hcl => ?_)
        obtain ⟨rfl, hP1, hK1, hD1⟩ := hB
        rw [ht] at hP1
        obtain ⟨ad18, gd19, vad20⟩ := u9
        obtain ⟨hv21, hn22⟩ := hr9
        have hP : va_P D xcl (xMw cT aM ad18 rd gd19 vad20 o1.2.2.2.2 []) H1 := hP1
        have hD : va_D A (xMw cT aM ad18 rd gd19 vad20 o1.2.2.2.2 []) := hD1.weaken (fun k q _ h => hFc q.1 h)
        generalize H1 = H at hP hS hce ⊢
        have hE9 : ∀ p, p < xct st → vad20 p = vad p := fun p h => (hv21 p (Nat.lt_of_lt_of_le h hN)).trans (hE p h)
        have hE := hE9
        have hN : xct st ≤ xct o1.2.2.2.2 := Nat.le_trans hN hn22
        have ev23 : xv vadL y1 = xv vad20 y1 := xvE hv21 hg15
        have hl : lv_has ls 4 [(2, .int y2), (0, .ref aM), (1, xv vad20 y1)] := by first | exact hl | ((try (rw [← ev23])); exact hl)
        obtain rfl := Option.some.inj hf
        exact vx_out (E := "java/lang/ArithmeticException") (fun x h => (hne x h).elim) hlocks hce hcv hcl (fun t ht ha => ⟨(ad18, gd19, vad20), ⟨hE, hN⟩, ⟨rfl, by rw [ht]; exact hP, va_K.moved ha hK, hD⟩, hS.F ht⟩) hS.2.2 (Nat.le_refl _) (Nat.le_refl _)
      rw [if_neg hk14] at hf
      exact nomatch hf
    · subst hj
      have hf : fM_implode_b (n + 1) 2 y2 y1 y3 ws9 wc wn = some out := hf
      rw [fM_implode_b, if_neg (by decide), if_pos rfl] at hf
      obtain ⟨hP, hD⟩ : xPD D xcl A (xMw cT aM adL rd gdL vadL ws9 []) H := ⟨hP, hD⟩
      have hl : lv_has ls 4 [(2, .int y2), (0, .ref aM), (1, xv vadL y1)] := hl
      refine W.eq (g2 := F0 m 41 ls []) rfl ?_
      show W p l e _ s m _ below meth c H locs wc wn _ _
      obtain ⟨hm0, hf⟩ := xmoE hf
      refine lv_iload_n hx hb dM_implode_41 rfl (lv_at hl 0 rfl) ?_
      refine xm_aload_n hx hb (xvor _ _) dM_implode_42 rfl (lv_at hl 2 rfl) ?_
      obtain ⟨hg1, hf⟩ := xifn hf
      refine xm_vget (v := .int ((xpi ws9 3) (y1 - 1))) hx hb htx hown hK hP 3 (by decide) hg1 rfl ((hZ.1 (103, "count", "I") (List.mem_of_getElem? (i := 3) rfl)).use rfl) rfl dM_implode_43 ?_
      refine lv_icmp_ge (tgt := 91) hx hb dM_implode_46 (by decide) (fun hc => ?_) (fun hc => ?_)
      · rw [if_pos hc] at hf
        refine lv_aload_n hx hb dM_implode_91 rfl (lv_at hl 1 rfl) ?_
        refine xm_get (v := .int (xsi ws9 4)) hx hb htx hown hK hP 4 (by decide) rfl (htx _ kw_5_91) rfl dM_implode_92 ?_
        refine lv_istore_n (lv' := [(2, .int (xsi ws9 4)), (0, .ref aM), (1, xv vadL y1)]) hx hb dM_implode_95 rfl hl (by decide) (by simp only [List.filter, xvcat, xrscat, xcI, xcL, xcR, xcN]; rfl) (fun ls hl => ?_)
        refine lv_iconst (v := 0) hx hb dM_implode_96 (by decide) ?_
        refine lv_istore_n (lv' := [(3, .int 0), (2, .int (xsi ws9 4)), (0, .ref aM), (1, xv vadL y1)]) hx hb dM_implode_97 rfl hl (by decide) rfl (fun ls hl => ?_)
        exact ih (3, (xsi ws9 4), y1, (0 : Int32), ws9, wc, wn) _ _ ls (Or.inr (Or.inr (⟨adL, gdL, vadL, rfl, hf, hP, hD, hS, lv_sub hl [0, 1, 2, 3] rfl, hE, hN⟩)))
      · rw [if_neg hc] at hf
        refine lv_aload_n hx hb dM_implode_49 rfl (lv_at hl 1 rfl) ?_
        refine xm_aload_n hx hb (xvor _ _) dM_implode_50 rfl (lv_at hl 2 rfl) ?_
        refine lv_iload_n hx hb dM_implode_51 rfl (lv_at hl 0 rfl) ?_
        obtain ⟨o2, hq3, hf⟩ := xbind hf
        have hFc := xm_free hD hS hA
        refine va_callq (va_runV (C := "ValueBenchModel") (As := [xv vadL y1, .int y2]) (rest := []) ⟨hx, hb, hml, hown, htx⟩ (gM_kid l hl9 D cT aK aV H.size n aM adL rd gdL vadL ws9 y1 y2 o2 hq3) ⟨callB_of 2 htx (xw_goodC kw_6_158) rfl rfl rfl (htx _ kw_1_5) (htx _ kw_6_155) ⟨by decide, by decide, by decide +kernel⟩ ⟨Nat.le_of_ble_eq_true rfl, Nat.le_of_ble_eq_true rfl⟩, (htx _ kw_6_157), (htx _ kp_M_kid)⟩ ⟨xPre_blind, va_recv hK hP (ci := 5) rfl (q0 := 0) rfl, (fun U hU hW => ⟨rfl, xPre_of hZ hS hFc hP hD hK U hU hW⟩)⟩ rfl rfl hl.1 rfl (xm_room (Nat.le_of_ble_eq_true rfl)) dM_implode_52 ⟨hm0.1, hm0.2⟩) hS (fun q _ h => hFc q h) hFc (fun r4 u9 t H1 locs ht hvm hr9 hB hz1 hk1 hS => ?_)
        obtain ⟨hP1, hK1, hD1⟩ := hB
        rw [ht] at hP1
        have hP : va_P D xcl (xMw cT aM adL rd gdL vadL ws9 []) H1 := hP1
        have hD : va_D A (xMw cT aM adL rd gdL vadL ws9 []) := hD1.weaken (fun k q _ h => hFc q.1 h)
        generalize H1 = H at hP hS ⊢
        rw [hr9]
        refine W.eq (g2 := F0 m 55 ls [xv vadL o2]) (by first | rfl | (skip; rfl)) ?_
        obtain ⟨hg5, hf⟩ := xifn hf
        refine xm_vget (v := .long ((xpl ws9) (o2 - 1))) hx hb htx hown hK hP 1 (by decide) hg5 rfl ((hZ.1 (96, "n", "J") (List.mem_of_getElem? (i := 1) rfl)).use rfl) rfl dM_implode_55 ?_
        refine lv_lconst (v := 0) hx hb dM_implode_58 (by decide) ?_
        refine W.lcmp hx hb dM_implode_59 ?_
        refine lv_if_lt (tgt := 79) hx hb dM_implode_60 (by decide) (fun hc => ?_) (fun hc => ?_)
        · rw [if_pos hc] at hf
          refine lv_aload_n hx hb dM_implode_79 rfl (lv_at hl 1 rfl) ?_
          refine lv_iconst (v := 2) hx hb dM_implode_80 (by decide) ?_
          obtain ⟨o6, hq7, hf⟩ := xbind hf
          have hl := lv_sub (l' := [(2, .int y2), (0, .ref aM)]) hl [0, 1] rfl
          by_cases hk8 : o6.1 = 1
          · rw [if_pos hk8] at hf
            obtain ⟨hm9, hf⟩ := xmoE hf
            have hFc := xm_free hD hS hA
            refine xx_thr (vx_runV (C := "ValueBenchModel") (As := [.int 2]) (rest := []) ⟨hx, hb, hml, hown, htx⟩ (gM_refuse_1 l hl9 D cT aK aV H.size n aM adL rd gdL vadL ws9 (2 : Int32) o6 hq7 hk8) ⟨callB_of 1 htx (xw_goodC kw_6_93) rfl rfl rfl (htx _ kw_1_5) (htx _ kw_6_90) ⟨by decide, by decide, by decide +kernel⟩ ⟨Nat.le_of_ble_eq_true rfl, Nat.le_of_ble_eq_true rfl⟩, (htx _ kw_6_92), (htx _ kp_M_refuse)⟩ ⟨xPre_blind, va_recv hK hP (ci := 5) rfl (q0 := 0) rfl, (fun U hU hW => ⟨rfl, xPre_of hZ hS hFc hP hD hK U hU hW⟩)⟩ rfl rfl hl.1 rfl (xm_room (Nat.le_of_ble_eq_true rfl)) dM_implode_81 ⟨hm9.1, hm9.2⟩) hS hFc (fun q _ h => hFc q h) (fun E ce q9 u9 t H1 locs ht hvm hr9 hB hz1 hk1 hS hce hcv hcl => ?_)
            obtain ⟨rfl, hP1, hK1, hD1⟩ := hB
            rw [ht] at hP1
            obtain ⟨ad11, gd12, vad13⟩ := u9
            obtain ⟨hv14, hn15⟩ := hr9
            have hP : va_P D xcl (xMw cT aM ad11 rd gd12 vad13 o6.2.2.2.2 []) H1 := hP1
            have hD : va_D A (xMw cT aM ad11 rd gd12 vad13 o6.2.2.2.2 []) := hD1.weaken (fun k q _ h => hFc q.1 h)
            generalize H1 = H at hP hS hce ⊢
            have hE9 : ∀ p, p < xct st → vad13 p = vad p := fun p h => (hv14 p (Nat.lt_of_lt_of_le h hN)).trans (hE p h)
            have hE := hE9
            have hN : xct st ≤ xct o6.2.2.2.2 := Nat.le_trans hN hn15
            obtain rfl := Option.some.inj hf
            exact vx_out (E := "java/lang/ArithmeticException") (fun x h => (hne x h).elim) hlocks hce hcv hcl (fun t ht ha => ⟨(ad11, gd12, vad13), ⟨hE, hN⟩, ⟨rfl, by rw [ht]; exact hP, va_K.moved ha hK, hD⟩, hS.F ht⟩) hS.2.2 (Nat.le_refl _) (Nat.le_refl _)
          rw [if_neg hk8] at hf
          exact nomatch hf
        · rw [if_neg hc] at hf
          refine lv_aload_n hx hb dM_implode_63 rfl (lv_at hl 1 rfl) ?_
          refine xm_aload_n hx hb (xvor _ _) dM_implode_64 rfl (lv_at hl 2 rfl) ?_
          refine lv_iload_n hx hb dM_implode_65 rfl (lv_at hl 0 rfl) ?_
          obtain ⟨o6, hq7, hf⟩ := xbind hf
          have hFc := xm_free hD hS hA
          refine va_callq (va_runV (C := "ValueBenchModel") (As := [xv vadL y1, .int y2]) (rest := []) ⟨hx, hb, hml, hown, htx⟩ (gM_kid l hl9 D cT aK aV H.size n aM adL rd gdL vadL ws9 y1 y2 o6 hq7) ⟨callB_of 2 htx (xw_goodC kw_6_158) rfl rfl rfl (htx _ kw_1_5) (htx _ kw_6_155) ⟨by decide, by decide, by decide +kernel⟩ ⟨Nat.le_of_ble_eq_true rfl, Nat.le_of_ble_eq_true rfl⟩, (htx _ kw_6_157), (htx _ kp_M_kid)⟩ ⟨xPre_blind, va_recv hK hP (ci := 5) rfl (q0 := 0) rfl, (fun U hU hW => ⟨rfl, xPre_of hZ hS hFc hP hD hK U hU hW⟩)⟩ rfl rfl hl.1 rfl (xm_room (Nat.le_of_ble_eq_true rfl)) dM_implode_66 ⟨hm0.1, hm0.2⟩) hS (fun q _ h => hFc q h) hFc (fun r8 u9 t H1 locs ht hvm hr9 hB hz1 hk1 hS => ?_)
          obtain ⟨hP1, hK1, hD1⟩ := hB
          rw [ht] at hP1
          have hP : va_P D xcl (xMw cT aM adL rd gdL vadL ws9 []) H1 := hP1
          have hD : va_D A (xMw cT aM adL rd gdL vadL ws9 []) := hD1.weaken (fun k q _ h => hFc q.1 h)
          generalize H1 = H at hP hS ⊢
          rw [hr9]
          refine W.eq (g2 := F0 m 69 ls [xv vadL o6]) (by first | rfl | (skip; rfl)) ?_
          obtain ⟨hg9, hf⟩ := xifn hf
          refine xm_vget (v := .long ((xpl ws9) (o6 - 1))) hx hb htx hown hK hP 1 (by decide) hg9 rfl ((hZ.1 (96, "n", "J") (List.mem_of_getElem? (i := 1) rfl)).use rfl) rfl dM_implode_69 ?_
          refine lv_ldc2 hx hb hown (htx _ kw_7_71) dM_implode_72 ?_
          refine W.lcmp hx hb dM_implode_75 ?_
          refine lv_if_le (tgt := 85) hx hb dM_implode_76 (by decide) (fun hc => ?_) (fun hc => ?_)
          · rw [if_pos hc] at hf
            refine lv_iinc (v := (y2 + 1)) (lv' := [(2, .int (y2 + 1)), (0, .ref aM), (1, xv vadL y1)]) hx hb dM_implode_85 hl (k := 0) rfl rfl (by decide) (by simp only [List.filter, xvcat, xrscat, xcI, xcL, xcR, xcN]; rfl) (fun ls hl => ?_)
            refine lv_goto (tgt := 41) hx hb dM_implode_88 (by decide) ?_
            exact ih (2, (y2 + 1), y1, 0, ws9, wc, wn) _ _ ls (Or.inr (Or.inl ⟨adL, gdL, vadL, rfl, hf, hP, hD, hS, lv_sub hl [0, 1, 2] rfl, hE, hN⟩))
          · rw [if_neg hc] at hf
            refine lv_aload_n hx hb dM_implode_79 rfl (lv_at hl 1 rfl) ?_
            refine lv_iconst (v := 2) hx hb dM_implode_80 (by decide) ?_
            obtain ⟨o10, hq11, hf⟩ := xbind hf
            have hl := lv_sub (l' := [(2, .int y2), (0, .ref aM)]) hl [0, 1] rfl
            by_cases hk12 : o10.1 = 1
            · rw [if_pos hk12] at hf
              obtain ⟨hm13, hf⟩ := xmoE hf
              have hFc := xm_free hD hS hA
              refine xx_thr (vx_runV (C := "ValueBenchModel") (As := [.int 2]) (rest := []) ⟨hx, hb, hml, hown, htx⟩ (gM_refuse_1 l hl9 D cT aK aV H.size n aM adL rd gdL vadL ws9 (2 : Int32) o10 hq11 hk12) ⟨callB_of 1 htx (xw_goodC kw_6_93) rfl rfl rfl (htx _ kw_1_5) (htx _ kw_6_90) ⟨by decide, by decide, by decide +kernel⟩ ⟨Nat.le_of_ble_eq_true rfl, Nat.le_of_ble_eq_true rfl⟩, (htx _ kw_6_92), (htx _ kp_M_refuse)⟩ ⟨xPre_blind, va_recv hK hP (ci := 5) rfl (q0 := 0) rfl, (fun U hU hW => ⟨rfl, xPre_of hZ hS hFc hP hD hK U hU hW⟩)⟩ rfl rfl hl.1 rfl (xm_room (Nat.le_of_ble_eq_true rfl)) dM_implode_81 ⟨hm13.1, hm13.2⟩) hS hFc (fun q _ h => hFc q h) (fun E ce q9 u9 t H1 locs ht hvm hr9 hB hz1 hk1 hS hce hcv hcl => ?_)
              obtain ⟨rfl, hP1, hK1, hD1⟩ := hB
              rw [ht] at hP1
              obtain ⟨ad15, gd16, vad17⟩ := u9
              obtain ⟨hv18, hn19⟩ := hr9
              have hP : va_P D xcl (xMw cT aM ad15 rd gd16 vad17 o10.2.2.2.2 []) H1 := hP1
              have hD : va_D A (xMw cT aM ad15 rd gd16 vad17 o10.2.2.2.2 []) := hD1.weaken (fun k q _ h => hFc q.1 h)
              generalize H1 = H at hP hS hce ⊢
              have hE9 : ∀ p, p < xct st → vad17 p = vad p := fun p h => (hv18 p (Nat.lt_of_lt_of_le h hN)).trans (hE p h)
              have hE := hE9
              have hN : xct st ≤ xct o10.2.2.2.2 := Nat.le_trans hN hn19
              obtain rfl := Option.some.inj hf
              exact vx_out (E := "java/lang/ArithmeticException") (fun x h => (hne x h).elim) hlocks hce hcv hcl (fun t ht ha => ⟨(ad15, gd16, vad17), ⟨hE, hN⟩, ⟨rfl, by rw [ht]; exact hP, va_K.moved ha hK, hD⟩, hS.F ht⟩) hS.2.2 (Nat.le_refl _) (Nat.le_refl _)
            rw [if_neg hk12] at hf
            exact nomatch hf
    · subst hj
      have hf : fM_implode_b (n + 1) 3 y2 y1 y3 ws9 wc wn = some out := hf
      rw [fM_implode_b, if_neg (by decide), if_neg (by decide)] at hf
      obtain ⟨hP, hD⟩ : xPD D xcl A (xMw cT aM adL rd gdL vadL ws9 []) H := ⟨hP, hD⟩
      have hl : lv_has ls 4 [(3, .int y3), (2, .int y2), (0, .ref aM), (1, xv vadL y1)] := hl
      refine W.eq (g2 := F0 m 98 ls []) rfl ?_
      show W p l e _ s m _ below meth c H locs wc wn _ _
      obtain ⟨hm0, hf⟩ := xmoE hf
      refine lv_iload_n hx hb dM_implode_98 rfl (lv_at hl 0 rfl) ?_
      refine xm_aload_n hx hb (xvor _ _) dM_implode_99 rfl (lv_at hl 3 rfl) ?_
      obtain ⟨hg1, hf⟩ := xifn hf
      refine xm_vget (v := .int ((xpi ws9 3) (y1 - 1))) hx hb htx hown hK hP 3 (by decide) hg1 rfl ((hZ.1 (103, "count", "I") (List.mem_of_getElem? (i := 3) rfl)).use rfl) rfl dM_implode_100 ?_
      refine lv_icmp_ge (tgt := 126) hx hb dM_implode_103 (by decide) (fun hc => ?_) (fun hc => ?_)
      · rw [if_pos hc] at hf
        refine lv_aload_n hx hb dM_implode_126 rfl (lv_at hl 2 rfl) ?_
        refine lv_iload_n hx hb dM_implode_127 rfl (lv_at hl 1 rfl) ?_
        obtain ⟨o2, hq3, hf⟩ := xbind hf
        have hl := lv_sub (l' := [(3, .int y3), (2, .int y2), (0, .ref aM)]) hl [0, 1, 2] rfl
        by_cases hk4 : o2.1 = 0
        · rw [if_pos hk4] at hf
          obtain ⟨hm5, hf⟩ := xmoE hf
          have hFc := xm_free hD hS hA
          refine va_callq (va_runV (C := "ValueBenchModel") (As := [.int y2]) (rest := []) ⟨hx, hb, hml, hown, htx⟩ (gM_string l hl9 D cT aK aV H.size n aM adL rd gdL vadL ws9 y2 o2 hq3 hk4) ⟨callB_of 1 htx (xw_goodC kw_6_61) rfl rfl rfl (htx _ kw_1_5) (htx _ kw_6_58) ⟨by decide, by decide, by decide +kernel⟩ ⟨Nat.le_of_ble_eq_true rfl, Nat.le_of_ble_eq_true rfl⟩, (htx _ kw_6_60), (htx _ kp_M_string)⟩ ⟨xPre_blind, va_recv hK hP (ci := 5) rfl (q0 := 0) rfl, (fun U hU hW => ⟨rfl, xPre_of hZ hS hFc hP hD hK U hU hW⟩)⟩ rfl rfl hl.1 rfl (xm_room (Nat.le_of_ble_eq_true rfl)) dM_implode_128 ⟨hm5.1, hm5.2⟩) hS (fun q _ h => hFc q h) hFc (fun r6 u9 t H1 locs ht hvm hr9 hB hz1 hk1 hS => ?_)
          obtain ⟨hP1, hK1, hD1⟩ := hB
          rw [ht] at hP1
          obtain ⟨ad7, gd8, vad9⟩ := u9
          obtain ⟨hr9, hv10, hn11⟩ := hr9
          have hP : va_P D xcl (xMw cT aM ad7 rd gd8 vad9 o2.2.2.2.2 []) H1 := hP1
          have hD : va_D A (xMw cT aM ad7 rd gd8 vad9 o2.2.2.2.2 []) := hD1.weaken (fun k q _ h => hFc q.1 h)
          generalize H1 = H at hP hS ⊢
          have hE9 : ∀ p, p < xct st → vad9 p = vad p := fun p h => (hv10 p (Nat.lt_of_lt_of_le h hN)).trans (hE p h)
          have hE := hE9
          have hN : xct st ≤ xct o2.2.2.2.2 := Nat.le_trans hN hn11
          rw [hr9]
          refine W.eq (g2 := F0 m 131 ls [xv vad9 o2.2.2.2.1]) (by first | rfl | (skip; rfl)) ?_
          obtain rfl := Option.some.inj hf
          exact absurd (show (0 : Nat) = 1 from hkd) (by decide)
        rw [if_neg hk4] at hf
        by_cases hk12 : o2.1 = 1
        · rw [if_pos hk12] at hf
          obtain ⟨hm13, hf⟩ := xmoE hf
          obtain rfl := Option.some.inj hf
          exact absurd (show (2 : Nat) = 1 from hkd) (by decide)
        rw [if_neg hk12] at hf
        exact nomatch hf
      · rw [if_neg hc] at hf
        refine lv_aload_n hx hb dM_implode_106 rfl (lv_at hl 2 rfl) ?_
        refine lv_aload_n hx hb dM_implode_107 rfl (lv_at hl 2 rfl) ?_
        refine xm_aload_n hx hb (xvor _ _) dM_implode_108 rfl (lv_at hl 3 rfl) ?_
        refine lv_iload_n hx hb dM_implode_109 rfl (lv_at hl 0 rfl) ?_
        obtain ⟨o2, hq3, hf⟩ := xbind hf
        have hFc := xm_free hD hS hA
        refine va_callq (va_runV (C := "ValueBenchModel") (As := [xv vadL y1, .int y3]) (rest := [.ref aM]) ⟨hx, hb, hml, hown, htx⟩ (gM_kid l hl9 D cT aK aV H.size n aM adL rd gdL vadL ws9 y1 y3 o2 hq3) ⟨callB_of 2 htx (xw_goodC kw_6_158) rfl rfl rfl (htx _ kw_1_5) (htx _ kw_6_155) ⟨by decide, by decide, by decide +kernel⟩ ⟨Nat.le_of_ble_eq_true rfl, Nat.le_of_ble_eq_true rfl⟩, (htx _ kw_6_157), (htx _ kp_M_kid)⟩ ⟨xPre_blind, va_recv hK hP (ci := 5) rfl (q0 := 0) rfl, (fun U hU hW => ⟨rfl, xPre_of hZ hS hFc hP hD hK U hU hW⟩)⟩ rfl rfl hl.1 rfl (xm_room (Nat.le_of_ble_eq_true rfl)) dM_implode_110 ⟨hm0.1, hm0.2⟩) hS (fun q _ h => hFc q h) hFc (fun r4 u9 t H1 locs ht hvm hr9 hB hz1 hk1 hS => ?_)
        obtain ⟨hP1, hK1, hD1⟩ := hB
        rw [ht] at hP1
        have hP : va_P D xcl (xMw cT aM adL rd gdL vadL ws9 []) H1 := hP1
        have hD : va_D A (xMw cT aM adL rd gdL vadL ws9 []) := hD1.weaken (fun k q _ h => hFc q.1 h)
        generalize H1 = H at hP hS ⊢
        rw [hr9]
        refine W.eq (g2 := F0 m 113 ls [xv vadL o2, .ref aM]) (by first | rfl | (skip; rfl)) ?_
        obtain ⟨hg5, hf⟩ := xifn hf
        refine xm_vget (v := .long ((xpl ws9) (o2 - 1))) hx hb htx hown hK hP 1 (by decide) hg5 rfl ((hZ.1 (96, "n", "J") (List.mem_of_getElem? (i := 1) rfl)).use rfl) rfl dM_implode_113 ?_
        refine lv_l2i hx hb dM_implode_116 rfl ?_
        obtain ⟨o6, hq7, hf⟩ := xbind hf
        obtain ⟨hm8, hf⟩ := xmoE hf
        have hFc := xm_free hD hS hA
        refine va_callv (va_runV (C := "ValueBenchModel") (As := [.int ((xpl ws9) (o2 - 1)).toInt32]) (rest := []) ⟨hx, hb, hml, hown, htx⟩ (gM_letter l hl9 D cT aK aV H.size n aM adL rd gdL vadL ws9 (((xpl ws9) (o2 - 1)).toInt32) o6 hq7) ⟨callB_of 1 htx (xw_goodC kw_6_54) rfl rfl rfl (htx _ kw_1_5) (htx _ kw_6_51) ⟨by decide, by decide, by decide +kernel⟩ ⟨Nat.le_of_ble_eq_true rfl, Nat.le_of_ble_eq_true rfl⟩, (htx _ kw_6_53), (htx _ kp_M_letter)⟩ ⟨xPre_blind, va_recv hK hP (ci := 5) rfl (q0 := 0) rfl, (fun U hU hW => ⟨rfl, xPre_of hZ hS hFc hP hD hK U hU hW⟩)⟩ rfl rfl hl.1 rfl (xm_room (Nat.le_of_ble_eq_true rfl)) dM_implode_117 ⟨hm8.1, hm8.2⟩) hS (fun q _ h => hFc q h) hFc (fun u9 t H1 locs ht hvm hr9 hB hz1 hk1 hS => ?_)
        obtain ⟨hP1, hK1, hD1⟩ := hB
        rw [ht] at hP1
        obtain ⟨ad10, gd11, vad12⟩ := u9
        obtain ⟨hv13, hn14⟩ := hr9
        have hP : va_P D xcl (xMw cT aM ad10 rd gd11 vad12 o6.2.2 []) H1 := hP1
        have hD : va_D A (xMw cT aM ad10 rd gd11 vad12 o6.2.2 []) := hD1.weaken (fun k q _ h => hFc q.1 h)
        generalize H1 = H at hP hS ⊢
        have hE9 : ∀ p, p < xct st → vad12 p = vad p := fun p h => (hv13 p (Nat.lt_of_lt_of_le h hN)).trans (hE p h)
        have hE := hE9
        have hN : xct st ≤ xct o6.2.2 := Nat.le_trans hN hn14
        have ev15 : xv vadL y1 = xv vad12 y1 := xvE hv13 (fun h => hg1 (Or.inr h))
        have hl : lv_has ls 4 [(3, .int y3), (2, .int y2), (0, .ref aM), (1, xv vad12 y1)] := by first | exact hl | ((try (rw [← ev15])); exact hl)
        refine W.eq (g2 := F0 m 120 ls []) (by first | rfl | ((try (rw [ev15])); rfl)) ?_
        refine lv_iinc (v := (y3 + 1)) (lv' := [(3, .int (y3 + 1)), (2, .int y2), (0, .ref aM), (1, xv vad12 y1)]) hx hb dM_implode_120 hl (k := 0) rfl rfl (by decide) rfl (fun ls hl => ?_)
        refine lv_goto (tgt := 98) hx hb dM_implode_123 (by decide) ?_
        exact ih (3, y2, y1, (y3 + 1), o6.2.2, (wc + o6.1), (wn + o6.2.1)) _ _ ls (Or.inr (Or.inr (⟨ad10, gd11, vad12, rfl, hf, hP, hD, hS, lv_sub hl [0, 1, 2, 3] rfl, hE, hN⟩)))
  refine lv_iconst (v := 0) hx hb dM_implode_0 (by decide) ?_
  refine lv_istore_n (lv' := [(2, .int 0), (0, .ref aM), (1, xv vad c0)]) hx hb dM_implode_1 rfl hl (by decide) (by simp only [List.filter, xvcat, xrscat, xcI, xcL, xcR, xcN]; rfl) (fun ls hl => ?_)
  exact key n (1, (0 : Int32), c0, 0, st, 0, 0) _ _ ls (Or.inl ⟨ad, gd, vad, rfl, hf, hP, hD, hS, lv_sub hl [0, 1, 2] rfl, hE, hN⟩)
set_option maxHeartbeats 400000000 in
set_option maxRecDepth 100000 in
theorem gM_implode_2 (l : Launch) (hl9 : l.stackTraces = false) (D : va_G) (cT : Nat → ClassId) (aK aV : Nat → Nat) (sz n : Nat) (aM : Nat) (ad rd gd vad : Nat → Nat) (st : xS) (c0 : Nat) (out : Nat × Nat × Nat × Nat × xS) (hf : fM_implode n st c0 = some out) (hkd : out.1 = 2) : xMetY l yM_implode wyM_implode 8 out.2.1 out.2.2.1 142 D cT aK aV sz [.ref aM, xv vad c0] (xMw cT aM ad rd gd vad st []) "java/lang/IndexOutOfBoundsException" (fun u => xE vad st out.2.2.2.2 u) (fun A u t => xB D xcl cT A (xMw cT aM u.1 rd u.2.1 u.2.2 out.2.2.2.2 []) t) := by
  refine vx_ofW (cc := prog_13_method_63_code) (maxL := 4) (ret := (some (.object "ValueBenchModel$V"))) (by decide) rfl ?_
  intro p e s m args below meth c s₁ B hml hne hv
  obtain ⟨rfl, hsz, hZ, hP, hK, hD0⟩ := hv
  have hx := B.exec
  have hb := B.bytes
  have hr := B.returns
  have hts := atoms_spec (ws := wyM_implode) B.pre
  have htx := fun w h => hts w (List.mem_cons_of_mem _ h)
  have hown : s.vm.findClass "ValueBenchModel" = some m.cls := findClass_of_methodNamed B.named
  have hlocks := B.notSynchronized
  subst hsz
  have hD := hD0.self (sz := s.heap.size)
  generalize hAe : va_A (xMw cT aM ad rd gd vad st []) s.heap.size = A at hD hZ ⊢
  have hA : ∀ q : Nat, s.heap.size ≤ q → A q := fun q h => by rw [← hAe]; exact Or.inr h
  have hS : va_S A s.heap s.heap [] := va_S.rf
  have hl := lv_entry ([.ref aM, xv vad c0]) (n := 4) (by simp [lg_sl, xvcat, xrscat, xcI, xcL, xcR, xcN])
  rw [show lv_args 0 [.ref aM, xv vad c0] = [(0, .ref aM), (1, xv vad c0)] from by simp [lv_args, xvcat, xrscat, xcI, xcL, xcR, xcN]] at hl
  rw [lg_entry_eq]
  generalize (lg_sl ([.ref aM, xv vad c0]) ++ List.replicate (4 - (lg_sl ([.ref aM, xv vad c0])).length) Slot.unset).toArray = ls at hl ⊢
  have hl : lv_has ls 4 [(0, .ref aM), (1, xv vad c0)] := hl
  have hE : ∀ p, p < xct st → vad p = vad p := fun _ _ => rfl
  have hN : xct st ≤ xct st := Nat.le_refl _
  unfold fM_implode at hf
  refine xloopM (σ := Nat × Int32 × Nat × Int32 × xS × Nat × Nat) (fun n x H locs ls => (∃ (adL gdL vadL : Nat → Nat), x.1 = 1 ∧ fM_implode_b n x.1 x.2.1 x.2.2.1 x.2.2.2.1 x.2.2.2.2.1 x.2.2.2.2.2.1 x.2.2.2.2.2.2 = some out ∧ va_P D xcl (xMw cT aM adL rd gdL vadL x.2.2.2.2.1 []) H ∧ va_D A (xMw cT aM adL rd gdL vadL x.2.2.2.2.1 []) ∧ va_S A s.heap H locs ∧ lv_has ls 4 [(2, .int x.2.1), (0, .ref aM), (1, xv vadL x.2.2.1)] ∧ (∀ p, p < xct st → vadL p = vad p) ∧ xct st ≤ xct x.2.2.2.2.1) ∨ (∃ (adL gdL vadL : Nat → Nat), x.1 = 2 ∧ fM_implode_b n x.1 x.2.1 x.2.2.1 x.2.2.2.1 x.2.2.2.2.1 x.2.2.2.2.2.1 x.2.2.2.2.2.2 = some out ∧ va_P D xcl (xMw cT aM adL rd gdL vadL x.2.2.2.2.1 []) H ∧ va_D A (xMw cT aM adL rd gdL vadL x.2.2.2.2.1 []) ∧ va_S A s.heap H locs ∧ lv_has ls 4 [(2, .int x.2.1), (0, .ref aM), (1, xv vadL x.2.2.1)] ∧ (∀ p, p < xct st → vadL p = vad p) ∧ xct st ≤ xct x.2.2.2.2.1) ∨ (∃ (adL gdL vadL : Nat → Nat), x.1 = 3 ∧ fM_implode_b n x.1 x.2.1 x.2.2.1 x.2.2.2.1 x.2.2.2.2.1 x.2.2.2.2.2.1 x.2.2.2.2.2.2 = some out ∧ va_P D xcl (xMw cT aM adL rd gdL vadL x.2.2.2.2.1 []) H ∧ va_D A (xMw cT aM adL rd gdL vadL x.2.2.2.2.1 []) ∧ va_S A s.heap H locs ∧ lv_has ls 4 [(3, .int x.2.2.2.1), (2, .int x.2.1), (0, .ref aM), (1, xv vadL x.2.2.1)] ∧ (∀ p, p < xct st → vadL p = vad p) ∧ xct st ≤ xct x.2.2.2.2.1)) (fun x => if x.1 = 1 then 2 else if x.1 = 2 then 41 else 98) (fun x => x.2.2.2.2.2.1) (fun x => x.2.2.2.2.2.2) (fun x H locs ls h => by rcases h with h | h | h; (obtain ⟨_, _, _, h⟩ := h; exact absurd h.2.1 (by rw [fM_implode_b]; exact fun h => nomatch h)); (obtain ⟨_, _, _, h⟩ := h; exact absurd h.2.1 (by rw [fM_implode_b]; exact fun h => nomatch h)); (obtain ⟨_, _, _, h⟩ := h; exact absurd h.2.1 (by rw [fM_implode_b]; exact fun h => nomatch h))) (fun n ih x H locs ls hv => ?_) (fun key => ?_)
  · obtain ⟨lb, y2, y1, y3, ws9, wc, wn⟩ := x
    rcases hv with ⟨adL, gdL, vadL, hj, hf, hP, hD, hS, hl, hE, hN⟩ | ⟨adL, gdL, vadL, hj, hf, hP, hD, hS, hl, hE, hN⟩ | ⟨adL, gdL, vadL, hj, hf, hP, hD, hS, hl, hE, hN⟩
    · subst hj
      have hf : fM_implode_b (n + 1) 1 y2 y1 y3 ws9 wc wn = some out := hf
      rw [fM_implode_b, if_pos rfl] at hf
      obtain ⟨hP, hD⟩ : xPD D xcl A (xMw cT aM adL rd gdL vadL ws9 []) H := ⟨hP, hD⟩
      have hl : lv_has ls 4 [(2, .int y2), (0, .ref aM), (1, xv vadL y1)] := hl
      refine W.eq (g2 := F0 m 2 ls []) rfl ?_
      show W p l e _ s m _ below meth c H locs wc wn _ _
      obtain ⟨hm0, hf⟩ := xmoE hf
      refine lv_iload_n hx hb dM_implode_2 rfl (lv_at hl 0 rfl) ?_
      refine lv_aload_n hx hb dM_implode_3 rfl (lv_at hl 1 rfl) ?_
      refine xm_aload_n hx hb (xvor _ _) dM_implode_4 rfl (lv_at hl 2 rfl) ?_
      obtain ⟨o1, hq2, hf⟩ := xbind hf
      by_cases hk3 : o1.1 = 0
      · rw [if_pos hk3] at hf
        obtain ⟨hg4, hf⟩ := xifn hf
        obtain ⟨hm5, hf⟩ := xmoE hf
        have hFc := xm_free hD hS hA
        refine va_callq (va_runV (C := "ValueBenchModel") (As := [xv vadL y1]) (rest := [.int y2]) ⟨hx, hb, hml, hown, htx⟩ (gM_array l hl9 D cT aK aV H.size n aM adL rd gdL vadL ws9 y1 o1 hq2 hk3) ⟨callB_of 1 htx (xw_goodC kw_7_42) rfl rfl rfl (htx _ kw_1_5) (htx _ kw_7_39) ⟨by decide, by decide, by decide +kernel⟩ ⟨Nat.le_of_ble_eq_true rfl, Nat.le_of_ble_eq_true rfl⟩, (htx _ kw_7_41), (htx _ kp_M_array)⟩ ⟨xPre_blind, va_recv hK hP (ci := 5) rfl (q0 := 0) rfl, (fun U hU hW => ⟨rfl, xPre_of hZ hS hFc hP hD hK U hU hW⟩)⟩ rfl rfl hl.1 rfl (xm_room (Nat.le_of_ble_eq_true rfl)) dM_implode_5 ⟨hm5.1, hm5.2⟩) hS (fun q _ h => hFc q h) hFc (fun r6 u9 t H1 locs ht hvm hr9 hB hz1 hk1 hS => ?_)
        obtain ⟨hP1, hK1, hD1⟩ := hB
        rw [ht] at hP1
        obtain ⟨ad7, gd8, vad9⟩ := u9
        obtain ⟨hr9, hv10, hn11⟩ := hr9
        have hP : va_P D xcl (xMw cT aM ad7 rd gd8 vad9 o1.2.2.2.2 []) H1 := hP1
        have hD : va_D A (xMw cT aM ad7 rd gd8 vad9 o1.2.2.2.2 []) := hD1.weaken (fun k q _ h => hFc q.1 h)
        generalize H1 = H at hP hS ⊢
        have hE9 : ∀ p, p < xct st → vad9 p = vad p := fun p h => (hv10 p (Nat.lt_of_lt_of_le h hN)).trans (hE p h)
        have hE := hE9
        have hN : xct st ≤ xct o1.2.2.2.2 := Nat.le_trans hN hn11
        have ev12 : xv vadL y1 = xv vad9 y1 := xvE hv10 hg4
        have hl : lv_has ls 4 [(2, .int y2), (0, .ref aM), (1, xv vad9 y1)] := by first | exact hl | ((try (rw [← ev12])); exact hl)
        rw [hr9]
        refine W.eq (g2 := F0 m 8 ls [xv vad9 o1.2.2.2.1, .int y2]) (by first | rfl | ((try (rw [ev12])); rfl)) ?_
        obtain ⟨hg13, hf⟩ := xifn hf
        refine xm_vget (v := .int ((xpi o1.2.2.2.2 3) (o1.2.2.2.1 - 1))) hx hb htx hown hK hP 3 (by decide) hg13 rfl ((hZ.1 (103, "count", "I") (List.mem_of_getElem? (i := 3) rfl)).use rfl) rfl dM_implode_8 ?_
        refine lv_icmp_ge (tgt := 39) hx hb dM_implode_11 (by decide) (fun hc => ?_) (fun hc => ?_)
        · rw [if_pos hc] at hf
          refine lv_iconst (v := 0) hx hb dM_implode_39 (by decide) ?_
          refine lv_istore_n (lv' := [(2, .int 0), (0, .ref aM), (1, xv vad9 y1)]) hx hb dM_implode_40 rfl hl (by decide) (by simp only [List.filter, xvcat, xrscat, xcI, xcL, xcR, xcN]; rfl) (fun ls hl => ?_)
          exact ih (2, (0 : Int32), y1, 0, o1.2.2.2.2, (wc + o1.2.1), (wn + o1.2.2.1)) _ _ ls (Or.inr (Or.inl ⟨ad7, gd8, vad9, rfl, hf, hP, hD, hS, lv_sub hl [0, 1, 2] rfl, hE, hN⟩))
        · rw [if_neg hc] at hf
          refine lv_aload_n hx hb dM_implode_14 rfl (lv_at hl 1 rfl) ?_
          refine xm_aload_n hx hb (xvor _ _) dM_implode_15 rfl (lv_at hl 2 rfl) ?_
          refine lv_iload_n hx hb dM_implode_16 rfl (lv_at hl 0 rfl) ?_
          obtain ⟨o14, hq15, hf⟩ := xbind hf
          have hFc := xm_free hD hS hA
          refine va_callq (va_runV (C := "ValueBenchModel") (As := [xv vad9 y1, .int y2]) (rest := []) ⟨hx, hb, hml, hown, htx⟩ (gM_kid l hl9 D cT aK aV H.size n aM ad7 rd gd8 vad9 o1.2.2.2.2 y1 y2 o14 hq15) ⟨callB_of 2 htx (xw_goodC kw_6_158) rfl rfl rfl (htx _ kw_1_5) (htx _ kw_6_155) ⟨by decide, by decide, by decide +kernel⟩ ⟨Nat.le_of_ble_eq_true rfl, Nat.le_of_ble_eq_true rfl⟩, (htx _ kw_6_157), (htx _ kp_M_kid)⟩ ⟨xPre_blind, va_recv hK hP (ci := 5) rfl (q0 := 0) rfl, (fun U hU hW => ⟨rfl, xPre_of hZ hS hFc hP hD hK U hU hW⟩)⟩ rfl rfl hl.1 rfl (xm_room (Nat.le_of_ble_eq_true rfl)) dM_implode_17 ⟨hm5.1, hm5.2⟩) hS (fun q _ h => hFc q h) hFc (fun r16 u9 t H1 locs ht hvm hr9 hB hz1 hk1 hS => ?_)
          obtain ⟨hP1, hK1, hD1⟩ := hB
          rw [ht] at hP1
          have hP : va_P D xcl (xMw cT aM ad7 rd gd8 vad9 o1.2.2.2.2 []) H1 := hP1
          have hD : va_D A (xMw cT aM ad7 rd gd8 vad9 o1.2.2.2.2 []) := hD1.weaken (fun k q _ h => hFc q.1 h)
          generalize H1 = H at hP hS ⊢
          rw [hr9]
          refine W.eq (g2 := F0 m 20 ls [xv vad9 o14]) (by first | rfl | (skip; rfl)) ?_
          obtain ⟨hg17, hf⟩ := xifn hf
          refine xm_vget (v := .int ((xpi o1.2.2.2.2 0) (o14 - 1))) hx hb htx hown hK hP 0 (by decide) hg17 rfl ((hZ.1 (93, "kind", "I") (List.mem_of_getElem? (i := 0) rfl)).use rfl) rfl dM_implode_20 ?_
          refine lv_iconst (v := 3) hx hb dM_implode_23 (by decide) ?_
          refine lv_icmp_eq (tgt := 33) hx hb dM_implode_24 (by decide) (fun hc => ?_) (fun hc => ?_)
          · rw [if_pos hc] at hf
            refine lv_iinc (v := (y2 + 1)) (lv' := [(2, .int (y2 + 1)), (0, .ref aM), (1, xv vad9 y1)]) hx hb dM_implode_33 hl (k := 0) rfl rfl (by decide) (by simp only [List.filter, xvcat, xrscat, xcI, xcL, xcR, xcN]; rfl) (fun ls hl => ?_)
            refine lv_goto (tgt := 2) hx hb dM_implode_36 (by decide) ?_
            exact ih (1, (y2 + 1), y1, 0, o1.2.2.2.2, (wc + o1.2.1), (wn + o1.2.2.1)) _ _ ls (Or.inl ⟨ad7, gd8, vad9, rfl, hf, hP, hD, hS, lv_sub hl [0, 1, 2] rfl, hE, hN⟩)
          · rw [if_neg hc] at hf
            refine lv_aload_n hx hb dM_implode_27 rfl (lv_at hl 1 rfl) ?_
            refine lv_iconst (v := 1) hx hb dM_implode_28 (by decide) ?_
            obtain ⟨o18, hq19, hf⟩ := xbind hf
            have hl := lv_sub (l' := [(2, .int y2), (0, .ref aM)]) hl [0, 1] rfl
            by_cases hk20 : o18.1 = 1
            · rw [if_pos hk20] at hf
              obtain ⟨hm21, hf⟩ := xmoE hf
              obtain rfl := Option.some.inj hf
              exact absurd (show (1 : Nat) = 2 from hkd) (by decide)
            rw [if_neg hk20] at hf
            exact nomatch hf
      rw [if_neg hk3] at hf
      by_cases hk14 : o1.1 = 1
      · rw [if_pos hk14] at hf
        obtain ⟨hg15, hf⟩ := xifn hf
        obtain ⟨hm16, hf⟩ := xmoE hf
        obtain rfl := Option.some.inj hf
        exact absurd (show (1 : Nat) = 2 from hkd) (by decide)
      rw [if_neg hk14] at hf
      exact nomatch hf
    · subst hj
      have hf : fM_implode_b (n + 1) 2 y2 y1 y3 ws9 wc wn = some out := hf
      rw [fM_implode_b, if_neg (by decide), if_pos rfl] at hf
      obtain ⟨hP, hD⟩ : xPD D xcl A (xMw cT aM adL rd gdL vadL ws9 []) H := ⟨hP, hD⟩
      have hl : lv_has ls 4 [(2, .int y2), (0, .ref aM), (1, xv vadL y1)] := hl
      refine W.eq (g2 := F0 m 41 ls []) rfl ?_
      show W p l e _ s m _ below meth c H locs wc wn _ _
      obtain ⟨hm0, hf⟩ := xmoE hf
      refine lv_iload_n hx hb dM_implode_41 rfl (lv_at hl 0 rfl) ?_
      refine xm_aload_n hx hb (xvor _ _) dM_implode_42 rfl (lv_at hl 2 rfl) ?_
      obtain ⟨hg1, hf⟩ := xifn hf
      refine xm_vget (v := .int ((xpi ws9 3) (y1 - 1))) hx hb htx hown hK hP 3 (by decide) hg1 rfl ((hZ.1 (103, "count", "I") (List.mem_of_getElem? (i := 3) rfl)).use rfl) rfl dM_implode_43 ?_
      refine lv_icmp_ge (tgt := 91) hx hb dM_implode_46 (by decide) (fun hc => ?_) (fun hc => ?_)
      · rw [if_pos hc] at hf
        refine lv_aload_n hx hb dM_implode_91 rfl (lv_at hl 1 rfl) ?_
        refine xm_get (v := .int (xsi ws9 4)) hx hb htx hown hK hP 4 (by decide) rfl (htx _ kw_5_91) rfl dM_implode_92 ?_
        refine lv_istore_n (lv' := [(2, .int (xsi ws9 4)), (0, .ref aM), (1, xv vadL y1)]) hx hb dM_implode_95 rfl hl (by decide) (by simp only [List.filter, xvcat, xrscat, xcI, xcL, xcR, xcN]; rfl) (fun ls hl => ?_)
        refine lv_iconst (v := 0) hx hb dM_implode_96 (by decide) ?_
        refine lv_istore_n (lv' := [(3, .int 0), (2, .int (xsi ws9 4)), (0, .ref aM), (1, xv vadL y1)]) hx hb dM_implode_97 rfl hl (by decide) rfl (fun ls hl => ?_)
        exact ih (3, (xsi ws9 4), y1, (0 : Int32), ws9, wc, wn) _ _ ls (Or.inr (Or.inr (⟨adL, gdL, vadL, rfl, hf, hP, hD, hS, lv_sub hl [0, 1, 2, 3] rfl, hE, hN⟩)))
      · rw [if_neg hc] at hf
        refine lv_aload_n hx hb dM_implode_49 rfl (lv_at hl 1 rfl) ?_
        refine xm_aload_n hx hb (xvor _ _) dM_implode_50 rfl (lv_at hl 2 rfl) ?_
        refine lv_iload_n hx hb dM_implode_51 rfl (lv_at hl 0 rfl) ?_
        obtain ⟨o2, hq3, hf⟩ := xbind hf
        have hFc := xm_free hD hS hA
        refine va_callq (va_runV (C := "ValueBenchModel") (As := [xv vadL y1, .int y2]) (rest := []) ⟨hx, hb, hml, hown, htx⟩ (gM_kid l hl9 D cT aK aV H.size n aM adL rd gdL vadL ws9 y1 y2 o2 hq3) ⟨callB_of 2 htx (xw_goodC kw_6_158) rfl rfl rfl (htx _ kw_1_5) (htx _ kw_6_155) ⟨by decide, by decide, by decide +kernel⟩ ⟨Nat.le_of_ble_eq_true rfl, Nat.le_of_ble_eq_true rfl⟩, (htx _ kw_6_157), (htx _ kp_M_kid)⟩ ⟨xPre_blind, va_recv hK hP (ci := 5) rfl (q0 := 0) rfl, (fun U hU hW => ⟨rfl, xPre_of hZ hS hFc hP hD hK U hU hW⟩)⟩ rfl rfl hl.1 rfl (xm_room (Nat.le_of_ble_eq_true rfl)) dM_implode_52 ⟨hm0.1, hm0.2⟩) hS (fun q _ h => hFc q h) hFc (fun r4 u9 t H1 locs ht hvm hr9 hB hz1 hk1 hS => ?_)
        obtain ⟨hP1, hK1, hD1⟩ := hB
        rw [ht] at hP1
        have hP : va_P D xcl (xMw cT aM adL rd gdL vadL ws9 []) H1 := hP1
        have hD : va_D A (xMw cT aM adL rd gdL vadL ws9 []) := hD1.weaken (fun k q _ h => hFc q.1 h)
        generalize H1 = H at hP hS ⊢
        rw [hr9]
        refine W.eq (g2 := F0 m 55 ls [xv vadL o2]) (by first | rfl | (skip; rfl)) ?_
        obtain ⟨hg5, hf⟩ := xifn hf
        refine xm_vget (v := .long ((xpl ws9) (o2 - 1))) hx hb htx hown hK hP 1 (by decide) hg5 rfl ((hZ.1 (96, "n", "J") (List.mem_of_getElem? (i := 1) rfl)).use rfl) rfl dM_implode_55 ?_
        refine lv_lconst (v := 0) hx hb dM_implode_58 (by decide) ?_
        refine W.lcmp hx hb dM_implode_59 ?_
        refine lv_if_lt (tgt := 79) hx hb dM_implode_60 (by decide) (fun hc => ?_) (fun hc => ?_)
        · rw [if_pos hc] at hf
          refine lv_aload_n hx hb dM_implode_79 rfl (lv_at hl 1 rfl) ?_
          refine lv_iconst (v := 2) hx hb dM_implode_80 (by decide) ?_
          obtain ⟨o6, hq7, hf⟩ := xbind hf
          have hl := lv_sub (l' := [(2, .int y2), (0, .ref aM)]) hl [0, 1] rfl
          by_cases hk8 : o6.1 = 1
          · rw [if_pos hk8] at hf
            obtain ⟨hm9, hf⟩ := xmoE hf
            obtain rfl := Option.some.inj hf
            exact absurd (show (1 : Nat) = 2 from hkd) (by decide)
          rw [if_neg hk8] at hf
          exact nomatch hf
        · rw [if_neg hc] at hf
          refine lv_aload_n hx hb dM_implode_63 rfl (lv_at hl 1 rfl) ?_
          refine xm_aload_n hx hb (xvor _ _) dM_implode_64 rfl (lv_at hl 2 rfl) ?_
          refine lv_iload_n hx hb dM_implode_65 rfl (lv_at hl 0 rfl) ?_
          obtain ⟨o6, hq7, hf⟩ := xbind hf
          have hFc := xm_free hD hS hA
          refine va_callq (va_runV (C := "ValueBenchModel") (As := [xv vadL y1, .int y2]) (rest := []) ⟨hx, hb, hml, hown, htx⟩ (gM_kid l hl9 D cT aK aV H.size n aM adL rd gdL vadL ws9 y1 y2 o6 hq7) ⟨callB_of 2 htx (xw_goodC kw_6_158) rfl rfl rfl (htx _ kw_1_5) (htx _ kw_6_155) ⟨by decide, by decide, by decide +kernel⟩ ⟨Nat.le_of_ble_eq_true rfl, Nat.le_of_ble_eq_true rfl⟩, (htx _ kw_6_157), (htx _ kp_M_kid)⟩ ⟨xPre_blind, va_recv hK hP (ci := 5) rfl (q0 := 0) rfl, (fun U hU hW => ⟨rfl, xPre_of hZ hS hFc hP hD hK U hU hW⟩)⟩ rfl rfl hl.1 rfl (xm_room (Nat.le_of_ble_eq_true rfl)) dM_implode_66 ⟨hm0.1, hm0.2⟩) hS (fun q _ h => hFc q h) hFc (fun r8 u9 t H1 locs ht hvm hr9 hB hz1 hk1 hS => ?_)
          obtain ⟨hP1, hK1, hD1⟩ := hB
          rw [ht] at hP1
          have hP : va_P D xcl (xMw cT aM adL rd gdL vadL ws9 []) H1 := hP1
          have hD : va_D A (xMw cT aM adL rd gdL vadL ws9 []) := hD1.weaken (fun k q _ h => hFc q.1 h)
          generalize H1 = H at hP hS ⊢
          rw [hr9]
          refine W.eq (g2 := F0 m 69 ls [xv vadL o6]) (by first | rfl | (skip; rfl)) ?_
          obtain ⟨hg9, hf⟩ := xifn hf
          refine xm_vget (v := .long ((xpl ws9) (o6 - 1))) hx hb htx hown hK hP 1 (by decide) hg9 rfl ((hZ.1 (96, "n", "J") (List.mem_of_getElem? (i := 1) rfl)).use rfl) rfl dM_implode_69 ?_
          refine lv_ldc2 hx hb hown (htx _ kw_7_71) dM_implode_72 ?_
          refine W.lcmp hx hb dM_implode_75 ?_
          refine lv_if_le (tgt := 85) hx hb dM_implode_76 (by decide) (fun hc => ?_) (fun hc => ?_)
          · rw [if_pos hc] at hf
            refine lv_iinc (v := (y2 + 1)) (lv' := [(2, .int (y2 + 1)), (0, .ref aM), (1, xv vadL y1)]) hx hb dM_implode_85 hl (k := 0) rfl rfl (by decide) (by simp only [List.filter, xvcat, xrscat, xcI, xcL, xcR, xcN]; rfl) (fun ls hl => ?_)
            refine lv_goto (tgt := 41) hx hb dM_implode_88 (by decide) ?_
            exact ih (2, (y2 + 1), y1, 0, ws9, wc, wn) _ _ ls (Or.inr (Or.inl ⟨adL, gdL, vadL, rfl, hf, hP, hD, hS, lv_sub hl [0, 1, 2] rfl, hE, hN⟩))
          · rw [if_neg hc] at hf
            refine lv_aload_n hx hb dM_implode_79 rfl (lv_at hl 1 rfl) ?_
            refine lv_iconst (v := 2) hx hb dM_implode_80 (by decide) ?_
            obtain ⟨o10, hq11, hf⟩ := xbind hf
            have hl := lv_sub (l' := [(2, .int y2), (0, .ref aM)]) hl [0, 1] rfl
            by_cases hk12 : o10.1 = 1
            · rw [if_pos hk12] at hf
              obtain ⟨hm13, hf⟩ := xmoE hf
              obtain rfl := Option.some.inj hf
              exact absurd (show (1 : Nat) = 2 from hkd) (by decide)
            rw [if_neg hk12] at hf
            exact nomatch hf
    · subst hj
      have hf : fM_implode_b (n + 1) 3 y2 y1 y3 ws9 wc wn = some out := hf
      rw [fM_implode_b, if_neg (by decide), if_neg (by decide)] at hf
      obtain ⟨hP, hD⟩ : xPD D xcl A (xMw cT aM adL rd gdL vadL ws9 []) H := ⟨hP, hD⟩
      have hl : lv_has ls 4 [(3, .int y3), (2, .int y2), (0, .ref aM), (1, xv vadL y1)] := hl
      refine W.eq (g2 := F0 m 98 ls []) rfl ?_
      show W p l e _ s m _ below meth c H locs wc wn _ _
      obtain ⟨hm0, hf⟩ := xmoE hf
      refine lv_iload_n hx hb dM_implode_98 rfl (lv_at hl 0 rfl) ?_
      refine xm_aload_n hx hb (xvor _ _) dM_implode_99 rfl (lv_at hl 3 rfl) ?_
      obtain ⟨hg1, hf⟩ := xifn hf
      refine xm_vget (v := .int ((xpi ws9 3) (y1 - 1))) hx hb htx hown hK hP 3 (by decide) hg1 rfl ((hZ.1 (103, "count", "I") (List.mem_of_getElem? (i := 3) rfl)).use rfl) rfl dM_implode_100 ?_
      refine lv_icmp_ge (tgt := 126) hx hb dM_implode_103 (by decide) (fun hc => ?_) (fun hc => ?_)
      · rw [if_pos hc] at hf
        refine lv_aload_n hx hb dM_implode_126 rfl (lv_at hl 2 rfl) ?_
        refine lv_iload_n hx hb dM_implode_127 rfl (lv_at hl 1 rfl) ?_
        obtain ⟨o2, hq3, hf⟩ := xbind hf
        have hl := lv_sub (l' := [(3, .int y3), (2, .int y2), (0, .ref aM)]) hl [0, 1, 2] rfl
        by_cases hk4 : o2.1 = 0
        · rw [if_pos hk4] at hf
          obtain ⟨hm5, hf⟩ := xmoE hf
          have hFc := xm_free hD hS hA
          refine va_callq (va_runV (C := "ValueBenchModel") (As := [.int y2]) (rest := []) ⟨hx, hb, hml, hown, htx⟩ (gM_string l hl9 D cT aK aV H.size n aM adL rd gdL vadL ws9 y2 o2 hq3 hk4) ⟨callB_of 1 htx (xw_goodC kw_6_61) rfl rfl rfl (htx _ kw_1_5) (htx _ kw_6_58) ⟨by decide, by decide, by decide +kernel⟩ ⟨Nat.le_of_ble_eq_true rfl, Nat.le_of_ble_eq_true rfl⟩, (htx _ kw_6_60), (htx _ kp_M_string)⟩ ⟨xPre_blind, va_recv hK hP (ci := 5) rfl (q0 := 0) rfl, (fun U hU hW => ⟨rfl, xPre_of hZ hS hFc hP hD hK U hU hW⟩)⟩ rfl rfl hl.1 rfl (xm_room (Nat.le_of_ble_eq_true rfl)) dM_implode_128 ⟨hm5.1, hm5.2⟩) hS (fun q _ h => hFc q h) hFc (fun r6 u9 t H1 locs ht hvm hr9 hB hz1 hk1 hS => ?_)
          obtain ⟨hP1, hK1, hD1⟩ := hB
          rw [ht] at hP1
          obtain ⟨ad7, gd8, vad9⟩ := u9
          obtain ⟨hr9, hv10, hn11⟩ := hr9
          have hP : va_P D xcl (xMw cT aM ad7 rd gd8 vad9 o2.2.2.2.2 []) H1 := hP1
          have hD : va_D A (xMw cT aM ad7 rd gd8 vad9 o2.2.2.2.2 []) := hD1.weaken (fun k q _ h => hFc q.1 h)
          generalize H1 = H at hP hS ⊢
          have hE9 : ∀ p, p < xct st → vad9 p = vad p := fun p h => (hv10 p (Nat.lt_of_lt_of_le h hN)).trans (hE p h)
          have hE := hE9
          have hN : xct st ≤ xct o2.2.2.2.2 := Nat.le_trans hN hn11
          rw [hr9]
          refine W.eq (g2 := F0 m 131 ls [xv vad9 o2.2.2.2.1]) (by first | rfl | (skip; rfl)) ?_
          obtain rfl := Option.some.inj hf
          exact absurd (show (0 : Nat) = 2 from hkd) (by decide)
        rw [if_neg hk4] at hf
        by_cases hk12 : o2.1 = 1
        · rw [if_pos hk12] at hf
          obtain ⟨hm13, hf⟩ := xmoE hf
          have hFc := xm_free hD hS hA
          refine xx_thr (vx_runV (C := "ValueBenchModel") (As := [.int y2]) (rest := []) ⟨hx, hb, hml, hown, htx⟩ (gM_string_1 l hl9 D cT aK aV H.size n aM adL rd gdL vadL ws9 y2 o2 hq3 hk12) ⟨callB_of 1 htx (xw_goodC kw_6_61) rfl rfl rfl (htx _ kw_1_5) (htx _ kw_6_58) ⟨by decide, by decide, by decide +kernel⟩ ⟨Nat.le_of_ble_eq_true rfl, Nat.le_of_ble_eq_true rfl⟩, (htx _ kw_6_60), (htx _ kp_M_string)⟩ ⟨xPre_blind, va_recv hK hP (ci := 5) rfl (q0 := 0) rfl, (fun U hU hW => ⟨rfl, xPre_of hZ hS hFc hP hD hK U hU hW⟩)⟩ rfl rfl hl.1 rfl (xm_room (Nat.le_of_ble_eq_true rfl)) dM_implode_128 ⟨hm13.1, hm13.2⟩) hS hFc (fun q _ h => hFc q h) (fun E ce q9 u9 t H1 locs ht hvm hr9 hB hz1 hk1 hS hce hcv hcl => ?_)
          obtain ⟨rfl, hP1, hK1, hD1⟩ := hB
          rw [ht] at hP1
          obtain ⟨ad15, gd16, vad17⟩ := u9
          obtain ⟨hv18, hn19⟩ := hr9
          have hP : va_P D xcl (xMw cT aM ad15 rd gd16 vad17 o2.2.2.2.2 []) H1 := hP1
          have hD : va_D A (xMw cT aM ad15 rd gd16 vad17 o2.2.2.2.2 []) := hD1.weaken (fun k q _ h => hFc q.1 h)
          generalize H1 = H at hP hS hce ⊢
          have hE9 : ∀ p, p < xct st → vad17 p = vad p := fun p h => (hv18 p (Nat.lt_of_lt_of_le h hN)).trans (hE p h)
          have hE := hE9
          have hN : xct st ≤ xct o2.2.2.2.2 := Nat.le_trans hN hn19
          obtain rfl := Option.some.inj hf
          exact vx_out (E := "java/lang/IndexOutOfBoundsException") (fun x h => (hne x h).elim) hlocks hce hcv hcl (fun t ht ha => ⟨(ad15, gd16, vad17), ⟨hE, hN⟩, ⟨rfl, by rw [ht]; exact hP, va_K.moved ha hK, hD⟩, hS.F ht⟩) hS.2.2 (Nat.le_refl _) (Nat.le_refl _)
        rw [if_neg hk12] at hf
        exact nomatch hf
      · rw [if_neg hc] at hf
        refine lv_aload_n hx hb dM_implode_106 rfl (lv_at hl 2 rfl) ?_
        refine lv_aload_n hx hb dM_implode_107 rfl (lv_at hl 2 rfl) ?_
        refine xm_aload_n hx hb (xvor _ _) dM_implode_108 rfl (lv_at hl 3 rfl) ?_
        refine lv_iload_n hx hb dM_implode_109 rfl (lv_at hl 0 rfl) ?_
        obtain ⟨o2, hq3, hf⟩ := xbind hf
        have hFc := xm_free hD hS hA
        refine va_callq (va_runV (C := "ValueBenchModel") (As := [xv vadL y1, .int y3]) (rest := [.ref aM]) ⟨hx, hb, hml, hown, htx⟩ (gM_kid l hl9 D cT aK aV H.size n aM adL rd gdL vadL ws9 y1 y3 o2 hq3) ⟨callB_of 2 htx (xw_goodC kw_6_158) rfl rfl rfl (htx _ kw_1_5) (htx _ kw_6_155) ⟨by decide, by decide, by decide +kernel⟩ ⟨Nat.le_of_ble_eq_true rfl, Nat.le_of_ble_eq_true rfl⟩, (htx _ kw_6_157), (htx _ kp_M_kid)⟩ ⟨xPre_blind, va_recv hK hP (ci := 5) rfl (q0 := 0) rfl, (fun U hU hW => ⟨rfl, xPre_of hZ hS hFc hP hD hK U hU hW⟩)⟩ rfl rfl hl.1 rfl (xm_room (Nat.le_of_ble_eq_true rfl)) dM_implode_110 ⟨hm0.1, hm0.2⟩) hS (fun q _ h => hFc q h) hFc (fun r4 u9 t H1 locs ht hvm hr9 hB hz1 hk1 hS => ?_)
        obtain ⟨hP1, hK1, hD1⟩ := hB
        rw [ht] at hP1
        have hP : va_P D xcl (xMw cT aM adL rd gdL vadL ws9 []) H1 := hP1
        have hD : va_D A (xMw cT aM adL rd gdL vadL ws9 []) := hD1.weaken (fun k q _ h => hFc q.1 h)
        generalize H1 = H at hP hS ⊢
        rw [hr9]
        refine W.eq (g2 := F0 m 113 ls [xv vadL o2, .ref aM]) (by first | rfl | (skip; rfl)) ?_
        obtain ⟨hg5, hf⟩ := xifn hf
        refine xm_vget (v := .long ((xpl ws9) (o2 - 1))) hx hb htx hown hK hP 1 (by decide) hg5 rfl ((hZ.1 (96, "n", "J") (List.mem_of_getElem? (i := 1) rfl)).use rfl) rfl dM_implode_113 ?_
        refine lv_l2i hx hb dM_implode_116 rfl ?_
        obtain ⟨o6, hq7, hf⟩ := xbind hf
        obtain ⟨hm8, hf⟩ := xmoE hf
        have hFc := xm_free hD hS hA
        refine va_callv (va_runV (C := "ValueBenchModel") (As := [.int ((xpl ws9) (o2 - 1)).toInt32]) (rest := []) ⟨hx, hb, hml, hown, htx⟩ (gM_letter l hl9 D cT aK aV H.size n aM adL rd gdL vadL ws9 (((xpl ws9) (o2 - 1)).toInt32) o6 hq7) ⟨callB_of 1 htx (xw_goodC kw_6_54) rfl rfl rfl (htx _ kw_1_5) (htx _ kw_6_51) ⟨by decide, by decide, by decide +kernel⟩ ⟨Nat.le_of_ble_eq_true rfl, Nat.le_of_ble_eq_true rfl⟩, (htx _ kw_6_53), (htx _ kp_M_letter)⟩ ⟨xPre_blind, va_recv hK hP (ci := 5) rfl (q0 := 0) rfl, (fun U hU hW => ⟨rfl, xPre_of hZ hS hFc hP hD hK U hU hW⟩)⟩ rfl rfl hl.1 rfl (xm_room (Nat.le_of_ble_eq_true rfl)) dM_implode_117 ⟨hm8.1, hm8.2⟩) hS (fun q _ h => hFc q h) hFc (fun u9 t H1 locs ht hvm hr9 hB hz1 hk1 hS => ?_)
        obtain ⟨hP1, hK1, hD1⟩ := hB
        rw [ht] at hP1
        obtain ⟨ad10, gd11, vad12⟩ := u9
        obtain ⟨hv13, hn14⟩ := hr9
        have hP : va_P D xcl (xMw cT aM ad10 rd gd11 vad12 o6.2.2 []) H1 := hP1
        have hD : va_D A (xMw cT aM ad10 rd gd11 vad12 o6.2.2 []) := hD1.weaken (fun k q _ h => hFc q.1 h)
        generalize H1 = H at hP hS ⊢
        have hE9 : ∀ p, p < xct st → vad12 p = vad p := fun p h => (hv13 p (Nat.lt_of_lt_of_le h hN)).trans (hE p h)
        have hE := hE9
        have hN : xct st ≤ xct o6.2.2 := Nat.le_trans hN hn14
        have ev15 : xv vadL y1 = xv vad12 y1 := xvE hv13 (fun h => hg1 (Or.inr h))
        have hl : lv_has ls 4 [(3, .int y3), (2, .int y2), (0, .ref aM), (1, xv vad12 y1)] := by first | exact hl | ((try (rw [← ev15])); exact hl)
        refine W.eq (g2 := F0 m 120 ls []) (by first | rfl | ((try (rw [ev15])); rfl)) ?_
        refine lv_iinc (v := (y3 + 1)) (lv' := [(3, .int (y3 + 1)), (2, .int y2), (0, .ref aM), (1, xv vad12 y1)]) hx hb dM_implode_120 hl (k := 0) rfl rfl (by decide) rfl (fun ls hl => ?_)
        refine lv_goto (tgt := 98) hx hb dM_implode_123 (by decide) ?_
        exact ih (3, y2, y1, (y3 + 1), o6.2.2, (wc + o6.1), (wn + o6.2.1)) _ _ ls (Or.inr (Or.inr (⟨ad10, gd11, vad12, rfl, hf, hP, hD, hS, lv_sub hl [0, 1, 2, 3] rfl, hE, hN⟩)))
  refine lv_iconst (v := 0) hx hb dM_implode_0 (by decide) ?_
  refine lv_istore_n (lv' := [(2, .int 0), (0, .ref aM), (1, xv vad c0)]) hx hb dM_implode_1 rfl hl (by decide) (by simp only [List.filter, xvcat, xrscat, xcI, xcL, xcR, xcN]; rfl) (fun ls hl => ?_)
  exact key n (1, (0 : Int32), c0, 0, st, 0, 0) _ _ ls (Or.inl ⟨ad, gd, vad, rfl, hf, hP, hD, hS, lv_sub hl [0, 1, 2] rfl, hE, hN⟩)
