set_option maxHeartbeats 400000000 in
set_option maxRecDepth 100000 in
theorem gM_finish (l : Launch) (hl9 : l.stackTraces = false) (D : va_G) (cT : Nat → ClassId) (aK aV : Nat → Nat) (sz d n : Nat) (aM : Nat) (ad rd gd vad : Nat → Nat) (st : xS) (x0 : Int32) (x1 : Int32) (x2 : Int32) (x3 : Int32) (x4 : Int32) (out : Nat × Nat × xS) (hf : fM_finish d n st x0 x1 x2 x3 x4 = some out) : xMet l yM_finish wyM_finish (16 * d + 12) out.1 out.2.1 (400 * d + 246) D cT aK aV sz [.ref aM, .int x0, .int x1, .int x2, .int x3, .int x4] (xMw cT aM ad rd gd vad st []) (fun A => va_Qv (fun u : xU => xE vad st out.2.2 u) (fun u t => xB D xcl cT A (xMw cT aM u.1 rd u.2.1 u.2.2 out.2.2 []) t) A) := by
  refine va_MetW (cc := prog_13_method_90_code) (maxL := 10) (ret := none) (hh := [(0, 128, 131, 83), (0, 128, 149, 86)]) (by decide) rfl ?_
  intro p e s m args below meth c s₁ B hml hv
  obtain ⟨rfl, hsz, hZ, hP, hK, hD0⟩ := hv
  have hx := B.exec
  have hb := B.bytes
  have hr := B.returns
  have hts := atoms_spec (ws := wyM_finish) B.pre
  have htx := fun w h => hts w (List.mem_cons_of_mem _ h)
  have hown : s.vm.findClass "ValueBenchModel" = some m.cls := findClass_of_methodNamed B.named
  have hlocks := B.notSynchronized
  subst hsz
  have hD := hD0.self (sz := s.heap.size)
  generalize hAe : va_A (xMw cT aM ad rd gd vad st []) s.heap.size = A at hD hZ ⊢
  have hA : ∀ q : Nat, s.heap.size ≤ q → A q := fun q h => by rw [← hAe]; exact Or.inr h
  have hS : va_S A s.heap s.heap [] := va_S.rf
  have hl := lv_entry ([.ref aM, .int x0, .int x1, .int x2, .int x3, .int x4]) (n := 10) (by simp [lg_sl, xvcat, xrscat, xcI, xcL, xcR, xcN])
  rw [show lv_args 0 [.ref aM, .int x0, .int x1, .int x2, .int x3, .int x4] = [(0, .ref aM), (1, .int x0), (2, .int x1), (3, .int x2), (4, .int x3), (5, .int x4)] from by simp [lv_args, xvcat, xrscat, xcI, xcL, xcR, xcN]] at hl
  rw [lg_entry_eq]
  generalize (lg_sl ([.ref aM, .int x0, .int x1, .int x2, .int x3, .int x4]) ++ List.replicate (10 - (lg_sl ([.ref aM, .int x0, .int x1, .int x2, .int x3, .int x4])).length) Slot.unset).toArray = ls at hl ⊢
  have hl : lv_has ls 10 [(0, .ref aM), (1, .int x0), (2, .int x1), (3, .int x2), (4, .int x3), (5, .int x4)] := hl
  have htab := vx_table (x := yM_finish) B (hts _ List.mem_cons_self)
  have hE : ∀ p, p < xct st → vad p = vad p := fun _ _ => rfl
  have hN : xct st ≤ xct st := Nat.le_refl _
  unfold fM_finish at hf
  refine lv_aload_n hx hb dM_finish_0 rfl (lv_at hl 0 rfl) ?_
  refine lv_iload hx hb dM_finish_1 (lv_at hl 4 rfl) ?_
  obtain ⟨o1, hq2, hf⟩ := xbind hf
  by_cases hk3 : o1.1 = 0
  · rw [if_pos hk3] at hf
    obtain ⟨hm4, hf⟩ := xmoE hf
    have hFc := xm_free hD hS hA
    refine va_callq (va_runV (C := "ValueBenchModel") (As := [.int x3]) (rest := []) ⟨hx, hb, hml, hown, htx⟩ (gM_register l hl9 D cT aK aV s.heap.size d n aM ad rd gd vad st x3 o1 hq2 hk3) ⟨callB_of 1 htx (xw_goodC kw_6_170) rfl rfl rfl (htx _ kw_1_5) (htx _ kw_6_167) ⟨by decide, by decide, by decide +kernel⟩ ⟨(by show (16 * d + 8) + 1 ≤ 16 * d + 12; omega), (by show 8 + (2 + 11) + (400 * d + 145) ≤ 400 * d + 246; omega)⟩, (htx _ kw_6_169), (htx _ kp_M_register)⟩ ⟨xPre_blind, va_recv hK hP (ci := 5) rfl (q0 := 0) rfl, (fun U hU hW => ⟨rfl, xPre_of hZ hS hFc hP hD hK U hU hW⟩)⟩ rfl rfl hl.1 rfl (xm_room (Nat.le_of_ble_eq_true rfl)) dM_finish_3 ⟨hm4.1, hm4.2⟩) hS (fun q _ h => hFc q h) hFc (fun r5 u9 t H1 locs ht hvm hr9 hB hz1 hk1 hS => ?_)
    obtain ⟨hP1, hK1, hD1⟩ := hB
    rw [ht] at hP1
    obtain ⟨ad6, gd7, vad8⟩ := u9
    obtain ⟨hr9, hv9, hn10⟩ := hr9
    have hP : va_P D xcl (xMw cT aM ad6 rd gd7 vad8 o1.2.2.2.2 []) H1 := hP1
    have hD : va_D A (xMw cT aM ad6 rd gd7 vad8 o1.2.2.2.2 []) := hD1.weaken (fun k q _ h => hFc q.1 h)
    generalize H1 = H at hP hS ⊢
    have hE9 : ∀ p, p < xct st → vad8 p = vad p := fun p h => (hv9 p (Nat.lt_of_lt_of_le h hN)).trans (hE p h)
    have hE := hE9
    have hN : xct st ≤ xct o1.2.2.2.2 := Nat.le_trans hN hn10
    rw [hr9]
    refine W.eq (g2 := F0 m 6 ls [xv vad8 o1.2.2.2.1]) (by first | rfl | (skip; rfl)) ?_
    refine xm_astore (lv' := [(6, xv vad8 o1.2.2.2.1), (0, .ref aM), (1, .int x0), (2, .int x1), (3, .int x2), (4, .int x3), (5, .int x4)]) hx hb (xvor _ _) dM_finish_6 hl (by decide) rfl (fun ls hl => ?_)
    refine lv_iload_n hx hb dM_finish_8 rfl (lv_at hl 3 rfl) ?_
    refine lv_iconst (v := 1) hx hb dM_finish_9 (by decide) ?_
    refine lv_icmp_ne (tgt := 17) hx hb dM_finish_10 (by decide) (fun hc => ?_) (fun hc => ?_)
    · rw [if_neg hc] at hf
      refine lv_aload_n hx hb dM_finish_17 rfl (lv_at hl 1 rfl) ?_
      refine lv_iload hx hb dM_finish_18 (lv_at hl 6 rfl) ?_
      obtain ⟨o11, hq12, hf⟩ := xbind hf
      by_cases hk13 : o11.1 = 0
      · rw [if_pos hk13] at hf
        obtain ⟨hg14, hf⟩ := xifn hf
        obtain ⟨hm15, hf⟩ := xmoE hf
        have hFc := xm_free hD hS hA
        refine va_callq (va_runV (C := "ValueBenchModel") (As := [.int x4]) (rest := []) ⟨hx, hb, hml, hown, htx⟩ (gM_register l hl9 D cT aK aV H.size d n aM ad6 rd gd7 vad8 o1.2.2.2.2 x4 o11 hq12 hk13) ⟨callB_of 1 htx (xw_goodC kw_6_170) rfl rfl rfl (htx _ kw_1_5) (htx _ kw_6_167) ⟨by decide, by decide, by decide +kernel⟩ ⟨(by show (16 * d + 8) + 1 ≤ 16 * d + 12; omega), (by show 8 + (2 + 11) + (400 * d + 145) ≤ 400 * d + 246; omega)⟩, (htx _ kw_6_169), (htx _ kp_M_register)⟩ ⟨xPre_blind, va_recv hK hP (ci := 5) rfl (q0 := 0) rfl, (fun U hU hW => ⟨rfl, xPre_of hZ hS hFc hP hD hK U hU hW⟩)⟩ rfl rfl hl.1 rfl (xm_room (Nat.le_of_ble_eq_true rfl)) dM_finish_20 ⟨hm15.1, hm15.2⟩) hS (fun q _ h => hFc q h) hFc (fun r16 u9 t H1 locs ht hvm hr9 hB hz1 hk1 hS => ?_)
        obtain ⟨hP1, hK1, hD1⟩ := hB
        rw [ht] at hP1
        obtain ⟨ad17, gd18, vad19⟩ := u9
        obtain ⟨hr9, hv20, hn21⟩ := hr9
        have hP : va_P D xcl (xMw cT aM ad17 rd gd18 vad19 o11.2.2.2.2 []) H1 := hP1
        have hD : va_D A (xMw cT aM ad17 rd gd18 vad19 o11.2.2.2.2 []) := hD1.weaken (fun k q _ h => hFc q.1 h)
        generalize H1 = H at hP hS ⊢
        have hE9 : ∀ p, p < xct st → vad19 p = vad p := fun p h => (hv20 p (Nat.lt_of_lt_of_le h hN)).trans (hE p h)
        have hE := hE9
        have hN : xct st ≤ xct o11.2.2.2.2 := Nat.le_trans hN hn21
        have ev22 : xv vad8 o1.2.2.2.1 = xv vad19 o1.2.2.2.1 := xvE hv20 hg14
        have hl : lv_has ls 10 [(6, xv vad19 o1.2.2.2.1), (0, .ref aM), (1, .int x0), (2, .int x1), (3, .int x2), (4, .int x3), (5, .int x4)] := by first | exact hl | ((try (rw [← ev22])); exact hl)
        rw [hr9]
        refine W.eq (g2 := F0 m 23 ls [xv vad19 o11.2.2.2.1]) (by first | rfl | ((try (rw [ev22])); rfl)) ?_
        refine xm_astore (lv' := [(7, xv vad19 o11.2.2.2.1), (6, xv vad19 o1.2.2.2.1), (0, .ref aM), (1, .int x0), (2, .int x1), (3, .int x2), (4, .int x3), (5, .int x4)]) hx hb (xvor _ _) dM_finish_23 hl (by decide) (by simp only [List.filter, xvcat, xrscat, xcI, xcL, xcR, xcN]; rfl) (fun ls hl => ?_)
        refine lv_iload_n hx hb dM_finish_25 rfl (lv_at hl 4 rfl) ?_
        refine lv_if_ne (tgt := 43) hx hb dM_finish_26 (by decide) (fun hc => ?_) (fun hc => ?_)
        · rw [if_neg hc] at hf
          refine lv_iload_n hx hb dM_finish_43 rfl (lv_at hl 4 rfl) ?_
          refine lv_iconst (v := 1) hx hb dM_finish_44 (by decide) ?_
          refine lv_icmp_ne (tgt := 60) hx hb dM_finish_45 (by decide) (fun hc => ?_) (fun hc => ?_)
          · rw [if_neg hc] at hf
            refine lv_iload_n hx hb dM_finish_60 rfl (lv_at hl 4 rfl) ?_
            refine lv_iconst (v := 2) hx hb dM_finish_61 (by decide) ?_
            refine lv_icmp_ne (tgt := 79) hx hb dM_finish_62 (by decide) (fun hc => ?_) (fun hc => ?_)
            · rw [if_neg hc] at hf
              refine lv_aload_n hx hb dM_finish_79 rfl (lv_at hl 2 rfl) ?_
              refine xm_aload hx hb (xvor _ _) dM_finish_80 (lv_at hl 1 rfl) ?_
              obtain ⟨o23, hq24, hf⟩ := xbind hf
              by_cases hk25 : o23.1 = 0
              · rw [if_pos hk25] at hf
                obtain ⟨hg26, hf⟩ := xifn hf
                obtain ⟨hg27, hf⟩ := xifn hf
                obtain ⟨hm28, hf⟩ := xmoE hf
                have hFc := xm_free hD hS hA
                refine va_callq (va_runV (C := "ValueBenchModel") (As := [xv vad19 o1.2.2.2.1]) (rest := []) ⟨hx, hb, hml, hown, htx⟩ (gM_array l hl9 D cT aK aV H.size n aM ad17 rd gd18 vad19 o11.2.2.2.2 o1.2.2.2.1 o23 hq24 hk25) ⟨callB_of 1 htx (xw_goodC kw_7_42) rfl rfl rfl (htx _ kw_1_5) (htx _ kw_7_39) ⟨by decide, by decide, by decide +kernel⟩ ⟨Nat.le_of_ble_eq_true rfl, Nat.le_of_ble_eq_true rfl⟩, (htx _ kw_7_41), (htx _ kp_M_array)⟩ ⟨xPre_blind, va_recv hK hP (ci := 5) rfl (q0 := 0) rfl, (fun U hU hW => ⟨rfl, xPre_of hZ hS hFc hP hD hK U hU hW⟩)⟩ rfl rfl hl.1 rfl (xm_room (Nat.le_of_ble_eq_true rfl)) dM_finish_82 ⟨hm28.1, hm28.2⟩) hS (fun q _ h => hFc q h) hFc (fun r29 u9 t H1 locs ht hvm hr9 hB hz1 hk1 hS => ?_)
                obtain ⟨hP1, hK1, hD1⟩ := hB
                rw [ht] at hP1
                obtain ⟨ad30, gd31, vad32⟩ := u9
                obtain ⟨hr9, hv33, hn34⟩ := hr9
                have hP : va_P D xcl (xMw cT aM ad30 rd gd31 vad32 o23.2.2.2.2 []) H1 := hP1
                have hD : va_D A (xMw cT aM ad30 rd gd31 vad32 o23.2.2.2.2 []) := hD1.weaken (fun k q _ h => hFc q.1 h)
                generalize H1 = H at hP hS ⊢
                have hE9 : ∀ p, p < xct st → vad32 p = vad p := fun p h => (hv33 p (Nat.lt_of_lt_of_le h hN)).trans (hE p h)
                have hE := hE9
                have hN : xct st ≤ xct o23.2.2.2.2 := Nat.le_trans hN hn34
                have ev35 : xv vad19 o11.2.2.2.1 = xv vad32 o11.2.2.2.1 := xvE hv33 hg26
                have ev36 : xv vad19 o1.2.2.2.1 = xv vad32 o1.2.2.2.1 := xvE hv33 hg27
                have hl : lv_has ls 10 [(7, xv vad32 o11.2.2.2.1), (6, xv vad32 o1.2.2.2.1), (0, .ref aM), (1, .int x0), (2, .int x1), (3, .int x2), (4, .int x3), (5, .int x4)] := by first | exact hl | ((try (rw [← ev35])); (try (rw [← ev36])); exact hl)
                rw [hr9]
                refine W.eq (g2 := F0 m 85 ls [xv vad32 o23.2.2.2.1]) (by first | rfl | ((try (rw [ev35])); (try (rw [ev36])); rfl)) ?_
                obtain ⟨hg37, hf⟩ := xifn hf
                refine xm_vget (v := .int ((xpi o23.2.2.2.2 3) (o23.2.2.2.1 - 1))) hx hb htx hown hK hP 3 (by decide) hg37 rfl ((hZ.1 (103, "count", "I") (List.mem_of_getElem? (i := 3) rfl)).use rfl) rfl dM_finish_85 ?_
                refine lv_aload_n hx hb dM_finish_88 rfl (lv_at hl 2 rfl) ?_
                refine xm_aload hx hb (xvor _ _) dM_finish_89 (lv_at hl 0 rfl) ?_
                obtain ⟨o38, hq39, hf⟩ := xbind hf
                by_cases hk40 : o38.1 = 0
                · rw [if_pos hk40] at hf
                  obtain ⟨hg41, hf⟩ := xifn hf
                  obtain ⟨hg42, hf⟩ := xifn hf
                  obtain ⟨hm43, hf⟩ := xmoE hf
                  have hFc := xm_free hD hS hA
                  refine va_callq (va_runV (C := "ValueBenchModel") (As := [xv vad32 o11.2.2.2.1]) (rest := [.int ((xpi o23.2.2.2.2 3) (o23.2.2.2.1 - 1))]) ⟨hx, hb, hml, hown, htx⟩ (gM_array l hl9 D cT aK aV H.size n aM ad30 rd gd31 vad32 o23.2.2.2.2 o11.2.2.2.1 o38 hq39 hk40) ⟨callB_of 1 htx (xw_goodC kw_7_42) rfl rfl rfl (htx _ kw_1_5) (htx _ kw_7_39) ⟨by decide, by decide, by decide +kernel⟩ ⟨Nat.le_of_ble_eq_true rfl, Nat.le_of_ble_eq_true rfl⟩, (htx _ kw_7_41), (htx _ kp_M_array)⟩ ⟨xPre_blind, va_recv hK hP (ci := 5) rfl (q0 := 0) rfl, (fun U hU hW => ⟨rfl, xPre_of hZ hS hFc hP hD hK U hU hW⟩)⟩ rfl rfl hl.1 rfl (xm_room (Nat.le_of_ble_eq_true rfl)) dM_finish_91 ⟨hm43.1, hm43.2⟩) hS (fun q _ h => hFc q h) hFc (fun r44 u9 t H1 locs ht hvm hr9 hB hz1 hk1 hS => ?_)
                  obtain ⟨hP1, hK1, hD1⟩ := hB
                  rw [ht] at hP1
                  obtain ⟨ad45, gd46, vad47⟩ := u9
                  obtain ⟨hr9, hv48, hn49⟩ := hr9
                  have hP : va_P D xcl (xMw cT aM ad45 rd gd46 vad47 o38.2.2.2.2 []) H1 := hP1
                  have hD : va_D A (xMw cT aM ad45 rd gd46 vad47 o38.2.2.2.2 []) := hD1.weaken (fun k q _ h => hFc q.1 h)
                  generalize H1 = H at hP hS ⊢
                  have hE9 : ∀ p, p < xct st → vad47 p = vad p := fun p h => (hv48 p (Nat.lt_of_lt_of_le h hN)).trans (hE p h)
                  have hE := hE9
                  have hN : xct st ≤ xct o38.2.2.2.2 := Nat.le_trans hN hn49
                  have ev50 : xv vad32 o11.2.2.2.1 = xv vad47 o11.2.2.2.1 := xvE hv48 hg41
                  have ev51 : xv vad32 o1.2.2.2.1 = xv vad47 o1.2.2.2.1 := xvE hv48 hg42
                  have hl : lv_has ls 10 [(7, xv vad47 o11.2.2.2.1), (6, xv vad47 o1.2.2.2.1), (0, .ref aM), (1, .int x0), (2, .int x1), (3, .int x2), (4, .int x3), (5, .int x4)] := by first | exact hl | ((try (rw [← ev50])); (try (rw [← ev51])); exact hl)
                  rw [hr9]
                  refine W.eq (g2 := F0 m 94 ls [xv vad47 o38.2.2.2.1, .int ((xpi o23.2.2.2.2 3) (o23.2.2.2.1 - 1))]) (by first | rfl | ((try (rw [ev50])); (try (rw [ev51])); rfl)) ?_
                  obtain ⟨hg52, hf⟩ := xifn hf
                  refine xm_vget (v := .int ((xpi o38.2.2.2.2 3) (o38.2.2.2.1 - 1))) hx hb htx hown hK hP 3 (by decide) hg52 rfl ((hZ.1 (103, "count", "I") (List.mem_of_getElem? (i := 3) rfl)).use rfl) rfl dM_finish_94 ?_
                  refine lv_icmp_eq (tgt := 108) hx hb dM_finish_97 (by decide) (fun hc => ?_) (fun hc => ?_)
                  · rw [if_pos hc] at hf
                    refine lv_aload_n hx hb dM_finish_108 rfl (lv_at hl 2 rfl) ?_
                    refine xm_aload hx hb (xvor _ _) dM_finish_109 (lv_at hl 1 rfl) ?_
                    refine xm_aload hx hb (xvor _ _) dM_finish_111 (lv_at hl 0 rfl) ?_
                    refine lv_iload_n hx hb dM_finish_113 rfl (lv_at hl 5 rfl) ?_
                    obtain ⟨o53, hq54, hf⟩ := xbind hf
                    have hl := lv_sub (l' := [(0, .ref aM), (1, .int x0), (2, .int x1), (3, .int x2), (4, .int x3), (5, .int x4)]) hl [2, 3, 4, 5, 6, 7] rfl
                    by_cases hk55 : o53.1 = 0
                    · rw [if_pos hk55] at hf
                      obtain ⟨hm56, hf⟩ := xmoE hf
                      have hFc := xm_free hD hS hA
                      refine va_callq (va_runV (C := "ValueBenchModel") (As := [xv vad47 o1.2.2.2.1, xv vad47 o11.2.2.2.1, .int x2]) (rest := []) ⟨hx, hb, hml, hown, htx⟩ (gM_sort1 l hl9 D cT aK aV H.size d n aM ad45 rd gd46 vad47 o38.2.2.2.2 o1.2.2.2.1 o11.2.2.2.1 x2 o53 hq54 hk55) ⟨callB_of 3 htx (xw_goodC kw_7_21) rfl rfl rfl (htx _ kw_1_5) (htx _ kw_7_18) ⟨by decide, by decide, by decide +kernel⟩ ⟨(by show (16 * d + 8) + 1 ≤ 16 * d + 12; omega), (by show 8 + (10 + 11) + (400 * d + 147) ≤ 400 * d + 246; omega)⟩, (htx _ kw_7_20), (htx _ kp_M_sort1)⟩ ⟨xPre_blind, va_recv hK hP (ci := 5) rfl (q0 := 0) rfl, (fun U hU hW => ⟨rfl, xPre_of hZ hS hFc hP hD hK U hU hW⟩)⟩ rfl rfl hl.1 rfl (xm_room (Nat.le_of_ble_eq_true rfl)) dM_finish_114 ⟨hm56.1, hm56.2⟩) hS (fun q _ h => hFc q h) hFc (fun r57 u9 t H1 locs ht hvm hr9 hB hz1 hk1 hS => ?_)
                      obtain ⟨hP1, hK1, hD1⟩ := hB
                      rw [ht] at hP1
                      obtain ⟨ad58, gd59, vad60⟩ := u9
                      obtain ⟨hr9, hv61, hn62⟩ := hr9
                      have hP : va_P D xcl (xMw cT aM ad58 rd gd59 vad60 o53.2.2.2.2 []) H1 := hP1
                      have hD : va_D A (xMw cT aM ad58 rd gd59 vad60 o53.2.2.2.2 []) := hD1.weaken (fun k q _ h => hFc q.1 h)
                      generalize H1 = H at hP hS ⊢
                      have hE9 : ∀ p, p < xct st → vad60 p = vad p := fun p h => (hv61 p (Nat.lt_of_lt_of_le h hN)).trans (hE p h)
                      have hE := hE9
                      have hN : xct st ≤ xct o53.2.2.2.2 := Nat.le_trans hN hn62
                      rw [hr9]
                      refine W.eq (g2 := F0 m 117 ls [xv vad60 o53.2.2.2.1]) (by first | rfl | (skip; rfl)) ?_
                      refine xm_astore (lv' := [(8, xv vad60 o53.2.2.2.1), (0, .ref aM), (1, .int x0), (2, .int x1), (3, .int x2), (4, .int x3), (5, .int x4)]) hx hb (xvor _ _) dM_finish_117 hl (by decide) rfl (fun ls hl => ?_)
                      refine lv_aload_n hx hb dM_finish_119 rfl (lv_at hl 1 rfl) ?_
                      refine lv_iload_n hx hb dM_finish_120 rfl (lv_at hl 2 rfl) ?_
                      refine xm_aload hx hb (xvor _ _) dM_finish_121 (lv_at hl 0 rfl) ?_
                      obtain ⟨o63, hq64, hf⟩ := xbind hf
                      have hl := lv_sub (l' := [(0, .ref aM), (1, .int x0), (2, .int x1), (3, .int x2), (4, .int x3), (5, .int x4)]) hl [1, 2, 3, 4, 5, 6] rfl
                      by_cases hk65 : o63.1 = 0
                      · rw [if_pos hk65] at hf
                        obtain ⟨hm66, hf⟩ := xmoE hf
                        have hFc := xm_free hD hS hA
                        refine va_calli (va_runV (C := "ValueBenchModel") (As := [.int x0, xv vad60 o53.2.2.2.1]) (rest := []) ⟨hx, hb, hml, hown, htx⟩ (gM_store l hl9 D cT aK aV H.size d n aM ad58 rd gd59 vad60 o53.2.2.2.2 x0 o53.2.2.2.1 o63 hq64 hk65) ⟨callB_of 2 htx (xw_goodC kw_6_124) rfl rfl rfl (htx _ kw_1_5) (htx _ kw_6_121) ⟨by decide, by decide, by decide +kernel⟩ ⟨(by show (16 * d + 1) + 1 ≤ 16 * d + 12; omega), (by show 8 + (4 + 11) + (400 * d + 22) ≤ 400 * d + 246; omega)⟩, (htx _ kw_6_123), (htx _ kp_M_store)⟩ ⟨xPre_blind, va_recv hK hP (ci := 5) rfl (q0 := 0) rfl, (fun U hU hW => ⟨rfl, xPre_of hZ hS hFc hP hD hK U hU hW⟩)⟩ rfl rfl hl.1 rfl (xm_room (Nat.le_of_ble_eq_true rfl)) dM_finish_123 ⟨hm66.1, hm66.2⟩) hS (fun q _ h => hFc q h) hFc (fun r67 u9 t H1 locs ht hvm hr9 hB hz1 hk1 hS => ?_)
                        obtain ⟨hP1, hK1, hD1⟩ := hB
                        rw [ht] at hP1
                        obtain ⟨ad68, gd69, vad70⟩ := u9
                        obtain ⟨hr9, hv71, hn72⟩ := hr9
                        have hP : va_P D xcl (xMw cT aM ad68 rd gd69 vad70 o63.2.2.2.2 []) H1 := hP1
                        have hD : va_D A (xMw cT aM ad68 rd gd69 vad70 o63.2.2.2.2 []) := hD1.weaken (fun k q _ h => hFc q.1 h)
                        generalize H1 = H at hP hS ⊢
                        have hE9 : ∀ p, p < xct st → vad70 p = vad p := fun p h => (hv71 p (Nat.lt_of_lt_of_le h hN)).trans (hE p h)
                        have hE := hE9
                        have hN : xct st ≤ xct o63.2.2.2.2 := Nat.le_trans hN hn72
                        rw [hr9]
                        refine W.eq (g2 := F0 m 126 ls [.int o63.2.2.2.1]) (by first | rfl | (skip; rfl)) ?_
                        refine lv_istore (lv' := [(9, .int o63.2.2.2.1), (0, .ref aM), (1, .int x0), (2, .int x1), (3, .int x2), (4, .int x3), (5, .int x4)]) hx hb dM_finish_126 hl (by decide) rfl (fun ls hl => ?_)
                        refine lv_goto (tgt := 156) hx hb dM_finish_128 (by decide) ?_
                        obtain rfl := Option.some.inj hf
                        exact W.vret hx hb hr (fun t ht hW => ⟨⟨(ad68, gd69, vad70), rfl, ⟨hE, hN⟩, by rw [ht]; exact hP, va_K.moved hW.alike hK, hD⟩, hS.F ht⟩) hS.2.2 dM_finish_156
                      rw [if_neg hk65] at hf
                      by_cases hk73 : o63.1 = 1
                      · rw [if_pos hk73] at hf
                        obtain ⟨hm74, hf⟩ := xmoE hf
                        have hFc := xm_free hD hS hA
                        refine xx_thr (vx_runV (C := "ValueBenchModel") (As := [.int x0, xv vad60 o53.2.2.2.1]) (rest := []) ⟨hx, hb, hml, hown, htx⟩ (gM_store_1 l hl9 D cT aK aV H.size d n aM ad58 rd gd59 vad60 o53.2.2.2.2 x0 o53.2.2.2.1 o63 hq64 hk73) ⟨callB_of 2 htx (xw_goodC kw_6_124) rfl rfl rfl (htx _ kw_1_5) (htx _ kw_6_121) ⟨by decide, by decide, by decide +kernel⟩ ⟨(by show (16 * d + 1) + 1 ≤ 16 * d + 12; omega), (by show 8 + (4 + 11) + (400 * d + 22) ≤ 400 * d + 246; omega)⟩, (htx _ kw_6_123), (htx _ kp_M_store)⟩ ⟨xPre_blind, va_recv hK hP (ci := 5) rfl (q0 := 0) rfl, (fun U hU hW => ⟨rfl, xPre_of hZ hS hFc hP hD hK U hU hW⟩)⟩ rfl rfl hl.1 rfl (xm_room (Nat.le_of_ble_eq_true rfl)) dM_finish_123 ⟨hm74.1, hm74.2⟩) hS hFc (fun q _ h => hFc q h) (fun E ce q9 u9 t H1 locs ht hvm hr9 hB hz1 hk1 hS hce hcv hcl => ?_)
                        obtain ⟨rfl, hP1, hK1, hD1⟩ := hB
                        rw [ht] at hP1
                        obtain ⟨ad76, gd77, vad78⟩ := u9
                        obtain ⟨hv79, hn80⟩ := hr9
                        have hP : va_P D xcl (xMw cT aM ad76 rd gd77 vad78 o63.2.2.2.2 []) H1 := hP1
                        have hD : va_D A (xMw cT aM ad76 rd gd77 vad78 o63.2.2.2.2 []) := hD1.weaken (fun k q _ h => hFc q.1 h)
                        generalize H1 = H at hP hS hce ⊢
                        have hE9 : ∀ p, p < xct st → vad78 p = vad p := fun p h => (hv79 p (Nat.lt_of_lt_of_le h hN)).trans (hE p h)
                        have hE := hE9
                        have hN : xct st ≤ xct o63.2.2.2.2 := Nat.le_trans hN hn80
                        refine vx_catch (own := "ValueBenchModel") (name := "java/lang/IndexOutOfBoundsException") (E := "java/lang/IndexOutOfBoundsException") hown [⟨0, 128, 131, 83⟩] ⟨0, 128, 149, 86⟩ [] (by rw [htab]; rfl) (by intro z hz; rcases List.mem_cons.mp hz with rfl | hz; (exact Or.inr ⟨by decide, "java/lang/ArithmeticException", htx _ kw_6_94, hZ.2.2.2.2.2.2.2.1 ("java/lang/IndexOutOfBoundsException", "java/lang/ArithmeticException") (List.mem_of_getElem? (i := 2) rfl)⟩); cases hz) (by decide) (by decide) (htx _ kw_5_205) ((hZ.2.2.2.2.2.1 "java/lang/IndexOutOfBoundsException" (List.mem_of_getElem? (i := 0) rfl)).use rfl) hce hcv hcl ?_
                        refine lv_astore (lv' := [(6, .ref q9), (0, .ref aM), (1, .int x0), (2, .int x1), (3, .int x2), (4, .int x3), (5, .int x4)]) hx hb dM_finish_149 hl (by decide) rfl (fun ls hl => ?_)
                        refine lv_aload_n hx hb dM_finish_151 rfl (lv_at hl 1 rfl) ?_
                        refine lv_iconst (v := 3) hx hb dM_finish_152 (by decide) ?_
                        refine xm_put (v := .int 3) (W' := (xMw cT aM ad76 rd gd77 vad78 (xsI o63.2.2.2.2 0 3) [])) (ty := .int) hx hb htx hown hK hP hD hS 0 (by decide) rfl (htx _ kw_5_87) rfl rfl (by decide +kernel) rfl rfl dM_finish_153 (fun H locs hP hD hS => ?_)
                        obtain rfl := Option.some.inj hf
                        exact W.vret hx hb hr (fun t ht hW => ⟨⟨(ad76, gd77, vad78), rfl, ⟨hE, hN⟩, by rw [ht]; exact hP, va_K.moved hW.alike hK, hD⟩, hS.F ht⟩) hS.2.2 dM_finish_156
                      rw [if_neg hk73] at hf
                      exact nomatch hf
                    rw [if_neg hk55] at hf
                    by_cases hk81 : o53.1 = 1
                    · rw [if_pos hk81] at hf
                      obtain ⟨hm82, hf⟩ := xmoE hf
                      have hFc := xm_free hD hS hA
                      refine xx_thr (vx_runV (C := "ValueBenchModel") (As := [xv vad47 o1.2.2.2.1, xv vad47 o11.2.2.2.1, .int x2]) (rest := []) ⟨hx, hb, hml, hown, htx⟩ (gM_sort1_1 l hl9 D cT aK aV H.size d n aM ad45 rd gd46 vad47 o38.2.2.2.2 o1.2.2.2.1 o11.2.2.2.1 x2 o53 hq54 hk81) ⟨callB_of 3 htx (xw_goodC kw_7_21) rfl rfl rfl (htx _ kw_1_5) (htx _ kw_7_18) ⟨by decide, by decide, by decide +kernel⟩ ⟨(by show (16 * d + 8) + 1 ≤ 16 * d + 12; omega), (by show 8 + (10 + 11) + (400 * d + 147) ≤ 400 * d + 246; omega)⟩, (htx _ kw_7_20), (htx _ kp_M_sort1)⟩ ⟨xPre_blind, va_recv hK hP (ci := 5) rfl (q0 := 0) rfl, (fun U hU hW => ⟨rfl, xPre_of hZ hS hFc hP hD hK U hU hW⟩)⟩ rfl rfl hl.1 rfl (xm_room (Nat.le_of_ble_eq_true rfl)) dM_finish_114 ⟨hm82.1, hm82.2⟩) hS hFc (fun q _ h => hFc q h) (fun E ce q9 u9 t H1 locs ht hvm hr9 hB hz1 hk1 hS hce hcv hcl => ?_)
                      obtain ⟨rfl, hP1, hK1, hD1⟩ := hB
                      rw [ht] at hP1
                      obtain ⟨ad84, gd85, vad86⟩ := u9
                      obtain ⟨hv87, hn88⟩ := hr9
                      have hP : va_P D xcl (xMw cT aM ad84 rd gd85 vad86 o53.2.2.2.2 []) H1 := hP1
                      have hD : va_D A (xMw cT aM ad84 rd gd85 vad86 o53.2.2.2.2 []) := hD1.weaken (fun k q _ h => hFc q.1 h)
                      generalize H1 = H at hP hS hce ⊢
                      have hE9 : ∀ p, p < xct st → vad86 p = vad p := fun p h => (hv87 p (Nat.lt_of_lt_of_le h hN)).trans (hE p h)
                      have hE := hE9
                      have hN : xct st ≤ xct o53.2.2.2.2 := Nat.le_trans hN hn88
                      refine vx_catch (own := "ValueBenchModel") (name := "java/lang/IndexOutOfBoundsException") (E := "java/lang/IndexOutOfBoundsException") hown [⟨0, 128, 131, 83⟩] ⟨0, 128, 149, 86⟩ [] (by rw [htab]; rfl) (by intro z hz; rcases List.mem_cons.mp hz with rfl | hz; (exact Or.inr ⟨by decide, "java/lang/ArithmeticException", htx _ kw_6_94, hZ.2.2.2.2.2.2.2.1 ("java/lang/IndexOutOfBoundsException", "java/lang/ArithmeticException") (List.mem_of_getElem? (i := 2) rfl)⟩); cases hz) (by decide) (by decide) (htx _ kw_5_205) ((hZ.2.2.2.2.2.1 "java/lang/IndexOutOfBoundsException" (List.mem_of_getElem? (i := 0) rfl)).use rfl) hce hcv hcl ?_
                      refine lv_astore (lv' := [(6, .ref q9), (0, .ref aM), (1, .int x0), (2, .int x1), (3, .int x2), (4, .int x3), (5, .int x4)]) hx hb dM_finish_149 hl (by decide) rfl (fun ls hl => ?_)
                      refine lv_aload_n hx hb dM_finish_151 rfl (lv_at hl 1 rfl) ?_
                      refine lv_iconst (v := 3) hx hb dM_finish_152 (by decide) ?_
                      refine xm_put (v := .int 3) (W' := (xMw cT aM ad84 rd gd85 vad86 (xsI o53.2.2.2.2 0 3) [])) (ty := .int) hx hb htx hown hK hP hD hS 0 (by decide) rfl (htx _ kw_5_87) rfl rfl (by decide +kernel) rfl rfl dM_finish_153 (fun H locs hP hD hS => ?_)
                      obtain rfl := Option.some.inj hf
                      exact W.vret hx hb hr (fun t ht hW => ⟨⟨(ad84, gd85, vad86), rfl, ⟨hE, hN⟩, by rw [ht]; exact hP, va_K.moved hW.alike hK, hD⟩, hS.F ht⟩) hS.2.2 dM_finish_156
                    rw [if_neg hk81] at hf
                    exact nomatch hf
                  · rw [if_neg hc] at hf
                    refine lv_aload_n hx hb dM_finish_100 rfl (lv_at hl 2 rfl) ?_
                    refine lv_iconst (v := 1) hx hb dM_finish_101 (by decide) ?_
                    obtain ⟨o53, hq54, hf⟩ := xbind hf
                    have hl := lv_sub (l' := [(0, .ref aM), (1, .int x0), (2, .int x1), (3, .int x2), (4, .int x3), (5, .int x4)]) hl [2, 3, 4, 5, 6, 7] rfl
                    by_cases hk55 : o53.1 = 1
                    · rw [if_pos hk55] at hf
                      obtain ⟨hm56, hf⟩ := xmoE hf
                      have hFc := xm_free hD hS hA
                      refine xx_thr (vx_runV (C := "ValueBenchModel") (As := [.int 1]) (rest := []) ⟨hx, hb, hml, hown, htx⟩ (gM_refuse_1 l hl9 D cT aK aV H.size n aM ad45 rd gd46 vad47 o38.2.2.2.2 (1 : Int32) o53 hq54 hk55) ⟨callB_of 1 htx (xw_goodC kw_6_93) rfl rfl rfl (htx _ kw_1_5) (htx _ kw_6_90) ⟨by decide, by decide, by decide +kernel⟩ ⟨Nat.le_of_ble_eq_true rfl, Nat.le_of_ble_eq_true rfl⟩, (htx _ kw_6_92), (htx _ kp_M_refuse)⟩ ⟨xPre_blind, va_recv hK hP (ci := 5) rfl (q0 := 0) rfl, (fun U hU hW => ⟨rfl, xPre_of hZ hS hFc hP hD hK U hU hW⟩)⟩ rfl rfl hl.1 rfl (xm_room (Nat.le_of_ble_eq_true rfl)) dM_finish_102 ⟨hm56.1, hm56.2⟩) hS hFc (fun q _ h => hFc q h) (fun E ce q9 u9 t H1 locs ht hvm hr9 hB hz1 hk1 hS hce hcv hcl => ?_)
                      obtain ⟨rfl, hP1, hK1, hD1⟩ := hB
                      rw [ht] at hP1
                      obtain ⟨ad58, gd59, vad60⟩ := u9
                      obtain ⟨hv61, hn62⟩ := hr9
                      have hP : va_P D xcl (xMw cT aM ad58 rd gd59 vad60 o53.2.2.2.2 []) H1 := hP1
                      have hD : va_D A (xMw cT aM ad58 rd gd59 vad60 o53.2.2.2.2 []) := hD1.weaken (fun k q _ h => hFc q.1 h)
                      generalize H1 = H at hP hS hce ⊢
                      have hE9 : ∀ p, p < xct st → vad60 p = vad p := fun p h => (hv61 p (Nat.lt_of_lt_of_le h hN)).trans (hE p h)
                      have hE := hE9
                      have hN : xct st ≤ xct o53.2.2.2.2 := Nat.le_trans hN hn62
                      refine vx_catch (own := "ValueBenchModel") (name := "java/lang/ArithmeticException") (E := "java/lang/ArithmeticException") hown [] ⟨0, 128, 131, 83⟩ [⟨0, 128, 149, 86⟩] (by rw [htab]; rfl) (fun z hz => nomatch hz) (by decide) (by decide) (htx _ kw_6_94) ((hZ.2.2.2.2.2.1 "java/lang/ArithmeticException" (List.mem_of_getElem? (i := 3) rfl)).use rfl) hce hcv hcl ?_
                      refine lv_astore (lv' := [(6, .ref q9), (0, .ref aM), (1, .int x0), (2, .int x1), (3, .int x2), (4, .int x3), (5, .int x4)]) hx hb dM_finish_131 hl (by decide) rfl (fun ls hl => ?_)
                      refine lv_aload_n hx hb dM_finish_133 rfl (lv_at hl 1 rfl) ?_
                      refine lv_aload_n hx hb dM_finish_134 rfl (lv_at hl 1 rfl) ?_
                      refine xm_get (v := .int (xsi o53.2.2.2.2 8)) hx hb htx hown hK hP 8 (by decide) rfl (htx _ kw_5_95) rfl dM_finish_135 ?_
                      refine xm_put (v := .int (xsi o53.2.2.2.2 8)) (W' := (xMw cT aM ad58 rd gd59 vad60 (xsI o53.2.2.2.2 30 (xsi o53.2.2.2.2 8)) [])) (ty := .int) hx hb htx hown hK hP hD hS 30 (by decide) rfl (htx _ kw_5_117) rfl rfl (by decide +kernel) rfl rfl dM_finish_138 (fun H locs hP hD hS => ?_)
                      refine lv_aload_n hx hb dM_finish_141 rfl (lv_at hl 1 rfl) ?_
                      refine lv_iconst (v := 2) hx hb dM_finish_142 (by decide) ?_
                      refine xm_put (v := .int 2) (W' := (xMw cT aM ad58 rd gd59 vad60 (xsI (xsI o53.2.2.2.2 30 (xsi o53.2.2.2.2 8)) 0 2) [])) (ty := .int) hx hb htx hown hK hP hD hS 0 (by decide) rfl (htx _ kw_5_87) rfl rfl (by decide +kernel) rfl rfl dM_finish_143 (fun H locs hP hD hS => ?_)
                      refine lv_goto (tgt := 156) hx hb dM_finish_146 (by decide) ?_
                      obtain rfl := Option.some.inj hf
                      exact W.vret hx hb hr (fun t ht hW => ⟨⟨(ad58, gd59, vad60), rfl, ⟨hE, hN⟩, by rw [ht]; exact hP, va_K.moved hW.alike hK, hD⟩, hS.F ht⟩) hS.2.2 dM_finish_156
                    rw [if_neg hk55] at hf
                    exact nomatch hf
                rw [if_neg hk40] at hf
                by_cases hk53 : o38.1 = 1
                · rw [if_pos hk53] at hf
                  obtain ⟨hg54, hf⟩ := xifn hf
                  obtain ⟨hg55, hf⟩ := xifn hf
                  obtain ⟨hm56, hf⟩ := xmoE hf
                  have hFc := xm_free hD hS hA
                  refine xx_thr (vx_runV (C := "ValueBenchModel") (As := [xv vad32 o11.2.2.2.1]) (rest := [.int ((xpi o23.2.2.2.2 3) (o23.2.2.2.1 - 1))]) ⟨hx, hb, hml, hown, htx⟩ (gM_array_1 l hl9 D cT aK aV H.size n aM ad30 rd gd31 vad32 o23.2.2.2.2 o11.2.2.2.1 o38 hq39 hk53) ⟨callB_of 1 htx (xw_goodC kw_7_42) rfl rfl rfl (htx _ kw_1_5) (htx _ kw_7_39) ⟨by decide, by decide, by decide +kernel⟩ ⟨Nat.le_of_ble_eq_true rfl, Nat.le_of_ble_eq_true rfl⟩, (htx _ kw_7_41), (htx _ kp_M_array)⟩ ⟨xPre_blind, va_recv hK hP (ci := 5) rfl (q0 := 0) rfl, (fun U hU hW => ⟨rfl, xPre_of hZ hS hFc hP hD hK U hU hW⟩)⟩ rfl rfl hl.1 rfl (xm_room (Nat.le_of_ble_eq_true rfl)) dM_finish_91 ⟨hm56.1, hm56.2⟩) hS hFc (fun q _ h => hFc q h) (fun E ce q9 u9 t H1 locs ht hvm hr9 hB hz1 hk1 hS hce hcv hcl => ?_)
                  obtain ⟨rfl, hP1, hK1, hD1⟩ := hB
                  rw [ht] at hP1
                  obtain ⟨ad58, gd59, vad60⟩ := u9
                  obtain ⟨hv61, hn62⟩ := hr9
                  have hP : va_P D xcl (xMw cT aM ad58 rd gd59 vad60 o38.2.2.2.2 []) H1 := hP1
                  have hD : va_D A (xMw cT aM ad58 rd gd59 vad60 o38.2.2.2.2 []) := hD1.weaken (fun k q _ h => hFc q.1 h)
                  generalize H1 = H at hP hS hce ⊢
                  have hE9 : ∀ p, p < xct st → vad60 p = vad p := fun p h => (hv61 p (Nat.lt_of_lt_of_le h hN)).trans (hE p h)
                  have hE := hE9
                  have hN : xct st ≤ xct o38.2.2.2.2 := Nat.le_trans hN hn62
                  have ev63 : xv vad32 o11.2.2.2.1 = xv vad60 o11.2.2.2.1 := xvE hv61 hg54
                  have ev64 : xv vad32 o1.2.2.2.1 = xv vad60 o1.2.2.2.1 := xvE hv61 hg55
                  have hl : lv_has ls 10 [(7, xv vad60 o11.2.2.2.1), (6, xv vad60 o1.2.2.2.1), (0, .ref aM), (1, .int x0), (2, .int x1), (3, .int x2), (4, .int x3), (5, .int x4)] := by first | exact hl | ((try (rw [← ev63])); (try (rw [← ev64])); exact hl)
                  refine vx_catch (own := "ValueBenchModel") (name := "java/lang/ArithmeticException") (E := "java/lang/ArithmeticException") hown [] ⟨0, 128, 131, 83⟩ [⟨0, 128, 149, 86⟩] (by rw [htab]; rfl) (fun z hz => nomatch hz) (by decide) (by decide) (htx _ kw_6_94) ((hZ.2.2.2.2.2.1 "java/lang/ArithmeticException" (List.mem_of_getElem? (i := 3) rfl)).use rfl) hce hcv hcl ?_
                  refine lv_astore (lv' := [(6, .ref q9), (7, xv vad60 o11.2.2.2.1), (0, .ref aM), (1, .int x0), (2, .int x1), (3, .int x2), (4, .int x3), (5, .int x4)]) hx hb dM_finish_131 hl (by decide) rfl (fun ls hl => ?_)
                  refine lv_aload_n hx hb dM_finish_133 rfl (lv_at hl 2 rfl) ?_
                  refine lv_aload_n hx hb dM_finish_134 rfl (lv_at hl 2 rfl) ?_
                  refine xm_get (v := .int (xsi o38.2.2.2.2 8)) hx hb htx hown hK hP 8 (by decide) rfl (htx _ kw_5_95) rfl dM_finish_135 ?_
                  refine xm_put (v := .int (xsi o38.2.2.2.2 8)) (W' := (xMw cT aM ad58 rd gd59 vad60 (xsI o38.2.2.2.2 30 (xsi o38.2.2.2.2 8)) [])) (ty := .int) hx hb htx hown hK hP hD hS 30 (by decide) rfl (htx _ kw_5_117) rfl rfl (by decide +kernel) rfl rfl dM_finish_138 (fun H locs hP hD hS => ?_)
                  refine lv_aload_n hx hb dM_finish_141 rfl (lv_at hl 2 rfl) ?_
                  refine lv_iconst (v := 2) hx hb dM_finish_142 (by decide) ?_
                  refine xm_put (v := .int 2) (W' := (xMw cT aM ad58 rd gd59 vad60 (xsI (xsI o38.2.2.2.2 30 (xsi o38.2.2.2.2 8)) 0 2) [])) (ty := .int) hx hb htx hown hK hP hD hS 0 (by decide) rfl (htx _ kw_5_87) rfl rfl (by decide +kernel) rfl rfl dM_finish_143 (fun H locs hP hD hS => ?_)
                  refine lv_goto (tgt := 156) hx hb dM_finish_146 (by decide) ?_
                  obtain rfl := Option.some.inj hf
                  exact W.vret hx hb hr (fun t ht hW => ⟨⟨(ad58, gd59, vad60), rfl, ⟨hE, hN⟩, by rw [ht]; exact hP, va_K.moved hW.alike hK, hD⟩, hS.F ht⟩) hS.2.2 dM_finish_156
                rw [if_neg hk53] at hf
                exact nomatch hf
              rw [if_neg hk25] at hf
              by_cases hk65 : o23.1 = 1
              · rw [if_pos hk65] at hf
                obtain ⟨hg66, hf⟩ := xifn hf
                obtain ⟨hg67, hf⟩ := xifn hf
                obtain ⟨hm68, hf⟩ := xmoE hf
                have hFc := xm_free hD hS hA
                refine xx_thr (vx_runV (C := "ValueBenchModel") (As := [xv vad19 o1.2.2.2.1]) (rest := []) ⟨hx, hb, hml, hown, htx⟩ (gM_array_1 l hl9 D cT aK aV H.size n aM ad17 rd gd18 vad19 o11.2.2.2.2 o1.2.2.2.1 o23 hq24 hk65) ⟨callB_of 1 htx (xw_goodC kw_7_42) rfl rfl rfl (htx _ kw_1_5) (htx _ kw_7_39) ⟨by decide, by decide, by decide +kernel⟩ ⟨Nat.le_of_ble_eq_true rfl, Nat.le_of_ble_eq_true rfl⟩, (htx _ kw_7_41), (htx _ kp_M_array)⟩ ⟨xPre_blind, va_recv hK hP (ci := 5) rfl (q0 := 0) rfl, (fun U hU hW => ⟨rfl, xPre_of hZ hS hFc hP hD hK U hU hW⟩)⟩ rfl rfl hl.1 rfl (xm_room (Nat.le_of_ble_eq_true rfl)) dM_finish_82 ⟨hm68.1, hm68.2⟩) hS hFc (fun q _ h => hFc q h) (fun E ce q9 u9 t H1 locs ht hvm hr9 hB hz1 hk1 hS hce hcv hcl => ?_)
                obtain ⟨rfl, hP1, hK1, hD1⟩ := hB
                rw [ht] at hP1
                obtain ⟨ad70, gd71, vad72⟩ := u9
                obtain ⟨hv73, hn74⟩ := hr9
                have hP : va_P D xcl (xMw cT aM ad70 rd gd71 vad72 o23.2.2.2.2 []) H1 := hP1
                have hD : va_D A (xMw cT aM ad70 rd gd71 vad72 o23.2.2.2.2 []) := hD1.weaken (fun k q _ h => hFc q.1 h)
                generalize H1 = H at hP hS hce ⊢
                have hE9 : ∀ p, p < xct st → vad72 p = vad p := fun p h => (hv73 p (Nat.lt_of_lt_of_le h hN)).trans (hE p h)
                have hE := hE9
                have hN : xct st ≤ xct o23.2.2.2.2 := Nat.le_trans hN hn74
                have ev75 : xv vad19 o11.2.2.2.1 = xv vad72 o11.2.2.2.1 := xvE hv73 hg66
                have ev76 : xv vad19 o1.2.2.2.1 = xv vad72 o1.2.2.2.1 := xvE hv73 hg67
                have hl : lv_has ls 10 [(7, xv vad72 o11.2.2.2.1), (6, xv vad72 o1.2.2.2.1), (0, .ref aM), (1, .int x0), (2, .int x1), (3, .int x2), (4, .int x3), (5, .int x4)] := by first | exact hl | ((try (rw [← ev75])); (try (rw [← ev76])); exact hl)
                refine vx_catch (own := "ValueBenchModel") (name := "java/lang/ArithmeticException") (E := "java/lang/ArithmeticException") hown [] ⟨0, 128, 131, 83⟩ [⟨0, 128, 149, 86⟩] (by rw [htab]; rfl) (fun z hz => nomatch hz) (by decide) (by decide) (htx _ kw_6_94) ((hZ.2.2.2.2.2.1 "java/lang/ArithmeticException" (List.mem_of_getElem? (i := 3) rfl)).use rfl) hce hcv hcl ?_
                refine lv_astore (lv' := [(6, .ref q9), (7, xv vad72 o11.2.2.2.1), (0, .ref aM), (1, .int x0), (2, .int x1), (3, .int x2), (4, .int x3), (5, .int x4)]) hx hb dM_finish_131 hl (by decide) rfl (fun ls hl => ?_)
                refine lv_aload_n hx hb dM_finish_133 rfl (lv_at hl 2 rfl) ?_
                refine lv_aload_n hx hb dM_finish_134 rfl (lv_at hl 2 rfl) ?_
                refine xm_get (v := .int (xsi o23.2.2.2.2 8)) hx hb htx hown hK hP 8 (by decide) rfl (htx _ kw_5_95) rfl dM_finish_135 ?_
                refine xm_put (v := .int (xsi o23.2.2.2.2 8)) (W' := (xMw cT aM ad70 rd gd71 vad72 (xsI o23.2.2.2.2 30 (xsi o23.2.2.2.2 8)) [])) (ty := .int) hx hb htx hown hK hP hD hS 30 (by decide) rfl (htx _ kw_5_117) rfl rfl (by decide +kernel) rfl rfl dM_finish_138 (fun H locs hP hD hS => ?_)
                refine lv_aload_n hx hb dM_finish_141 rfl (lv_at hl 2 rfl) ?_
                refine lv_iconst (v := 2) hx hb dM_finish_142 (by decide) ?_
                refine xm_put (v := .int 2) (W' := (xMw cT aM ad70 rd gd71 vad72 (xsI (xsI o23.2.2.2.2 30 (xsi o23.2.2.2.2 8)) 0 2) [])) (ty := .int) hx hb htx hown hK hP hD hS 0 (by decide) rfl (htx _ kw_5_87) rfl rfl (by decide +kernel) rfl rfl dM_finish_143 (fun H locs hP hD hS => ?_)
                refine lv_goto (tgt := 156) hx hb dM_finish_146 (by decide) ?_
                obtain rfl := Option.some.inj hf
                exact W.vret hx hb hr (fun t ht hW => ⟨⟨(ad70, gd71, vad72), rfl, ⟨hE, hN⟩, by rw [ht]; exact hP, va_K.moved hW.alike hK, hD⟩, hS.F ht⟩) hS.2.2 dM_finish_156
              rw [if_neg hk65] at hf
              exact nomatch hf
            · rw [if_pos hc] at hf
              refine lv_aload_n hx hb dM_finish_65 rfl (lv_at hl 2 rfl) ?_
              refine lv_iload_n hx hb dM_finish_66 rfl (lv_at hl 5 rfl) ?_
              refine xm_aload hx hb (xvor _ _) dM_finish_67 (lv_at hl 1 rfl) ?_
              refine xm_aload hx hb (xvor _ _) dM_finish_69 (lv_at hl 0 rfl) ?_
              obtain ⟨o23, hq24, hf⟩ := xbind hf
              have hl := lv_sub (l' := [(0, .ref aM), (1, .int x0), (2, .int x1), (3, .int x2), (4, .int x3), (5, .int x4)]) hl [2, 3, 4, 5, 6, 7] rfl
              by_cases hk25 : o23.1 = 0
              · rw [if_pos hk25] at hf
                obtain ⟨hm26, hf⟩ := xmoE hf
                have hFc := xm_free hD hS hA
                refine va_callq (va_runV (C := "ValueBenchModel") (As := [.int x2, xv vad19 o1.2.2.2.1, xv vad19 o11.2.2.2.1]) (rest := []) ⟨hx, hb, hml, hown, htx⟩ (gM_two1 l hl9 D cT aK aV H.size d n aM ad17 rd gd18 vad19 o11.2.2.2.2 x2 o1.2.2.2.1 o11.2.2.2.1 o23 hq24 hk25) ⟨callB_of 3 htx (xw_goodC kw_7_79) rfl rfl rfl (htx _ kw_1_5) (htx _ kw_7_76) ⟨by decide, by decide, by decide +kernel⟩ ⟨(by show (16 * d + 10) + 1 ≤ 16 * d + 12; omega), (by show 8 + (4 + 11) + (400 * d + 199) ≤ 400 * d + 246; omega)⟩, (htx _ kw_7_78), (htx _ kp_M_two1)⟩ ⟨xPre_blind, va_recv hK hP (ci := 5) rfl (q0 := 0) rfl, (fun U hU hW => ⟨rfl, xPre_of hZ hS hFc hP hD hK U hU hW⟩)⟩ rfl rfl hl.1 rfl (xm_room (Nat.le_of_ble_eq_true rfl)) dM_finish_71 ⟨hm26.1, hm26.2⟩) hS (fun q _ h => hFc q h) hFc (fun r27 u9 t H1 locs ht hvm hr9 hB hz1 hk1 hS => ?_)
                obtain ⟨hP1, hK1, hD1⟩ := hB
                rw [ht] at hP1
                obtain ⟨ad28, gd29, vad30⟩ := u9
                obtain ⟨hr9, hv31, hn32⟩ := hr9
                have hP : va_P D xcl (xMw cT aM ad28 rd gd29 vad30 o23.2.2.2.2 []) H1 := hP1
                have hD : va_D A (xMw cT aM ad28 rd gd29 vad30 o23.2.2.2.2 []) := hD1.weaken (fun k q _ h => hFc q.1 h)
                generalize H1 = H at hP hS ⊢
                have hE9 : ∀ p, p < xct st → vad30 p = vad p := fun p h => (hv31 p (Nat.lt_of_lt_of_le h hN)).trans (hE p h)
                have hE := hE9
                have hN : xct st ≤ xct o23.2.2.2.2 := Nat.le_trans hN hn32
                rw [hr9]
                refine W.eq (g2 := F0 m 74 ls [xv vad30 o23.2.2.2.1]) (by first | rfl | (skip; rfl)) ?_
                refine xm_astore (lv' := [(8, xv vad30 o23.2.2.2.1), (0, .ref aM), (1, .int x0), (2, .int x1), (3, .int x2), (4, .int x3), (5, .int x4)]) hx hb (xvor _ _) dM_finish_74 hl (by decide) rfl (fun ls hl => ?_)
                refine lv_goto (tgt := 119) hx hb dM_finish_76 (by decide) ?_
                refine lv_aload_n hx hb dM_finish_119 rfl (lv_at hl 1 rfl) ?_
                refine lv_iload_n hx hb dM_finish_120 rfl (lv_at hl 2 rfl) ?_
                refine xm_aload hx hb (xvor _ _) dM_finish_121 (lv_at hl 0 rfl) ?_
                obtain ⟨o33, hq34, hf⟩ := xbind hf
                have hl := lv_sub (l' := [(0, .ref aM), (1, .int x0), (2, .int x1), (3, .int x2), (4, .int x3), (5, .int x4)]) hl [1, 2, 3, 4, 5, 6] rfl
                by_cases hk35 : o33.1 = 0
                · rw [if_pos hk35] at hf
                  obtain ⟨hm36, hf⟩ := xmoE hf
                  have hFc := xm_free hD hS hA
                  refine va_calli (va_runV (C := "ValueBenchModel") (As := [.int x0, xv vad30 o23.2.2.2.1]) (rest := []) ⟨hx, hb, hml, hown, htx⟩ (gM_store l hl9 D cT aK aV H.size d n aM ad28 rd gd29 vad30 o23.2.2.2.2 x0 o23.2.2.2.1 o33 hq34 hk35) ⟨callB_of 2 htx (xw_goodC kw_6_124) rfl rfl rfl (htx _ kw_1_5) (htx _ kw_6_121) ⟨by decide, by decide, by decide +kernel⟩ ⟨(by show (16 * d + 1) + 1 ≤ 16 * d + 12; omega), (by show 8 + (4 + 11) + (400 * d + 22) ≤ 400 * d + 246; omega)⟩, (htx _ kw_6_123), (htx _ kp_M_store)⟩ ⟨xPre_blind, va_recv hK hP (ci := 5) rfl (q0 := 0) rfl, (fun U hU hW => ⟨rfl, xPre_of hZ hS hFc hP hD hK U hU hW⟩)⟩ rfl rfl hl.1 rfl (xm_room (Nat.le_of_ble_eq_true rfl)) dM_finish_123 ⟨hm36.1, hm36.2⟩) hS (fun q _ h => hFc q h) hFc (fun r37 u9 t H1 locs ht hvm hr9 hB hz1 hk1 hS => ?_)
                  obtain ⟨hP1, hK1, hD1⟩ := hB
                  rw [ht] at hP1
                  obtain ⟨ad38, gd39, vad40⟩ := u9
                  obtain ⟨hr9, hv41, hn42⟩ := hr9
                  have hP : va_P D xcl (xMw cT aM ad38 rd gd39 vad40 o33.2.2.2.2 []) H1 := hP1
                  have hD : va_D A (xMw cT aM ad38 rd gd39 vad40 o33.2.2.2.2 []) := hD1.weaken (fun k q _ h => hFc q.1 h)
                  generalize H1 = H at hP hS ⊢
                  have hE9 : ∀ p, p < xct st → vad40 p = vad p := fun p h => (hv41 p (Nat.lt_of_lt_of_le h hN)).trans (hE p h)
                  have hE := hE9
                  have hN : xct st ≤ xct o33.2.2.2.2 := Nat.le_trans hN hn42
                  rw [hr9]
                  refine W.eq (g2 := F0 m 126 ls [.int o33.2.2.2.1]) (by first | rfl | (skip; rfl)) ?_
                  refine lv_istore (lv' := [(9, .int o33.2.2.2.1), (0, .ref aM), (1, .int x0), (2, .int x1), (3, .int x2), (4, .int x3), (5, .int x4)]) hx hb dM_finish_126 hl (by decide) rfl (fun ls hl => ?_)
                  refine lv_goto (tgt := 156) hx hb dM_finish_128 (by decide) ?_
                  obtain rfl := Option.some.inj hf
                  exact W.vret hx hb hr (fun t ht hW => ⟨⟨(ad38, gd39, vad40), rfl, ⟨hE, hN⟩, by rw [ht]; exact hP, va_K.moved hW.alike hK, hD⟩, hS.F ht⟩) hS.2.2 dM_finish_156
                rw [if_neg hk35] at hf
                by_cases hk43 : o33.1 = 1
                · rw [if_pos hk43] at hf
                  obtain ⟨hm44, hf⟩ := xmoE hf
                  have hFc := xm_free hD hS hA
                  refine xx_thr (vx_runV (C := "ValueBenchModel") (As := [.int x0, xv vad30 o23.2.2.2.1]) (rest := []) ⟨hx, hb, hml, hown, htx⟩ (gM_store_1 l hl9 D cT aK aV H.size d n aM ad28 rd gd29 vad30 o23.2.2.2.2 x0 o23.2.2.2.1 o33 hq34 hk43) ⟨callB_of 2 htx (xw_goodC kw_6_124) rfl rfl rfl (htx _ kw_1_5) (htx _ kw_6_121) ⟨by decide, by decide, by decide +kernel⟩ ⟨(by show (16 * d + 1) + 1 ≤ 16 * d + 12; omega), (by show 8 + (4 + 11) + (400 * d + 22) ≤ 400 * d + 246; omega)⟩, (htx _ kw_6_123), (htx _ kp_M_store)⟩ ⟨xPre_blind, va_recv hK hP (ci := 5) rfl (q0 := 0) rfl, (fun U hU hW => ⟨rfl, xPre_of hZ hS hFc hP hD hK U hU hW⟩)⟩ rfl rfl hl.1 rfl (xm_room (Nat.le_of_ble_eq_true rfl)) dM_finish_123 ⟨hm44.1, hm44.2⟩) hS hFc (fun q _ h => hFc q h) (fun E ce q9 u9 t H1 locs ht hvm hr9 hB hz1 hk1 hS hce hcv hcl => ?_)
                  obtain ⟨rfl, hP1, hK1, hD1⟩ := hB
                  rw [ht] at hP1
                  obtain ⟨ad46, gd47, vad48⟩ := u9
                  obtain ⟨hv49, hn50⟩ := hr9
                  have hP : va_P D xcl (xMw cT aM ad46 rd gd47 vad48 o33.2.2.2.2 []) H1 := hP1
                  have hD : va_D A (xMw cT aM ad46 rd gd47 vad48 o33.2.2.2.2 []) := hD1.weaken (fun k q _ h => hFc q.1 h)
                  generalize H1 = H at hP hS hce ⊢
                  have hE9 : ∀ p, p < xct st → vad48 p = vad p := fun p h => (hv49 p (Nat.lt_of_lt_of_le h hN)).trans (hE p h)
                  have hE := hE9
                  have hN : xct st ≤ xct o33.2.2.2.2 := Nat.le_trans hN hn50
                  refine vx_catch (own := "ValueBenchModel") (name := "java/lang/IndexOutOfBoundsException") (E := "java/lang/IndexOutOfBoundsException") hown [⟨0, 128, 131, 83⟩] ⟨0, 128, 149, 86⟩ [] (by rw [htab]; rfl) (by intro z hz; rcases List.mem_cons.mp hz with rfl | hz; (exact Or.inr ⟨by decide, "java/lang/ArithmeticException", htx _ kw_6_94, hZ.2.2.2.2.2.2.2.1 ("java/lang/IndexOutOfBoundsException", "java/lang/ArithmeticException") (List.mem_of_getElem? (i := 2) rfl)⟩); cases hz) (by decide) (by decide) (htx _ kw_5_205) ((hZ.2.2.2.2.2.1 "java/lang/IndexOutOfBoundsException" (List.mem_of_getElem? (i := 0) rfl)).use rfl) hce hcv hcl ?_
                  refine lv_astore (lv' := [(6, .ref q9), (0, .ref aM), (1, .int x0), (2, .int x1), (3, .int x2), (4, .int x3), (5, .int x4)]) hx hb dM_finish_149 hl (by decide) rfl (fun ls hl => ?_)
                  refine lv_aload_n hx hb dM_finish_151 rfl (lv_at hl 1 rfl) ?_
                  refine lv_iconst (v := 3) hx hb dM_finish_152 (by decide) ?_
                  refine xm_put (v := .int 3) (W' := (xMw cT aM ad46 rd gd47 vad48 (xsI o33.2.2.2.2 0 3) [])) (ty := .int) hx hb htx hown hK hP hD hS 0 (by decide) rfl (htx _ kw_5_87) rfl rfl (by decide +kernel) rfl rfl dM_finish_153 (fun H locs hP hD hS => ?_)
                  obtain rfl := Option.some.inj hf
                  exact W.vret hx hb hr (fun t ht hW => ⟨⟨(ad46, gd47, vad48), rfl, ⟨hE, hN⟩, by rw [ht]; exact hP, va_K.moved hW.alike hK, hD⟩, hS.F ht⟩) hS.2.2 dM_finish_156
                rw [if_neg hk43] at hf
                exact nomatch hf
              rw [if_neg hk25] at hf
              by_cases hk51 : o23.1 = 1
              · rw [if_pos hk51] at hf
                obtain ⟨hm52, hf⟩ := xmoE hf
                have hFc := xm_free hD hS hA
                refine xx_thr (vx_runV (C := "ValueBenchModel") (As := [.int x2, xv vad19 o1.2.2.2.1, xv vad19 o11.2.2.2.1]) (rest := []) ⟨hx, hb, hml, hown, htx⟩ (gM_two1_1 l hl9 D cT aK aV H.size d n aM ad17 rd gd18 vad19 o11.2.2.2.2 x2 o1.2.2.2.1 o11.2.2.2.1 o23 hq24 hk51) ⟨callB_of 3 htx (xw_goodC kw_7_79) rfl rfl rfl (htx _ kw_1_5) (htx _ kw_7_76) ⟨by decide, by decide, by decide +kernel⟩ ⟨(by show (16 * d + 10) + 1 ≤ 16 * d + 12; omega), (by show 8 + (4 + 11) + (400 * d + 199) ≤ 400 * d + 246; omega)⟩, (htx _ kw_7_78), (htx _ kp_M_two1)⟩ ⟨xPre_blind, va_recv hK hP (ci := 5) rfl (q0 := 0) rfl, (fun U hU hW => ⟨rfl, xPre_of hZ hS hFc hP hD hK U hU hW⟩)⟩ rfl rfl hl.1 rfl (xm_room (Nat.le_of_ble_eq_true rfl)) dM_finish_71 ⟨hm52.1, hm52.2⟩) hS hFc (fun q _ h => hFc q h) (fun E ce q9 u9 t H1 locs ht hvm hr9 hB hz1 hk1 hS hce hcv hcl => ?_)
                obtain ⟨rfl, hP1, hK1, hD1⟩ := hB
                rw [ht] at hP1
                obtain ⟨ad54, gd55, vad56⟩ := u9
                obtain ⟨hv57, hn58⟩ := hr9
                have hP : va_P D xcl (xMw cT aM ad54 rd gd55 vad56 o23.2.2.2.2 []) H1 := hP1
                have hD : va_D A (xMw cT aM ad54 rd gd55 vad56 o23.2.2.2.2 []) := hD1.weaken (fun k q _ h => hFc q.1 h)
                generalize H1 = H at hP hS hce ⊢
                have hE9 : ∀ p, p < xct st → vad56 p = vad p := fun p h => (hv57 p (Nat.lt_of_lt_of_le h hN)).trans (hE p h)
                have hE := hE9
                have hN : xct st ≤ xct o23.2.2.2.2 := Nat.le_trans hN hn58
                refine vx_catch (own := "ValueBenchModel") (name := "java/lang/ArithmeticException") (E := "java/lang/ArithmeticException") hown [] ⟨0, 128, 131, 83⟩ [⟨0, 128, 149, 86⟩] (by rw [htab]; rfl) (fun z hz => nomatch hz) (by decide) (by decide) (htx _ kw_6_94) ((hZ.2.2.2.2.2.1 "java/lang/ArithmeticException" (List.mem_of_getElem? (i := 3) rfl)).use rfl) hce hcv hcl ?_
                refine lv_astore (lv' := [(6, .ref q9), (0, .ref aM), (1, .int x0), (2, .int x1), (3, .int x2), (4, .int x3), (5, .int x4)]) hx hb dM_finish_131 hl (by decide) rfl (fun ls hl => ?_)
                refine lv_aload_n hx hb dM_finish_133 rfl (lv_at hl 1 rfl) ?_
                refine lv_aload_n hx hb dM_finish_134 rfl (lv_at hl 1 rfl) ?_
                refine xm_get (v := .int (xsi o23.2.2.2.2 8)) hx hb htx hown hK hP 8 (by decide) rfl (htx _ kw_5_95) rfl dM_finish_135 ?_
                refine xm_put (v := .int (xsi o23.2.2.2.2 8)) (W' := (xMw cT aM ad54 rd gd55 vad56 (xsI o23.2.2.2.2 30 (xsi o23.2.2.2.2 8)) [])) (ty := .int) hx hb htx hown hK hP hD hS 30 (by decide) rfl (htx _ kw_5_117) rfl rfl (by decide +kernel) rfl rfl dM_finish_138 (fun H locs hP hD hS => ?_)
                refine lv_aload_n hx hb dM_finish_141 rfl (lv_at hl 1 rfl) ?_
                refine lv_iconst (v := 2) hx hb dM_finish_142 (by decide) ?_
                refine xm_put (v := .int 2) (W' := (xMw cT aM ad54 rd gd55 vad56 (xsI (xsI o23.2.2.2.2 30 (xsi o23.2.2.2.2 8)) 0 2) [])) (ty := .int) hx hb htx hown hK hP hD hS 0 (by decide) rfl (htx _ kw_5_87) rfl rfl (by decide +kernel) rfl rfl dM_finish_143 (fun H locs hP hD hS => ?_)
                refine lv_goto (tgt := 156) hx hb dM_finish_146 (by decide) ?_
                obtain rfl := Option.some.inj hf
                exact W.vret hx hb hr (fun t ht hW => ⟨⟨(ad54, gd55, vad56), rfl, ⟨hE, hN⟩, by rw [ht]; exact hP, va_K.moved hW.alike hK, hD⟩, hS.F ht⟩) hS.2.2 dM_finish_156
              rw [if_neg hk51] at hf
              by_cases hk59 : o23.1 = 2
              · rw [if_pos hk59] at hf
                obtain ⟨hm60, hf⟩ := xmoE hf
                have hFc := xm_free hD hS hA
                refine xx_thr (vx_runV (C := "ValueBenchModel") (As := [.int x2, xv vad19 o1.2.2.2.1, xv vad19 o11.2.2.2.1]) (rest := []) ⟨hx, hb, hml, hown, htx⟩ (gM_two1_2 l hl9 D cT aK aV H.size d n aM ad17 rd gd18 vad19 o11.2.2.2.2 x2 o1.2.2.2.1 o11.2.2.2.1 o23 hq24 hk59) ⟨callB_of 3 htx (xw_goodC kw_7_79) rfl rfl rfl (htx _ kw_1_5) (htx _ kw_7_76) ⟨by decide, by decide, by decide +kernel⟩ ⟨(by show (16 * d + 10) + 1 ≤ 16 * d + 12; omega), (by show 8 + (4 + 11) + (400 * d + 199) ≤ 400 * d + 246; omega)⟩, (htx _ kw_7_78), (htx _ kp_M_two1)⟩ ⟨xPre_blind, va_recv hK hP (ci := 5) rfl (q0 := 0) rfl, (fun U hU hW => ⟨rfl, xPre_of hZ hS hFc hP hD hK U hU hW⟩)⟩ rfl rfl hl.1 rfl (xm_room (Nat.le_of_ble_eq_true rfl)) dM_finish_71 ⟨hm60.1, hm60.2⟩) hS hFc (fun q _ h => hFc q h) (fun E ce q9 u9 t H1 locs ht hvm hr9 hB hz1 hk1 hS hce hcv hcl => ?_)
                obtain ⟨rfl, hP1, hK1, hD1⟩ := hB
                rw [ht] at hP1
                obtain ⟨ad62, gd63, vad64⟩ := u9
                obtain ⟨hv65, hn66⟩ := hr9
                have hP : va_P D xcl (xMw cT aM ad62 rd gd63 vad64 o23.2.2.2.2 []) H1 := hP1
                have hD : va_D A (xMw cT aM ad62 rd gd63 vad64 o23.2.2.2.2 []) := hD1.weaken (fun k q _ h => hFc q.1 h)
                generalize H1 = H at hP hS hce ⊢
                have hE9 : ∀ p, p < xct st → vad64 p = vad p := fun p h => (hv65 p (Nat.lt_of_lt_of_le h hN)).trans (hE p h)
                have hE := hE9
                have hN : xct st ≤ xct o23.2.2.2.2 := Nat.le_trans hN hn66
                refine vx_catch (own := "ValueBenchModel") (name := "java/lang/IndexOutOfBoundsException") (E := "java/lang/IndexOutOfBoundsException") hown [⟨0, 128, 131, 83⟩] ⟨0, 128, 149, 86⟩ [] (by rw [htab]; rfl) (by intro z hz; rcases List.mem_cons.mp hz with rfl | hz; (exact Or.inr ⟨by decide, "java/lang/ArithmeticException", htx _ kw_6_94, hZ.2.2.2.2.2.2.2.1 ("java/lang/IndexOutOfBoundsException", "java/lang/ArithmeticException") (List.mem_of_getElem? (i := 2) rfl)⟩); cases hz) (by decide) (by decide) (htx _ kw_5_205) ((hZ.2.2.2.2.2.1 "java/lang/IndexOutOfBoundsException" (List.mem_of_getElem? (i := 0) rfl)).use rfl) hce hcv hcl ?_
                refine lv_astore (lv' := [(6, .ref q9), (0, .ref aM), (1, .int x0), (2, .int x1), (3, .int x2), (4, .int x3), (5, .int x4)]) hx hb dM_finish_149 hl (by decide) rfl (fun ls hl => ?_)
                refine lv_aload_n hx hb dM_finish_151 rfl (lv_at hl 1 rfl) ?_
                refine lv_iconst (v := 3) hx hb dM_finish_152 (by decide) ?_
                refine xm_put (v := .int 3) (W' := (xMw cT aM ad62 rd gd63 vad64 (xsI o23.2.2.2.2 0 3) [])) (ty := .int) hx hb htx hown hK hP hD hS 0 (by decide) rfl (htx _ kw_5_87) rfl rfl (by decide +kernel) rfl rfl dM_finish_153 (fun H locs hP hD hS => ?_)
                obtain rfl := Option.some.inj hf
                exact W.vret hx hb hr (fun t ht hW => ⟨⟨(ad62, gd63, vad64), rfl, ⟨hE, hN⟩, by rw [ht]; exact hP, va_K.moved hW.alike hK, hD⟩, hS.F ht⟩) hS.2.2 dM_finish_156
              rw [if_neg hk59] at hf
              exact nomatch hf
          · rw [if_pos hc] at hf
            refine lv_aload_n hx hb dM_finish_48 rfl (lv_at hl 2 rfl) ?_
            refine lv_iload_n hx hb dM_finish_49 rfl (lv_at hl 5 rfl) ?_
            refine xm_aload hx hb (xvor _ _) dM_finish_50 (lv_at hl 1 rfl) ?_
            obtain ⟨o23, hq24, hf⟩ := xbind hf
            have hl := lv_sub (l' := [(0, .ref aM), (1, .int x0), (2, .int x1), (3, .int x2), (4, .int x3), (5, .int x4)]) hl [2, 3, 4, 5, 6, 7] rfl
            by_cases hk25 : o23.1 = 0
            · rw [if_pos hk25] at hf
              obtain ⟨hm26, hf⟩ := xmoE hf
              have hFc := xm_free hD hS hA
              refine va_callq (va_runV (C := "ValueBenchModel") (As := [.int x2, xv vad19 o1.2.2.2.1]) (rest := []) ⟨hx, hb, hml, hown, htx⟩ (gM_one1 l hl9 D cT aK aV H.size d n aM ad17 rd gd18 vad19 o11.2.2.2.2 x2 o1.2.2.2.1 o23 hq24 hk25) ⟨callB_of 2 htx (xw_goodC kw_6_237) rfl rfl rfl (htx _ kw_1_5) (htx _ kw_6_234) ⟨by decide, by decide, by decide +kernel⟩ ⟨(by show (16 * d + 11) + 1 ≤ 16 * d + 12; omega), (by show 8 + (3 + 11) + (400 * d + 224) ≤ 400 * d + 246; omega)⟩, (htx _ kw_6_236), (htx _ kp_M_one1)⟩ ⟨xPre_blind, va_recv hK hP (ci := 5) rfl (q0 := 0) rfl, (fun U hU hW => ⟨rfl, xPre_of hZ hS hFc hP hD hK U hU hW⟩)⟩ rfl rfl hl.1 rfl (xm_room (Nat.le_of_ble_eq_true rfl)) dM_finish_52 ⟨hm26.1, hm26.2⟩) hS (fun q _ h => hFc q h) hFc (fun r27 u9 t H1 locs ht hvm hr9 hB hz1 hk1 hS => ?_)
              obtain ⟨hP1, hK1, hD1⟩ := hB
              rw [ht] at hP1
              obtain ⟨ad28, gd29, vad30⟩ := u9
              obtain ⟨hr9, hv31, hn32⟩ := hr9
              have hP : va_P D xcl (xMw cT aM ad28 rd gd29 vad30 o23.2.2.2.2 []) H1 := hP1
              have hD : va_D A (xMw cT aM ad28 rd gd29 vad30 o23.2.2.2.2 []) := hD1.weaken (fun k q _ h => hFc q.1 h)
              generalize H1 = H at hP hS ⊢
              have hE9 : ∀ p, p < xct st → vad30 p = vad p := fun p h => (hv31 p (Nat.lt_of_lt_of_le h hN)).trans (hE p h)
              have hE := hE9
              have hN : xct st ≤ xct o23.2.2.2.2 := Nat.le_trans hN hn32
              rw [hr9]
              refine W.eq (g2 := F0 m 55 ls [xv vad30 o23.2.2.2.1]) (by first | rfl | (skip; rfl)) ?_
              refine xm_astore (lv' := [(8, xv vad30 o23.2.2.2.1), (0, .ref aM), (1, .int x0), (2, .int x1), (3, .int x2), (4, .int x3), (5, .int x4)]) hx hb (xvor _ _) dM_finish_55 hl (by decide) rfl (fun ls hl => ?_)
              refine lv_goto (tgt := 119) hx hb dM_finish_57 (by decide) ?_
              refine lv_aload_n hx hb dM_finish_119 rfl (lv_at hl 1 rfl) ?_
              refine lv_iload_n hx hb dM_finish_120 rfl (lv_at hl 2 rfl) ?_
              refine xm_aload hx hb (xvor _ _) dM_finish_121 (lv_at hl 0 rfl) ?_
              obtain ⟨o33, hq34, hf⟩ := xbind hf
              have hl := lv_sub (l' := [(0, .ref aM), (1, .int x0), (2, .int x1), (3, .int x2), (4, .int x3), (5, .int x4)]) hl [1, 2, 3, 4, 5, 6] rfl
              by_cases hk35 : o33.1 = 0
              · rw [if_pos hk35] at hf
                obtain ⟨hm36, hf⟩ := xmoE hf
                have hFc := xm_free hD hS hA
                refine va_calli (va_runV (C := "ValueBenchModel") (As := [.int x0, xv vad30 o23.2.2.2.1]) (rest := []) ⟨hx, hb, hml, hown, htx⟩ (gM_store l hl9 D cT aK aV H.size d n aM ad28 rd gd29 vad30 o23.2.2.2.2 x0 o23.2.2.2.1 o33 hq34 hk35) ⟨callB_of 2 htx (xw_goodC kw_6_124) rfl rfl rfl (htx _ kw_1_5) (htx _ kw_6_121) ⟨by decide, by decide, by decide +kernel⟩ ⟨(by show (16 * d + 1) + 1 ≤ 16 * d + 12; omega), (by show 8 + (4 + 11) + (400 * d + 22) ≤ 400 * d + 246; omega)⟩, (htx _ kw_6_123), (htx _ kp_M_store)⟩ ⟨xPre_blind, va_recv hK hP (ci := 5) rfl (q0 := 0) rfl, (fun U hU hW => ⟨rfl, xPre_of hZ hS hFc hP hD hK U hU hW⟩)⟩ rfl rfl hl.1 rfl (xm_room (Nat.le_of_ble_eq_true rfl)) dM_finish_123 ⟨hm36.1, hm36.2⟩) hS (fun q _ h => hFc q h) hFc (fun r37 u9 t H1 locs ht hvm hr9 hB hz1 hk1 hS => ?_)
                obtain ⟨hP1, hK1, hD1⟩ := hB
                rw [ht] at hP1
                obtain ⟨ad38, gd39, vad40⟩ := u9
                obtain ⟨hr9, hv41, hn42⟩ := hr9
                have hP : va_P D xcl (xMw cT aM ad38 rd gd39 vad40 o33.2.2.2.2 []) H1 := hP1
                have hD : va_D A (xMw cT aM ad38 rd gd39 vad40 o33.2.2.2.2 []) := hD1.weaken (fun k q _ h => hFc q.1 h)
                generalize H1 = H at hP hS ⊢
                have hE9 : ∀ p, p < xct st → vad40 p = vad p := fun p h => (hv41 p (Nat.lt_of_lt_of_le h hN)).trans (hE p h)
                have hE := hE9
                have hN : xct st ≤ xct o33.2.2.2.2 := Nat.le_trans hN hn42
                rw [hr9]
                refine W.eq (g2 := F0 m 126 ls [.int o33.2.2.2.1]) (by first | rfl | (skip; rfl)) ?_
                refine lv_istore (lv' := [(9, .int o33.2.2.2.1), (0, .ref aM), (1, .int x0), (2, .int x1), (3, .int x2), (4, .int x3), (5, .int x4)]) hx hb dM_finish_126 hl (by decide) rfl (fun ls hl => ?_)
                refine lv_goto (tgt := 156) hx hb dM_finish_128 (by decide) ?_
                obtain rfl := Option.some.inj hf
                exact W.vret hx hb hr (fun t ht hW => ⟨⟨(ad38, gd39, vad40), rfl, ⟨hE, hN⟩, by rw [ht]; exact hP, va_K.moved hW.alike hK, hD⟩, hS.F ht⟩) hS.2.2 dM_finish_156
              rw [if_neg hk35] at hf
              by_cases hk43 : o33.1 = 1
              · rw [if_pos hk43] at hf
                obtain ⟨hm44, hf⟩ := xmoE hf
                have hFc := xm_free hD hS hA
                refine xx_thr (vx_runV (C := "ValueBenchModel") (As := [.int x0, xv vad30 o23.2.2.2.1]) (rest := []) ⟨hx, hb, hml, hown, htx⟩ (gM_store_1 l hl9 D cT aK aV H.size d n aM ad28 rd gd29 vad30 o23.2.2.2.2 x0 o23.2.2.2.1 o33 hq34 hk43) ⟨callB_of 2 htx (xw_goodC kw_6_124) rfl rfl rfl (htx _ kw_1_5) (htx _ kw_6_121) ⟨by decide, by decide, by decide +kernel⟩ ⟨(by show (16 * d + 1) + 1 ≤ 16 * d + 12; omega), (by show 8 + (4 + 11) + (400 * d + 22) ≤ 400 * d + 246; omega)⟩, (htx _ kw_6_123), (htx _ kp_M_store)⟩ ⟨xPre_blind, va_recv hK hP (ci := 5) rfl (q0 := 0) rfl, (fun U hU hW => ⟨rfl, xPre_of hZ hS hFc hP hD hK U hU hW⟩)⟩ rfl rfl hl.1 rfl (xm_room (Nat.le_of_ble_eq_true rfl)) dM_finish_123 ⟨hm44.1, hm44.2⟩) hS hFc (fun q _ h => hFc q h) (fun E ce q9 u9 t H1 locs ht hvm hr9 hB hz1 hk1 hS hce hcv hcl => ?_)
                obtain ⟨rfl, hP1, hK1, hD1⟩ := hB
                rw [ht] at hP1
                obtain ⟨ad46, gd47, vad48⟩ := u9
                obtain ⟨hv49, hn50⟩ := hr9
                have hP : va_P D xcl (xMw cT aM ad46 rd gd47 vad48 o33.2.2.2.2 []) H1 := hP1
                have hD : va_D A (xMw cT aM ad46 rd gd47 vad48 o33.2.2.2.2 []) := hD1.weaken (fun k q _ h => hFc q.1 h)
                generalize H1 = H at hP hS hce ⊢
                have hE9 : ∀ p, p < xct st → vad48 p = vad p := fun p h => (hv49 p (Nat.lt_of_lt_of_le h hN)).trans (hE p h)
                have hE := hE9
                have hN : xct st ≤ xct o33.2.2.2.2 := Nat.le_trans hN hn50
                refine vx_catch (own := "ValueBenchModel") (name := "java/lang/IndexOutOfBoundsException") (E := "java/lang/IndexOutOfBoundsException") hown [⟨0, 128, 131, 83⟩] ⟨0, 128, 149, 86⟩ [] (by rw [htab]; rfl) (by intro z hz; rcases List.mem_cons.mp hz with rfl | hz; (exact Or.inr ⟨by decide, "java/lang/ArithmeticException", htx _ kw_6_94, hZ.2.2.2.2.2.2.2.1 ("java/lang/IndexOutOfBoundsException", "java/lang/ArithmeticException") (List.mem_of_getElem? (i := 2) rfl)⟩); cases hz) (by decide) (by decide) (htx _ kw_5_205) ((hZ.2.2.2.2.2.1 "java/lang/IndexOutOfBoundsException" (List.mem_of_getElem? (i := 0) rfl)).use rfl) hce hcv hcl ?_
                refine lv_astore (lv' := [(6, .ref q9), (0, .ref aM), (1, .int x0), (2, .int x1), (3, .int x2), (4, .int x3), (5, .int x4)]) hx hb dM_finish_149 hl (by decide) rfl (fun ls hl => ?_)
                refine lv_aload_n hx hb dM_finish_151 rfl (lv_at hl 1 rfl) ?_
                refine lv_iconst (v := 3) hx hb dM_finish_152 (by decide) ?_
                refine xm_put (v := .int 3) (W' := (xMw cT aM ad46 rd gd47 vad48 (xsI o33.2.2.2.2 0 3) [])) (ty := .int) hx hb htx hown hK hP hD hS 0 (by decide) rfl (htx _ kw_5_87) rfl rfl (by decide +kernel) rfl rfl dM_finish_153 (fun H locs hP hD hS => ?_)
                obtain rfl := Option.some.inj hf
                exact W.vret hx hb hr (fun t ht hW => ⟨⟨(ad46, gd47, vad48), rfl, ⟨hE, hN⟩, by rw [ht]; exact hP, va_K.moved hW.alike hK, hD⟩, hS.F ht⟩) hS.2.2 dM_finish_156
              rw [if_neg hk43] at hf
              exact nomatch hf
            rw [if_neg hk25] at hf
            by_cases hk51 : o23.1 = 1
            · rw [if_pos hk51] at hf
              obtain ⟨hm52, hf⟩ := xmoE hf
              have hFc := xm_free hD hS hA
              refine xx_thr (vx_runV (C := "ValueBenchModel") (As := [.int x2, xv vad19 o1.2.2.2.1]) (rest := []) ⟨hx, hb, hml, hown, htx⟩ (gM_one1_1 l hl9 D cT aK aV H.size d n aM ad17 rd gd18 vad19 o11.2.2.2.2 x2 o1.2.2.2.1 o23 hq24 hk51) ⟨callB_of 2 htx (xw_goodC kw_6_237) rfl rfl rfl (htx _ kw_1_5) (htx _ kw_6_234) ⟨by decide, by decide, by decide +kernel⟩ ⟨(by show (16 * d + 11) + 1 ≤ 16 * d + 12; omega), (by show 8 + (3 + 11) + (400 * d + 224) ≤ 400 * d + 246; omega)⟩, (htx _ kw_6_236), (htx _ kp_M_one1)⟩ ⟨xPre_blind, va_recv hK hP (ci := 5) rfl (q0 := 0) rfl, (fun U hU hW => ⟨rfl, xPre_of hZ hS hFc hP hD hK U hU hW⟩)⟩ rfl rfl hl.1 rfl (xm_room (Nat.le_of_ble_eq_true rfl)) dM_finish_52 ⟨hm52.1, hm52.2⟩) hS hFc (fun q _ h => hFc q h) (fun E ce q9 u9 t H1 locs ht hvm hr9 hB hz1 hk1 hS hce hcv hcl => ?_)
              obtain ⟨rfl, hP1, hK1, hD1⟩ := hB
              rw [ht] at hP1
              obtain ⟨ad54, gd55, vad56⟩ := u9
              obtain ⟨hv57, hn58⟩ := hr9
              have hP : va_P D xcl (xMw cT aM ad54 rd gd55 vad56 o23.2.2.2.2 []) H1 := hP1
              have hD : va_D A (xMw cT aM ad54 rd gd55 vad56 o23.2.2.2.2 []) := hD1.weaken (fun k q _ h => hFc q.1 h)
              generalize H1 = H at hP hS hce ⊢
              have hE9 : ∀ p, p < xct st → vad56 p = vad p := fun p h => (hv57 p (Nat.lt_of_lt_of_le h hN)).trans (hE p h)
              have hE := hE9
              have hN : xct st ≤ xct o23.2.2.2.2 := Nat.le_trans hN hn58
              refine vx_catch (own := "ValueBenchModel") (name := "java/lang/ArithmeticException") (E := "java/lang/ArithmeticException") hown [] ⟨0, 128, 131, 83⟩ [⟨0, 128, 149, 86⟩] (by rw [htab]; rfl) (fun z hz => nomatch hz) (by decide) (by decide) (htx _ kw_6_94) ((hZ.2.2.2.2.2.1 "java/lang/ArithmeticException" (List.mem_of_getElem? (i := 3) rfl)).use rfl) hce hcv hcl ?_
              refine lv_astore (lv' := [(6, .ref q9), (0, .ref aM), (1, .int x0), (2, .int x1), (3, .int x2), (4, .int x3), (5, .int x4)]) hx hb dM_finish_131 hl (by decide) rfl (fun ls hl => ?_)
              refine lv_aload_n hx hb dM_finish_133 rfl (lv_at hl 1 rfl) ?_
              refine lv_aload_n hx hb dM_finish_134 rfl (lv_at hl 1 rfl) ?_
              refine xm_get (v := .int (xsi o23.2.2.2.2 8)) hx hb htx hown hK hP 8 (by decide) rfl (htx _ kw_5_95) rfl dM_finish_135 ?_
              refine xm_put (v := .int (xsi o23.2.2.2.2 8)) (W' := (xMw cT aM ad54 rd gd55 vad56 (xsI o23.2.2.2.2 30 (xsi o23.2.2.2.2 8)) [])) (ty := .int) hx hb htx hown hK hP hD hS 30 (by decide) rfl (htx _ kw_5_117) rfl rfl (by decide +kernel) rfl rfl dM_finish_138 (fun H locs hP hD hS => ?_)
              refine lv_aload_n hx hb dM_finish_141 rfl (lv_at hl 1 rfl) ?_
              refine lv_iconst (v := 2) hx hb dM_finish_142 (by decide) ?_
              refine xm_put (v := .int 2) (W' := (xMw cT aM ad54 rd gd55 vad56 (xsI (xsI o23.2.2.2.2 30 (xsi o23.2.2.2.2 8)) 0 2) [])) (ty := .int) hx hb htx hown hK hP hD hS 0 (by decide) rfl (htx _ kw_5_87) rfl rfl (by decide +kernel) rfl rfl dM_finish_143 (fun H locs hP hD hS => ?_)
              refine lv_goto (tgt := 156) hx hb dM_finish_146 (by decide) ?_
              obtain rfl := Option.some.inj hf
              exact W.vret hx hb hr (fun t ht hW => ⟨⟨(ad54, gd55, vad56), rfl, ⟨hE, hN⟩, by rw [ht]; exact hP, va_K.moved hW.alike hK, hD⟩, hS.F ht⟩) hS.2.2 dM_finish_156
            rw [if_neg hk51] at hf
            by_cases hk59 : o23.1 = 2
            · rw [if_pos hk59] at hf
              obtain ⟨hm60, hf⟩ := xmoE hf
              have hFc := xm_free hD hS hA
              refine xx_thr (vx_runV (C := "ValueBenchModel") (As := [.int x2, xv vad19 o1.2.2.2.1]) (rest := []) ⟨hx, hb, hml, hown, htx⟩ (gM_one1_2 l hl9 D cT aK aV H.size d n aM ad17 rd gd18 vad19 o11.2.2.2.2 x2 o1.2.2.2.1 o23 hq24 hk59) ⟨callB_of 2 htx (xw_goodC kw_6_237) rfl rfl rfl (htx _ kw_1_5) (htx _ kw_6_234) ⟨by decide, by decide, by decide +kernel⟩ ⟨(by show (16 * d + 11) + 1 ≤ 16 * d + 12; omega), (by show 8 + (3 + 11) + (400 * d + 224) ≤ 400 * d + 246; omega)⟩, (htx _ kw_6_236), (htx _ kp_M_one1)⟩ ⟨xPre_blind, va_recv hK hP (ci := 5) rfl (q0 := 0) rfl, (fun U hU hW => ⟨rfl, xPre_of hZ hS hFc hP hD hK U hU hW⟩)⟩ rfl rfl hl.1 rfl (xm_room (Nat.le_of_ble_eq_true rfl)) dM_finish_52 ⟨hm60.1, hm60.2⟩) hS hFc (fun q _ h => hFc q h) (fun E ce q9 u9 t H1 locs ht hvm hr9 hB hz1 hk1 hS hce hcv hcl => ?_)
              obtain ⟨rfl, hP1, hK1, hD1⟩ := hB
              rw [ht] at hP1
              obtain ⟨ad62, gd63, vad64⟩ := u9
              obtain ⟨hv65, hn66⟩ := hr9
              have hP : va_P D xcl (xMw cT aM ad62 rd gd63 vad64 o23.2.2.2.2 []) H1 := hP1
              have hD : va_D A (xMw cT aM ad62 rd gd63 vad64 o23.2.2.2.2 []) := hD1.weaken (fun k q _ h => hFc q.1 h)
              generalize H1 = H at hP hS hce ⊢
              have hE9 : ∀ p, p < xct st → vad64 p = vad p := fun p h => (hv65 p (Nat.lt_of_lt_of_le h hN)).trans (hE p h)
              have hE := hE9
              have hN : xct st ≤ xct o23.2.2.2.2 := Nat.le_trans hN hn66
              refine vx_catch (own := "ValueBenchModel") (name := "java/lang/IndexOutOfBoundsException") (E := "java/lang/IndexOutOfBoundsException") hown [⟨0, 128, 131, 83⟩] ⟨0, 128, 149, 86⟩ [] (by rw [htab]; rfl) (by intro z hz; rcases List.mem_cons.mp hz with rfl | hz; (exact Or.inr ⟨by decide, "java/lang/ArithmeticException", htx _ kw_6_94, hZ.2.2.2.2.2.2.2.1 ("java/lang/IndexOutOfBoundsException", "java/lang/ArithmeticException") (List.mem_of_getElem? (i := 2) rfl)⟩); cases hz) (by decide) (by decide) (htx _ kw_5_205) ((hZ.2.2.2.2.2.1 "java/lang/IndexOutOfBoundsException" (List.mem_of_getElem? (i := 0) rfl)).use rfl) hce hcv hcl ?_
              refine lv_astore (lv' := [(6, .ref q9), (0, .ref aM), (1, .int x0), (2, .int x1), (3, .int x2), (4, .int x3), (5, .int x4)]) hx hb dM_finish_149 hl (by decide) rfl (fun ls hl => ?_)
              refine lv_aload_n hx hb dM_finish_151 rfl (lv_at hl 1 rfl) ?_
              refine lv_iconst (v := 3) hx hb dM_finish_152 (by decide) ?_
              refine xm_put (v := .int 3) (W' := (xMw cT aM ad62 rd gd63 vad64 (xsI o23.2.2.2.2 0 3) [])) (ty := .int) hx hb htx hown hK hP hD hS 0 (by decide) rfl (htx _ kw_5_87) rfl rfl (by decide +kernel) rfl rfl dM_finish_153 (fun H locs hP hD hS => ?_)
              obtain rfl := Option.some.inj hf
              exact W.vret hx hb hr (fun t ht hW => ⟨⟨(ad62, gd63, vad64), rfl, ⟨hE, hN⟩, by rw [ht]; exact hP, va_K.moved hW.alike hK, hD⟩, hS.F ht⟩) hS.2.2 dM_finish_156
            rw [if_neg hk59] at hf
            exact nomatch hf
        · rw [if_pos hc] at hf
          refine lv_aload_n hx hb dM_finish_29 rfl (lv_at hl 2 rfl) ?_
          refine lv_iload_n hx hb dM_finish_30 rfl (lv_at hl 5 rfl) ?_
          refine xm_aload hx hb (xvor _ _) dM_finish_31 (lv_at hl 1 rfl) ?_
          refine xm_aload hx hb (xvor _ _) dM_finish_33 (lv_at hl 0 rfl) ?_
          obtain ⟨o23, hq24, hf⟩ := xbind hf
          have hl := lv_sub (l' := [(0, .ref aM), (1, .int x0), (2, .int x1), (3, .int x2), (4, .int x3), (5, .int x4)]) hl [2, 3, 4, 5, 6, 7] rfl
          by_cases hk25 : o23.1 = 0
          · rw [if_pos hk25] at hf
            obtain ⟨hm26, hf⟩ := xmoE hf
            have hFc := xm_free hD hS hA
            refine va_callq (va_runV (C := "ValueBenchModel") (As := [.int x2, xv vad19 o1.2.2.2.1, xv vad19 o11.2.2.2.1]) (rest := []) ⟨hx, hb, hml, hown, htx⟩ (gM_binary1 l hl9 D cT aK aV H.size d n aM ad17 rd gd18 vad19 o11.2.2.2.2 x2 o1.2.2.2.1 o11.2.2.2.1 o23 hq24 hk25) ⟨callB_of 3 htx (xw_goodC kw_6_199) rfl rfl rfl (htx _ kw_1_5) (htx _ kw_6_196) ⟨by decide, by decide, by decide +kernel⟩ ⟨(by show (16 * d + 9) + 1 ≤ 16 * d + 12; omega), (by show 8 + (4 + 11) + (400 * d + 174) ≤ 400 * d + 246; omega)⟩, (htx _ kw_6_198), (htx _ kp_M_binary1)⟩ ⟨xPre_blind, va_recv hK hP (ci := 5) rfl (q0 := 0) rfl, (fun U hU hW => ⟨rfl, xPre_of hZ hS hFc hP hD hK U hU hW⟩)⟩ rfl rfl hl.1 rfl (xm_room (Nat.le_of_ble_eq_true rfl)) dM_finish_35 ⟨hm26.1, hm26.2⟩) hS (fun q _ h => hFc q h) hFc (fun r27 u9 t H1 locs ht hvm hr9 hB hz1 hk1 hS => ?_)
            obtain ⟨hP1, hK1, hD1⟩ := hB
            rw [ht] at hP1
            obtain ⟨ad28, gd29, vad30⟩ := u9
            obtain ⟨hr9, hv31, hn32⟩ := hr9
            have hP : va_P D xcl (xMw cT aM ad28 rd gd29 vad30 o23.2.2.2.2 []) H1 := hP1
            have hD : va_D A (xMw cT aM ad28 rd gd29 vad30 o23.2.2.2.2 []) := hD1.weaken (fun k q _ h => hFc q.1 h)
            generalize H1 = H at hP hS ⊢
            have hE9 : ∀ p, p < xct st → vad30 p = vad p := fun p h => (hv31 p (Nat.lt_of_lt_of_le h hN)).trans (hE p h)
            have hE := hE9
            have hN : xct st ≤ xct o23.2.2.2.2 := Nat.le_trans hN hn32
            rw [hr9]
            refine W.eq (g2 := F0 m 38 ls [xv vad30 o23.2.2.2.1]) (by first | rfl | (skip; rfl)) ?_
            refine xm_astore (lv' := [(8, xv vad30 o23.2.2.2.1), (0, .ref aM), (1, .int x0), (2, .int x1), (3, .int x2), (4, .int x3), (5, .int x4)]) hx hb (xvor _ _) dM_finish_38 hl (by decide) rfl (fun ls hl => ?_)
            refine lv_goto (tgt := 119) hx hb dM_finish_40 (by decide) ?_
            refine lv_aload_n hx hb dM_finish_119 rfl (lv_at hl 1 rfl) ?_
            refine lv_iload_n hx hb dM_finish_120 rfl (lv_at hl 2 rfl) ?_
            refine xm_aload hx hb (xvor _ _) dM_finish_121 (lv_at hl 0 rfl) ?_
            obtain ⟨o33, hq34, hf⟩ := xbind hf
            have hl := lv_sub (l' := [(0, .ref aM), (1, .int x0), (2, .int x1), (3, .int x2), (4, .int x3), (5, .int x4)]) hl [1, 2, 3, 4, 5, 6] rfl
            by_cases hk35 : o33.1 = 0
            · rw [if_pos hk35] at hf
              obtain ⟨hm36, hf⟩ := xmoE hf
              have hFc := xm_free hD hS hA
              refine va_calli (va_runV (C := "ValueBenchModel") (As := [.int x0, xv vad30 o23.2.2.2.1]) (rest := []) ⟨hx, hb, hml, hown, htx⟩ (gM_store l hl9 D cT aK aV H.size d n aM ad28 rd gd29 vad30 o23.2.2.2.2 x0 o23.2.2.2.1 o33 hq34 hk35) ⟨callB_of 2 htx (xw_goodC kw_6_124) rfl rfl rfl (htx _ kw_1_5) (htx _ kw_6_121) ⟨by decide, by decide, by decide +kernel⟩ ⟨(by show (16 * d + 1) + 1 ≤ 16 * d + 12; omega), (by show 8 + (4 + 11) + (400 * d + 22) ≤ 400 * d + 246; omega)⟩, (htx _ kw_6_123), (htx _ kp_M_store)⟩ ⟨xPre_blind, va_recv hK hP (ci := 5) rfl (q0 := 0) rfl, (fun U hU hW => ⟨rfl, xPre_of hZ hS hFc hP hD hK U hU hW⟩)⟩ rfl rfl hl.1 rfl (xm_room (Nat.le_of_ble_eq_true rfl)) dM_finish_123 ⟨hm36.1, hm36.2⟩) hS (fun q _ h => hFc q h) hFc (fun r37 u9 t H1 locs ht hvm hr9 hB hz1 hk1 hS => ?_)
              obtain ⟨hP1, hK1, hD1⟩ := hB
              rw [ht] at hP1
              obtain ⟨ad38, gd39, vad40⟩ := u9
              obtain ⟨hr9, hv41, hn42⟩ := hr9
              have hP : va_P D xcl (xMw cT aM ad38 rd gd39 vad40 o33.2.2.2.2 []) H1 := hP1
              have hD : va_D A (xMw cT aM ad38 rd gd39 vad40 o33.2.2.2.2 []) := hD1.weaken (fun k q _ h => hFc q.1 h)
              generalize H1 = H at hP hS ⊢
              have hE9 : ∀ p, p < xct st → vad40 p = vad p := fun p h => (hv41 p (Nat.lt_of_lt_of_le h hN)).trans (hE p h)
              have hE := hE9
              have hN : xct st ≤ xct o33.2.2.2.2 := Nat.le_trans hN hn42
              rw [hr9]
              refine W.eq (g2 := F0 m 126 ls [.int o33.2.2.2.1]) (by first | rfl | (skip; rfl)) ?_
              refine lv_istore (lv' := [(9, .int o33.2.2.2.1), (0, .ref aM), (1, .int x0), (2, .int x1), (3, .int x2), (4, .int x3), (5, .int x4)]) hx hb dM_finish_126 hl (by decide) rfl (fun ls hl => ?_)
              refine lv_goto (tgt := 156) hx hb dM_finish_128 (by decide) ?_
              obtain rfl := Option.some.inj hf
              exact W.vret hx hb hr (fun t ht hW => ⟨⟨(ad38, gd39, vad40), rfl, ⟨hE, hN⟩, by rw [ht]; exact hP, va_K.moved hW.alike hK, hD⟩, hS.F ht⟩) hS.2.2 dM_finish_156
            rw [if_neg hk35] at hf
            by_cases hk43 : o33.1 = 1
            · rw [if_pos hk43] at hf
              obtain ⟨hm44, hf⟩ := xmoE hf
              have hFc := xm_free hD hS hA
              refine xx_thr (vx_runV (C := "ValueBenchModel") (As := [.int x0, xv vad30 o23.2.2.2.1]) (rest := []) ⟨hx, hb, hml, hown, htx⟩ (gM_store_1 l hl9 D cT aK aV H.size d n aM ad28 rd gd29 vad30 o23.2.2.2.2 x0 o23.2.2.2.1 o33 hq34 hk43) ⟨callB_of 2 htx (xw_goodC kw_6_124) rfl rfl rfl (htx _ kw_1_5) (htx _ kw_6_121) ⟨by decide, by decide, by decide +kernel⟩ ⟨(by show (16 * d + 1) + 1 ≤ 16 * d + 12; omega), (by show 8 + (4 + 11) + (400 * d + 22) ≤ 400 * d + 246; omega)⟩, (htx _ kw_6_123), (htx _ kp_M_store)⟩ ⟨xPre_blind, va_recv hK hP (ci := 5) rfl (q0 := 0) rfl, (fun U hU hW => ⟨rfl, xPre_of hZ hS hFc hP hD hK U hU hW⟩)⟩ rfl rfl hl.1 rfl (xm_room (Nat.le_of_ble_eq_true rfl)) dM_finish_123 ⟨hm44.1, hm44.2⟩) hS hFc (fun q _ h => hFc q h) (fun E ce q9 u9 t H1 locs ht hvm hr9 hB hz1 hk1 hS hce hcv hcl => ?_)
              obtain ⟨rfl, hP1, hK1, hD1⟩ := hB
              rw [ht] at hP1
              obtain ⟨ad46, gd47, vad48⟩ := u9
              obtain ⟨hv49, hn50⟩ := hr9
              have hP : va_P D xcl (xMw cT aM ad46 rd gd47 vad48 o33.2.2.2.2 []) H1 := hP1
              have hD : va_D A (xMw cT aM ad46 rd gd47 vad48 o33.2.2.2.2 []) := hD1.weaken (fun k q _ h => hFc q.1 h)
              generalize H1 = H at hP hS hce ⊢
              have hE9 : ∀ p, p < xct st → vad48 p = vad p := fun p h => (hv49 p (Nat.lt_of_lt_of_le h hN)).trans (hE p h)
              have hE := hE9
              have hN : xct st ≤ xct o33.2.2.2.2 := Nat.le_trans hN hn50
              refine vx_catch (own := "ValueBenchModel") (name := "java/lang/IndexOutOfBoundsException") (E := "java/lang/IndexOutOfBoundsException") hown [⟨0, 128, 131, 83⟩] ⟨0, 128, 149, 86⟩ [] (by rw [htab]; rfl) (by intro z hz; rcases List.mem_cons.mp hz with rfl | hz; (exact Or.inr ⟨by decide, "java/lang/ArithmeticException", htx _ kw_6_94, hZ.2.2.2.2.2.2.2.1 ("java/lang/IndexOutOfBoundsException", "java/lang/ArithmeticException") (List.mem_of_getElem? (i := 2) rfl)⟩); cases hz) (by decide) (by decide) (htx _ kw_5_205) ((hZ.2.2.2.2.2.1 "java/lang/IndexOutOfBoundsException" (List.mem_of_getElem? (i := 0) rfl)).use rfl) hce hcv hcl ?_
              refine lv_astore (lv' := [(6, .ref q9), (0, .ref aM), (1, .int x0), (2, .int x1), (3, .int x2), (4, .int x3), (5, .int x4)]) hx hb dM_finish_149 hl (by decide) rfl (fun ls hl => ?_)
              refine lv_aload_n hx hb dM_finish_151 rfl (lv_at hl 1 rfl) ?_
              refine lv_iconst (v := 3) hx hb dM_finish_152 (by decide) ?_
              refine xm_put (v := .int 3) (W' := (xMw cT aM ad46 rd gd47 vad48 (xsI o33.2.2.2.2 0 3) [])) (ty := .int) hx hb htx hown hK hP hD hS 0 (by decide) rfl (htx _ kw_5_87) rfl rfl (by decide +kernel) rfl rfl dM_finish_153 (fun H locs hP hD hS => ?_)
              obtain rfl := Option.some.inj hf
              exact W.vret hx hb hr (fun t ht hW => ⟨⟨(ad46, gd47, vad48), rfl, ⟨hE, hN⟩, by rw [ht]; exact hP, va_K.moved hW.alike hK, hD⟩, hS.F ht⟩) hS.2.2 dM_finish_156
            rw [if_neg hk43] at hf
            exact nomatch hf
          rw [if_neg hk25] at hf
          by_cases hk51 : o23.1 = 1
          · rw [if_pos hk51] at hf
            obtain ⟨hm52, hf⟩ := xmoE hf
            have hFc := xm_free hD hS hA
            refine xx_thr (vx_runV (C := "ValueBenchModel") (As := [.int x2, xv vad19 o1.2.2.2.1, xv vad19 o11.2.2.2.1]) (rest := []) ⟨hx, hb, hml, hown, htx⟩ (gM_binary1_1 l hl9 D cT aK aV H.size d n aM ad17 rd gd18 vad19 o11.2.2.2.2 x2 o1.2.2.2.1 o11.2.2.2.1 o23 hq24 hk51) ⟨callB_of 3 htx (xw_goodC kw_6_199) rfl rfl rfl (htx _ kw_1_5) (htx _ kw_6_196) ⟨by decide, by decide, by decide +kernel⟩ ⟨(by show (16 * d + 9) + 1 ≤ 16 * d + 12; omega), (by show 8 + (4 + 11) + (400 * d + 174) ≤ 400 * d + 246; omega)⟩, (htx _ kw_6_198), (htx _ kp_M_binary1)⟩ ⟨xPre_blind, va_recv hK hP (ci := 5) rfl (q0 := 0) rfl, (fun U hU hW => ⟨rfl, xPre_of hZ hS hFc hP hD hK U hU hW⟩)⟩ rfl rfl hl.1 rfl (xm_room (Nat.le_of_ble_eq_true rfl)) dM_finish_35 ⟨hm52.1, hm52.2⟩) hS hFc (fun q _ h => hFc q h) (fun E ce q9 u9 t H1 locs ht hvm hr9 hB hz1 hk1 hS hce hcv hcl => ?_)
            obtain ⟨rfl, hP1, hK1, hD1⟩ := hB
            rw [ht] at hP1
            obtain ⟨ad54, gd55, vad56⟩ := u9
            obtain ⟨hv57, hn58⟩ := hr9
            have hP : va_P D xcl (xMw cT aM ad54 rd gd55 vad56 o23.2.2.2.2 []) H1 := hP1
            have hD : va_D A (xMw cT aM ad54 rd gd55 vad56 o23.2.2.2.2 []) := hD1.weaken (fun k q _ h => hFc q.1 h)
            generalize H1 = H at hP hS hce ⊢
            have hE9 : ∀ p, p < xct st → vad56 p = vad p := fun p h => (hv57 p (Nat.lt_of_lt_of_le h hN)).trans (hE p h)
            have hE := hE9
            have hN : xct st ≤ xct o23.2.2.2.2 := Nat.le_trans hN hn58
            refine vx_catch (own := "ValueBenchModel") (name := "java/lang/ArithmeticException") (E := "java/lang/ArithmeticException") hown [] ⟨0, 128, 131, 83⟩ [⟨0, 128, 149, 86⟩] (by rw [htab]; rfl) (fun z hz => nomatch hz) (by decide) (by decide) (htx _ kw_6_94) ((hZ.2.2.2.2.2.1 "java/lang/ArithmeticException" (List.mem_of_getElem? (i := 3) rfl)).use rfl) hce hcv hcl ?_
            refine lv_astore (lv' := [(6, .ref q9), (0, .ref aM), (1, .int x0), (2, .int x1), (3, .int x2), (4, .int x3), (5, .int x4)]) hx hb dM_finish_131 hl (by decide) rfl (fun ls hl => ?_)
            refine lv_aload_n hx hb dM_finish_133 rfl (lv_at hl 1 rfl) ?_
            refine lv_aload_n hx hb dM_finish_134 rfl (lv_at hl 1 rfl) ?_
            refine xm_get (v := .int (xsi o23.2.2.2.2 8)) hx hb htx hown hK hP 8 (by decide) rfl (htx _ kw_5_95) rfl dM_finish_135 ?_
            refine xm_put (v := .int (xsi o23.2.2.2.2 8)) (W' := (xMw cT aM ad54 rd gd55 vad56 (xsI o23.2.2.2.2 30 (xsi o23.2.2.2.2 8)) [])) (ty := .int) hx hb htx hown hK hP hD hS 30 (by decide) rfl (htx _ kw_5_117) rfl rfl (by decide +kernel) rfl rfl dM_finish_138 (fun H locs hP hD hS => ?_)
            refine lv_aload_n hx hb dM_finish_141 rfl (lv_at hl 1 rfl) ?_
            refine lv_iconst (v := 2) hx hb dM_finish_142 (by decide) ?_
            refine xm_put (v := .int 2) (W' := (xMw cT aM ad54 rd gd55 vad56 (xsI (xsI o23.2.2.2.2 30 (xsi o23.2.2.2.2 8)) 0 2) [])) (ty := .int) hx hb htx hown hK hP hD hS 0 (by decide) rfl (htx _ kw_5_87) rfl rfl (by decide +kernel) rfl rfl dM_finish_143 (fun H locs hP hD hS => ?_)
            refine lv_goto (tgt := 156) hx hb dM_finish_146 (by decide) ?_
            obtain rfl := Option.some.inj hf
            exact W.vret hx hb hr (fun t ht hW => ⟨⟨(ad54, gd55, vad56), rfl, ⟨hE, hN⟩, by rw [ht]; exact hP, va_K.moved hW.alike hK, hD⟩, hS.F ht⟩) hS.2.2 dM_finish_156
          rw [if_neg hk51] at hf
          by_cases hk59 : o23.1 = 2
          · rw [if_pos hk59] at hf
            obtain ⟨hm60, hf⟩ := xmoE hf
            have hFc := xm_free hD hS hA
            refine xx_thr (vx_runV (C := "ValueBenchModel") (As := [.int x2, xv vad19 o1.2.2.2.1, xv vad19 o11.2.2.2.1]) (rest := []) ⟨hx, hb, hml, hown, htx⟩ (gM_binary1_2 l hl9 D cT aK aV H.size d n aM ad17 rd gd18 vad19 o11.2.2.2.2 x2 o1.2.2.2.1 o11.2.2.2.1 o23 hq24 hk59) ⟨callB_of 3 htx (xw_goodC kw_6_199) rfl rfl rfl (htx _ kw_1_5) (htx _ kw_6_196) ⟨by decide, by decide, by decide +kernel⟩ ⟨(by show (16 * d + 9) + 1 ≤ 16 * d + 12; omega), (by show 8 + (4 + 11) + (400 * d + 174) ≤ 400 * d + 246; omega)⟩, (htx _ kw_6_198), (htx _ kp_M_binary1)⟩ ⟨xPre_blind, va_recv hK hP (ci := 5) rfl (q0 := 0) rfl, (fun U hU hW => ⟨rfl, xPre_of hZ hS hFc hP hD hK U hU hW⟩)⟩ rfl rfl hl.1 rfl (xm_room (Nat.le_of_ble_eq_true rfl)) dM_finish_35 ⟨hm60.1, hm60.2⟩) hS hFc (fun q _ h => hFc q h) (fun E ce q9 u9 t H1 locs ht hvm hr9 hB hz1 hk1 hS hce hcv hcl => ?_)
            obtain ⟨rfl, hP1, hK1, hD1⟩ := hB
            rw [ht] at hP1
            obtain ⟨ad62, gd63, vad64⟩ := u9
            obtain ⟨hv65, hn66⟩ := hr9
            have hP : va_P D xcl (xMw cT aM ad62 rd gd63 vad64 o23.2.2.2.2 []) H1 := hP1
            have hD : va_D A (xMw cT aM ad62 rd gd63 vad64 o23.2.2.2.2 []) := hD1.weaken (fun k q _ h => hFc q.1 h)
            generalize H1 = H at hP hS hce ⊢
            have hE9 : ∀ p, p < xct st → vad64 p = vad p := fun p h => (hv65 p (Nat.lt_of_lt_of_le h hN)).trans (hE p h)
            have hE := hE9
            have hN : xct st ≤ xct o23.2.2.2.2 := Nat.le_trans hN hn66
            refine vx_catch (own := "ValueBenchModel") (name := "java/lang/IndexOutOfBoundsException") (E := "java/lang/IndexOutOfBoundsException") hown [⟨0, 128, 131, 83⟩] ⟨0, 128, 149, 86⟩ [] (by rw [htab]; rfl) (by intro z hz; rcases List.mem_cons.mp hz with rfl | hz; (exact Or.inr ⟨by decide, "java/lang/ArithmeticException", htx _ kw_6_94, hZ.2.2.2.2.2.2.2.1 ("java/lang/IndexOutOfBoundsException", "java/lang/ArithmeticException") (List.mem_of_getElem? (i := 2) rfl)⟩); cases hz) (by decide) (by decide) (htx _ kw_5_205) ((hZ.2.2.2.2.2.1 "java/lang/IndexOutOfBoundsException" (List.mem_of_getElem? (i := 0) rfl)).use rfl) hce hcv hcl ?_
            refine lv_astore (lv' := [(6, .ref q9), (0, .ref aM), (1, .int x0), (2, .int x1), (3, .int x2), (4, .int x3), (5, .int x4)]) hx hb dM_finish_149 hl (by decide) rfl (fun ls hl => ?_)
            refine lv_aload_n hx hb dM_finish_151 rfl (lv_at hl 1 rfl) ?_
            refine lv_iconst (v := 3) hx hb dM_finish_152 (by decide) ?_
            refine xm_put (v := .int 3) (W' := (xMw cT aM ad62 rd gd63 vad64 (xsI o23.2.2.2.2 0 3) [])) (ty := .int) hx hb htx hown hK hP hD hS 0 (by decide) rfl (htx _ kw_5_87) rfl rfl (by decide +kernel) rfl rfl dM_finish_153 (fun H locs hP hD hS => ?_)
            obtain rfl := Option.some.inj hf
            exact W.vret hx hb hr (fun t ht hW => ⟨⟨(ad62, gd63, vad64), rfl, ⟨hE, hN⟩, by rw [ht]; exact hP, va_K.moved hW.alike hK, hD⟩, hS.F ht⟩) hS.2.2 dM_finish_156
          rw [if_neg hk59] at hf
          exact nomatch hf
      rw [if_neg hk13] at hf
      by_cases hk23 : o11.1 = 1
      · rw [if_pos hk23] at hf
        exact nomatch hf
      rw [if_neg hk23] at hf
      by_cases hk33 : o11.1 = 2
      · rw [if_pos hk33] at hf
        obtain ⟨hg34, hf⟩ := xifn hf
        obtain ⟨hm35, hf⟩ := xmoE hf
        have hFc := xm_free hD hS hA
        refine xx_thr (vx_runV (C := "ValueBenchModel") (As := [.int x4]) (rest := []) ⟨hx, hb, hml, hown, htx⟩ (gM_register_2 l hl9 D cT aK aV H.size d n aM ad6 rd gd7 vad8 o1.2.2.2.2 x4 o11 hq12 hk33) ⟨callB_of 1 htx (xw_goodC kw_6_170) rfl rfl rfl (htx _ kw_1_5) (htx _ kw_6_167) ⟨by decide, by decide, by decide +kernel⟩ ⟨(by show (16 * d + 8) + 1 ≤ 16 * d + 12; omega), (by show 8 + (2 + 11) + (400 * d + 145) ≤ 400 * d + 246; omega)⟩, (htx _ kw_6_169), (htx _ kp_M_register)⟩ ⟨xPre_blind, va_recv hK hP (ci := 5) rfl (q0 := 0) rfl, (fun U hU hW => ⟨rfl, xPre_of hZ hS hFc hP hD hK U hU hW⟩)⟩ rfl rfl hl.1 rfl (xm_room (Nat.le_of_ble_eq_true rfl)) dM_finish_20 ⟨hm35.1, hm35.2⟩) hS hFc (fun q _ h => hFc q h) (fun E ce q9 u9 t H1 locs ht hvm hr9 hB hz1 hk1 hS hce hcv hcl => ?_)
        obtain ⟨rfl, hP1, hK1, hD1⟩ := hB
        rw [ht] at hP1
        obtain ⟨ad37, gd38, vad39⟩ := u9
        obtain ⟨hv40, hn41⟩ := hr9
        have hP : va_P D xcl (xMw cT aM ad37 rd gd38 vad39 o11.2.2.2.2 []) H1 := hP1
        have hD : va_D A (xMw cT aM ad37 rd gd38 vad39 o11.2.2.2.2 []) := hD1.weaken (fun k q _ h => hFc q.1 h)
        generalize H1 = H at hP hS hce ⊢
        have hE9 : ∀ p, p < xct st → vad39 p = vad p := fun p h => (hv40 p (Nat.lt_of_lt_of_le h hN)).trans (hE p h)
        have hE := hE9
        have hN : xct st ≤ xct o11.2.2.2.2 := Nat.le_trans hN hn41
        have ev42 : xv vad8 o1.2.2.2.1 = xv vad39 o1.2.2.2.1 := xvE hv40 hg34
        have hl : lv_has ls 10 [(6, xv vad39 o1.2.2.2.1), (0, .ref aM), (1, .int x0), (2, .int x1), (3, .int x2), (4, .int x3), (5, .int x4)] := by first | exact hl | ((try (rw [← ev42])); exact hl)
        refine vx_catch (own := "ValueBenchModel") (name := "java/lang/IndexOutOfBoundsException") (E := "java/lang/IndexOutOfBoundsException") hown [⟨0, 128, 131, 83⟩] ⟨0, 128, 149, 86⟩ [] (by rw [htab]; rfl) (by intro z hz; rcases List.mem_cons.mp hz with rfl | hz; (exact Or.inr ⟨by decide, "java/lang/ArithmeticException", htx _ kw_6_94, hZ.2.2.2.2.2.2.2.1 ("java/lang/IndexOutOfBoundsException", "java/lang/ArithmeticException") (List.mem_of_getElem? (i := 2) rfl)⟩); cases hz) (by decide) (by decide) (htx _ kw_5_205) ((hZ.2.2.2.2.2.1 "java/lang/IndexOutOfBoundsException" (List.mem_of_getElem? (i := 0) rfl)).use rfl) hce hcv hcl ?_
        refine lv_astore (lv' := [(6, .ref q9), (0, .ref aM), (1, .int x0), (2, .int x1), (3, .int x2), (4, .int x3), (5, .int x4)]) hx hb dM_finish_149 hl (by decide) rfl (fun ls hl => ?_)
        refine lv_aload_n hx hb dM_finish_151 rfl (lv_at hl 1 rfl) ?_
        refine lv_iconst (v := 3) hx hb dM_finish_152 (by decide) ?_
        refine xm_put (v := .int 3) (W' := (xMw cT aM ad37 rd gd38 vad39 (xsI o11.2.2.2.2 0 3) [])) (ty := .int) hx hb htx hown hK hP hD hS 0 (by decide) rfl (htx _ kw_5_87) rfl rfl (by decide +kernel) rfl rfl dM_finish_153 (fun H locs hP hD hS => ?_)
        obtain rfl := Option.some.inj hf
        exact W.vret hx hb hr (fun t ht hW => ⟨⟨(ad37, gd38, vad39), rfl, ⟨hE, hN⟩, by rw [ht]; exact hP, va_K.moved hW.alike hK, hD⟩, hS.F ht⟩) hS.2.2 dM_finish_156
      rw [if_neg hk33] at hf
      by_cases hk43 : o11.1 = 3
      · rw [if_pos hk43] at hf
        obtain ⟨hg44, hf⟩ := xifn hf
        obtain ⟨hm45, hf⟩ := xmoE hf
        have hFc := xm_free hD hS hA
        refine xx_thr (vx_runV (C := "ValueBenchModel") (As := [.int x4]) (rest := []) ⟨hx, hb, hml, hown, htx⟩ (gM_register_3 l hl9 D cT aK aV H.size d n aM ad6 rd gd7 vad8 o1.2.2.2.2 x4 o11 hq12 hk43) ⟨callB_of 1 htx (xw_goodC kw_6_170) rfl rfl rfl (htx _ kw_1_5) (htx _ kw_6_167) ⟨by decide, by decide, by decide +kernel⟩ ⟨(by show (16 * d + 8) + 1 ≤ 16 * d + 12; omega), (by show 8 + (2 + 11) + (400 * d + 145) ≤ 400 * d + 246; omega)⟩, (htx _ kw_6_169), (htx _ kp_M_register)⟩ ⟨xPre_blind, va_recv hK hP (ci := 5) rfl (q0 := 0) rfl, (fun U hU hW => ⟨rfl, xPre_of hZ hS hFc hP hD hK U hU hW⟩)⟩ rfl rfl hl.1 rfl (xm_room (Nat.le_of_ble_eq_true rfl)) dM_finish_20 ⟨hm45.1, hm45.2⟩) hS hFc (fun q _ h => hFc q h) (fun E ce q9 u9 t H1 locs ht hvm hr9 hB hz1 hk1 hS hce hcv hcl => ?_)
        obtain ⟨rfl, hP1, hK1, hD1⟩ := hB
        rw [ht] at hP1
        obtain ⟨ad47, gd48, vad49⟩ := u9
        obtain ⟨hv50, hn51⟩ := hr9
        have hP : va_P D xcl (xMw cT aM ad47 rd gd48 vad49 o11.2.2.2.2 []) H1 := hP1
        have hD : va_D A (xMw cT aM ad47 rd gd48 vad49 o11.2.2.2.2 []) := hD1.weaken (fun k q _ h => hFc q.1 h)
        generalize H1 = H at hP hS hce ⊢
        have hE9 : ∀ p, p < xct st → vad49 p = vad p := fun p h => (hv50 p (Nat.lt_of_lt_of_le h hN)).trans (hE p h)
        have hE := hE9
        have hN : xct st ≤ xct o11.2.2.2.2 := Nat.le_trans hN hn51
        have ev52 : xv vad8 o1.2.2.2.1 = xv vad49 o1.2.2.2.1 := xvE hv50 hg44
        have hl : lv_has ls 10 [(6, xv vad49 o1.2.2.2.1), (0, .ref aM), (1, .int x0), (2, .int x1), (3, .int x2), (4, .int x3), (5, .int x4)] := by first | exact hl | ((try (rw [← ev52])); exact hl)
        refine vx_catch (own := "ValueBenchModel") (name := "java/lang/ArithmeticException") (E := "java/lang/ArithmeticException") hown [] ⟨0, 128, 131, 83⟩ [⟨0, 128, 149, 86⟩] (by rw [htab]; rfl) (fun z hz => nomatch hz) (by decide) (by decide) (htx _ kw_6_94) ((hZ.2.2.2.2.2.1 "java/lang/ArithmeticException" (List.mem_of_getElem? (i := 3) rfl)).use rfl) hce hcv hcl ?_
        refine lv_astore (lv' := [(6, .ref q9), (0, .ref aM), (1, .int x0), (2, .int x1), (3, .int x2), (4, .int x3), (5, .int x4)]) hx hb dM_finish_131 hl (by decide) rfl (fun ls hl => ?_)
        refine lv_aload_n hx hb dM_finish_133 rfl (lv_at hl 1 rfl) ?_
        refine lv_aload_n hx hb dM_finish_134 rfl (lv_at hl 1 rfl) ?_
        refine xm_get (v := .int (xsi o11.2.2.2.2 8)) hx hb htx hown hK hP 8 (by decide) rfl (htx _ kw_5_95) rfl dM_finish_135 ?_
        refine xm_put (v := .int (xsi o11.2.2.2.2 8)) (W' := (xMw cT aM ad47 rd gd48 vad49 (xsI o11.2.2.2.2 30 (xsi o11.2.2.2.2 8)) [])) (ty := .int) hx hb htx hown hK hP hD hS 30 (by decide) rfl (htx _ kw_5_117) rfl rfl (by decide +kernel) rfl rfl dM_finish_138 (fun H locs hP hD hS => ?_)
        refine lv_aload_n hx hb dM_finish_141 rfl (lv_at hl 1 rfl) ?_
        refine lv_iconst (v := 2) hx hb dM_finish_142 (by decide) ?_
        refine xm_put (v := .int 2) (W' := (xMw cT aM ad47 rd gd48 vad49 (xsI (xsI o11.2.2.2.2 30 (xsi o11.2.2.2.2 8)) 0 2) [])) (ty := .int) hx hb htx hown hK hP hD hS 0 (by decide) rfl (htx _ kw_5_87) rfl rfl (by decide +kernel) rfl rfl dM_finish_143 (fun H locs hP hD hS => ?_)
        refine lv_goto (tgt := 156) hx hb dM_finish_146 (by decide) ?_
        obtain rfl := Option.some.inj hf
        exact W.vret hx hb hr (fun t ht hW => ⟨⟨(ad47, gd48, vad49), rfl, ⟨hE, hN⟩, by rw [ht]; exact hP, va_K.moved hW.alike hK, hD⟩, hS.F ht⟩) hS.2.2 dM_finish_156
      rw [if_neg hk43] at hf
      exact nomatch hf
    · rw [if_pos hc] at hf
      refine lv_null hx hb dM_finish_13 ?_
      refine lv_goto (tgt := 23) hx hb dM_finish_14 (by decide) ?_
      refine lv_astoreN (lv' := [(7, .null), (6, xv vad8 o1.2.2.2.1), (0, .ref aM), (1, .int x0), (2, .int x1), (3, .int x2), (4, .int x3), (5, .int x4)]) hx hb dM_finish_23 hl (by decide) (by simp only [List.filter, xvcat, xrscat, xcI, xcL, xcR, xcN]; rfl) (fun ls hl => ?_)
      refine lv_iload_n hx hb dM_finish_25 rfl (lv_at hl 4 rfl) ?_
      refine lv_if_ne (tgt := 43) hx hb dM_finish_26 (by decide) (fun hc => ?_) (fun hc => ?_)
      · rw [if_neg hc] at hf
        refine lv_iload_n hx hb dM_finish_43 rfl (lv_at hl 4 rfl) ?_
        refine lv_iconst (v := 1) hx hb dM_finish_44 (by decide) ?_
        refine lv_icmp_ne (tgt := 60) hx hb dM_finish_45 (by decide) (fun hc => ?_) (fun hc => ?_)
        · rw [if_neg hc] at hf
          refine lv_iload_n hx hb dM_finish_60 rfl (lv_at hl 4 rfl) ?_
          refine lv_iconst (v := 2) hx hb dM_finish_61 (by decide) ?_
          refine lv_icmp_ne (tgt := 79) hx hb dM_finish_62 (by decide) (fun hc => ?_) (fun hc => ?_)
          · rw [if_neg hc] at hf
            refine lv_aload_n hx hb dM_finish_79 rfl (lv_at hl 2 rfl) ?_
            refine xm_aload hx hb (xvor _ _) dM_finish_80 (lv_at hl 1 rfl) ?_
            obtain ⟨o11, hq12, hf⟩ := xbind hf
            by_cases hk13 : o11.1 = 0
            · rw [if_pos hk13] at hf
              obtain ⟨hg14, hf⟩ := xifn hf
              obtain ⟨hm15, hf⟩ := xmoE hf
              have hFc := xm_free hD hS hA
              refine va_callq (va_runV (C := "ValueBenchModel") (As := [xv vad8 o1.2.2.2.1]) (rest := []) ⟨hx, hb, hml, hown, htx⟩ (gM_array l hl9 D cT aK aV H.size n aM ad6 rd gd7 vad8 o1.2.2.2.2 o1.2.2.2.1 o11 hq12 hk13) ⟨callB_of 1 htx (xw_goodC kw_7_42) rfl rfl rfl (htx _ kw_1_5) (htx _ kw_7_39) ⟨by decide, by decide, by decide +kernel⟩ ⟨Nat.le_of_ble_eq_true rfl, Nat.le_of_ble_eq_true rfl⟩, (htx _ kw_7_41), (htx _ kp_M_array)⟩ ⟨xPre_blind, va_recv hK hP (ci := 5) rfl (q0 := 0) rfl, (fun U hU hW => ⟨rfl, xPre_of hZ hS hFc hP hD hK U hU hW⟩)⟩ rfl rfl hl.1 rfl (xm_room (Nat.le_of_ble_eq_true rfl)) dM_finish_82 ⟨hm15.1, hm15.2⟩) hS (fun q _ h => hFc q h) hFc (fun r16 u9 t H1 locs ht hvm hr9 hB hz1 hk1 hS => ?_)
              obtain ⟨hP1, hK1, hD1⟩ := hB
              rw [ht] at hP1
              obtain ⟨ad17, gd18, vad19⟩ := u9
              obtain ⟨hr9, hv20, hn21⟩ := hr9
              have hP : va_P D xcl (xMw cT aM ad17 rd gd18 vad19 o11.2.2.2.2 []) H1 := hP1
              have hD : va_D A (xMw cT aM ad17 rd gd18 vad19 o11.2.2.2.2 []) := hD1.weaken (fun k q _ h => hFc q.1 h)
              generalize H1 = H at hP hS ⊢
              have hE9 : ∀ p, p < xct st → vad19 p = vad p := fun p h => (hv20 p (Nat.lt_of_lt_of_le h hN)).trans (hE p h)
              have hE := hE9
              have hN : xct st ≤ xct o11.2.2.2.2 := Nat.le_trans hN hn21
              have ev22 : xv vad8 o1.2.2.2.1 = xv vad19 o1.2.2.2.1 := xvE hv20 hg14
              have hl : lv_has ls 10 [(7, .null), (6, xv vad19 o1.2.2.2.1), (0, .ref aM), (1, .int x0), (2, .int x1), (3, .int x2), (4, .int x3), (5, .int x4)] := by first | exact hl | ((try (rw [← ev22])); exact hl)
              rw [hr9]
              refine W.eq (g2 := F0 m 85 ls [xv vad19 o11.2.2.2.1]) (by first | rfl | ((try (rw [ev22])); rfl)) ?_
              obtain ⟨hg23, hf⟩ := xifn hf
              refine xm_vget (v := .int ((xpi o11.2.2.2.2 3) (o11.2.2.2.1 - 1))) hx hb htx hown hK hP 3 (by decide) hg23 rfl ((hZ.1 (103, "count", "I") (List.mem_of_getElem? (i := 3) rfl)).use rfl) rfl dM_finish_85 ?_
              refine lv_aload_n hx hb dM_finish_88 rfl (lv_at hl 2 rfl) ?_
              refine lv_aloadN hx hb dM_finish_89 (lv_at hl 0 rfl) ?_
              obtain ⟨o24, hq25, hf⟩ := xbind hf
              by_cases hk26 : o24.1 = 0
              · rw [if_pos hk26] at hf
                obtain ⟨hg27, hf⟩ := xifn hf
                obtain ⟨hm28, hf⟩ := xmoE hf
                have hFc := xm_free hD hS hA
                refine va_callq (va_runV (C := "ValueBenchModel") (As := [.null]) (rest := [.int ((xpi o11.2.2.2.2 3) (o11.2.2.2.1 - 1))]) ⟨hx, hb, hml, hown, htx⟩ (gM_array l hl9 D cT aK aV H.size n aM ad17 rd gd18 vad19 o11.2.2.2.2 0 o24 hq25 hk26) ⟨callB_of 1 htx (xw_goodC kw_7_42) rfl rfl rfl (htx _ kw_1_5) (htx _ kw_7_39) ⟨by decide, by decide, by decide +kernel⟩ ⟨Nat.le_of_ble_eq_true rfl, Nat.le_of_ble_eq_true rfl⟩, (htx _ kw_7_41), (htx _ kp_M_array)⟩ ⟨xPre_blind, va_recv hK hP (ci := 5) rfl (q0 := 0) rfl, (fun U hU hW => ⟨rfl, xPre_of hZ hS hFc hP hD hK U hU hW⟩)⟩ rfl rfl hl.1 rfl (xm_room (Nat.le_of_ble_eq_true rfl)) dM_finish_91 ⟨hm28.1, hm28.2⟩) hS (fun q _ h => hFc q h) hFc (fun r29 u9 t H1 locs ht hvm hr9 hB hz1 hk1 hS => ?_)
                obtain ⟨hP1, hK1, hD1⟩ := hB
                rw [ht] at hP1
                obtain ⟨ad30, gd31, vad32⟩ := u9
                obtain ⟨hr9, hv33, hn34⟩ := hr9
                have hP : va_P D xcl (xMw cT aM ad30 rd gd31 vad32 o24.2.2.2.2 []) H1 := hP1
                have hD : va_D A (xMw cT aM ad30 rd gd31 vad32 o24.2.2.2.2 []) := hD1.weaken (fun k q _ h => hFc q.1 h)
                generalize H1 = H at hP hS ⊢
                have hE9 : ∀ p, p < xct st → vad32 p = vad p := fun p h => (hv33 p (Nat.lt_of_lt_of_le h hN)).trans (hE p h)
                have hE := hE9
                have hN : xct st ≤ xct o24.2.2.2.2 := Nat.le_trans hN hn34
                have ev35 : xv vad19 o1.2.2.2.1 = xv vad32 o1.2.2.2.1 := xvE hv33 hg27
                have hl : lv_has ls 10 [(7, .null), (6, xv vad32 o1.2.2.2.1), (0, .ref aM), (1, .int x0), (2, .int x1), (3, .int x2), (4, .int x3), (5, .int x4)] := by first | exact hl | ((try (rw [← ev35])); exact hl)
                rw [hr9]
                refine W.eq (g2 := F0 m 94 ls [xv vad32 o24.2.2.2.1, .int ((xpi o11.2.2.2.2 3) (o11.2.2.2.1 - 1))]) (by first | rfl | ((try (rw [ev35])); rfl)) ?_
                obtain ⟨hg36, hf⟩ := xifn hf
                refine xm_vget (v := .int ((xpi o24.2.2.2.2 3) (o24.2.2.2.1 - 1))) hx hb htx hown hK hP 3 (by decide) hg36 rfl ((hZ.1 (103, "count", "I") (List.mem_of_getElem? (i := 3) rfl)).use rfl) rfl dM_finish_94 ?_
                refine lv_icmp_eq (tgt := 108) hx hb dM_finish_97 (by decide) (fun hc => ?_) (fun hc => ?_)
                · rw [if_pos hc] at hf
                  refine lv_aload_n hx hb dM_finish_108 rfl (lv_at hl 2 rfl) ?_
                  refine xm_aload hx hb (xvor _ _) dM_finish_109 (lv_at hl 1 rfl) ?_
                  refine lv_aloadN hx hb dM_finish_111 (lv_at hl 0 rfl) ?_
                  refine lv_iload_n hx hb dM_finish_113 rfl (lv_at hl 5 rfl) ?_
                  obtain ⟨o37, hq38, hf⟩ := xbind hf
                  have hl := lv_sub (l' := [(7, .null), (0, .ref aM), (1, .int x0), (2, .int x1), (3, .int x2), (4, .int x3), (5, .int x4)]) hl [0, 2, 3, 4, 5, 6, 7] rfl
                  by_cases hk39 : o37.1 = 0
                  · rw [if_pos hk39] at hf
                    obtain ⟨hm40, hf⟩ := xmoE hf
                    have hFc := xm_free hD hS hA
                    refine va_callq (va_runV (C := "ValueBenchModel") (As := [xv vad32 o1.2.2.2.1, .null, .int x2]) (rest := []) ⟨hx, hb, hml, hown, htx⟩ (gM_sort1 l hl9 D cT aK aV H.size d n aM ad30 rd gd31 vad32 o24.2.2.2.2 o1.2.2.2.1 0 x2 o37 hq38 hk39) ⟨callB_of 3 htx (xw_goodC kw_7_21) rfl rfl rfl (htx _ kw_1_5) (htx _ kw_7_18) ⟨by decide, by decide, by decide +kernel⟩ ⟨(by show (16 * d + 8) + 1 ≤ 16 * d + 12; omega), (by show 8 + (10 + 11) + (400 * d + 147) ≤ 400 * d + 246; omega)⟩, (htx _ kw_7_20), (htx _ kp_M_sort1)⟩ ⟨xPre_blind, va_recv hK hP (ci := 5) rfl (q0 := 0) rfl, (fun U hU hW => ⟨rfl, xPre_of hZ hS hFc hP hD hK U hU hW⟩)⟩ rfl rfl hl.1 rfl (xm_room (Nat.le_of_ble_eq_true rfl)) dM_finish_114 ⟨hm40.1, hm40.2⟩) hS (fun q _ h => hFc q h) hFc (fun r41 u9 t H1 locs ht hvm hr9 hB hz1 hk1 hS => ?_)
                    obtain ⟨hP1, hK1, hD1⟩ := hB
                    rw [ht] at hP1
                    obtain ⟨ad42, gd43, vad44⟩ := u9
                    obtain ⟨hr9, hv45, hn46⟩ := hr9
                    have hP : va_P D xcl (xMw cT aM ad42 rd gd43 vad44 o37.2.2.2.2 []) H1 := hP1
                    have hD : va_D A (xMw cT aM ad42 rd gd43 vad44 o37.2.2.2.2 []) := hD1.weaken (fun k q _ h => hFc q.1 h)
                    generalize H1 = H at hP hS ⊢
                    have hE9 : ∀ p, p < xct st → vad44 p = vad p := fun p h => (hv45 p (Nat.lt_of_lt_of_le h hN)).trans (hE p h)
                    have hE := hE9
                    have hN : xct st ≤ xct o37.2.2.2.2 := Nat.le_trans hN hn46
                    rw [hr9]
                    refine W.eq (g2 := F0 m 117 ls [xv vad44 o37.2.2.2.1]) (by first | rfl | (skip; rfl)) ?_
                    refine xm_astore (lv' := [(8, xv vad44 o37.2.2.2.1), (7, .null), (0, .ref aM), (1, .int x0), (2, .int x1), (3, .int x2), (4, .int x3), (5, .int x4)]) hx hb (xvor _ _) dM_finish_117 hl (by decide) rfl (fun ls hl => ?_)
                    refine lv_aload_n hx hb dM_finish_119 rfl (lv_at hl 2 rfl) ?_
                    refine lv_iload_n hx hb dM_finish_120 rfl (lv_at hl 3 rfl) ?_
                    refine xm_aload hx hb (xvor _ _) dM_finish_121 (lv_at hl 0 rfl) ?_
                    obtain ⟨o47, hq48, hf⟩ := xbind hf
                    have hl := lv_sub (l' := [(7, .null), (0, .ref aM), (1, .int x0), (2, .int x1), (3, .int x2), (4, .int x3), (5, .int x4)]) hl [1, 2, 3, 4, 5, 6, 7] rfl
                    by_cases hk49 : o47.1 = 0
                    · rw [if_pos hk49] at hf
                      obtain ⟨hm50, hf⟩ := xmoE hf
                      have hFc := xm_free hD hS hA
                      refine va_calli (va_runV (C := "ValueBenchModel") (As := [.int x0, xv vad44 o37.2.2.2.1]) (rest := []) ⟨hx, hb, hml, hown, htx⟩ (gM_store l hl9 D cT aK aV H.size d n aM ad42 rd gd43 vad44 o37.2.2.2.2 x0 o37.2.2.2.1 o47 hq48 hk49) ⟨callB_of 2 htx (xw_goodC kw_6_124) rfl rfl rfl (htx _ kw_1_5) (htx _ kw_6_121) ⟨by decide, by decide, by decide +kernel⟩ ⟨(by show (16 * d + 1) + 1 ≤ 16 * d + 12; omega), (by show 8 + (4 + 11) + (400 * d + 22) ≤ 400 * d + 246; omega)⟩, (htx _ kw_6_123), (htx _ kp_M_store)⟩ ⟨xPre_blind, va_recv hK hP (ci := 5) rfl (q0 := 0) rfl, (fun U hU hW => ⟨rfl, xPre_of hZ hS hFc hP hD hK U hU hW⟩)⟩ rfl rfl hl.1 rfl (xm_room (Nat.le_of_ble_eq_true rfl)) dM_finish_123 ⟨hm50.1, hm50.2⟩) hS (fun q _ h => hFc q h) hFc (fun r51 u9 t H1 locs ht hvm hr9 hB hz1 hk1 hS => ?_)
                      obtain ⟨hP1, hK1, hD1⟩ := hB
                      rw [ht] at hP1
                      obtain ⟨ad52, gd53, vad54⟩ := u9
                      obtain ⟨hr9, hv55, hn56⟩ := hr9
                      have hP : va_P D xcl (xMw cT aM ad52 rd gd53 vad54 o47.2.2.2.2 []) H1 := hP1
                      have hD : va_D A (xMw cT aM ad52 rd gd53 vad54 o47.2.2.2.2 []) := hD1.weaken (fun k q _ h => hFc q.1 h)
                      generalize H1 = H at hP hS ⊢
                      have hE9 : ∀ p, p < xct st → vad54 p = vad p := fun p h => (hv55 p (Nat.lt_of_lt_of_le h hN)).trans (hE p h)
                      have hE := hE9
                      have hN : xct st ≤ xct o47.2.2.2.2 := Nat.le_trans hN hn56
                      rw [hr9]
                      refine W.eq (g2 := F0 m 126 ls [.int o47.2.2.2.1]) (by first | rfl | (skip; rfl)) ?_
                      refine lv_istore (lv' := [(9, .int o47.2.2.2.1), (7, .null), (0, .ref aM), (1, .int x0), (2, .int x1), (3, .int x2), (4, .int x3), (5, .int x4)]) hx hb dM_finish_126 hl (by decide) rfl (fun ls hl => ?_)
                      refine lv_goto (tgt := 156) hx hb dM_finish_128 (by decide) ?_
                      obtain rfl := Option.some.inj hf
                      exact W.vret hx hb hr (fun t ht hW => ⟨⟨(ad52, gd53, vad54), rfl, ⟨hE, hN⟩, by rw [ht]; exact hP, va_K.moved hW.alike hK, hD⟩, hS.F ht⟩) hS.2.2 dM_finish_156
                    rw [if_neg hk49] at hf
                    by_cases hk57 : o47.1 = 1
                    · rw [if_pos hk57] at hf
                      obtain ⟨hm58, hf⟩ := xmoE hf
                      have hFc := xm_free hD hS hA
                      refine xx_thr (vx_runV (C := "ValueBenchModel") (As := [.int x0, xv vad44 o37.2.2.2.1]) (rest := []) ⟨hx, hb, hml, hown, htx⟩ (gM_store_1 l hl9 D cT aK aV H.size d n aM ad42 rd gd43 vad44 o37.2.2.2.2 x0 o37.2.2.2.1 o47 hq48 hk57) ⟨callB_of 2 htx (xw_goodC kw_6_124) rfl rfl rfl (htx _ kw_1_5) (htx _ kw_6_121) ⟨by decide, by decide, by decide +kernel⟩ ⟨(by show (16 * d + 1) + 1 ≤ 16 * d + 12; omega), (by show 8 + (4 + 11) + (400 * d + 22) ≤ 400 * d + 246; omega)⟩, (htx _ kw_6_123), (htx _ kp_M_store)⟩ ⟨xPre_blind, va_recv hK hP (ci := 5) rfl (q0 := 0) rfl, (fun U hU hW => ⟨rfl, xPre_of hZ hS hFc hP hD hK U hU hW⟩)⟩ rfl rfl hl.1 rfl (xm_room (Nat.le_of_ble_eq_true rfl)) dM_finish_123 ⟨hm58.1, hm58.2⟩) hS hFc (fun q _ h => hFc q h) (fun E ce q9 u9 t H1 locs ht hvm hr9 hB hz1 hk1 hS hce hcv hcl => ?_)
                      obtain ⟨rfl, hP1, hK1, hD1⟩ := hB
                      rw [ht] at hP1
                      obtain ⟨ad60, gd61, vad62⟩ := u9
                      obtain ⟨hv63, hn64⟩ := hr9
                      have hP : va_P D xcl (xMw cT aM ad60 rd gd61 vad62 o47.2.2.2.2 []) H1 := hP1
                      have hD : va_D A (xMw cT aM ad60 rd gd61 vad62 o47.2.2.2.2 []) := hD1.weaken (fun k q _ h => hFc q.1 h)
                      generalize H1 = H at hP hS hce ⊢
                      have hE9 : ∀ p, p < xct st → vad62 p = vad p := fun p h => (hv63 p (Nat.lt_of_lt_of_le h hN)).trans (hE p h)
                      have hE := hE9
                      have hN : xct st ≤ xct o47.2.2.2.2 := Nat.le_trans hN hn64
                      refine vx_catch (own := "ValueBenchModel") (name := "java/lang/IndexOutOfBoundsException") (E := "java/lang/IndexOutOfBoundsException") hown [⟨0, 128, 131, 83⟩] ⟨0, 128, 149, 86⟩ [] (by rw [htab]; rfl) (by intro z hz; rcases List.mem_cons.mp hz with rfl | hz; (exact Or.inr ⟨by decide, "java/lang/ArithmeticException", htx _ kw_6_94, hZ.2.2.2.2.2.2.2.1 ("java/lang/IndexOutOfBoundsException", "java/lang/ArithmeticException") (List.mem_of_getElem? (i := 2) rfl)⟩); cases hz) (by decide) (by decide) (htx _ kw_5_205) ((hZ.2.2.2.2.2.1 "java/lang/IndexOutOfBoundsException" (List.mem_of_getElem? (i := 0) rfl)).use rfl) hce hcv hcl ?_
                      refine lv_astore (lv' := [(6, .ref q9), (7, .null), (0, .ref aM), (1, .int x0), (2, .int x1), (3, .int x2), (4, .int x3), (5, .int x4)]) hx hb dM_finish_149 hl (by decide) rfl (fun ls hl => ?_)
                      refine lv_aload_n hx hb dM_finish_151 rfl (lv_at hl 2 rfl) ?_
                      refine lv_iconst (v := 3) hx hb dM_finish_152 (by decide) ?_
                      refine xm_put (v := .int 3) (W' := (xMw cT aM ad60 rd gd61 vad62 (xsI o47.2.2.2.2 0 3) [])) (ty := .int) hx hb htx hown hK hP hD hS 0 (by decide) rfl (htx _ kw_5_87) rfl rfl (by decide +kernel) rfl rfl dM_finish_153 (fun H locs hP hD hS => ?_)
                      obtain rfl := Option.some.inj hf
                      exact W.vret hx hb hr (fun t ht hW => ⟨⟨(ad60, gd61, vad62), rfl, ⟨hE, hN⟩, by rw [ht]; exact hP, va_K.moved hW.alike hK, hD⟩, hS.F ht⟩) hS.2.2 dM_finish_156
                    rw [if_neg hk57] at hf
                    exact nomatch hf
                  rw [if_neg hk39] at hf
                  by_cases hk65 : o37.1 = 1
                  · rw [if_pos hk65] at hf
                    obtain ⟨hm66, hf⟩ := xmoE hf
                    have hFc := xm_free hD hS hA
                    refine xx_thr (vx_runV (C := "ValueBenchModel") (As := [xv vad32 o1.2.2.2.1, .null, .int x2]) (rest := []) ⟨hx, hb, hml, hown, htx⟩ (gM_sort1_1 l hl9 D cT aK aV H.size d n aM ad30 rd gd31 vad32 o24.2.2.2.2 o1.2.2.2.1 0 x2 o37 hq38 hk65) ⟨callB_of 3 htx (xw_goodC kw_7_21) rfl rfl rfl (htx _ kw_1_5) (htx _ kw_7_18) ⟨by decide, by decide, by decide +kernel⟩ ⟨(by show (16 * d + 8) + 1 ≤ 16 * d + 12; omega), (by show 8 + (10 + 11) + (400 * d + 147) ≤ 400 * d + 246; omega)⟩, (htx _ kw_7_20), (htx _ kp_M_sort1)⟩ ⟨xPre_blind, va_recv hK hP (ci := 5) rfl (q0 := 0) rfl, (fun U hU hW => ⟨rfl, xPre_of hZ hS hFc hP hD hK U hU hW⟩)⟩ rfl rfl hl.1 rfl (xm_room (Nat.le_of_ble_eq_true rfl)) dM_finish_114 ⟨hm66.1, hm66.2⟩) hS hFc (fun q _ h => hFc q h) (fun E ce q9 u9 t H1 locs ht hvm hr9 hB hz1 hk1 hS hce hcv hcl => ?_)
                    obtain ⟨rfl, hP1, hK1, hD1⟩ := hB
                    rw [ht] at hP1
                    obtain ⟨ad68, gd69, vad70⟩ := u9
                    obtain ⟨hv71, hn72⟩ := hr9
                    have hP : va_P D xcl (xMw cT aM ad68 rd gd69 vad70 o37.2.2.2.2 []) H1 := hP1
                    have hD : va_D A (xMw cT aM ad68 rd gd69 vad70 o37.2.2.2.2 []) := hD1.weaken (fun k q _ h => hFc q.1 h)
                    generalize H1 = H at hP hS hce ⊢
                    have hE9 : ∀ p, p < xct st → vad70 p = vad p := fun p h => (hv71 p (Nat.lt_of_lt_of_le h hN)).trans (hE p h)
                    have hE := hE9
                    have hN : xct st ≤ xct o37.2.2.2.2 := Nat.le_trans hN hn72
                    refine vx_catch (own := "ValueBenchModel") (name := "java/lang/IndexOutOfBoundsException") (E := "java/lang/IndexOutOfBoundsException") hown [⟨0, 128, 131, 83⟩] ⟨0, 128, 149, 86⟩ [] (by rw [htab]; rfl) (by intro z hz; rcases List.mem_cons.mp hz with rfl | hz; (exact Or.inr ⟨by decide, "java/lang/ArithmeticException", htx _ kw_6_94, hZ.2.2.2.2.2.2.2.1 ("java/lang/IndexOutOfBoundsException", "java/lang/ArithmeticException") (List.mem_of_getElem? (i := 2) rfl)⟩); cases hz) (by decide) (by decide) (htx _ kw_5_205) ((hZ.2.2.2.2.2.1 "java/lang/IndexOutOfBoundsException" (List.mem_of_getElem? (i := 0) rfl)).use rfl) hce hcv hcl ?_
                    refine lv_astore (lv' := [(6, .ref q9), (7, .null), (0, .ref aM), (1, .int x0), (2, .int x1), (3, .int x2), (4, .int x3), (5, .int x4)]) hx hb dM_finish_149 hl (by decide) rfl (fun ls hl => ?_)
                    refine lv_aload_n hx hb dM_finish_151 rfl (lv_at hl 2 rfl) ?_
                    refine lv_iconst (v := 3) hx hb dM_finish_152 (by decide) ?_
                    refine xm_put (v := .int 3) (W' := (xMw cT aM ad68 rd gd69 vad70 (xsI o37.2.2.2.2 0 3) [])) (ty := .int) hx hb htx hown hK hP hD hS 0 (by decide) rfl (htx _ kw_5_87) rfl rfl (by decide +kernel) rfl rfl dM_finish_153 (fun H locs hP hD hS => ?_)
                    obtain rfl := Option.some.inj hf
                    exact W.vret hx hb hr (fun t ht hW => ⟨⟨(ad68, gd69, vad70), rfl, ⟨hE, hN⟩, by rw [ht]; exact hP, va_K.moved hW.alike hK, hD⟩, hS.F ht⟩) hS.2.2 dM_finish_156
                  rw [if_neg hk65] at hf
                  exact nomatch hf
                · rw [if_neg hc] at hf
                  refine lv_aload_n hx hb dM_finish_100 rfl (lv_at hl 2 rfl) ?_
                  refine lv_iconst (v := 1) hx hb dM_finish_101 (by decide) ?_
                  obtain ⟨o37, hq38, hf⟩ := xbind hf
                  have hl := lv_sub (l' := [(7, .null), (0, .ref aM), (1, .int x0), (2, .int x1), (3, .int x2), (4, .int x3), (5, .int x4)]) hl [0, 2, 3, 4, 5, 6, 7] rfl
                  by_cases hk39 : o37.1 = 1
                  · rw [if_pos hk39] at hf
                    obtain ⟨hm40, hf⟩ := xmoE hf
                    have hFc := xm_free hD hS hA
                    refine xx_thr (vx_runV (C := "ValueBenchModel") (As := [.int 1]) (rest := []) ⟨hx, hb, hml, hown, htx⟩ (gM_refuse_1 l hl9 D cT aK aV H.size n aM ad30 rd gd31 vad32 o24.2.2.2.2 (1 : Int32) o37 hq38 hk39) ⟨callB_of 1 htx (xw_goodC kw_6_93) rfl rfl rfl (htx _ kw_1_5) (htx _ kw_6_90) ⟨by decide, by decide, by decide +kernel⟩ ⟨Nat.le_of_ble_eq_true rfl, Nat.le_of_ble_eq_true rfl⟩, (htx _ kw_6_92), (htx _ kp_M_refuse)⟩ ⟨xPre_blind, va_recv hK hP (ci := 5) rfl (q0 := 0) rfl, (fun U hU hW => ⟨rfl, xPre_of hZ hS hFc hP hD hK U hU hW⟩)⟩ rfl rfl hl.1 rfl (xm_room (Nat.le_of_ble_eq_true rfl)) dM_finish_102 ⟨hm40.1, hm40.2⟩) hS hFc (fun q _ h => hFc q h) (fun E ce q9 u9 t H1 locs ht hvm hr9 hB hz1 hk1 hS hce hcv hcl => ?_)
                    obtain ⟨rfl, hP1, hK1, hD1⟩ := hB
                    rw [ht] at hP1
                    obtain ⟨ad42, gd43, vad44⟩ := u9
                    obtain ⟨hv45, hn46⟩ := hr9
                    have hP : va_P D xcl (xMw cT aM ad42 rd gd43 vad44 o37.2.2.2.2 []) H1 := hP1
                    have hD : va_D A (xMw cT aM ad42 rd gd43 vad44 o37.2.2.2.2 []) := hD1.weaken (fun k q _ h => hFc q.1 h)
                    generalize H1 = H at hP hS hce ⊢
                    have hE9 : ∀ p, p < xct st → vad44 p = vad p := fun p h => (hv45 p (Nat.lt_of_lt_of_le h hN)).trans (hE p h)
                    have hE := hE9
                    have hN : xct st ≤ xct o37.2.2.2.2 := Nat.le_trans hN hn46
                    refine vx_catch (own := "ValueBenchModel") (name := "java/lang/ArithmeticException") (E := "java/lang/ArithmeticException") hown [] ⟨0, 128, 131, 83⟩ [⟨0, 128, 149, 86⟩] (by rw [htab]; rfl) (fun z hz => nomatch hz) (by decide) (by decide) (htx _ kw_6_94) ((hZ.2.2.2.2.2.1 "java/lang/ArithmeticException" (List.mem_of_getElem? (i := 3) rfl)).use rfl) hce hcv hcl ?_
                    refine lv_astore (lv' := [(6, .ref q9), (7, .null), (0, .ref aM), (1, .int x0), (2, .int x1), (3, .int x2), (4, .int x3), (5, .int x4)]) hx hb dM_finish_131 hl (by decide) rfl (fun ls hl => ?_)
                    refine lv_aload_n hx hb dM_finish_133 rfl (lv_at hl 2 rfl) ?_
                    refine lv_aload_n hx hb dM_finish_134 rfl (lv_at hl 2 rfl) ?_
                    refine xm_get (v := .int (xsi o37.2.2.2.2 8)) hx hb htx hown hK hP 8 (by decide) rfl (htx _ kw_5_95) rfl dM_finish_135 ?_
                    refine xm_put (v := .int (xsi o37.2.2.2.2 8)) (W' := (xMw cT aM ad42 rd gd43 vad44 (xsI o37.2.2.2.2 30 (xsi o37.2.2.2.2 8)) [])) (ty := .int) hx hb htx hown hK hP hD hS 30 (by decide) rfl (htx _ kw_5_117) rfl rfl (by decide +kernel) rfl rfl dM_finish_138 (fun H locs hP hD hS => ?_)
                    refine lv_aload_n hx hb dM_finish_141 rfl (lv_at hl 2 rfl) ?_
                    refine lv_iconst (v := 2) hx hb dM_finish_142 (by decide) ?_
                    refine xm_put (v := .int 2) (W' := (xMw cT aM ad42 rd gd43 vad44 (xsI (xsI o37.2.2.2.2 30 (xsi o37.2.2.2.2 8)) 0 2) [])) (ty := .int) hx hb htx hown hK hP hD hS 0 (by decide) rfl (htx _ kw_5_87) rfl rfl (by decide +kernel) rfl rfl dM_finish_143 (fun H locs hP hD hS => ?_)
                    refine lv_goto (tgt := 156) hx hb dM_finish_146 (by decide) ?_
                    obtain rfl := Option.some.inj hf
                    exact W.vret hx hb hr (fun t ht hW => ⟨⟨(ad42, gd43, vad44), rfl, ⟨hE, hN⟩, by rw [ht]; exact hP, va_K.moved hW.alike hK, hD⟩, hS.F ht⟩) hS.2.2 dM_finish_156
                  rw [if_neg hk39] at hf
                  exact nomatch hf
              rw [if_neg hk26] at hf
              by_cases hk37 : o24.1 = 1
              · rw [if_pos hk37] at hf
                obtain ⟨hg38, hf⟩ := xifn hf
                obtain ⟨hm39, hf⟩ := xmoE hf
                have hFc := xm_free hD hS hA
                refine xx_thr (vx_runV (C := "ValueBenchModel") (As := [.null]) (rest := [.int ((xpi o11.2.2.2.2 3) (o11.2.2.2.1 - 1))]) ⟨hx, hb, hml, hown, htx⟩ (gM_array_1 l hl9 D cT aK aV H.size n aM ad17 rd gd18 vad19 o11.2.2.2.2 0 o24 hq25 hk37) ⟨callB_of 1 htx (xw_goodC kw_7_42) rfl rfl rfl (htx _ kw_1_5) (htx _ kw_7_39) ⟨by decide, by decide, by decide +kernel⟩ ⟨Nat.le_of_ble_eq_true rfl, Nat.le_of_ble_eq_true rfl⟩, (htx _ kw_7_41), (htx _ kp_M_array)⟩ ⟨xPre_blind, va_recv hK hP (ci := 5) rfl (q0 := 0) rfl, (fun U hU hW => ⟨rfl, xPre_of hZ hS hFc hP hD hK U hU hW⟩)⟩ rfl rfl hl.1 rfl (xm_room (Nat.le_of_ble_eq_true rfl)) dM_finish_91 ⟨hm39.1, hm39.2⟩) hS hFc (fun q _ h => hFc q h) (fun E ce q9 u9 t H1 locs ht hvm hr9 hB hz1 hk1 hS hce hcv hcl => ?_)
                obtain ⟨rfl, hP1, hK1, hD1⟩ := hB
                rw [ht] at hP1
                obtain ⟨ad41, gd42, vad43⟩ := u9
                obtain ⟨hv44, hn45⟩ := hr9
                have hP : va_P D xcl (xMw cT aM ad41 rd gd42 vad43 o24.2.2.2.2 []) H1 := hP1
                have hD : va_D A (xMw cT aM ad41 rd gd42 vad43 o24.2.2.2.2 []) := hD1.weaken (fun k q _ h => hFc q.1 h)
                generalize H1 = H at hP hS hce ⊢
                have hE9 : ∀ p, p < xct st → vad43 p = vad p := fun p h => (hv44 p (Nat.lt_of_lt_of_le h hN)).trans (hE p h)
                have hE := hE9
                have hN : xct st ≤ xct o24.2.2.2.2 := Nat.le_trans hN hn45
                have ev46 : xv vad19 o1.2.2.2.1 = xv vad43 o1.2.2.2.1 := xvE hv44 hg38
                have hl : lv_has ls 10 [(7, .null), (6, xv vad43 o1.2.2.2.1), (0, .ref aM), (1, .int x0), (2, .int x1), (3, .int x2), (4, .int x3), (5, .int x4)] := by first | exact hl | ((try (rw [← ev46])); exact hl)
                refine vx_catch (own := "ValueBenchModel") (name := "java/lang/ArithmeticException") (E := "java/lang/ArithmeticException") hown [] ⟨0, 128, 131, 83⟩ [⟨0, 128, 149, 86⟩] (by rw [htab]; rfl) (fun z hz => nomatch hz) (by decide) (by decide) (htx _ kw_6_94) ((hZ.2.2.2.2.2.1 "java/lang/ArithmeticException" (List.mem_of_getElem? (i := 3) rfl)).use rfl) hce hcv hcl ?_
                refine lv_astore (lv' := [(6, .ref q9), (7, .null), (0, .ref aM), (1, .int x0), (2, .int x1), (3, .int x2), (4, .int x3), (5, .int x4)]) hx hb dM_finish_131 hl (by decide) rfl (fun ls hl => ?_)
                refine lv_aload_n hx hb dM_finish_133 rfl (lv_at hl 2 rfl) ?_
                refine lv_aload_n hx hb dM_finish_134 rfl (lv_at hl 2 rfl) ?_
                refine xm_get (v := .int (xsi o24.2.2.2.2 8)) hx hb htx hown hK hP 8 (by decide) rfl (htx _ kw_5_95) rfl dM_finish_135 ?_
                refine xm_put (v := .int (xsi o24.2.2.2.2 8)) (W' := (xMw cT aM ad41 rd gd42 vad43 (xsI o24.2.2.2.2 30 (xsi o24.2.2.2.2 8)) [])) (ty := .int) hx hb htx hown hK hP hD hS 30 (by decide) rfl (htx _ kw_5_117) rfl rfl (by decide +kernel) rfl rfl dM_finish_138 (fun H locs hP hD hS => ?_)
                refine lv_aload_n hx hb dM_finish_141 rfl (lv_at hl 2 rfl) ?_
                refine lv_iconst (v := 2) hx hb dM_finish_142 (by decide) ?_
                refine xm_put (v := .int 2) (W' := (xMw cT aM ad41 rd gd42 vad43 (xsI (xsI o24.2.2.2.2 30 (xsi o24.2.2.2.2 8)) 0 2) [])) (ty := .int) hx hb htx hown hK hP hD hS 0 (by decide) rfl (htx _ kw_5_87) rfl rfl (by decide +kernel) rfl rfl dM_finish_143 (fun H locs hP hD hS => ?_)
                refine lv_goto (tgt := 156) hx hb dM_finish_146 (by decide) ?_
                obtain rfl := Option.some.inj hf
                exact W.vret hx hb hr (fun t ht hW => ⟨⟨(ad41, gd42, vad43), rfl, ⟨hE, hN⟩, by rw [ht]; exact hP, va_K.moved hW.alike hK, hD⟩, hS.F ht⟩) hS.2.2 dM_finish_156
              rw [if_neg hk37] at hf
              exact nomatch hf
            rw [if_neg hk13] at hf
            by_cases hk47 : o11.1 = 1
            · rw [if_pos hk47] at hf
              obtain ⟨hg48, hf⟩ := xifn hf
              obtain ⟨hm49, hf⟩ := xmoE hf
              have hFc := xm_free hD hS hA
              refine xx_thr (vx_runV (C := "ValueBenchModel") (As := [xv vad8 o1.2.2.2.1]) (rest := []) ⟨hx, hb, hml, hown, htx⟩ (gM_array_1 l hl9 D cT aK aV H.size n aM ad6 rd gd7 vad8 o1.2.2.2.2 o1.2.2.2.1 o11 hq12 hk47) ⟨callB_of 1 htx (xw_goodC kw_7_42) rfl rfl rfl (htx _ kw_1_5) (htx _ kw_7_39) ⟨by decide, by decide, by decide +kernel⟩ ⟨Nat.le_of_ble_eq_true rfl, Nat.le_of_ble_eq_true rfl⟩, (htx _ kw_7_41), (htx _ kp_M_array)⟩ ⟨xPre_blind, va_recv hK hP (ci := 5) rfl (q0 := 0) rfl, (fun U hU hW => ⟨rfl, xPre_of hZ hS hFc hP hD hK U hU hW⟩)⟩ rfl rfl hl.1 rfl (xm_room (Nat.le_of_ble_eq_true rfl)) dM_finish_82 ⟨hm49.1, hm49.2⟩) hS hFc (fun q _ h => hFc q h) (fun E ce q9 u9 t H1 locs ht hvm hr9 hB hz1 hk1 hS hce hcv hcl => ?_)
              obtain ⟨rfl, hP1, hK1, hD1⟩ := hB
              rw [ht] at hP1
              obtain ⟨ad51, gd52, vad53⟩ := u9
              obtain ⟨hv54, hn55⟩ := hr9
              have hP : va_P D xcl (xMw cT aM ad51 rd gd52 vad53 o11.2.2.2.2 []) H1 := hP1
              have hD : va_D A (xMw cT aM ad51 rd gd52 vad53 o11.2.2.2.2 []) := hD1.weaken (fun k q _ h => hFc q.1 h)
              generalize H1 = H at hP hS hce ⊢
              have hE9 : ∀ p, p < xct st → vad53 p = vad p := fun p h => (hv54 p (Nat.lt_of_lt_of_le h hN)).trans (hE p h)
              have hE := hE9
              have hN : xct st ≤ xct o11.2.2.2.2 := Nat.le_trans hN hn55
              have ev56 : xv vad8 o1.2.2.2.1 = xv vad53 o1.2.2.2.1 := xvE hv54 hg48
              have hl : lv_has ls 10 [(7, .null), (6, xv vad53 o1.2.2.2.1), (0, .ref aM), (1, .int x0), (2, .int x1), (3, .int x2), (4, .int x3), (5, .int x4)] := by first | exact hl | ((try (rw [← ev56])); exact hl)
              refine vx_catch (own := "ValueBenchModel") (name := "java/lang/ArithmeticException") (E := "java/lang/ArithmeticException") hown [] ⟨0, 128, 131, 83⟩ [⟨0, 128, 149, 86⟩] (by rw [htab]; rfl) (fun z hz => nomatch hz) (by decide) (by decide) (htx _ kw_6_94) ((hZ.2.2.2.2.2.1 "java/lang/ArithmeticException" (List.mem_of_getElem? (i := 3) rfl)).use rfl) hce hcv hcl ?_
              refine lv_astore (lv' := [(6, .ref q9), (7, .null), (0, .ref aM), (1, .int x0), (2, .int x1), (3, .int x2), (4, .int x3), (5, .int x4)]) hx hb dM_finish_131 hl (by decide) rfl (fun ls hl => ?_)
              refine lv_aload_n hx hb dM_finish_133 rfl (lv_at hl 2 rfl) ?_
              refine lv_aload_n hx hb dM_finish_134 rfl (lv_at hl 2 rfl) ?_
              refine xm_get (v := .int (xsi o11.2.2.2.2 8)) hx hb htx hown hK hP 8 (by decide) rfl (htx _ kw_5_95) rfl dM_finish_135 ?_
              refine xm_put (v := .int (xsi o11.2.2.2.2 8)) (W' := (xMw cT aM ad51 rd gd52 vad53 (xsI o11.2.2.2.2 30 (xsi o11.2.2.2.2 8)) [])) (ty := .int) hx hb htx hown hK hP hD hS 30 (by decide) rfl (htx _ kw_5_117) rfl rfl (by decide +kernel) rfl rfl dM_finish_138 (fun H locs hP hD hS => ?_)
              refine lv_aload_n hx hb dM_finish_141 rfl (lv_at hl 2 rfl) ?_
              refine lv_iconst (v := 2) hx hb dM_finish_142 (by decide) ?_
              refine xm_put (v := .int 2) (W' := (xMw cT aM ad51 rd gd52 vad53 (xsI (xsI o11.2.2.2.2 30 (xsi o11.2.2.2.2 8)) 0 2) [])) (ty := .int) hx hb htx hown hK hP hD hS 0 (by decide) rfl (htx _ kw_5_87) rfl rfl (by decide +kernel) rfl rfl dM_finish_143 (fun H locs hP hD hS => ?_)
              refine lv_goto (tgt := 156) hx hb dM_finish_146 (by decide) ?_
              obtain rfl := Option.some.inj hf
              exact W.vret hx hb hr (fun t ht hW => ⟨⟨(ad51, gd52, vad53), rfl, ⟨hE, hN⟩, by rw [ht]; exact hP, va_K.moved hW.alike hK, hD⟩, hS.F ht⟩) hS.2.2 dM_finish_156
            rw [if_neg hk47] at hf
            exact nomatch hf
          · rw [if_pos hc] at hf
            refine lv_aload_n hx hb dM_finish_65 rfl (lv_at hl 2 rfl) ?_
            refine lv_iload_n hx hb dM_finish_66 rfl (lv_at hl 5 rfl) ?_
            refine xm_aload hx hb (xvor _ _) dM_finish_67 (lv_at hl 1 rfl) ?_
            refine lv_aloadN hx hb dM_finish_69 (lv_at hl 0 rfl) ?_
            obtain ⟨o11, hq12, hf⟩ := xbind hf
            have hl := lv_sub (l' := [(7, .null), (0, .ref aM), (1, .int x0), (2, .int x1), (3, .int x2), (4, .int x3), (5, .int x4)]) hl [0, 2, 3, 4, 5, 6, 7] rfl
            by_cases hk13 : o11.1 = 0
            · rw [if_pos hk13] at hf
              obtain ⟨hm14, hf⟩ := xmoE hf
              have hFc := xm_free hD hS hA
              refine va_callq (va_runV (C := "ValueBenchModel") (As := [.int x2, xv vad8 o1.2.2.2.1, .null]) (rest := []) ⟨hx, hb, hml, hown, htx⟩ (gM_two1 l hl9 D cT aK aV H.size d n aM ad6 rd gd7 vad8 o1.2.2.2.2 x2 o1.2.2.2.1 0 o11 hq12 hk13) ⟨callB_of 3 htx (xw_goodC kw_7_79) rfl rfl rfl (htx _ kw_1_5) (htx _ kw_7_76) ⟨by decide, by decide, by decide +kernel⟩ ⟨(by show (16 * d + 10) + 1 ≤ 16 * d + 12; omega), (by show 8 + (4 + 11) + (400 * d + 199) ≤ 400 * d + 246; omega)⟩, (htx _ kw_7_78), (htx _ kp_M_two1)⟩ ⟨xPre_blind, va_recv hK hP (ci := 5) rfl (q0 := 0) rfl, (fun U hU hW => ⟨rfl, xPre_of hZ hS hFc hP hD hK U hU hW⟩)⟩ rfl rfl hl.1 rfl (xm_room (Nat.le_of_ble_eq_true rfl)) dM_finish_71 ⟨hm14.1, hm14.2⟩) hS (fun q _ h => hFc q h) hFc (fun r15 u9 t H1 locs ht hvm hr9 hB hz1 hk1 hS => ?_)
              obtain ⟨hP1, hK1, hD1⟩ := hB
              rw [ht] at hP1
              obtain ⟨ad16, gd17, vad18⟩ := u9
              obtain ⟨hr9, hv19, hn20⟩ := hr9
              have hP : va_P D xcl (xMw cT aM ad16 rd gd17 vad18 o11.2.2.2.2 []) H1 := hP1
              have hD : va_D A (xMw cT aM ad16 rd gd17 vad18 o11.2.2.2.2 []) := hD1.weaken (fun k q _ h => hFc q.1 h)
              generalize H1 = H at hP hS ⊢
              have hE9 : ∀ p, p < xct st → vad18 p = vad p := fun p h => (hv19 p (Nat.lt_of_lt_of_le h hN)).trans (hE p h)
              have hE := hE9
              have hN : xct st ≤ xct o11.2.2.2.2 := Nat.le_trans hN hn20
              rw [hr9]
              refine W.eq (g2 := F0 m 74 ls [xv vad18 o11.2.2.2.1]) (by first | rfl | (skip; rfl)) ?_
              refine xm_astore (lv' := [(8, xv vad18 o11.2.2.2.1), (7, .null), (0, .ref aM), (1, .int x0), (2, .int x1), (3, .int x2), (4, .int x3), (5, .int x4)]) hx hb (xvor _ _) dM_finish_74 hl (by decide) rfl (fun ls hl => ?_)
              refine lv_goto (tgt := 119) hx hb dM_finish_76 (by decide) ?_
              refine lv_aload_n hx hb dM_finish_119 rfl (lv_at hl 2 rfl) ?_
              refine lv_iload_n hx hb dM_finish_120 rfl (lv_at hl 3 rfl) ?_
              refine xm_aload hx hb (xvor _ _) dM_finish_121 (lv_at hl 0 rfl) ?_
              obtain ⟨o21, hq22, hf⟩ := xbind hf
              have hl := lv_sub (l' := [(7, .null), (0, .ref aM), (1, .int x0), (2, .int x1), (3, .int x2), (4, .int x3), (5, .int x4)]) hl [1, 2, 3, 4, 5, 6, 7] rfl
              by_cases hk23 : o21.1 = 0
              · rw [if_pos hk23] at hf
                obtain ⟨hm24, hf⟩ := xmoE hf
                have hFc := xm_free hD hS hA
                refine va_calli (va_runV (C := "ValueBenchModel") (As := [.int x0, xv vad18 o11.2.2.2.1]) (rest := []) ⟨hx, hb, hml, hown, htx⟩ (gM_store l hl9 D cT aK aV H.size d n aM ad16 rd gd17 vad18 o11.2.2.2.2 x0 o11.2.2.2.1 o21 hq22 hk23) ⟨callB_of 2 htx (xw_goodC kw_6_124) rfl rfl rfl (htx _ kw_1_5) (htx _ kw_6_121) ⟨by decide, by decide, by decide +kernel⟩ ⟨(by show (16 * d + 1) + 1 ≤ 16 * d + 12; omega), (by show 8 + (4 + 11) + (400 * d + 22) ≤ 400 * d + 246; omega)⟩, (htx _ kw_6_123), (htx _ kp_M_store)⟩ ⟨xPre_blind, va_recv hK hP (ci := 5) rfl (q0 := 0) rfl, (fun U hU hW => ⟨rfl, xPre_of hZ hS hFc hP hD hK U hU hW⟩)⟩ rfl rfl hl.1 rfl (xm_room (Nat.le_of_ble_eq_true rfl)) dM_finish_123 ⟨hm24.1, hm24.2⟩) hS (fun q _ h => hFc q h) hFc (fun r25 u9 t H1 locs ht hvm hr9 hB hz1 hk1 hS => ?_)
                obtain ⟨hP1, hK1, hD1⟩ := hB
                rw [ht] at hP1
                obtain ⟨ad26, gd27, vad28⟩ := u9
                obtain ⟨hr9, hv29, hn30⟩ := hr9
                have hP : va_P D xcl (xMw cT aM ad26 rd gd27 vad28 o21.2.2.2.2 []) H1 := hP1
                have hD : va_D A (xMw cT aM ad26 rd gd27 vad28 o21.2.2.2.2 []) := hD1.weaken (fun k q _ h => hFc q.1 h)
                generalize H1 = H at hP hS ⊢
                have hE9 : ∀ p, p < xct st → vad28 p = vad p := fun p h => (hv29 p (Nat.lt_of_lt_of_le h hN)).trans (hE p h)
                have hE := hE9
                have hN : xct st ≤ xct o21.2.2.2.2 := Nat.le_trans hN hn30
                rw [hr9]
                refine W.eq (g2 := F0 m 126 ls [.int o21.2.2.2.1]) (by first | rfl | (skip; rfl)) ?_
                refine lv_istore (lv' := [(9, .int o21.2.2.2.1), (7, .null), (0, .ref aM), (1, .int x0), (2, .int x1), (3, .int x2), (4, .int x3), (5, .int x4)]) hx hb dM_finish_126 hl (by decide) rfl (fun ls hl => ?_)
                refine lv_goto (tgt := 156) hx hb dM_finish_128 (by decide) ?_
                obtain rfl := Option.some.inj hf
                exact W.vret hx hb hr (fun t ht hW => ⟨⟨(ad26, gd27, vad28), rfl, ⟨hE, hN⟩, by rw [ht]; exact hP, va_K.moved hW.alike hK, hD⟩, hS.F ht⟩) hS.2.2 dM_finish_156
              rw [if_neg hk23] at hf
              by_cases hk31 : o21.1 = 1
              · rw [if_pos hk31] at hf
                obtain ⟨hm32, hf⟩ := xmoE hf
                have hFc := xm_free hD hS hA
                refine xx_thr (vx_runV (C := "ValueBenchModel") (As := [.int x0, xv vad18 o11.2.2.2.1]) (rest := []) ⟨hx, hb, hml, hown, htx⟩ (gM_store_1 l hl9 D cT aK aV H.size d n aM ad16 rd gd17 vad18 o11.2.2.2.2 x0 o11.2.2.2.1 o21 hq22 hk31) ⟨callB_of 2 htx (xw_goodC kw_6_124) rfl rfl rfl (htx _ kw_1_5) (htx _ kw_6_121) ⟨by decide, by decide, by decide +kernel⟩ ⟨(by show (16 * d + 1) + 1 ≤ 16 * d + 12; omega), (by show 8 + (4 + 11) + (400 * d + 22) ≤ 400 * d + 246; omega)⟩, (htx _ kw_6_123), (htx _ kp_M_store)⟩ ⟨xPre_blind, va_recv hK hP (ci := 5) rfl (q0 := 0) rfl, (fun U hU hW => ⟨rfl, xPre_of hZ hS hFc hP hD hK U hU hW⟩)⟩ rfl rfl hl.1 rfl (xm_room (Nat.le_of_ble_eq_true rfl)) dM_finish_123 ⟨hm32.1, hm32.2⟩) hS hFc (fun q _ h => hFc q h) (fun E ce q9 u9 t H1 locs ht hvm hr9 hB hz1 hk1 hS hce hcv hcl => ?_)
                obtain ⟨rfl, hP1, hK1, hD1⟩ := hB
                rw [ht] at hP1
                obtain ⟨ad34, gd35, vad36⟩ := u9
                obtain ⟨hv37, hn38⟩ := hr9
                have hP : va_P D xcl (xMw cT aM ad34 rd gd35 vad36 o21.2.2.2.2 []) H1 := hP1
                have hD : va_D A (xMw cT aM ad34 rd gd35 vad36 o21.2.2.2.2 []) := hD1.weaken (fun k q _ h => hFc q.1 h)
                generalize H1 = H at hP hS hce ⊢
                have hE9 : ∀ p, p < xct st → vad36 p = vad p := fun p h => (hv37 p (Nat.lt_of_lt_of_le h hN)).trans (hE p h)
                have hE := hE9
                have hN : xct st ≤ xct o21.2.2.2.2 := Nat.le_trans hN hn38
                refine vx_catch (own := "ValueBenchModel") (name := "java/lang/IndexOutOfBoundsException") (E := "java/lang/IndexOutOfBoundsException") hown [⟨0, 128, 131, 83⟩] ⟨0, 128, 149, 86⟩ [] (by rw [htab]; rfl) (by intro z hz; rcases List.mem_cons.mp hz with rfl | hz; (exact Or.inr ⟨by decide, "java/lang/ArithmeticException", htx _ kw_6_94, hZ.2.2.2.2.2.2.2.1 ("java/lang/IndexOutOfBoundsException", "java/lang/ArithmeticException") (List.mem_of_getElem? (i := 2) rfl)⟩); cases hz) (by decide) (by decide) (htx _ kw_5_205) ((hZ.2.2.2.2.2.1 "java/lang/IndexOutOfBoundsException" (List.mem_of_getElem? (i := 0) rfl)).use rfl) hce hcv hcl ?_
                refine lv_astore (lv' := [(6, .ref q9), (7, .null), (0, .ref aM), (1, .int x0), (2, .int x1), (3, .int x2), (4, .int x3), (5, .int x4)]) hx hb dM_finish_149 hl (by decide) rfl (fun ls hl => ?_)
                refine lv_aload_n hx hb dM_finish_151 rfl (lv_at hl 2 rfl) ?_
                refine lv_iconst (v := 3) hx hb dM_finish_152 (by decide) ?_
                refine xm_put (v := .int 3) (W' := (xMw cT aM ad34 rd gd35 vad36 (xsI o21.2.2.2.2 0 3) [])) (ty := .int) hx hb htx hown hK hP hD hS 0 (by decide) rfl (htx _ kw_5_87) rfl rfl (by decide +kernel) rfl rfl dM_finish_153 (fun H locs hP hD hS => ?_)
                obtain rfl := Option.some.inj hf
                exact W.vret hx hb hr (fun t ht hW => ⟨⟨(ad34, gd35, vad36), rfl, ⟨hE, hN⟩, by rw [ht]; exact hP, va_K.moved hW.alike hK, hD⟩, hS.F ht⟩) hS.2.2 dM_finish_156
              rw [if_neg hk31] at hf
              exact nomatch hf
            rw [if_neg hk13] at hf
            by_cases hk39 : o11.1 = 1
            · rw [if_pos hk39] at hf
              obtain ⟨hm40, hf⟩ := xmoE hf
              have hFc := xm_free hD hS hA
              refine xx_thr (vx_runV (C := "ValueBenchModel") (As := [.int x2, xv vad8 o1.2.2.2.1, .null]) (rest := []) ⟨hx, hb, hml, hown, htx⟩ (gM_two1_1 l hl9 D cT aK aV H.size d n aM ad6 rd gd7 vad8 o1.2.2.2.2 x2 o1.2.2.2.1 0 o11 hq12 hk39) ⟨callB_of 3 htx (xw_goodC kw_7_79) rfl rfl rfl (htx _ kw_1_5) (htx _ kw_7_76) ⟨by decide, by decide, by decide +kernel⟩ ⟨(by show (16 * d + 10) + 1 ≤ 16 * d + 12; omega), (by show 8 + (4 + 11) + (400 * d + 199) ≤ 400 * d + 246; omega)⟩, (htx _ kw_7_78), (htx _ kp_M_two1)⟩ ⟨xPre_blind, va_recv hK hP (ci := 5) rfl (q0 := 0) rfl, (fun U hU hW => ⟨rfl, xPre_of hZ hS hFc hP hD hK U hU hW⟩)⟩ rfl rfl hl.1 rfl (xm_room (Nat.le_of_ble_eq_true rfl)) dM_finish_71 ⟨hm40.1, hm40.2⟩) hS hFc (fun q _ h => hFc q h) (fun E ce q9 u9 t H1 locs ht hvm hr9 hB hz1 hk1 hS hce hcv hcl => ?_)
              obtain ⟨rfl, hP1, hK1, hD1⟩ := hB
              rw [ht] at hP1
              obtain ⟨ad42, gd43, vad44⟩ := u9
              obtain ⟨hv45, hn46⟩ := hr9
              have hP : va_P D xcl (xMw cT aM ad42 rd gd43 vad44 o11.2.2.2.2 []) H1 := hP1
              have hD : va_D A (xMw cT aM ad42 rd gd43 vad44 o11.2.2.2.2 []) := hD1.weaken (fun k q _ h => hFc q.1 h)
              generalize H1 = H at hP hS hce ⊢
              have hE9 : ∀ p, p < xct st → vad44 p = vad p := fun p h => (hv45 p (Nat.lt_of_lt_of_le h hN)).trans (hE p h)
              have hE := hE9
              have hN : xct st ≤ xct o11.2.2.2.2 := Nat.le_trans hN hn46
              refine vx_catch (own := "ValueBenchModel") (name := "java/lang/ArithmeticException") (E := "java/lang/ArithmeticException") hown [] ⟨0, 128, 131, 83⟩ [⟨0, 128, 149, 86⟩] (by rw [htab]; rfl) (fun z hz => nomatch hz) (by decide) (by decide) (htx _ kw_6_94) ((hZ.2.2.2.2.2.1 "java/lang/ArithmeticException" (List.mem_of_getElem? (i := 3) rfl)).use rfl) hce hcv hcl ?_
              refine lv_astore (lv' := [(6, .ref q9), (7, .null), (0, .ref aM), (1, .int x0), (2, .int x1), (3, .int x2), (4, .int x3), (5, .int x4)]) hx hb dM_finish_131 hl (by decide) rfl (fun ls hl => ?_)
              refine lv_aload_n hx hb dM_finish_133 rfl (lv_at hl 2 rfl) ?_
              refine lv_aload_n hx hb dM_finish_134 rfl (lv_at hl 2 rfl) ?_
              refine xm_get (v := .int (xsi o11.2.2.2.2 8)) hx hb htx hown hK hP 8 (by decide) rfl (htx _ kw_5_95) rfl dM_finish_135 ?_
              refine xm_put (v := .int (xsi o11.2.2.2.2 8)) (W' := (xMw cT aM ad42 rd gd43 vad44 (xsI o11.2.2.2.2 30 (xsi o11.2.2.2.2 8)) [])) (ty := .int) hx hb htx hown hK hP hD hS 30 (by decide) rfl (htx _ kw_5_117) rfl rfl (by decide +kernel) rfl rfl dM_finish_138 (fun H locs hP hD hS => ?_)
              refine lv_aload_n hx hb dM_finish_141 rfl (lv_at hl 2 rfl) ?_
              refine lv_iconst (v := 2) hx hb dM_finish_142 (by decide) ?_
              refine xm_put (v := .int 2) (W' := (xMw cT aM ad42 rd gd43 vad44 (xsI (xsI o11.2.2.2.2 30 (xsi o11.2.2.2.2 8)) 0 2) [])) (ty := .int) hx hb htx hown hK hP hD hS 0 (by decide) rfl (htx _ kw_5_87) rfl rfl (by decide +kernel) rfl rfl dM_finish_143 (fun H locs hP hD hS => ?_)
              refine lv_goto (tgt := 156) hx hb dM_finish_146 (by decide) ?_
              obtain rfl := Option.some.inj hf
              exact W.vret hx hb hr (fun t ht hW => ⟨⟨(ad42, gd43, vad44), rfl, ⟨hE, hN⟩, by rw [ht]; exact hP, va_K.moved hW.alike hK, hD⟩, hS.F ht⟩) hS.2.2 dM_finish_156
            rw [if_neg hk39] at hf
            by_cases hk47 : o11.1 = 2
            · rw [if_pos hk47] at hf
              obtain ⟨hm48, hf⟩ := xmoE hf
              have hFc := xm_free hD hS hA
              refine xx_thr (vx_runV (C := "ValueBenchModel") (As := [.int x2, xv vad8 o1.2.2.2.1, .null]) (rest := []) ⟨hx, hb, hml, hown, htx⟩ (gM_two1_2 l hl9 D cT aK aV H.size d n aM ad6 rd gd7 vad8 o1.2.2.2.2 x2 o1.2.2.2.1 0 o11 hq12 hk47) ⟨callB_of 3 htx (xw_goodC kw_7_79) rfl rfl rfl (htx _ kw_1_5) (htx _ kw_7_76) ⟨by decide, by decide, by decide +kernel⟩ ⟨(by show (16 * d + 10) + 1 ≤ 16 * d + 12; omega), (by show 8 + (4 + 11) + (400 * d + 199) ≤ 400 * d + 246; omega)⟩, (htx _ kw_7_78), (htx _ kp_M_two1)⟩ ⟨xPre_blind, va_recv hK hP (ci := 5) rfl (q0 := 0) rfl, (fun U hU hW => ⟨rfl, xPre_of hZ hS hFc hP hD hK U hU hW⟩)⟩ rfl rfl hl.1 rfl (xm_room (Nat.le_of_ble_eq_true rfl)) dM_finish_71 ⟨hm48.1, hm48.2⟩) hS hFc (fun q _ h => hFc q h) (fun E ce q9 u9 t H1 locs ht hvm hr9 hB hz1 hk1 hS hce hcv hcl => ?_)
              obtain ⟨rfl, hP1, hK1, hD1⟩ := hB
              rw [ht] at hP1
              obtain ⟨ad50, gd51, vad52⟩ := u9
              obtain ⟨hv53, hn54⟩ := hr9
              have hP : va_P D xcl (xMw cT aM ad50 rd gd51 vad52 o11.2.2.2.2 []) H1 := hP1
              have hD : va_D A (xMw cT aM ad50 rd gd51 vad52 o11.2.2.2.2 []) := hD1.weaken (fun k q _ h => hFc q.1 h)
              generalize H1 = H at hP hS hce ⊢
              have hE9 : ∀ p, p < xct st → vad52 p = vad p := fun p h => (hv53 p (Nat.lt_of_lt_of_le h hN)).trans (hE p h)
              have hE := hE9
              have hN : xct st ≤ xct o11.2.2.2.2 := Nat.le_trans hN hn54
              refine vx_catch (own := "ValueBenchModel") (name := "java/lang/IndexOutOfBoundsException") (E := "java/lang/IndexOutOfBoundsException") hown [⟨0, 128, 131, 83⟩] ⟨0, 128, 149, 86⟩ [] (by rw [htab]; rfl) (by intro z hz; rcases List.mem_cons.mp hz with rfl | hz; (exact Or.inr ⟨by decide, "java/lang/ArithmeticException", htx _ kw_6_94, hZ.2.2.2.2.2.2.2.1 ("java/lang/IndexOutOfBoundsException", "java/lang/ArithmeticException") (List.mem_of_getElem? (i := 2) rfl)⟩); cases hz) (by decide) (by decide) (htx _ kw_5_205) ((hZ.2.2.2.2.2.1 "java/lang/IndexOutOfBoundsException" (List.mem_of_getElem? (i := 0) rfl)).use rfl) hce hcv hcl ?_
              refine lv_astore (lv' := [(6, .ref q9), (7, .null), (0, .ref aM), (1, .int x0), (2, .int x1), (3, .int x2), (4, .int x3), (5, .int x4)]) hx hb dM_finish_149 hl (by decide) rfl (fun ls hl => ?_)
              refine lv_aload_n hx hb dM_finish_151 rfl (lv_at hl 2 rfl) ?_
              refine lv_iconst (v := 3) hx hb dM_finish_152 (by decide) ?_
              refine xm_put (v := .int 3) (W' := (xMw cT aM ad50 rd gd51 vad52 (xsI o11.2.2.2.2 0 3) [])) (ty := .int) hx hb htx hown hK hP hD hS 0 (by decide) rfl (htx _ kw_5_87) rfl rfl (by decide +kernel) rfl rfl dM_finish_153 (fun H locs hP hD hS => ?_)
              obtain rfl := Option.some.inj hf
              exact W.vret hx hb hr (fun t ht hW => ⟨⟨(ad50, gd51, vad52), rfl, ⟨hE, hN⟩, by rw [ht]; exact hP, va_K.moved hW.alike hK, hD⟩, hS.F ht⟩) hS.2.2 dM_finish_156
            rw [if_neg hk47] at hf
            exact nomatch hf
        · rw [if_pos hc] at hf
          refine lv_aload_n hx hb dM_finish_48 rfl (lv_at hl 2 rfl) ?_
          refine lv_iload_n hx hb dM_finish_49 rfl (lv_at hl 5 rfl) ?_
          refine xm_aload hx hb (xvor _ _) dM_finish_50 (lv_at hl 1 rfl) ?_
          obtain ⟨o11, hq12, hf⟩ := xbind hf
          have hl := lv_sub (l' := [(7, .null), (0, .ref aM), (1, .int x0), (2, .int x1), (3, .int x2), (4, .int x3), (5, .int x4)]) hl [0, 2, 3, 4, 5, 6, 7] rfl
          by_cases hk13 : o11.1 = 0
          · rw [if_pos hk13] at hf
            obtain ⟨hm14, hf⟩ := xmoE hf
            have hFc := xm_free hD hS hA
            refine va_callq (va_runV (C := "ValueBenchModel") (As := [.int x2, xv vad8 o1.2.2.2.1]) (rest := []) ⟨hx, hb, hml, hown, htx⟩ (gM_one1 l hl9 D cT aK aV H.size d n aM ad6 rd gd7 vad8 o1.2.2.2.2 x2 o1.2.2.2.1 o11 hq12 hk13) ⟨callB_of 2 htx (xw_goodC kw_6_237) rfl rfl rfl (htx _ kw_1_5) (htx _ kw_6_234) ⟨by decide, by decide, by decide +kernel⟩ ⟨(by show (16 * d + 11) + 1 ≤ 16 * d + 12; omega), (by show 8 + (3 + 11) + (400 * d + 224) ≤ 400 * d + 246; omega)⟩, (htx _ kw_6_236), (htx _ kp_M_one1)⟩ ⟨xPre_blind, va_recv hK hP (ci := 5) rfl (q0 := 0) rfl, (fun U hU hW => ⟨rfl, xPre_of hZ hS hFc hP hD hK U hU hW⟩)⟩ rfl rfl hl.1 rfl (xm_room (Nat.le_of_ble_eq_true rfl)) dM_finish_52 ⟨hm14.1, hm14.2⟩) hS (fun q _ h => hFc q h) hFc (fun r15 u9 t H1 locs ht hvm hr9 hB hz1 hk1 hS => ?_)
            obtain ⟨hP1, hK1, hD1⟩ := hB
            rw [ht] at hP1
            obtain ⟨ad16, gd17, vad18⟩ := u9
            obtain ⟨hr9, hv19, hn20⟩ := hr9
            have hP : va_P D xcl (xMw cT aM ad16 rd gd17 vad18 o11.2.2.2.2 []) H1 := hP1
            have hD : va_D A (xMw cT aM ad16 rd gd17 vad18 o11.2.2.2.2 []) := hD1.weaken (fun k q _ h => hFc q.1 h)
            generalize H1 = H at hP hS ⊢
            have hE9 : ∀ p, p < xct st → vad18 p = vad p := fun p h => (hv19 p (Nat.lt_of_lt_of_le h hN)).trans (hE p h)
            have hE := hE9
            have hN : xct st ≤ xct o11.2.2.2.2 := Nat.le_trans hN hn20
            rw [hr9]
            refine W.eq (g2 := F0 m 55 ls [xv vad18 o11.2.2.2.1]) (by first | rfl | (skip; rfl)) ?_
            refine xm_astore (lv' := [(8, xv vad18 o11.2.2.2.1), (7, .null), (0, .ref aM), (1, .int x0), (2, .int x1), (3, .int x2), (4, .int x3), (5, .int x4)]) hx hb (xvor _ _) dM_finish_55 hl (by decide) rfl (fun ls hl => ?_)
            refine lv_goto (tgt := 119) hx hb dM_finish_57 (by decide) ?_
            refine lv_aload_n hx hb dM_finish_119 rfl (lv_at hl 2 rfl) ?_
            refine lv_iload_n hx hb dM_finish_120 rfl (lv_at hl 3 rfl) ?_
            refine xm_aload hx hb (xvor _ _) dM_finish_121 (lv_at hl 0 rfl) ?_
            obtain ⟨o21, hq22, hf⟩ := xbind hf
            have hl := lv_sub (l' := [(7, .null), (0, .ref aM), (1, .int x0), (2, .int x1), (3, .int x2), (4, .int x3), (5, .int x4)]) hl [1, 2, 3, 4, 5, 6, 7] rfl
            by_cases hk23 : o21.1 = 0
            · rw [if_pos hk23] at hf
              obtain ⟨hm24, hf⟩ := xmoE hf
              have hFc := xm_free hD hS hA
              refine va_calli (va_runV (C := "ValueBenchModel") (As := [.int x0, xv vad18 o11.2.2.2.1]) (rest := []) ⟨hx, hb, hml, hown, htx⟩ (gM_store l hl9 D cT aK aV H.size d n aM ad16 rd gd17 vad18 o11.2.2.2.2 x0 o11.2.2.2.1 o21 hq22 hk23) ⟨callB_of 2 htx (xw_goodC kw_6_124) rfl rfl rfl (htx _ kw_1_5) (htx _ kw_6_121) ⟨by decide, by decide, by decide +kernel⟩ ⟨(by show (16 * d + 1) + 1 ≤ 16 * d + 12; omega), (by show 8 + (4 + 11) + (400 * d + 22) ≤ 400 * d + 246; omega)⟩, (htx _ kw_6_123), (htx _ kp_M_store)⟩ ⟨xPre_blind, va_recv hK hP (ci := 5) rfl (q0 := 0) rfl, (fun U hU hW => ⟨rfl, xPre_of hZ hS hFc hP hD hK U hU hW⟩)⟩ rfl rfl hl.1 rfl (xm_room (Nat.le_of_ble_eq_true rfl)) dM_finish_123 ⟨hm24.1, hm24.2⟩) hS (fun q _ h => hFc q h) hFc (fun r25 u9 t H1 locs ht hvm hr9 hB hz1 hk1 hS => ?_)
              obtain ⟨hP1, hK1, hD1⟩ := hB
              rw [ht] at hP1
              obtain ⟨ad26, gd27, vad28⟩ := u9
              obtain ⟨hr9, hv29, hn30⟩ := hr9
              have hP : va_P D xcl (xMw cT aM ad26 rd gd27 vad28 o21.2.2.2.2 []) H1 := hP1
              have hD : va_D A (xMw cT aM ad26 rd gd27 vad28 o21.2.2.2.2 []) := hD1.weaken (fun k q _ h => hFc q.1 h)
              generalize H1 = H at hP hS ⊢
              have hE9 : ∀ p, p < xct st → vad28 p = vad p := fun p h => (hv29 p (Nat.lt_of_lt_of_le h hN)).trans (hE p h)
              have hE := hE9
              have hN : xct st ≤ xct o21.2.2.2.2 := Nat.le_trans hN hn30
              rw [hr9]
              refine W.eq (g2 := F0 m 126 ls [.int o21.2.2.2.1]) (by first | rfl | (skip; rfl)) ?_
              refine lv_istore (lv' := [(9, .int o21.2.2.2.1), (7, .null), (0, .ref aM), (1, .int x0), (2, .int x1), (3, .int x2), (4, .int x3), (5, .int x4)]) hx hb dM_finish_126 hl (by decide) rfl (fun ls hl => ?_)
              refine lv_goto (tgt := 156) hx hb dM_finish_128 (by decide) ?_
              obtain rfl := Option.some.inj hf
              exact W.vret hx hb hr (fun t ht hW => ⟨⟨(ad26, gd27, vad28), rfl, ⟨hE, hN⟩, by rw [ht]; exact hP, va_K.moved hW.alike hK, hD⟩, hS.F ht⟩) hS.2.2 dM_finish_156
            rw [if_neg hk23] at hf
            by_cases hk31 : o21.1 = 1
            · rw [if_pos hk31] at hf
              obtain ⟨hm32, hf⟩ := xmoE hf
              have hFc := xm_free hD hS hA
              refine xx_thr (vx_runV (C := "ValueBenchModel") (As := [.int x0, xv vad18 o11.2.2.2.1]) (rest := []) ⟨hx, hb, hml, hown, htx⟩ (gM_store_1 l hl9 D cT aK aV H.size d n aM ad16 rd gd17 vad18 o11.2.2.2.2 x0 o11.2.2.2.1 o21 hq22 hk31) ⟨callB_of 2 htx (xw_goodC kw_6_124) rfl rfl rfl (htx _ kw_1_5) (htx _ kw_6_121) ⟨by decide, by decide, by decide +kernel⟩ ⟨(by show (16 * d + 1) + 1 ≤ 16 * d + 12; omega), (by show 8 + (4 + 11) + (400 * d + 22) ≤ 400 * d + 246; omega)⟩, (htx _ kw_6_123), (htx _ kp_M_store)⟩ ⟨xPre_blind, va_recv hK hP (ci := 5) rfl (q0 := 0) rfl, (fun U hU hW => ⟨rfl, xPre_of hZ hS hFc hP hD hK U hU hW⟩)⟩ rfl rfl hl.1 rfl (xm_room (Nat.le_of_ble_eq_true rfl)) dM_finish_123 ⟨hm32.1, hm32.2⟩) hS hFc (fun q _ h => hFc q h) (fun E ce q9 u9 t H1 locs ht hvm hr9 hB hz1 hk1 hS hce hcv hcl => ?_)
              obtain ⟨rfl, hP1, hK1, hD1⟩ := hB
              rw [ht] at hP1
              obtain ⟨ad34, gd35, vad36⟩ := u9
              obtain ⟨hv37, hn38⟩ := hr9
              have hP : va_P D xcl (xMw cT aM ad34 rd gd35 vad36 o21.2.2.2.2 []) H1 := hP1
              have hD : va_D A (xMw cT aM ad34 rd gd35 vad36 o21.2.2.2.2 []) := hD1.weaken (fun k q _ h => hFc q.1 h)
              generalize H1 = H at hP hS hce ⊢
              have hE9 : ∀ p, p < xct st → vad36 p = vad p := fun p h => (hv37 p (Nat.lt_of_lt_of_le h hN)).trans (hE p h)
              have hE := hE9
              have hN : xct st ≤ xct o21.2.2.2.2 := Nat.le_trans hN hn38
              refine vx_catch (own := "ValueBenchModel") (name := "java/lang/IndexOutOfBoundsException") (E := "java/lang/IndexOutOfBoundsException") hown [⟨0, 128, 131, 83⟩] ⟨0, 128, 149, 86⟩ [] (by rw [htab]; rfl) (by intro z hz; rcases List.mem_cons.mp hz with rfl | hz; (exact Or.inr ⟨by decide, "java/lang/ArithmeticException", htx _ kw_6_94, hZ.2.2.2.2.2.2.2.1 ("java/lang/IndexOutOfBoundsException", "java/lang/ArithmeticException") (List.mem_of_getElem? (i := 2) rfl)⟩); cases hz) (by decide) (by decide) (htx _ kw_5_205) ((hZ.2.2.2.2.2.1 "java/lang/IndexOutOfBoundsException" (List.mem_of_getElem? (i := 0) rfl)).use rfl) hce hcv hcl ?_
              refine lv_astore (lv' := [(6, .ref q9), (7, .null), (0, .ref aM), (1, .int x0), (2, .int x1), (3, .int x2), (4, .int x3), (5, .int x4)]) hx hb dM_finish_149 hl (by decide) rfl (fun ls hl => ?_)
              refine lv_aload_n hx hb dM_finish_151 rfl (lv_at hl 2 rfl) ?_
              refine lv_iconst (v := 3) hx hb dM_finish_152 (by decide) ?_
              refine xm_put (v := .int 3) (W' := (xMw cT aM ad34 rd gd35 vad36 (xsI o21.2.2.2.2 0 3) [])) (ty := .int) hx hb htx hown hK hP hD hS 0 (by decide) rfl (htx _ kw_5_87) rfl rfl (by decide +kernel) rfl rfl dM_finish_153 (fun H locs hP hD hS => ?_)
              obtain rfl := Option.some.inj hf
              exact W.vret hx hb hr (fun t ht hW => ⟨⟨(ad34, gd35, vad36), rfl, ⟨hE, hN⟩, by rw [ht]; exact hP, va_K.moved hW.alike hK, hD⟩, hS.F ht⟩) hS.2.2 dM_finish_156
            rw [if_neg hk31] at hf
            exact nomatch hf
          rw [if_neg hk13] at hf
          by_cases hk39 : o11.1 = 1
          · rw [if_pos hk39] at hf
            obtain ⟨hm40, hf⟩ := xmoE hf
            have hFc := xm_free hD hS hA
            refine xx_thr (vx_runV (C := "ValueBenchModel") (As := [.int x2, xv vad8 o1.2.2.2.1]) (rest := []) ⟨hx, hb, hml, hown, htx⟩ (gM_one1_1 l hl9 D cT aK aV H.size d n aM ad6 rd gd7 vad8 o1.2.2.2.2 x2 o1.2.2.2.1 o11 hq12 hk39) ⟨callB_of 2 htx (xw_goodC kw_6_237) rfl rfl rfl (htx _ kw_1_5) (htx _ kw_6_234) ⟨by decide, by decide, by decide +kernel⟩ ⟨(by show (16 * d + 11) + 1 ≤ 16 * d + 12; omega), (by show 8 + (3 + 11) + (400 * d + 224) ≤ 400 * d + 246; omega)⟩, (htx _ kw_6_236), (htx _ kp_M_one1)⟩ ⟨xPre_blind, va_recv hK hP (ci := 5) rfl (q0 := 0) rfl, (fun U hU hW => ⟨rfl, xPre_of hZ hS hFc hP hD hK U hU hW⟩)⟩ rfl rfl hl.1 rfl (xm_room (Nat.le_of_ble_eq_true rfl)) dM_finish_52 ⟨hm40.1, hm40.2⟩) hS hFc (fun q _ h => hFc q h) (fun E ce q9 u9 t H1 locs ht hvm hr9 hB hz1 hk1 hS hce hcv hcl => ?_)
            obtain ⟨rfl, hP1, hK1, hD1⟩ := hB
            rw [ht] at hP1
            obtain ⟨ad42, gd43, vad44⟩ := u9
            obtain ⟨hv45, hn46⟩ := hr9
            have hP : va_P D xcl (xMw cT aM ad42 rd gd43 vad44 o11.2.2.2.2 []) H1 := hP1
            have hD : va_D A (xMw cT aM ad42 rd gd43 vad44 o11.2.2.2.2 []) := hD1.weaken (fun k q _ h => hFc q.1 h)
            generalize H1 = H at hP hS hce ⊢
            have hE9 : ∀ p, p < xct st → vad44 p = vad p := fun p h => (hv45 p (Nat.lt_of_lt_of_le h hN)).trans (hE p h)
            have hE := hE9
            have hN : xct st ≤ xct o11.2.2.2.2 := Nat.le_trans hN hn46
            refine vx_catch (own := "ValueBenchModel") (name := "java/lang/ArithmeticException") (E := "java/lang/ArithmeticException") hown [] ⟨0, 128, 131, 83⟩ [⟨0, 128, 149, 86⟩] (by rw [htab]; rfl) (fun z hz => nomatch hz) (by decide) (by decide) (htx _ kw_6_94) ((hZ.2.2.2.2.2.1 "java/lang/ArithmeticException" (List.mem_of_getElem? (i := 3) rfl)).use rfl) hce hcv hcl ?_
            refine lv_astore (lv' := [(6, .ref q9), (7, .null), (0, .ref aM), (1, .int x0), (2, .int x1), (3, .int x2), (4, .int x3), (5, .int x4)]) hx hb dM_finish_131 hl (by decide) rfl (fun ls hl => ?_)
            refine lv_aload_n hx hb dM_finish_133 rfl (lv_at hl 2 rfl) ?_
            refine lv_aload_n hx hb dM_finish_134 rfl (lv_at hl 2 rfl) ?_
            refine xm_get (v := .int (xsi o11.2.2.2.2 8)) hx hb htx hown hK hP 8 (by decide) rfl (htx _ kw_5_95) rfl dM_finish_135 ?_
            refine xm_put (v := .int (xsi o11.2.2.2.2 8)) (W' := (xMw cT aM ad42 rd gd43 vad44 (xsI o11.2.2.2.2 30 (xsi o11.2.2.2.2 8)) [])) (ty := .int) hx hb htx hown hK hP hD hS 30 (by decide) rfl (htx _ kw_5_117) rfl rfl (by decide +kernel) rfl rfl dM_finish_138 (fun H locs hP hD hS => ?_)
            refine lv_aload_n hx hb dM_finish_141 rfl (lv_at hl 2 rfl) ?_
            refine lv_iconst (v := 2) hx hb dM_finish_142 (by decide) ?_
            refine xm_put (v := .int 2) (W' := (xMw cT aM ad42 rd gd43 vad44 (xsI (xsI o11.2.2.2.2 30 (xsi o11.2.2.2.2 8)) 0 2) [])) (ty := .int) hx hb htx hown hK hP hD hS 0 (by decide) rfl (htx _ kw_5_87) rfl rfl (by decide +kernel) rfl rfl dM_finish_143 (fun H locs hP hD hS => ?_)
            refine lv_goto (tgt := 156) hx hb dM_finish_146 (by decide) ?_
            obtain rfl := Option.some.inj hf
            exact W.vret hx hb hr (fun t ht hW => ⟨⟨(ad42, gd43, vad44), rfl, ⟨hE, hN⟩, by rw [ht]; exact hP, va_K.moved hW.alike hK, hD⟩, hS.F ht⟩) hS.2.2 dM_finish_156
          rw [if_neg hk39] at hf
          by_cases hk47 : o11.1 = 2
          · rw [if_pos hk47] at hf
            obtain ⟨hm48, hf⟩ := xmoE hf
            have hFc := xm_free hD hS hA
            refine xx_thr (vx_runV (C := "ValueBenchModel") (As := [.int x2, xv vad8 o1.2.2.2.1]) (rest := []) ⟨hx, hb, hml, hown, htx⟩ (gM_one1_2 l hl9 D cT aK aV H.size d n aM ad6 rd gd7 vad8 o1.2.2.2.2 x2 o1.2.2.2.1 o11 hq12 hk47) ⟨callB_of 2 htx (xw_goodC kw_6_237) rfl rfl rfl (htx _ kw_1_5) (htx _ kw_6_234) ⟨by decide, by decide, by decide +kernel⟩ ⟨(by show (16 * d + 11) + 1 ≤ 16 * d + 12; omega), (by show 8 + (3 + 11) + (400 * d + 224) ≤ 400 * d + 246; omega)⟩, (htx _ kw_6_236), (htx _ kp_M_one1)⟩ ⟨xPre_blind, va_recv hK hP (ci := 5) rfl (q0 := 0) rfl, (fun U hU hW => ⟨rfl, xPre_of hZ hS hFc hP hD hK U hU hW⟩)⟩ rfl rfl hl.1 rfl (xm_room (Nat.le_of_ble_eq_true rfl)) dM_finish_52 ⟨hm48.1, hm48.2⟩) hS hFc (fun q _ h => hFc q h) (fun E ce q9 u9 t H1 locs ht hvm hr9 hB hz1 hk1 hS hce hcv hcl => ?_)
            obtain ⟨rfl, hP1, hK1, hD1⟩ := hB
            rw [ht] at hP1
            obtain ⟨ad50, gd51, vad52⟩ := u9
            obtain ⟨hv53, hn54⟩ := hr9
            have hP : va_P D xcl (xMw cT aM ad50 rd gd51 vad52 o11.2.2.2.2 []) H1 := hP1
            have hD : va_D A (xMw cT aM ad50 rd gd51 vad52 o11.2.2.2.2 []) := hD1.weaken (fun k q _ h => hFc q.1 h)
            generalize H1 = H at hP hS hce ⊢
            have hE9 : ∀ p, p < xct st → vad52 p = vad p := fun p h => (hv53 p (Nat.lt_of_lt_of_le h hN)).trans (hE p h)
            have hE := hE9
            have hN : xct st ≤ xct o11.2.2.2.2 := Nat.le_trans hN hn54
            refine vx_catch (own := "ValueBenchModel") (name := "java/lang/IndexOutOfBoundsException") (E := "java/lang/IndexOutOfBoundsException") hown [⟨0, 128, 131, 83⟩] ⟨0, 128, 149, 86⟩ [] (by rw [htab]; rfl) (by intro z hz; rcases List.mem_cons.mp hz with rfl | hz; (exact Or.inr ⟨by decide, "java/lang/ArithmeticException", htx _ kw_6_94, hZ.2.2.2.2.2.2.2.1 ("java/lang/IndexOutOfBoundsException", "java/lang/ArithmeticException") (List.mem_of_getElem? (i := 2) rfl)⟩); cases hz) (by decide) (by decide) (htx _ kw_5_205) ((hZ.2.2.2.2.2.1 "java/lang/IndexOutOfBoundsException" (List.mem_of_getElem? (i := 0) rfl)).use rfl) hce hcv hcl ?_
            refine lv_astore (lv' := [(6, .ref q9), (7, .null), (0, .ref aM), (1, .int x0), (2, .int x1), (3, .int x2), (4, .int x3), (5, .int x4)]) hx hb dM_finish_149 hl (by decide) rfl (fun ls hl => ?_)
            refine lv_aload_n hx hb dM_finish_151 rfl (lv_at hl 2 rfl) ?_
            refine lv_iconst (v := 3) hx hb dM_finish_152 (by decide) ?_
            refine xm_put (v := .int 3) (W' := (xMw cT aM ad50 rd gd51 vad52 (xsI o11.2.2.2.2 0 3) [])) (ty := .int) hx hb htx hown hK hP hD hS 0 (by decide) rfl (htx _ kw_5_87) rfl rfl (by decide +kernel) rfl rfl dM_finish_153 (fun H locs hP hD hS => ?_)
            obtain rfl := Option.some.inj hf
            exact W.vret hx hb hr (fun t ht hW => ⟨⟨(ad50, gd51, vad52), rfl, ⟨hE, hN⟩, by rw [ht]; exact hP, va_K.moved hW.alike hK, hD⟩, hS.F ht⟩) hS.2.2 dM_finish_156
          rw [if_neg hk47] at hf
          exact nomatch hf
      · rw [if_pos hc] at hf
        refine lv_aload_n hx hb dM_finish_29 rfl (lv_at hl 2 rfl) ?_
        refine lv_iload_n hx hb dM_finish_30 rfl (lv_at hl 5 rfl) ?_
        refine xm_aload hx hb (xvor _ _) dM_finish_31 (lv_at hl 1 rfl) ?_
        refine lv_aloadN hx hb dM_finish_33 (lv_at hl 0 rfl) ?_
        obtain ⟨o11, hq12, hf⟩ := xbind hf
        have hl := lv_sub (l' := [(7, .null), (0, .ref aM), (1, .int x0), (2, .int x1), (3, .int x2), (4, .int x3), (5, .int x4)]) hl [0, 2, 3, 4, 5, 6, 7] rfl
        by_cases hk13 : o11.1 = 0
        · rw [if_pos hk13] at hf
          obtain ⟨hm14, hf⟩ := xmoE hf
          have hFc := xm_free hD hS hA
          refine va_callq (va_runV (C := "ValueBenchModel") (As := [.int x2, xv vad8 o1.2.2.2.1, .null]) (rest := []) ⟨hx, hb, hml, hown, htx⟩ (gM_binary1 l hl9 D cT aK aV H.size d n aM ad6 rd gd7 vad8 o1.2.2.2.2 x2 o1.2.2.2.1 0 o11 hq12 hk13) ⟨callB_of 3 htx (xw_goodC kw_6_199) rfl rfl rfl (htx _ kw_1_5) (htx _ kw_6_196) ⟨by decide, by decide, by decide +kernel⟩ ⟨(by show (16 * d + 9) + 1 ≤ 16 * d + 12; omega), (by show 8 + (4 + 11) + (400 * d + 174) ≤ 400 * d + 246; omega)⟩, (htx _ kw_6_198), (htx _ kp_M_binary1)⟩ ⟨xPre_blind, va_recv hK hP (ci := 5) rfl (q0 := 0) rfl, (fun U hU hW => ⟨rfl, xPre_of hZ hS hFc hP hD hK U hU hW⟩)⟩ rfl rfl hl.1 rfl (xm_room (Nat.le_of_ble_eq_true rfl)) dM_finish_35 ⟨hm14.1, hm14.2⟩) hS (fun q _ h => hFc q h) hFc (fun r15 u9 t H1 locs ht hvm hr9 hB hz1 hk1 hS => ?_)
          obtain ⟨hP1, hK1, hD1⟩ := hB
          rw [ht] at hP1
          obtain ⟨ad16, gd17, vad18⟩ := u9
          obtain ⟨hr9, hv19, hn20⟩ := hr9
          have hP : va_P D xcl (xMw cT aM ad16 rd gd17 vad18 o11.2.2.2.2 []) H1 := hP1
          have hD : va_D A (xMw cT aM ad16 rd gd17 vad18 o11.2.2.2.2 []) := hD1.weaken (fun k q _ h => hFc q.1 h)
          generalize H1 = H at hP hS ⊢
          have hE9 : ∀ p, p < xct st → vad18 p = vad p := fun p h => (hv19 p (Nat.lt_of_lt_of_le h hN)).trans (hE p h)
          have hE := hE9
          have hN : xct st ≤ xct o11.2.2.2.2 := Nat.le_trans hN hn20
          rw [hr9]
          refine W.eq (g2 := F0 m 38 ls [xv vad18 o11.2.2.2.1]) (by first | rfl | (skip; rfl)) ?_
          refine xm_astore (lv' := [(8, xv vad18 o11.2.2.2.1), (7, .null), (0, .ref aM), (1, .int x0), (2, .int x1), (3, .int x2), (4, .int x3), (5, .int x4)]) hx hb (xvor _ _) dM_finish_38 hl (by decide) rfl (fun ls hl => ?_)
          refine lv_goto (tgt := 119) hx hb dM_finish_40 (by decide) ?_
          refine lv_aload_n hx hb dM_finish_119 rfl (lv_at hl 2 rfl) ?_
          refine lv_iload_n hx hb dM_finish_120 rfl (lv_at hl 3 rfl) ?_
          refine xm_aload hx hb (xvor _ _) dM_finish_121 (lv_at hl 0 rfl) ?_
          obtain ⟨o21, hq22, hf⟩ := xbind hf
          have hl := lv_sub (l' := [(7, .null), (0, .ref aM), (1, .int x0), (2, .int x1), (3, .int x2), (4, .int x3), (5, .int x4)]) hl [1, 2, 3, 4, 5, 6, 7] rfl
          by_cases hk23 : o21.1 = 0
          · rw [if_pos hk23] at hf
            obtain ⟨hm24, hf⟩ := xmoE hf
            have hFc := xm_free hD hS hA
            refine va_calli (va_runV (C := "ValueBenchModel") (As := [.int x0, xv vad18 o11.2.2.2.1]) (rest := []) ⟨hx, hb, hml, hown, htx⟩ (gM_store l hl9 D cT aK aV H.size d n aM ad16 rd gd17 vad18 o11.2.2.2.2 x0 o11.2.2.2.1 o21 hq22 hk23) ⟨callB_of 2 htx (xw_goodC kw_6_124) rfl rfl rfl (htx _ kw_1_5) (htx _ kw_6_121) ⟨by decide, by decide, by decide +kernel⟩ ⟨(by show (16 * d + 1) + 1 ≤ 16 * d + 12; omega), (by show 8 + (4 + 11) + (400 * d + 22) ≤ 400 * d + 246; omega)⟩, (htx _ kw_6_123), (htx _ kp_M_store)⟩ ⟨xPre_blind, va_recv hK hP (ci := 5) rfl (q0 := 0) rfl, (fun U hU hW => ⟨rfl, xPre_of hZ hS hFc hP hD hK U hU hW⟩)⟩ rfl rfl hl.1 rfl (xm_room (Nat.le_of_ble_eq_true rfl)) dM_finish_123 ⟨hm24.1, hm24.2⟩) hS (fun q _ h => hFc q h) hFc (fun r25 u9 t H1 locs ht hvm hr9 hB hz1 hk1 hS => ?_)
            obtain ⟨hP1, hK1, hD1⟩ := hB
            rw [ht] at hP1
            obtain ⟨ad26, gd27, vad28⟩ := u9
            obtain ⟨hr9, hv29, hn30⟩ := hr9
            have hP : va_P D xcl (xMw cT aM ad26 rd gd27 vad28 o21.2.2.2.2 []) H1 := hP1
            have hD : va_D A (xMw cT aM ad26 rd gd27 vad28 o21.2.2.2.2 []) := hD1.weaken (fun k q _ h => hFc q.1 h)
            generalize H1 = H at hP hS ⊢
            have hE9 : ∀ p, p < xct st → vad28 p = vad p := fun p h => (hv29 p (Nat.lt_of_lt_of_le h hN)).trans (hE p h)
            have hE := hE9
            have hN : xct st ≤ xct o21.2.2.2.2 := Nat.le_trans hN hn30
            rw [hr9]
            refine W.eq (g2 := F0 m 126 ls [.int o21.2.2.2.1]) (by first | rfl | (skip; rfl)) ?_
            refine lv_istore (lv' := [(9, .int o21.2.2.2.1), (7, .null), (0, .ref aM), (1, .int x0), (2, .int x1), (3, .int x2), (4, .int x3), (5, .int x4)]) hx hb dM_finish_126 hl (by decide) rfl (fun ls hl => ?_)
            refine lv_goto (tgt := 156) hx hb dM_finish_128 (by decide) ?_
            obtain rfl := Option.some.inj hf
            exact W.vret hx hb hr (fun t ht hW => ⟨⟨(ad26, gd27, vad28), rfl, ⟨hE, hN⟩, by rw [ht]; exact hP, va_K.moved hW.alike hK, hD⟩, hS.F ht⟩) hS.2.2 dM_finish_156
          rw [if_neg hk23] at hf
          by_cases hk31 : o21.1 = 1
          · rw [if_pos hk31] at hf
            obtain ⟨hm32, hf⟩ := xmoE hf
            have hFc := xm_free hD hS hA
            refine xx_thr (vx_runV (C := "ValueBenchModel") (As := [.int x0, xv vad18 o11.2.2.2.1]) (rest := []) ⟨hx, hb, hml, hown, htx⟩ (gM_store_1 l hl9 D cT aK aV H.size d n aM ad16 rd gd17 vad18 o11.2.2.2.2 x0 o11.2.2.2.1 o21 hq22 hk31) ⟨callB_of 2 htx (xw_goodC kw_6_124) rfl rfl rfl (htx _ kw_1_5) (htx _ kw_6_121) ⟨by decide, by decide, by decide +kernel⟩ ⟨(by show (16 * d + 1) + 1 ≤ 16 * d + 12; omega), (by show 8 + (4 + 11) + (400 * d + 22) ≤ 400 * d + 246; omega)⟩, (htx _ kw_6_123), (htx _ kp_M_store)⟩ ⟨xPre_blind, va_recv hK hP (ci := 5) rfl (q0 := 0) rfl, (fun U hU hW => ⟨rfl, xPre_of hZ hS hFc hP hD hK U hU hW⟩)⟩ rfl rfl hl.1 rfl (xm_room (Nat.le_of_ble_eq_true rfl)) dM_finish_123 ⟨hm32.1, hm32.2⟩) hS hFc (fun q _ h => hFc q h) (fun E ce q9 u9 t H1 locs ht hvm hr9 hB hz1 hk1 hS hce hcv hcl => ?_)
            obtain ⟨rfl, hP1, hK1, hD1⟩ := hB
            rw [ht] at hP1
            obtain ⟨ad34, gd35, vad36⟩ := u9
            obtain ⟨hv37, hn38⟩ := hr9
            have hP : va_P D xcl (xMw cT aM ad34 rd gd35 vad36 o21.2.2.2.2 []) H1 := hP1
            have hD : va_D A (xMw cT aM ad34 rd gd35 vad36 o21.2.2.2.2 []) := hD1.weaken (fun k q _ h => hFc q.1 h)
            generalize H1 = H at hP hS hce ⊢
            have hE9 : ∀ p, p < xct st → vad36 p = vad p := fun p h => (hv37 p (Nat.lt_of_lt_of_le h hN)).trans (hE p h)
            have hE := hE9
            have hN : xct st ≤ xct o21.2.2.2.2 := Nat.le_trans hN hn38
            refine vx_catch (own := "ValueBenchModel") (name := "java/lang/IndexOutOfBoundsException") (E := "java/lang/IndexOutOfBoundsException") hown [⟨0, 128, 131, 83⟩] ⟨0, 128, 149, 86⟩ [] (by rw [htab]; rfl) (by intro z hz; rcases List.mem_cons.mp hz with rfl | hz; (exact Or.inr ⟨by decide, "java/lang/ArithmeticException", htx _ kw_6_94, hZ.2.2.2.2.2.2.2.1 ("java/lang/IndexOutOfBoundsException", "java/lang/ArithmeticException") (List.mem_of_getElem? (i := 2) rfl)⟩); cases hz) (by decide) (by decide) (htx _ kw_5_205) ((hZ.2.2.2.2.2.1 "java/lang/IndexOutOfBoundsException" (List.mem_of_getElem? (i := 0) rfl)).use rfl) hce hcv hcl ?_
            refine lv_astore (lv' := [(6, .ref q9), (7, .null), (0, .ref aM), (1, .int x0), (2, .int x1), (3, .int x2), (4, .int x3), (5, .int x4)]) hx hb dM_finish_149 hl (by decide) rfl (fun ls hl => ?_)
            refine lv_aload_n hx hb dM_finish_151 rfl (lv_at hl 2 rfl) ?_
            refine lv_iconst (v := 3) hx hb dM_finish_152 (by decide) ?_
            refine xm_put (v := .int 3) (W' := (xMw cT aM ad34 rd gd35 vad36 (xsI o21.2.2.2.2 0 3) [])) (ty := .int) hx hb htx hown hK hP hD hS 0 (by decide) rfl (htx _ kw_5_87) rfl rfl (by decide +kernel) rfl rfl dM_finish_153 (fun H locs hP hD hS => ?_)
            obtain rfl := Option.some.inj hf
            exact W.vret hx hb hr (fun t ht hW => ⟨⟨(ad34, gd35, vad36), rfl, ⟨hE, hN⟩, by rw [ht]; exact hP, va_K.moved hW.alike hK, hD⟩, hS.F ht⟩) hS.2.2 dM_finish_156
          rw [if_neg hk31] at hf
          exact nomatch hf
        rw [if_neg hk13] at hf
        by_cases hk39 : o11.1 = 1
        · rw [if_pos hk39] at hf
          obtain ⟨hm40, hf⟩ := xmoE hf
          have hFc := xm_free hD hS hA
          refine xx_thr (vx_runV (C := "ValueBenchModel") (As := [.int x2, xv vad8 o1.2.2.2.1, .null]) (rest := []) ⟨hx, hb, hml, hown, htx⟩ (gM_binary1_1 l hl9 D cT aK aV H.size d n aM ad6 rd gd7 vad8 o1.2.2.2.2 x2 o1.2.2.2.1 0 o11 hq12 hk39) ⟨callB_of 3 htx (xw_goodC kw_6_199) rfl rfl rfl (htx _ kw_1_5) (htx _ kw_6_196) ⟨by decide, by decide, by decide +kernel⟩ ⟨(by show (16 * d + 9) + 1 ≤ 16 * d + 12; omega), (by show 8 + (4 + 11) + (400 * d + 174) ≤ 400 * d + 246; omega)⟩, (htx _ kw_6_198), (htx _ kp_M_binary1)⟩ ⟨xPre_blind, va_recv hK hP (ci := 5) rfl (q0 := 0) rfl, (fun U hU hW => ⟨rfl, xPre_of hZ hS hFc hP hD hK U hU hW⟩)⟩ rfl rfl hl.1 rfl (xm_room (Nat.le_of_ble_eq_true rfl)) dM_finish_35 ⟨hm40.1, hm40.2⟩) hS hFc (fun q _ h => hFc q h) (fun E ce q9 u9 t H1 locs ht hvm hr9 hB hz1 hk1 hS hce hcv hcl => ?_)
          obtain ⟨rfl, hP1, hK1, hD1⟩ := hB
          rw [ht] at hP1
          obtain ⟨ad42, gd43, vad44⟩ := u9
          obtain ⟨hv45, hn46⟩ := hr9
          have hP : va_P D xcl (xMw cT aM ad42 rd gd43 vad44 o11.2.2.2.2 []) H1 := hP1
          have hD : va_D A (xMw cT aM ad42 rd gd43 vad44 o11.2.2.2.2 []) := hD1.weaken (fun k q _ h => hFc q.1 h)
          generalize H1 = H at hP hS hce ⊢
          have hE9 : ∀ p, p < xct st → vad44 p = vad p := fun p h => (hv45 p (Nat.lt_of_lt_of_le h hN)).trans (hE p h)
          have hE := hE9
          have hN : xct st ≤ xct o11.2.2.2.2 := Nat.le_trans hN hn46
          refine vx_catch (own := "ValueBenchModel") (name := "java/lang/ArithmeticException") (E := "java/lang/ArithmeticException") hown [] ⟨0, 128, 131, 83⟩ [⟨0, 128, 149, 86⟩] (by rw [htab]; rfl) (fun z hz => nomatch hz) (by decide) (by decide) (htx _ kw_6_94) ((hZ.2.2.2.2.2.1 "java/lang/ArithmeticException" (List.mem_of_getElem? (i := 3) rfl)).use rfl) hce hcv hcl ?_
          refine lv_astore (lv' := [(6, .ref q9), (7, .null), (0, .ref aM), (1, .int x0), (2, .int x1), (3, .int x2), (4, .int x3), (5, .int x4)]) hx hb dM_finish_131 hl (by decide) rfl (fun ls hl => ?_)
          refine lv_aload_n hx hb dM_finish_133 rfl (lv_at hl 2 rfl) ?_
          refine lv_aload_n hx hb dM_finish_134 rfl (lv_at hl 2 rfl) ?_
          refine xm_get (v := .int (xsi o11.2.2.2.2 8)) hx hb htx hown hK hP 8 (by decide) rfl (htx _ kw_5_95) rfl dM_finish_135 ?_
          refine xm_put (v := .int (xsi o11.2.2.2.2 8)) (W' := (xMw cT aM ad42 rd gd43 vad44 (xsI o11.2.2.2.2 30 (xsi o11.2.2.2.2 8)) [])) (ty := .int) hx hb htx hown hK hP hD hS 30 (by decide) rfl (htx _ kw_5_117) rfl rfl (by decide +kernel) rfl rfl dM_finish_138 (fun H locs hP hD hS => ?_)
          refine lv_aload_n hx hb dM_finish_141 rfl (lv_at hl 2 rfl) ?_
          refine lv_iconst (v := 2) hx hb dM_finish_142 (by decide) ?_
          refine xm_put (v := .int 2) (W' := (xMw cT aM ad42 rd gd43 vad44 (xsI (xsI o11.2.2.2.2 30 (xsi o11.2.2.2.2 8)) 0 2) [])) (ty := .int) hx hb htx hown hK hP hD hS 0 (by decide) rfl (htx _ kw_5_87) rfl rfl (by decide +kernel) rfl rfl dM_finish_143 (fun H locs hP hD hS => ?_)
          refine lv_goto (tgt := 156) hx hb dM_finish_146 (by decide) ?_
          obtain rfl := Option.some.inj hf
          exact W.vret hx hb hr (fun t ht hW => ⟨⟨(ad42, gd43, vad44), rfl, ⟨hE, hN⟩, by rw [ht]; exact hP, va_K.moved hW.alike hK, hD⟩, hS.F ht⟩) hS.2.2 dM_finish_156
        rw [if_neg hk39] at hf
        by_cases hk47 : o11.1 = 2
        · rw [if_pos hk47] at hf
          obtain ⟨hm48, hf⟩ := xmoE hf
          have hFc := xm_free hD hS hA
          refine xx_thr (vx_runV (C := "ValueBenchModel") (As := [.int x2, xv vad8 o1.2.2.2.1, .null]) (rest := []) ⟨hx, hb, hml, hown, htx⟩ (gM_binary1_2 l hl9 D cT aK aV H.size d n aM ad6 rd gd7 vad8 o1.2.2.2.2 x2 o1.2.2.2.1 0 o11 hq12 hk47) ⟨callB_of 3 htx (xw_goodC kw_6_199) rfl rfl rfl (htx _ kw_1_5) (htx _ kw_6_196) ⟨by decide, by decide, by decide +kernel⟩ ⟨(by show (16 * d + 9) + 1 ≤ 16 * d + 12; omega), (by show 8 + (4 + 11) + (400 * d + 174) ≤ 400 * d + 246; omega)⟩, (htx _ kw_6_198), (htx _ kp_M_binary1)⟩ ⟨xPre_blind, va_recv hK hP (ci := 5) rfl (q0 := 0) rfl, (fun U hU hW => ⟨rfl, xPre_of hZ hS hFc hP hD hK U hU hW⟩)⟩ rfl rfl hl.1 rfl (xm_room (Nat.le_of_ble_eq_true rfl)) dM_finish_35 ⟨hm48.1, hm48.2⟩) hS hFc (fun q _ h => hFc q h) (fun E ce q9 u9 t H1 locs ht hvm hr9 hB hz1 hk1 hS hce hcv hcl => ?_)
          obtain ⟨rfl, hP1, hK1, hD1⟩ := hB
          rw [ht] at hP1
          obtain ⟨ad50, gd51, vad52⟩ := u9
          obtain ⟨hv53, hn54⟩ := hr9
          have hP : va_P D xcl (xMw cT aM ad50 rd gd51 vad52 o11.2.2.2.2 []) H1 := hP1
          have hD : va_D A (xMw cT aM ad50 rd gd51 vad52 o11.2.2.2.2 []) := hD1.weaken (fun k q _ h => hFc q.1 h)
          generalize H1 = H at hP hS hce ⊢
          have hE9 : ∀ p, p < xct st → vad52 p = vad p := fun p h => (hv53 p (Nat.lt_of_lt_of_le h hN)).trans (hE p h)
          have hE := hE9
          have hN : xct st ≤ xct o11.2.2.2.2 := Nat.le_trans hN hn54
          refine vx_catch (own := "ValueBenchModel") (name := "java/lang/IndexOutOfBoundsException") (E := "java/lang/IndexOutOfBoundsException") hown [⟨0, 128, 131, 83⟩] ⟨0, 128, 149, 86⟩ [] (by rw [htab]; rfl) (by intro z hz; rcases List.mem_cons.mp hz with rfl | hz; (exact Or.inr ⟨by decide, "java/lang/ArithmeticException", htx _ kw_6_94, hZ.2.2.2.2.2.2.2.1 ("java/lang/IndexOutOfBoundsException", "java/lang/ArithmeticException") (List.mem_of_getElem? (i := 2) rfl)⟩); cases hz) (by decide) (by decide) (htx _ kw_5_205) ((hZ.2.2.2.2.2.1 "java/lang/IndexOutOfBoundsException" (List.mem_of_getElem? (i := 0) rfl)).use rfl) hce hcv hcl ?_
          refine lv_astore (lv' := [(6, .ref q9), (7, .null), (0, .ref aM), (1, .int x0), (2, .int x1), (3, .int x2), (4, .int x3), (5, .int x4)]) hx hb dM_finish_149 hl (by decide) rfl (fun ls hl => ?_)
          refine lv_aload_n hx hb dM_finish_151 rfl (lv_at hl 2 rfl) ?_
          refine lv_iconst (v := 3) hx hb dM_finish_152 (by decide) ?_
          refine xm_put (v := .int 3) (W' := (xMw cT aM ad50 rd gd51 vad52 (xsI o11.2.2.2.2 0 3) [])) (ty := .int) hx hb htx hown hK hP hD hS 0 (by decide) rfl (htx _ kw_5_87) rfl rfl (by decide +kernel) rfl rfl dM_finish_153 (fun H locs hP hD hS => ?_)
          obtain rfl := Option.some.inj hf
          exact W.vret hx hb hr (fun t ht hW => ⟨⟨(ad50, gd51, vad52), rfl, ⟨hE, hN⟩, by rw [ht]; exact hP, va_K.moved hW.alike hK, hD⟩, hS.F ht⟩) hS.2.2 dM_finish_156
        rw [if_neg hk47] at hf
        exact nomatch hf
  rw [if_neg hk3] at hf
  by_cases hk11 : o1.1 = 1
  · rw [if_pos hk11] at hf
    exact nomatch hf
  rw [if_neg hk11] at hf
  by_cases hk19 : o1.1 = 2
  · rw [if_pos hk19] at hf
    obtain ⟨hm20, hf⟩ := xmoE hf
    have hFc := xm_free hD hS hA
    refine xx_thr (vx_runV (C := "ValueBenchModel") (As := [.int x3]) (rest := []) ⟨hx, hb, hml, hown, htx⟩ (gM_register_2 l hl9 D cT aK aV s.heap.size d n aM ad rd gd vad st x3 o1 hq2 hk19) ⟨callB_of 1 htx (xw_goodC kw_6_170) rfl rfl rfl (htx _ kw_1_5) (htx _ kw_6_167) ⟨by decide, by decide, by decide +kernel⟩ ⟨(by show (16 * d + 8) + 1 ≤ 16 * d + 12; omega), (by show 8 + (2 + 11) + (400 * d + 145) ≤ 400 * d + 246; omega)⟩, (htx _ kw_6_169), (htx _ kp_M_register)⟩ ⟨xPre_blind, va_recv hK hP (ci := 5) rfl (q0 := 0) rfl, (fun U hU hW => ⟨rfl, xPre_of hZ hS hFc hP hD hK U hU hW⟩)⟩ rfl rfl hl.1 rfl (xm_room (Nat.le_of_ble_eq_true rfl)) dM_finish_3 ⟨hm20.1, hm20.2⟩) hS hFc (fun q _ h => hFc q h) (fun E ce q9 u9 t H1 locs ht hvm hr9 hB hz1 hk1 hS hce hcv hcl => ?_)
    obtain ⟨rfl, hP1, hK1, hD1⟩ := hB
    rw [ht] at hP1
    obtain ⟨ad22, gd23, vad24⟩ := u9
    obtain ⟨hv25, hn26⟩ := hr9
    have hP : va_P D xcl (xMw cT aM ad22 rd gd23 vad24 o1.2.2.2.2 []) H1 := hP1
    have hD : va_D A (xMw cT aM ad22 rd gd23 vad24 o1.2.2.2.2 []) := hD1.weaken (fun k q _ h => hFc q.1 h)
    generalize H1 = H at hP hS hce ⊢
    have hE9 : ∀ p, p < xct st → vad24 p = vad p := fun p h => (hv25 p (Nat.lt_of_lt_of_le h hN)).trans (hE p h)
    have hE := hE9
    have hN : xct st ≤ xct o1.2.2.2.2 := Nat.le_trans hN hn26
    refine vx_catch (own := "ValueBenchModel") (name := "java/lang/IndexOutOfBoundsException") (E := "java/lang/IndexOutOfBoundsException") hown [⟨0, 128, 131, 83⟩] ⟨0, 128, 149, 86⟩ [] (by rw [htab]; rfl) (by intro z hz; rcases List.mem_cons.mp hz with rfl | hz; (exact Or.inr ⟨by decide, "java/lang/ArithmeticException", htx _ kw_6_94, hZ.2.2.2.2.2.2.2.1 ("java/lang/IndexOutOfBoundsException", "java/lang/ArithmeticException") (List.mem_of_getElem? (i := 2) rfl)⟩); cases hz) (by decide) (by decide) (htx _ kw_5_205) ((hZ.2.2.2.2.2.1 "java/lang/IndexOutOfBoundsException" (List.mem_of_getElem? (i := 0) rfl)).use rfl) hce hcv hcl ?_
    refine lv_astore (lv' := [(6, .ref q9), (0, .ref aM), (1, .int x0), (2, .int x1), (3, .int x2), (4, .int x3), (5, .int x4)]) hx hb dM_finish_149 hl (by decide) rfl (fun ls hl => ?_)
    refine lv_aload_n hx hb dM_finish_151 rfl (lv_at hl 1 rfl) ?_
    refine lv_iconst (v := 3) hx hb dM_finish_152 (by decide) ?_
    refine xm_put (v := .int 3) (W' := (xMw cT aM ad22 rd gd23 vad24 (xsI o1.2.2.2.2 0 3) [])) (ty := .int) hx hb htx hown hK hP hD hS 0 (by decide) rfl (htx _ kw_5_87) rfl rfl (by decide +kernel) rfl rfl dM_finish_153 (fun H locs hP hD hS => ?_)
    obtain rfl := Option.some.inj hf
    exact W.vret hx hb hr (fun t ht hW => ⟨⟨(ad22, gd23, vad24), rfl, ⟨hE, hN⟩, by rw [ht]; exact hP, va_K.moved hW.alike hK, hD⟩, hS.F ht⟩) hS.2.2 dM_finish_156
  rw [if_neg hk19] at hf
  by_cases hk27 : o1.1 = 3
  · rw [if_pos hk27] at hf
    obtain ⟨hm28, hf⟩ := xmoE hf
    have hFc := xm_free hD hS hA
    refine xx_thr (vx_runV (C := "ValueBenchModel") (As := [.int x3]) (rest := []) ⟨hx, hb, hml, hown, htx⟩ (gM_register_3 l hl9 D cT aK aV s.heap.size d n aM ad rd gd vad st x3 o1 hq2 hk27) ⟨callB_of 1 htx (xw_goodC kw_6_170) rfl rfl rfl (htx _ kw_1_5) (htx _ kw_6_167) ⟨by decide, by decide, by decide +kernel⟩ ⟨(by show (16 * d + 8) + 1 ≤ 16 * d + 12; omega), (by show 8 + (2 + 11) + (400 * d + 145) ≤ 400 * d + 246; omega)⟩, (htx _ kw_6_169), (htx _ kp_M_register)⟩ ⟨xPre_blind, va_recv hK hP (ci := 5) rfl (q0 := 0) rfl, (fun U hU hW => ⟨rfl, xPre_of hZ hS hFc hP hD hK U hU hW⟩)⟩ rfl rfl hl.1 rfl (xm_room (Nat.le_of_ble_eq_true rfl)) dM_finish_3 ⟨hm28.1, hm28.2⟩) hS hFc (fun q _ h => hFc q h) (fun E ce q9 u9 t H1 locs ht hvm hr9 hB hz1 hk1 hS hce hcv hcl => ?_)
    obtain ⟨rfl, hP1, hK1, hD1⟩ := hB
    rw [ht] at hP1
    obtain ⟨ad30, gd31, vad32⟩ := u9
    obtain ⟨hv33, hn34⟩ := hr9
    have hP : va_P D xcl (xMw cT aM ad30 rd gd31 vad32 o1.2.2.2.2 []) H1 := hP1
    have hD : va_D A (xMw cT aM ad30 rd gd31 vad32 o1.2.2.2.2 []) := hD1.weaken (fun k q _ h => hFc q.1 h)
    generalize H1 = H at hP hS hce ⊢
    have hE9 : ∀ p, p < xct st → vad32 p = vad p := fun p h => (hv33 p (Nat.lt_of_lt_of_le h hN)).trans (hE p h)
    have hE := hE9
    have hN : xct st ≤ xct o1.2.2.2.2 := Nat.le_trans hN hn34
    refine vx_catch (own := "ValueBenchModel") (name := "java/lang/ArithmeticException") (E := "java/lang/ArithmeticException") hown [] ⟨0, 128, 131, 83⟩ [⟨0, 128, 149, 86⟩] (by rw [htab]; rfl) (fun z hz => nomatch hz) (by decide) (by decide) (htx _ kw_6_94) ((hZ.2.2.2.2.2.1 "java/lang/ArithmeticException" (List.mem_of_getElem? (i := 3) rfl)).use rfl) hce hcv hcl ?_
    refine lv_astore (lv' := [(6, .ref q9), (0, .ref aM), (1, .int x0), (2, .int x1), (3, .int x2), (4, .int x3), (5, .int x4)]) hx hb dM_finish_131 hl (by decide) rfl (fun ls hl => ?_)
    refine lv_aload_n hx hb dM_finish_133 rfl (lv_at hl 1 rfl) ?_
    refine lv_aload_n hx hb dM_finish_134 rfl (lv_at hl 1 rfl) ?_
    refine xm_get (v := .int (xsi o1.2.2.2.2 8)) hx hb htx hown hK hP 8 (by decide) rfl (htx _ kw_5_95) rfl dM_finish_135 ?_
    refine xm_put (v := .int (xsi o1.2.2.2.2 8)) (W' := (xMw cT aM ad30 rd gd31 vad32 (xsI o1.2.2.2.2 30 (xsi o1.2.2.2.2 8)) [])) (ty := .int) hx hb htx hown hK hP hD hS 30 (by decide) rfl (htx _ kw_5_117) rfl rfl (by decide +kernel) rfl rfl dM_finish_138 (fun H locs hP hD hS => ?_)
    refine lv_aload_n hx hb dM_finish_141 rfl (lv_at hl 1 rfl) ?_
    refine lv_iconst (v := 2) hx hb dM_finish_142 (by decide) ?_
    refine xm_put (v := .int 2) (W' := (xMw cT aM ad30 rd gd31 vad32 (xsI (xsI o1.2.2.2.2 30 (xsi o1.2.2.2.2 8)) 0 2) [])) (ty := .int) hx hb htx hown hK hP hD hS 0 (by decide) rfl (htx _ kw_5_87) rfl rfl (by decide +kernel) rfl rfl dM_finish_143 (fun H locs hP hD hS => ?_)
    refine lv_goto (tgt := 156) hx hb dM_finish_146 (by decide) ?_
    obtain rfl := Option.some.inj hf
    exact W.vret hx hb hr (fun t ht hW => ⟨⟨(ad30, gd31, vad32), rfl, ⟨hE, hN⟩, by rw [ht]; exact hP, va_K.moved hW.alike hK, hD⟩, hS.F ht⟩) hS.2.2 dM_finish_156
  rw [if_neg hk27] at hf
  exact nomatch hf
set_option maxHeartbeats 400000000 in
set_option maxRecDepth 100000 in
theorem gM_binary0 (l : Launch) (hl9 : l.stackTraces = false) (D : va_G) (cT : Nat → ClassId) (aK aV : Nat → Nat) (sz d n : Nat) (aM : Nat) (ad rd gd vad : Nat → Nat) (st : xS) (x0 : Int32) (x1 : Int32) (x2 : Int32) (x3 : Int32) (out : Nat × Nat × xS) (hf : fM_binary0 d n st x0 x1 x2 x3 = some out) : xMet l yM_binary0 wyM_binary0 (16 * d + 13) out.1 out.2.1 (400 * d + 275) D cT aK aV sz [.ref aM, .int x0, .int x1, .int x2, .int x3] (xMw cT aM ad rd gd vad st []) (fun A => va_Qv (fun u : xU => xE vad st out.2.2 u) (fun u t => xB D xcl cT A (xMw cT aM u.1 rd u.2.1 u.2.2 out.2.2 []) t) A) := by
  refine Met.ofW (cc := prog_13_method_89_code) (maxL := 5) (ret := none) (by decide) rfl ?_
  intro p e s m args below meth c s₁ B hml hv
  obtain ⟨rfl, hsz, hZ, hP, hK, hD0⟩ := hv
  have hx := B.exec
  have hb := B.bytes
  have hr := B.returns
  have hts := atoms_spec (ws := wyM_binary0) B.pre
  have htx := fun w h => hts w (List.mem_cons_of_mem _ h)
  have hown : s.vm.findClass "ValueBenchModel" = some m.cls := findClass_of_methodNamed B.named
  have hlocks := B.notSynchronized
  subst hsz
  have hD := hD0.self (sz := s.heap.size)
  generalize hAe : va_A (xMw cT aM ad rd gd vad st []) s.heap.size = A at hD hZ ⊢
  have hA : ∀ q : Nat, s.heap.size ≤ q → A q := fun q h => by rw [← hAe]; exact Or.inr h
  have hS : va_S A s.heap s.heap [] := va_S.rf
  have hl := lv_entry ([.ref aM, .int x0, .int x1, .int x2, .int x3]) (n := 5) (by simp [lg_sl, xvcat, xrscat, xcI, xcL, xcR, xcN])
  rw [show lv_args 0 [.ref aM, .int x0, .int x1, .int x2, .int x3] = [(0, .ref aM), (1, .int x0), (2, .int x1), (3, .int x2), (4, .int x3)] from by simp [lv_args, xvcat, xrscat, xcI, xcL, xcR, xcN]] at hl
  rw [lg_entry_eq]
  generalize (lg_sl ([.ref aM, .int x0, .int x1, .int x2, .int x3]) ++ List.replicate (5 - (lg_sl ([.ref aM, .int x0, .int x1, .int x2, .int x3])).length) Slot.unset).toArray = ls at hl ⊢
  have hl : lv_has ls 5 [(0, .ref aM), (1, .int x0), (2, .int x1), (3, .int x2), (4, .int x3)] := hl
  have hE : ∀ p, p < xct st → vad p = vad p := fun _ _ => rfl
  have hN : xct st ≤ xct st := Nat.le_refl _
  unfold fM_binary0 at hf
  refine lv_aload_n hx hb dM_binary0_0 rfl (lv_at hl 0 rfl) ?_
  obtain ⟨o1, hq2, hf⟩ := xbind hf
  have hFc := xm_free hD hS hA
  refine va_callv (va_runV (C := "ValueBenchModel") (As := []) (rest := []) ⟨hx, hb, hml, hown, htx⟩ (gM_begin l hl9 D cT aK aV s.heap.size n aM ad rd gd vad st o1 hq2) ⟨callB_of 0 htx (xw_goodC kw_5_209) rfl rfl rfl (htx _ kw_1_5) (htx _ kw_5_206) ⟨by decide, by decide, by decide +kernel⟩ ⟨Nat.le_of_ble_eq_true rfl, Nat.le_of_ble_eq_true rfl⟩, (htx _ kw_5_208), (htx _ kp_M_begin)⟩ ⟨xPre_blind, va_recv hK hP (ci := 5) rfl (q0 := 0) rfl, (fun U hU hW => ⟨rfl, xPre_of hZ hS hFc hP hD hK U hU hW⟩)⟩ rfl rfl hl.1 rfl (xm_room (Nat.le_of_ble_eq_true rfl)) dM_binary0_1 ⟨Nat.zero_le _, Nat.zero_le _⟩) hS (fun q _ h => hFc q h) hFc (fun u9 t H1 locs ht hvm hr9 hB hz1 hk1 hS => ?_)
  obtain ⟨hP1, hK1, hD1⟩ := hB
  rw [ht] at hP1
  have hn4 := hr9
  have hN : xct st ≤ xct o1 := Nat.le_trans hN hn4
  have hP : va_P D xcl (xMw cT aM ad rd gd vad o1 []) H1 := hP1
  have hD : va_D A (xMw cT aM ad rd gd vad o1 []) := hD1.weaken (fun k q _ h => hFc q.1 h)
  generalize H1 = H at hP hS ⊢
  refine W.eq (g2 := F0 m 4 ls []) (by first | rfl | (skip; rfl)) ?_
  refine lv_aload_n hx hb dM_binary0_4 rfl (lv_at hl 0 rfl) ?_
  refine lv_iload_n hx hb dM_binary0_5 rfl (lv_at hl 1 rfl) ?_
  obtain ⟨o5, hq6, hf⟩ := xbind hf
  have hFc := xm_free hD hS hA
  refine va_calli (va_runV (C := "ValueBenchModel") (As := [.int x0]) (rest := []) ⟨hx, hb, hml, hown, htx⟩ (gM_out l hl9 D cT aK aV H.size n aM ad rd gd vad o1 x0 o5 hq6) ⟨callB_of 1 htx (xw_goodC kw_5_217) rfl rfl rfl (htx _ kw_1_5) (htx _ kw_5_214) ⟨by decide, by decide, by decide +kernel⟩ ⟨Nat.le_of_ble_eq_true rfl, Nat.le_of_ble_eq_true rfl⟩, (htx _ kw_5_216), (htx _ kp_M_out)⟩ ⟨xPre_blind, va_recv hK hP (ci := 5) rfl (q0 := 0) rfl, (fun U hU hW => ⟨rfl, xPre_of hZ hS hFc hP hD hK U hU hW⟩)⟩ rfl rfl hl.1 rfl (xm_room (Nat.le_of_ble_eq_true rfl)) dM_binary0_6 ⟨Nat.zero_le _, Nat.zero_le _⟩) hS (fun q _ h => hFc q h) hFc (fun r7 u9 t H1 locs ht hvm hr9 hB hz1 hk1 hS => ?_)
  obtain ⟨hP1, hK1, hD1⟩ := hB
  rw [ht] at hP1
  have hP : va_P D xcl (xMw cT aM ad rd gd vad o1 []) H1 := hP1
  have hD : va_D A (xMw cT aM ad rd gd vad o1 []) := hD1.weaken (fun k q _ h => hFc q.1 h)
  generalize H1 = H at hP hS ⊢
  rw [hr9]
  refine W.eq (g2 := F0 m 9 ls [.int o5]) (by first | rfl | (skip; rfl)) ?_
  refine lv_if_ne (tgt := 38) hx hb dM_binary0_9 (by decide) (fun hc => ?_) (fun hc => ?_)
  · rw [if_neg hc] at hf
    refine lv_aload_n hx hb dM_binary0_38 rfl (lv_at hl 0 rfl) ?_
    refine lv_iconst (v := 1) hx hb dM_binary0_39 (by decide) ?_
    refine xm_put (v := .int 1) (W' := (xMw cT aM ad rd gd vad (xsI o1 0 1) [])) (ty := .int) hx hb htx hown hK hP hD hS 0 (by decide) rfl (htx _ kw_5_87) rfl rfl (by decide +kernel) rfl rfl dM_binary0_40 (fun H locs hP hD hS => ?_)
    refine lv_goto (tgt := 56) hx hb dM_binary0_43 (by decide) ?_
    obtain rfl := Option.some.inj hf
    exact W.vret hx hb hr (fun t ht hW => ⟨⟨(ad, gd, vad), rfl, ⟨hE, hN⟩, by rw [ht]; exact hP, va_K.moved hW.alike hK, hD⟩, hS.F ht⟩) hS.2.2 dM_binary0_56
  · rw [if_pos hc] at hf
    refine lv_iload_n hx hb dM_binary0_12 rfl (lv_at hl 2 rfl) ?_
    refine lv_if_lt (tgt := 38) hx hb dM_binary0_13 (by decide) (fun hc => ?_) (fun hc => ?_)
    · rw [if_pos hc] at hf
      refine lv_aload_n hx hb dM_binary0_38 rfl (lv_at hl 0 rfl) ?_
      refine lv_iconst (v := 1) hx hb dM_binary0_39 (by decide) ?_
      refine xm_put (v := .int 1) (W' := (xMw cT aM ad rd gd vad (xsI o1 0 1) [])) (ty := .int) hx hb htx hown hK hP hD hS 0 (by decide) rfl (htx _ kw_5_87) rfl rfl (by decide +kernel) rfl rfl dM_binary0_40 (fun H locs hP hD hS => ?_)
      refine lv_goto (tgt := 56) hx hb dM_binary0_43 (by decide) ?_
      obtain rfl := Option.some.inj hf
      exact W.vret hx hb hr (fun t ht hW => ⟨⟨(ad, gd, vad), rfl, ⟨hE, hN⟩, by rw [ht]; exact hP, va_K.moved hW.alike hK, hD⟩, hS.F ht⟩) hS.2.2 dM_binary0_56
    · rw [if_neg hc] at hf
      refine lv_iload_n hx hb dM_binary0_16 rfl (lv_at hl 2 rfl) ?_
      refine lv_iconst (v := 4) hx hb dM_binary0_17 (by decide) ?_
      refine lv_icmp_gt (tgt := 38) hx hb dM_binary0_18 (by decide) (fun hc => ?_) (fun hc => ?_)
      · rw [if_pos hc] at hf
        refine lv_aload_n hx hb dM_binary0_38 rfl (lv_at hl 0 rfl) ?_
        refine lv_iconst (v := 1) hx hb dM_binary0_39 (by decide) ?_
        refine xm_put (v := .int 1) (W' := (xMw cT aM ad rd gd vad (xsI o1 0 1) [])) (ty := .int) hx hb htx hown hK hP hD hS 0 (by decide) rfl (htx _ kw_5_87) rfl rfl (by decide +kernel) rfl rfl dM_binary0_40 (fun H locs hP hD hS => ?_)
        refine lv_goto (tgt := 56) hx hb dM_binary0_43 (by decide) ?_
        obtain rfl := Option.some.inj hf
        exact W.vret hx hb hr (fun t ht hW => ⟨⟨(ad, gd, vad), rfl, ⟨hE, hN⟩, by rw [ht]; exact hP, va_K.moved hW.alike hK, hD⟩, hS.F ht⟩) hS.2.2 dM_binary0_56
      · rw [if_neg hc] at hf
        refine lv_aload_n hx hb dM_binary0_21 rfl (lv_at hl 0 rfl) ?_
        refine lv_iload_n hx hb dM_binary0_22 rfl (lv_at hl 3 rfl) ?_
        obtain ⟨o8, hq9, hf⟩ := xbind hf
        have hFc := xm_free hD hS hA
        refine va_calli (va_runV (C := "ValueBenchModel") (As := [.int x2]) (rest := []) ⟨hx, hb, hml, hown, htx⟩ (gM_out l hl9 D cT aK aV H.size n aM ad rd gd vad o1 x2 o8 hq9) ⟨callB_of 1 htx (xw_goodC kw_5_217) rfl rfl rfl (htx _ kw_1_5) (htx _ kw_5_214) ⟨by decide, by decide, by decide +kernel⟩ ⟨Nat.le_of_ble_eq_true rfl, Nat.le_of_ble_eq_true rfl⟩, (htx _ kw_5_216), (htx _ kp_M_out)⟩ ⟨xPre_blind, va_recv hK hP (ci := 5) rfl (q0 := 0) rfl, (fun U hU hW => ⟨rfl, xPre_of hZ hS hFc hP hD hK U hU hW⟩)⟩ rfl rfl hl.1 rfl (xm_room (Nat.le_of_ble_eq_true rfl)) dM_binary0_23 ⟨Nat.zero_le _, Nat.zero_le _⟩) hS (fun q _ h => hFc q h) hFc (fun r10 u9 t H1 locs ht hvm hr9 hB hz1 hk1 hS => ?_)
        obtain ⟨hP1, hK1, hD1⟩ := hB
        rw [ht] at hP1
        have hP : va_P D xcl (xMw cT aM ad rd gd vad o1 []) H1 := hP1
        have hD : va_D A (xMw cT aM ad rd gd vad o1 []) := hD1.weaken (fun k q _ h => hFc q.1 h)
        generalize H1 = H at hP hS ⊢
        rw [hr9]
        refine W.eq (g2 := F0 m 26 ls [.int o8]) (by first | rfl | (skip; rfl)) ?_
        refine lv_if_ne (tgt := 38) hx hb dM_binary0_26 (by decide) (fun hc => ?_) (fun hc => ?_)
        · rw [if_neg hc] at hf
          refine lv_aload_n hx hb dM_binary0_38 rfl (lv_at hl 0 rfl) ?_
          refine lv_iconst (v := 1) hx hb dM_binary0_39 (by decide) ?_
          refine xm_put (v := .int 1) (W' := (xMw cT aM ad rd gd vad (xsI o1 0 1) [])) (ty := .int) hx hb htx hown hK hP hD hS 0 (by decide) rfl (htx _ kw_5_87) rfl rfl (by decide +kernel) rfl rfl dM_binary0_40 (fun H locs hP hD hS => ?_)
          refine lv_goto (tgt := 56) hx hb dM_binary0_43 (by decide) ?_
          obtain rfl := Option.some.inj hf
          exact W.vret hx hb hr (fun t ht hW => ⟨⟨(ad, gd, vad), rfl, ⟨hE, hN⟩, by rw [ht]; exact hP, va_K.moved hW.alike hK, hD⟩, hS.F ht⟩) hS.2.2 dM_binary0_56
        · rw [if_pos hc] at hf
          refine lv_aload_n hx hb dM_binary0_29 rfl (lv_at hl 0 rfl) ?_
          refine lv_iload hx hb dM_binary0_30 (lv_at hl 4 rfl) ?_
          obtain ⟨o11, hq12, hf⟩ := xbind hf
          have hFc := xm_free hD hS hA
          refine va_calli (va_runV (C := "ValueBenchModel") (As := [.int x3]) (rest := []) ⟨hx, hb, hml, hown, htx⟩ (gM_out l hl9 D cT aK aV H.size n aM ad rd gd vad o1 x3 o11 hq12) ⟨callB_of 1 htx (xw_goodC kw_5_217) rfl rfl rfl (htx _ kw_1_5) (htx _ kw_5_214) ⟨by decide, by decide, by decide +kernel⟩ ⟨Nat.le_of_ble_eq_true rfl, Nat.le_of_ble_eq_true rfl⟩, (htx _ kw_5_216), (htx _ kp_M_out)⟩ ⟨xPre_blind, va_recv hK hP (ci := 5) rfl (q0 := 0) rfl, (fun U hU hW => ⟨rfl, xPre_of hZ hS hFc hP hD hK U hU hW⟩)⟩ rfl rfl hl.1 rfl (xm_room (Nat.le_of_ble_eq_true rfl)) dM_binary0_32 ⟨Nat.zero_le _, Nat.zero_le _⟩) hS (fun q _ h => hFc q h) hFc (fun r13 u9 t H1 locs ht hvm hr9 hB hz1 hk1 hS => ?_)
          obtain ⟨hP1, hK1, hD1⟩ := hB
          rw [ht] at hP1
          have hP : va_P D xcl (xMw cT aM ad rd gd vad o1 []) H1 := hP1
          have hD : va_D A (xMw cT aM ad rd gd vad o1 []) := hD1.weaken (fun k q _ h => hFc q.1 h)
          generalize H1 = H at hP hS ⊢
          rw [hr9]
          refine W.eq (g2 := F0 m 35 ls [.int o11]) (by first | rfl | (skip; rfl)) ?_
          refine lv_if_eq (tgt := 46) hx hb dM_binary0_35 (by decide) (fun hc => ?_) (fun hc => ?_)
          · rw [if_pos hc] at hf
            refine lv_aload_n hx hb dM_binary0_46 rfl (lv_at hl 0 rfl) ?_
            refine lv_iload_n hx hb dM_binary0_47 rfl (lv_at hl 1 rfl) ?_
            refine lv_iconst (v := 0) hx hb dM_binary0_48 (by decide) ?_
            refine lv_iload_n hx hb dM_binary0_49 rfl (lv_at hl 2 rfl) ?_
            refine lv_iload_n hx hb dM_binary0_50 rfl (lv_at hl 3 rfl) ?_
            refine lv_iload hx hb dM_binary0_51 (lv_at hl 4 rfl) ?_
            obtain ⟨o14, hq15, hf⟩ := xbind hf
            obtain ⟨hm16, hf⟩ := xmoE hf
            have hFc := xm_free hD hS hA
            refine va_callv (vx_runVW (C := "ValueBenchModel") (As := [.int x0, .int 0, .int x1, .int x2, .int x3]) (rest := []) ⟨hx, hb, hml, hown, htx⟩ (gM_finish l hl9 D cT aK aV H.size d n aM ad rd gd vad o1 x0 (0 : Int32) x1 x2 x3 o14 hq15) (xcVW 5 htx (xw_goodC kw_6_195) rfl rfl rfl (htx _ kw_1_5) (htx _ kw_6_192) ⟨by decide, by decide, by decide +kernel⟩ ⟨(by show (16 * d + 12) + 1 ≤ 16 * d + 13; omega), (by show 8 + (10 + 11) + (400 * d + 246) ≤ 400 * d + 275; omega)⟩ (htx _ kw_6_194) (htx _ kp_M_finish)) ⟨xPre_blind, va_recv hK hP (ci := 5) rfl (q0 := 0) rfl, (fun U hU hW => ⟨rfl, xPre_of hZ hS hFc hP hD hK U hU hW⟩)⟩ rfl rfl hl.1 rfl (xm_room (Nat.le_of_ble_eq_true rfl)) dM_binary0_53 ⟨hm16.1, hm16.2⟩) hS (fun q _ h => hFc q h) hFc (fun u9 t H1 locs ht hvm hr9 hB hz1 hk1 hS => ?_)
            obtain ⟨hP1, hK1, hD1⟩ := hB
            rw [ht] at hP1
            obtain ⟨ad18, gd19, vad20⟩ := u9
            obtain ⟨hv21, hn22⟩ := hr9
            have hP : va_P D xcl (xMw cT aM ad18 rd gd19 vad20 o14.2.2 []) H1 := hP1
            have hD : va_D A (xMw cT aM ad18 rd gd19 vad20 o14.2.2 []) := hD1.weaken (fun k q _ h => hFc q.1 h)
            generalize H1 = H at hP hS ⊢
            have hE9 : ∀ p, p < xct st → vad20 p = vad p := fun p h => (hv21 p (Nat.lt_of_lt_of_le h hN)).trans (hE p h)
            have hE := hE9
            have hN : xct st ≤ xct o14.2.2 := Nat.le_trans hN hn22
            refine W.eq (g2 := F0 m 56 ls []) (by first | rfl | (skip; rfl)) ?_
            obtain rfl := Option.some.inj hf
            exact W.vret hx hb hr (fun t ht hW => ⟨⟨(ad18, gd19, vad20), rfl, ⟨hE, hN⟩, by rw [ht]; exact hP, va_K.moved hW.alike hK, hD⟩, hS.F ht⟩) hS.2.2 dM_binary0_56
          · rw [if_neg hc] at hf
            refine lv_aload_n hx hb dM_binary0_38 rfl (lv_at hl 0 rfl) ?_
            refine lv_iconst (v := 1) hx hb dM_binary0_39 (by decide) ?_
            refine xm_put (v := .int 1) (W' := (xMw cT aM ad rd gd vad (xsI o1 0 1) [])) (ty := .int) hx hb htx hown hK hP hD hS 0 (by decide) rfl (htx _ kw_5_87) rfl rfl (by decide +kernel) rfl rfl dM_binary0_40 (fun H locs hP hD hS => ?_)
            refine lv_goto (tgt := 56) hx hb dM_binary0_43 (by decide) ?_
            obtain rfl := Option.some.inj hf
            exact W.vret hx hb hr (fun t ht hW => ⟨⟨(ad, gd, vad), rfl, ⟨hE, hN⟩, by rw [ht]; exact hP, va_K.moved hW.alike hK, hD⟩, hS.F ht⟩) hS.2.2 dM_binary0_56
set_option maxHeartbeats 400000000 in
set_option maxRecDepth 100000 in
theorem gM_fail (l : Launch) (hl9 : l.stackTraces = false) (D : va_G) (cT : Nat → ClassId) (aK aV : Nat → Nat) (sz n : Nat) (aM : Nat) (ad rd gd vad : Nat → Nat) (st : xS) (x0 : Int32) (out : Int32 × xS) (hf : fM_fail n st x0 = some out) : xMet l yM_fail wyM_fail 0 0 0 0 D cT aK aV sz [.ref aM, .int x0] (xMw cT aM ad rd gd vad st []) (fun A => va_Qi (fun (r : Int32) (_ : Unit) => r = out.1 ∧ xct st ≤ xct out.2) (fun _ t => xB D xcl cT A (xMw cT aM ad rd gd vad out.2 []) t) A) := by
  refine Met.ofW (cc := prog_13_method_3_code) (maxL := 2) (ret := (some .int)) (by decide) rfl ?_
  intro p e s m args below meth c s₁ B hml hv
  obtain ⟨rfl, hsz, hZ, hP, hK, hD0⟩ := hv
  have hx := B.exec
  have hb := B.bytes
  have hr := B.returns
  have hts := atoms_spec (ws := wyM_fail) B.pre
  have htx := fun w h => hts w (List.mem_cons_of_mem _ h)
  have hown : s.vm.findClass "ValueBenchModel" = some m.cls := findClass_of_methodNamed B.named
  have hlocks := B.notSynchronized
  subst hsz
  have hD := hD0.self (sz := s.heap.size)
  generalize hAe : va_A (xMw cT aM ad rd gd vad st []) s.heap.size = A at hD hZ ⊢
  have hA : ∀ q : Nat, s.heap.size ≤ q → A q := fun q h => by rw [← hAe]; exact Or.inr h
  have hS : va_S A s.heap s.heap [] := va_S.rf
  have hl := lv_entry ([.ref aM, .int x0]) (n := 2) (by simp [lg_sl, xvcat, xrscat, xcI, xcL, xcR, xcN])
  rw [show lv_args 0 [.ref aM, .int x0] = [(0, .ref aM), (1, .int x0)] from by simp [lv_args, xvcat, xrscat, xcI, xcL, xcR, xcN]] at hl
  rw [lg_entry_eq]
  generalize (lg_sl ([.ref aM, .int x0]) ++ List.replicate (2 - (lg_sl ([.ref aM, .int x0])).length) Slot.unset).toArray = ls at hl ⊢
  have hl : lv_has ls 2 [(0, .ref aM), (1, .int x0)] := hl
  have hN : xct st ≤ xct st := Nat.le_refl _
  unfold fM_fail at hf
  refine lv_aload_n hx hb dM_fail_0 rfl (lv_at hl 0 rfl) ?_
  refine lv_iload_n hx hb dM_fail_1 rfl (lv_at hl 1 rfl) ?_
  refine xm_put (v := .int x0) (W' := (xMw cT aM ad rd gd vad (xsI st 0 x0) [])) (ty := .int) hx hb htx hown hK hP hD hS 0 (by decide) rfl (htx _ kw_5_87) rfl rfl (by decide +kernel) rfl rfl dM_fail_2 (fun H locs hP hD hS => ?_)
  refine lv_iconst (v := 0) hx hb dM_fail_5 (by decide) ?_
  obtain rfl := Option.some.inj hf
  exact W.iret (v := (0 : Int32)) hx hb hr (fun t ht hW => ⟨⟨(0 : Int32), (), rfl, ⟨rfl, hN⟩, by rw [ht]; exact hP, va_K.moved hW.alike hK, hD⟩, hS.F ht⟩) hS.2.2 dM_fail_6
set_option maxHeartbeats 400000000 in
set_option maxRecDepth 100000 in
theorem gM_compare (l : Launch) (hl9 : l.stackTraces = false) (D : va_G) (cT : Nat → ClassId) (aK aV : Nat → Nat) (sz d n : Nat) (aM : Nat) (ad rd gd vad : Nat → Nat) (st : xS) (x0 : Int32) (x1 : Int32) (out : Nat × Nat × Nat × Int32 × xS) (hf : fM_compare d n st x0 x1 = some out) (hkd : out.1 = 0) : xMet l yM_compare wyM_compare (16 * d + 9) out.2.1 out.2.2.1 (400 * d + 166) D cT aK aV sz [.ref aM, .int x0, .int x1] (xMw cT aM ad rd gd vad st []) (fun A => va_Qi (fun (r : Int32) (u : xU) => r = out.2.2.2.1 ∧ xE vad st out.2.2.2.2 u) (fun u t => xB D xcl cT A (xMw cT aM u.1 rd u.2.1 u.2.2 out.2.2.2.2 []) t) A) := by
  refine Met.ofW (cc := prog_13_method_91_code) (maxL := 4) (ret := (some .int)) (by decide) rfl ?_
  intro p e s m args below meth c s₁ B hml hv
  obtain ⟨rfl, hsz, hZ, hP, hK, hD0⟩ := hv
  have hx := B.exec
  have hb := B.bytes
  have hr := B.returns
  have hts := atoms_spec (ws := wyM_compare) B.pre
  have htx := fun w h => hts w (List.mem_cons_of_mem _ h)
  have hown : s.vm.findClass "ValueBenchModel" = some m.cls := findClass_of_methodNamed B.named
  have hlocks := B.notSynchronized
  subst hsz
  have hD := hD0.self (sz := s.heap.size)
  generalize hAe : va_A (xMw cT aM ad rd gd vad st []) s.heap.size = A at hD hZ ⊢
  have hA : ∀ q : Nat, s.heap.size ≤ q → A q := fun q h => by rw [← hAe]; exact Or.inr h
  have hS : va_S A s.heap s.heap [] := va_S.rf
  have hl := lv_entry ([.ref aM, .int x0, .int x1]) (n := 4) (by simp [lg_sl, xvcat, xrscat, xcI, xcL, xcR, xcN])
  rw [show lv_args 0 [.ref aM, .int x0, .int x1] = [(0, .ref aM), (1, .int x0), (2, .int x1)] from by simp [lv_args, xvcat, xrscat, xcI, xcL, xcR, xcN]] at hl
  rw [lg_entry_eq]
  generalize (lg_sl ([.ref aM, .int x0, .int x1]) ++ List.replicate (4 - (lg_sl ([.ref aM, .int x0, .int x1])).length) Slot.unset).toArray = ls at hl ⊢
  have hl : lv_has ls 4 [(0, .ref aM), (1, .int x0), (2, .int x1)] := hl
  have hE : ∀ p, p < xct st → vad p = vad p := fun _ _ => rfl
  have hN : xct st ≤ xct st := Nat.le_refl _
  unfold fM_compare at hf
  refine lv_aload_n hx hb dM_compare_0 rfl (lv_at hl 0 rfl) ?_
  obtain ⟨o1, hq2, hf⟩ := xbind hf
  have hFc := xm_free hD hS hA
  refine va_callv (va_runV (C := "ValueBenchModel") (As := []) (rest := []) ⟨hx, hb, hml, hown, htx⟩ (gM_begin l hl9 D cT aK aV s.heap.size n aM ad rd gd vad st o1 hq2) ⟨callB_of 0 htx (xw_goodC kw_5_209) rfl rfl rfl (htx _ kw_1_5) (htx _ kw_5_206) ⟨by decide, by decide, by decide +kernel⟩ ⟨Nat.le_of_ble_eq_true rfl, Nat.le_of_ble_eq_true rfl⟩, (htx _ kw_5_208), (htx _ kp_M_begin)⟩ ⟨xPre_blind, va_recv hK hP (ci := 5) rfl (q0 := 0) rfl, (fun U hU hW => ⟨rfl, xPre_of hZ hS hFc hP hD hK U hU hW⟩)⟩ rfl rfl hl.1 rfl (xm_room (Nat.le_of_ble_eq_true rfl)) dM_compare_1 ⟨Nat.zero_le _, Nat.zero_le _⟩) hS (fun q _ h => hFc q h) hFc (fun u9 t H1 locs ht hvm hr9 hB hz1 hk1 hS => ?_)
  obtain ⟨hP1, hK1, hD1⟩ := hB
  rw [ht] at hP1
  have hn4 := hr9
  have hN : xct st ≤ xct o1 := Nat.le_trans hN hn4
  have hP : va_P D xcl (xMw cT aM ad rd gd vad o1 []) H1 := hP1
  have hD : va_D A (xMw cT aM ad rd gd vad o1 []) := hD1.weaken (fun k q _ h => hFc q.1 h)
  generalize H1 = H at hP hS ⊢
  refine W.eq (g2 := F0 m 4 ls []) (by first | rfl | (skip; rfl)) ?_
  refine lv_aload_n hx hb dM_compare_4 rfl (lv_at hl 0 rfl) ?_
  refine lv_iload_n hx hb dM_compare_5 rfl (lv_at hl 1 rfl) ?_
  obtain ⟨o5, hq6, hf⟩ := xbind hf
  have hFc := xm_free hD hS hA
  refine va_calli (va_runV (C := "ValueBenchModel") (As := [.int x0]) (rest := []) ⟨hx, hb, hml, hown, htx⟩ (gM_out l hl9 D cT aK aV H.size n aM ad rd gd vad o1 x0 o5 hq6) ⟨callB_of 1 htx (xw_goodC kw_5_217) rfl rfl rfl (htx _ kw_1_5) (htx _ kw_5_214) ⟨by decide, by decide, by decide +kernel⟩ ⟨Nat.le_of_ble_eq_true rfl, Nat.le_of_ble_eq_true rfl⟩, (htx _ kw_5_216), (htx _ kp_M_out)⟩ ⟨xPre_blind, va_recv hK hP (ci := 5) rfl (q0 := 0) rfl, (fun U hU hW => ⟨rfl, xPre_of hZ hS hFc hP hD hK U hU hW⟩)⟩ rfl rfl hl.1 rfl (xm_room (Nat.le_of_ble_eq_true rfl)) dM_compare_6 ⟨Nat.zero_le _, Nat.zero_le _⟩) hS (fun q _ h => hFc q h) hFc (fun r7 u9 t H1 locs ht hvm hr9 hB hz1 hk1 hS => ?_)
  obtain ⟨hP1, hK1, hD1⟩ := hB
  rw [ht] at hP1
  have hP : va_P D xcl (xMw cT aM ad rd gd vad o1 []) H1 := hP1
  have hD : va_D A (xMw cT aM ad rd gd vad o1 []) := hD1.weaken (fun k q _ h => hFc q.1 h)
  generalize H1 = H at hP hS ⊢
  rw [hr9]
  refine W.eq (g2 := F0 m 9 ls [.int o5]) (by first | rfl | (skip; rfl)) ?_
  refine lv_if_ne (tgt := 20) hx hb dM_compare_9 (by decide) (fun hc => ?_) (fun hc => ?_)
  · rw [if_neg hc] at hf
    refine lv_aload_n hx hb dM_compare_20 rfl (lv_at hl 0 rfl) ?_
    refine lv_iconst (v := 1) hx hb dM_compare_21 (by decide) ?_
    obtain ⟨o8, hq9, hf⟩ := xbind hf
    have hFc := xm_free hD hS hA
    refine va_calli (va_runV (C := "ValueBenchModel") (As := [.int 1]) (rest := []) ⟨hx, hb, hml, hown, htx⟩ (gM_fail l hl9 D cT aK aV H.size n aM ad rd gd vad o1 (1 : Int32) o8 hq9) ⟨callB_of 1 htx (xw_goodC kw_5_195) rfl rfl rfl (htx _ kw_1_5) (htx _ kw_5_192) ⟨by decide, by decide, by decide +kernel⟩ ⟨Nat.le_of_ble_eq_true rfl, Nat.le_of_ble_eq_true rfl⟩, (htx _ kw_5_194), (htx _ kp_M_fail)⟩ ⟨xPre_blind, va_recv hK hP (ci := 5) rfl (q0 := 0) rfl, (fun U hU hW => ⟨rfl, xPre_of hZ hS hFc hP hD hK U hU hW⟩)⟩ rfl rfl hl.1 rfl (xm_room (Nat.le_of_ble_eq_true rfl)) dM_compare_22 ⟨Nat.zero_le _, Nat.zero_le _⟩) hS (fun q _ h => hFc q h) hFc (fun r10 u9 t H1 locs ht hvm hr9 hB hz1 hk1 hS => ?_)
    obtain ⟨hP1, hK1, hD1⟩ := hB
    rw [ht] at hP1
    obtain ⟨hr9, hn11⟩ := hr9
    have hN : xct st ≤ xct o8.2 := Nat.le_trans hN hn11
    have hP : va_P D xcl (xMw cT aM ad rd gd vad o8.2 []) H1 := hP1
    have hD : va_D A (xMw cT aM ad rd gd vad o8.2 []) := hD1.weaken (fun k q _ h => hFc q.1 h)
    generalize H1 = H at hP hS ⊢
    rw [hr9]
    refine W.eq (g2 := F0 m 25 ls [.int o8.1]) (by first | rfl | (skip; rfl)) ?_
    obtain rfl := Option.some.inj hf
    exact W.iret (v := o8.1) hx hb hr (fun t ht hW => ⟨⟨o8.1, (ad, gd, vad), rfl, ⟨rfl, hE, hN⟩, by rw [ht]; exact hP, va_K.moved hW.alike hK, hD⟩, hS.F ht⟩) hS.2.2 dM_compare_25
  · rw [if_pos hc] at hf
    refine lv_aload_n hx hb dM_compare_12 rfl (lv_at hl 0 rfl) ?_
    refine lv_iload_n hx hb dM_compare_13 rfl (lv_at hl 2 rfl) ?_
    obtain ⟨o8, hq9, hf⟩ := xbind hf
    have hFc := xm_free hD hS hA
    refine va_calli (va_runV (C := "ValueBenchModel") (As := [.int x1]) (rest := []) ⟨hx, hb, hml, hown, htx⟩ (gM_out l hl9 D cT aK aV H.size n aM ad rd gd vad o1 x1 o8 hq9) ⟨callB_of 1 htx (xw_goodC kw_5_217) rfl rfl rfl (htx _ kw_1_5) (htx _ kw_5_214) ⟨by decide, by decide, by decide +kernel⟩ ⟨Nat.le_of_ble_eq_true rfl, Nat.le_of_ble_eq_true rfl⟩, (htx _ kw_5_216), (htx _ kp_M_out)⟩ ⟨xPre_blind, va_recv hK hP (ci := 5) rfl (q0 := 0) rfl, (fun U hU hW => ⟨rfl, xPre_of hZ hS hFc hP hD hK U hU hW⟩)⟩ rfl rfl hl.1 rfl (xm_room (Nat.le_of_ble_eq_true rfl)) dM_compare_14 ⟨Nat.zero_le _, Nat.zero_le _⟩) hS (fun q _ h => hFc q h) hFc (fun r10 u9 t H1 locs ht hvm hr9 hB hz1 hk1 hS => ?_)
    obtain ⟨hP1, hK1, hD1⟩ := hB
    rw [ht] at hP1
    have hP : va_P D xcl (xMw cT aM ad rd gd vad o1 []) H1 := hP1
    have hD : va_D A (xMw cT aM ad rd gd vad o1 []) := hD1.weaken (fun k q _ h => hFc q.1 h)
    generalize H1 = H at hP hS ⊢
    rw [hr9]
    refine W.eq (g2 := F0 m 17 ls [.int o8]) (by first | rfl | (skip; rfl)) ?_
    refine lv_if_eq (tgt := 26) hx hb dM_compare_17 (by decide) (fun hc => ?_) (fun hc => ?_)
    · rw [if_pos hc] at hf
      refine lv_aload_n hx hb dM_compare_26 rfl (lv_at hl 0 rfl) ?_
      refine lv_aload_n hx hb dM_compare_27 rfl (lv_at hl 0 rfl) ?_
      refine lv_iload_n hx hb dM_compare_28 rfl (lv_at hl 1 rfl) ?_
      obtain ⟨o11, hq12, hf⟩ := xbind hf
      by_cases hk13 : o11.1 = 0
      · rw [if_pos hk13] at hf
        obtain ⟨hm14, hf⟩ := xmoE hf
        have hFc := xm_free hD hS hA
        refine va_callq (va_runV (C := "ValueBenchModel") (As := [.int x0]) (rest := [.ref aM]) ⟨hx, hb, hml, hown, htx⟩ (gM_register l hl9 D cT aK aV H.size d n aM ad rd gd vad o1 x0 o11 hq12 hk13) ⟨callB_of 1 htx (xw_goodC kw_6_170) rfl rfl rfl (htx _ kw_1_5) (htx _ kw_6_167) ⟨by decide, by decide, by decide +kernel⟩ ⟨(by show (16 * d + 8) + 1 ≤ 16 * d + 9; omega), (by show 8 + (2 + 11) + (400 * d + 145) ≤ 400 * d + 166; omega)⟩, (htx _ kw_6_169), (htx _ kp_M_register)⟩ ⟨xPre_blind, va_recv hK hP (ci := 5) rfl (q0 := 0) rfl, (fun U hU hW => ⟨rfl, xPre_of hZ hS hFc hP hD hK U hU hW⟩)⟩ rfl rfl hl.1 rfl (xm_room (Nat.le_of_ble_eq_true rfl)) dM_compare_29 ⟨hm14.1, hm14.2⟩) hS (fun q _ h => hFc q h) hFc (fun r15 u9 t H1 locs ht hvm hr9 hB hz1 hk1 hS => ?_)
        obtain ⟨hP1, hK1, hD1⟩ := hB
        rw [ht] at hP1
        obtain ⟨ad16, gd17, vad18⟩ := u9
        obtain ⟨hr9, hv19, hn20⟩ := hr9
        have hP : va_P D xcl (xMw cT aM ad16 rd gd17 vad18 o11.2.2.2.2 []) H1 := hP1
        have hD : va_D A (xMw cT aM ad16 rd gd17 vad18 o11.2.2.2.2 []) := hD1.weaken (fun k q _ h => hFc q.1 h)
        generalize H1 = H at hP hS ⊢
        have hE9 : ∀ p, p < xct st → vad18 p = vad p := fun p h => (hv19 p (Nat.lt_of_lt_of_le h hN)).trans (hE p h)
        have hE := hE9
        have hN : xct st ≤ xct o11.2.2.2.2 := Nat.le_trans hN hn20
        rw [hr9]
        refine W.eq (g2 := F0 m 32 ls [xv vad18 o11.2.2.2.1, .ref aM]) (by first | rfl | (skip; rfl)) ?_
        refine lv_aload_n hx hb dM_compare_32 rfl (lv_at hl 0 rfl) ?_
        refine lv_iload_n hx hb dM_compare_33 rfl (lv_at hl 2 rfl) ?_
        obtain ⟨o21, hq22, hf⟩ := xbind hf
        by_cases hk23 : o21.1 = 0
        · rw [if_pos hk23] at hf
          obtain ⟨hg24, hf⟩ := xifn hf
          obtain ⟨hm25, hf⟩ := xmoE hf
          have hFc := xm_free hD hS hA
          refine va_callq (va_runV (C := "ValueBenchModel") (As := [.int x1]) (rest := [xv vad18 o11.2.2.2.1, .ref aM]) ⟨hx, hb, hml, hown, htx⟩ (gM_register l hl9 D cT aK aV H.size d n aM ad16 rd gd17 vad18 o11.2.2.2.2 x1 o21 hq22 hk23) ⟨callB_of 1 htx (xw_goodC kw_6_170) rfl rfl rfl (htx _ kw_1_5) (htx _ kw_6_167) ⟨by decide, by decide, by decide +kernel⟩ ⟨(by show (16 * d + 8) + 1 ≤ 16 * d + 9; omega), (by show 8 + (2 + 11) + (400 * d + 145) ≤ 400 * d + 166; omega)⟩, (htx _ kw_6_169), (htx _ kp_M_register)⟩ ⟨xPre_blind, va_recv hK hP (ci := 5) rfl (q0 := 0) rfl, (fun U hU hW => ⟨rfl, xPre_of hZ hS hFc hP hD hK U hU hW⟩)⟩ rfl rfl hl.1 rfl (xm_room (by simp [xvcat, xrscat, xcI, xcL, xcR, xcN])) dM_compare_34 ⟨hm25.1, hm25.2⟩) hS (fun q _ h => hFc q h) hFc (fun r26 u9 t H1 locs ht hvm hr9 hB hz1 hk1 hS => ?_)
          obtain ⟨hP1, hK1, hD1⟩ := hB
          rw [ht] at hP1
          obtain ⟨ad27, gd28, vad29⟩ := u9
          obtain ⟨hr9, hv30, hn31⟩ := hr9
          have hP : va_P D xcl (xMw cT aM ad27 rd gd28 vad29 o21.2.2.2.2 []) H1 := hP1
          have hD : va_D A (xMw cT aM ad27 rd gd28 vad29 o21.2.2.2.2 []) := hD1.weaken (fun k q _ h => hFc q.1 h)
          generalize H1 = H at hP hS ⊢
          have hE9 : ∀ p, p < xct st → vad29 p = vad p := fun p h => (hv30 p (Nat.lt_of_lt_of_le h hN)).trans (hE p h)
          have hE := hE9
          have hN : xct st ≤ xct o21.2.2.2.2 := Nat.le_trans hN hn31
          have ev32 : xv vad18 o11.2.2.2.1 = xv vad29 o11.2.2.2.1 := xvE hv30 hg24
          rw [hr9]
          refine W.eq (g2 := F0 m 37 ls [xv vad29 o21.2.2.2.1, xv vad29 o11.2.2.2.1, .ref aM]) (by first | rfl | ((try (rw [ev32])); rfl)) ?_
          obtain ⟨o33, hq34, hf⟩ := xbind hf
          have hFc := xm_free hD hS hA
          refine va_calli (va_runV (C := "ValueBenchModel") (As := [xv vad29 o11.2.2.2.1, xv vad29 o21.2.2.2.1]) (rest := []) ⟨hx, hb, hml, hown, htx⟩ (gM_order l hl9 D cT aK aV d H.size n aM ad27 rd gd28 vad29 o21.2.2.2.2 o11.2.2.2.1 o21.2.2.2.1 o33 hq34) ⟨callB_of 2 htx (xw_goodC kw_7_25) rfl rfl rfl (htx _ kw_1_5) (htx _ kw_7_22) ⟨by decide, by decide, by decide +kernel⟩ ⟨(by show (16 * d) + 1 ≤ 16 * d + 9; omega), (by show 8 + (5 + 11) + (400 * d) ≤ 400 * d + 166; omega)⟩, (htx _ kw_7_24), (htx _ kp_M_order)⟩ ⟨xPre_blind, va_recv hK hP (ci := 5) rfl (q0 := 0) rfl, (fun U hU hW => ⟨rfl, xPre_of hZ hS hFc hP hD hK U hU hW⟩)⟩ rfl rfl hl.1 rfl (xm_room (Nat.le_of_ble_eq_true rfl)) dM_compare_37 ⟨hm25.1, hm25.2⟩) hS (fun q _ h => hFc q h) hFc (fun r35 u9 t H1 locs ht hvm hr9 hB hz1 hk1 hS => ?_)
          obtain ⟨hP1, hK1, hD1⟩ := hB
          rw [ht] at hP1
          have hP : va_P D xcl (xMw cT aM ad27 rd gd28 vad29 o21.2.2.2.2 []) H1 := hP1
          have hD : va_D A (xMw cT aM ad27 rd gd28 vad29 o21.2.2.2.2 []) := hD1.weaken (fun k q _ h => hFc q.1 h)
          generalize H1 = H at hP hS ⊢
          rw [hr9]
          refine W.eq (g2 := F0 m 40 ls [.int o33]) (by first | rfl | (skip; rfl)) ?_
          refine lv_istore_n (lv' := [(3, .int o33), (0, .ref aM), (1, .int x0), (2, .int x1)]) hx hb dM_compare_40 rfl hl (by decide) rfl (fun ls hl => ?_)
          refine lv_iload_n hx hb dM_compare_41 rfl (lv_at hl 0 rfl) ?_
          refine lv_if_ge (tgt := 49) hx hb dM_compare_42 (by decide) (fun hc => ?_) (fun hc => ?_)
          · rw [if_pos hc] at hf
            refine lv_iload_n hx hb dM_compare_49 rfl (lv_at hl 0 rfl) ?_
            refine lv_if_le (tgt := 57) hx hb dM_compare_50 (by decide) (fun hc => ?_) (fun hc => ?_)
            · rw [if_pos hc] at hf
              refine lv_iconst (v := 0) hx hb dM_compare_57 (by decide) ?_
              obtain rfl := Option.some.inj hf
              exact W.iret (v := (0 : Int32)) hx hb hr (fun t ht hW => ⟨⟨(0 : Int32), (ad27, gd28, vad29), rfl, ⟨rfl, hE, hN⟩, by rw [ht]; exact hP, va_K.moved hW.alike hK, hD⟩, hS.F ht⟩) hS.2.2 dM_compare_58
            · rw [if_neg hc] at hf
              refine lv_iconst (v := 1) hx hb dM_compare_53 (by decide) ?_
              refine lv_goto (tgt := 58) hx hb dM_compare_54 (by decide) ?_
              obtain rfl := Option.some.inj hf
              exact W.iret (v := (1 : Int32)) hx hb hr (fun t ht hW => ⟨⟨(1 : Int32), (ad27, gd28, vad29), rfl, ⟨rfl, hE, hN⟩, by rw [ht]; exact hP, va_K.moved hW.alike hK, hD⟩, hS.F ht⟩) hS.2.2 dM_compare_58
          · rw [if_neg hc] at hf
            refine lv_iconst (v := (-1)) hx hb dM_compare_45 (by decide) ?_
            refine lv_goto (tgt := 58) hx hb dM_compare_46 (by decide) ?_
            obtain rfl := Option.some.inj hf
            exact W.iret (v := ((-1) : Int32)) hx hb hr (fun t ht hW => ⟨⟨((-1) : Int32), (ad27, gd28, vad29), rfl, ⟨rfl, hE, hN⟩, by rw [ht]; exact hP, va_K.moved hW.alike hK, hD⟩, hS.F ht⟩) hS.2.2 dM_compare_58
        rw [if_neg hk23] at hf
        by_cases hk36 : o21.1 = 1
        · rw [if_pos hk36] at hf
          obtain ⟨hm37, hf⟩ := xmoE hf
          obtain rfl := Option.some.inj hf
          exact absurd (show (1 : Nat) = 0 from hkd) (by decide)
        rw [if_neg hk36] at hf
        by_cases hk44 : o21.1 = 2
        · rw [if_pos hk44] at hf
          obtain ⟨hm45, hf⟩ := xmoE hf
          obtain rfl := Option.some.inj hf
          exact absurd (show (2 : Nat) = 0 from hkd) (by decide)
        rw [if_neg hk44] at hf
        by_cases hk52 : o21.1 = 3
        · rw [if_pos hk52] at hf
          obtain ⟨hm53, hf⟩ := xmoE hf
          obtain rfl := Option.some.inj hf
          exact absurd (show (3 : Nat) = 0 from hkd) (by decide)
        rw [if_neg hk52] at hf
        exact nomatch hf
      rw [if_neg hk13] at hf
      by_cases hk60 : o11.1 = 1
      · rw [if_pos hk60] at hf
        obtain ⟨hm61, hf⟩ := xmoE hf
        obtain rfl := Option.some.inj hf
        exact absurd (show (1 : Nat) = 0 from hkd) (by decide)
      rw [if_neg hk60] at hf
      by_cases hk68 : o11.1 = 2
      · rw [if_pos hk68] at hf
        obtain ⟨hm69, hf⟩ := xmoE hf
        obtain rfl := Option.some.inj hf
        exact absurd (show (2 : Nat) = 0 from hkd) (by decide)
      rw [if_neg hk68] at hf
      by_cases hk76 : o11.1 = 3
      · rw [if_pos hk76] at hf
        obtain ⟨hm77, hf⟩ := xmoE hf
        obtain rfl := Option.some.inj hf
        exact absurd (show (3 : Nat) = 0 from hkd) (by decide)
      rw [if_neg hk76] at hf
      exact nomatch hf
    · rw [if_neg hc] at hf
      refine lv_aload_n hx hb dM_compare_20 rfl (lv_at hl 0 rfl) ?_
      refine lv_iconst (v := 1) hx hb dM_compare_21 (by decide) ?_
      obtain ⟨o11, hq12, hf⟩ := xbind hf
      have hFc := xm_free hD hS hA
      refine va_calli (va_runV (C := "ValueBenchModel") (As := [.int 1]) (rest := []) ⟨hx, hb, hml, hown, htx⟩ (gM_fail l hl9 D cT aK aV H.size n aM ad rd gd vad o1 (1 : Int32) o11 hq12) ⟨callB_of 1 htx (xw_goodC kw_5_195) rfl rfl rfl (htx _ kw_1_5) (htx _ kw_5_192) ⟨by decide, by decide, by decide +kernel⟩ ⟨Nat.le_of_ble_eq_true rfl, Nat.le_of_ble_eq_true rfl⟩, (htx _ kw_5_194), (htx _ kp_M_fail)⟩ ⟨xPre_blind, va_recv hK hP (ci := 5) rfl (q0 := 0) rfl, (fun U hU hW => ⟨rfl, xPre_of hZ hS hFc hP hD hK U hU hW⟩)⟩ rfl rfl hl.1 rfl (xm_room (Nat.le_of_ble_eq_true rfl)) dM_compare_22 ⟨Nat.zero_le _, Nat.zero_le _⟩) hS (fun q _ h => hFc q h) hFc (fun r13 u9 t H1 locs ht hvm hr9 hB hz1 hk1 hS => ?_)
      obtain ⟨hP1, hK1, hD1⟩ := hB
      rw [ht] at hP1
      obtain ⟨hr9, hn14⟩ := hr9
      have hN : xct st ≤ xct o11.2 := Nat.le_trans hN hn14
      have hP : va_P D xcl (xMw cT aM ad rd gd vad o11.2 []) H1 := hP1
      have hD : va_D A (xMw cT aM ad rd gd vad o11.2 []) := hD1.weaken (fun k q _ h => hFc q.1 h)
      generalize H1 = H at hP hS ⊢
      rw [hr9]
      refine W.eq (g2 := F0 m 25 ls [.int o11.1]) (by first | rfl | (skip; rfl)) ?_
      obtain rfl := Option.some.inj hf
      exact W.iret (v := o11.1) hx hb hr (fun t ht hW => ⟨⟨o11.1, (ad, gd, vad), rfl, ⟨rfl, hE, hN⟩, by rw [ht]; exact hP, va_K.moved hW.alike hK, hD⟩, hS.F ht⟩) hS.2.2 dM_compare_25
set_option maxHeartbeats 400000000 in
set_option maxRecDepth 100000 in
theorem gM_compare_1 (l : Launch) (hl9 : l.stackTraces = false) (D : va_G) (cT : Nat → ClassId) (aK aV : Nat → Nat) (sz d n : Nat) (aM : Nat) (ad rd gd vad : Nat → Nat) (st : xS) (x0 : Int32) (x1 : Int32) (out : Nat × Nat × Nat × Int32 × xS) (hf : fM_compare d n st x0 x1 = some out) (hkd : out.1 = 1) : xMetY l yM_compare wyM_compare (16 * d + 9) out.2.1 out.2.2.1 (400 * d + 166) D cT aK aV sz [.ref aM, .int x0, .int x1] (xMw cT aM ad rd gd vad st []) "java/lang/UnsupportedOperationException" (fun u => xE vad st out.2.2.2.2 u) (fun A u t => xB D xcl cT A (xMw cT aM u.1 rd u.2.1 u.2.2 out.2.2.2.2 []) t) := by
  refine vx_ofW (cc := prog_13_method_91_code) (maxL := 4) (ret := (some .int)) (by decide) rfl ?_
  intro p e s m args below meth c s₁ B hml hne hv
  obtain ⟨rfl, hsz, hZ, hP, hK, hD0⟩ := hv
  have hx := B.exec
  have hb := B.bytes
  have hr := B.returns
  have hts := atoms_spec (ws := wyM_compare) B.pre
  have htx := fun w h => hts w (List.mem_cons_of_mem _ h)
  have hown : s.vm.findClass "ValueBenchModel" = some m.cls := findClass_of_methodNamed B.named
  have hlocks := B.notSynchronized
  subst hsz
  have hD := hD0.self (sz := s.heap.size)
  generalize hAe : va_A (xMw cT aM ad rd gd vad st []) s.heap.size = A at hD hZ ⊢
  have hA : ∀ q : Nat, s.heap.size ≤ q → A q := fun q h => by rw [← hAe]; exact Or.inr h
  have hS : va_S A s.heap s.heap [] := va_S.rf
  have hl := lv_entry ([.ref aM, .int x0, .int x1]) (n := 4) (by simp [lg_sl, xvcat, xrscat, xcI, xcL, xcR, xcN])
  rw [show lv_args 0 [.ref aM, .int x0, .int x1] = [(0, .ref aM), (1, .int x0), (2, .int x1)] from by simp [lv_args, xvcat, xrscat, xcI, xcL, xcR, xcN]] at hl
  rw [lg_entry_eq]
  generalize (lg_sl ([.ref aM, .int x0, .int x1]) ++ List.replicate (4 - (lg_sl ([.ref aM, .int x0, .int x1])).length) Slot.unset).toArray = ls at hl ⊢
  have hl : lv_has ls 4 [(0, .ref aM), (1, .int x0), (2, .int x1)] := hl
  have hE : ∀ p, p < xct st → vad p = vad p := fun _ _ => rfl
  have hN : xct st ≤ xct st := Nat.le_refl _
  unfold fM_compare at hf
  refine lv_aload_n hx hb dM_compare_0 rfl (lv_at hl 0 rfl) ?_
  obtain ⟨o1, hq2, hf⟩ := xbind hf
  have hFc := xm_free hD hS hA
  refine va_callv (va_runV (C := "ValueBenchModel") (As := []) (rest := []) ⟨hx, hb, hml, hown, htx⟩ (gM_begin l hl9 D cT aK aV s.heap.size n aM ad rd gd vad st o1 hq2) ⟨callB_of 0 htx (xw_goodC kw_5_209) rfl rfl rfl (htx _ kw_1_5) (htx _ kw_5_206) ⟨by decide, by decide, by decide +kernel⟩ ⟨Nat.le_of_ble_eq_true rfl, Nat.le_of_ble_eq_true rfl⟩, (htx _ kw_5_208), (htx _ kp_M_begin)⟩ ⟨xPre_blind, va_recv hK hP (ci := 5) rfl (q0 := 0) rfl, (fun U hU hW => ⟨rfl, xPre_of hZ hS hFc hP hD hK U hU hW⟩)⟩ rfl rfl hl.1 rfl (xm_room (Nat.le_of_ble_eq_true rfl)) dM_compare_1 ⟨Nat.zero_le _, Nat.zero_le _⟩) hS (fun q _ h => hFc q h) hFc (fun u9 t H1 locs ht hvm hr9 hB hz1 hk1 hS => ?_)
  obtain ⟨hP1, hK1, hD1⟩ := hB
  rw [ht] at hP1
  have hn4 := hr9
  have hN : xct st ≤ xct o1 := Nat.le_trans hN hn4
  have hP : va_P D xcl (xMw cT aM ad rd gd vad o1 []) H1 := hP1
  have hD : va_D A (xMw cT aM ad rd gd vad o1 []) := hD1.weaken (fun k q _ h => hFc q.1 h)
  generalize H1 = H at hP hS ⊢
  refine W.eq (g2 := F0 m 4 ls []) (by first | rfl | (skip; rfl)) ?_
  refine lv_aload_n hx hb dM_compare_4 rfl (lv_at hl 0 rfl) ?_
  refine lv_iload_n hx hb dM_compare_5 rfl (lv_at hl 1 rfl) ?_
  obtain ⟨o5, hq6, hf⟩ := xbind hf
  have hFc := xm_free hD hS hA
  refine va_calli (va_runV (C := "ValueBenchModel") (As := [.int x0]) (rest := []) ⟨hx, hb, hml, hown, htx⟩ (gM_out l hl9 D cT aK aV H.size n aM ad rd gd vad o1 x0 o5 hq6) ⟨callB_of 1 htx (xw_goodC kw_5_217) rfl rfl rfl (htx _ kw_1_5) (htx _ kw_5_214) ⟨by decide, by decide, by decide +kernel⟩ ⟨Nat.le_of_ble_eq_true rfl, Nat.le_of_ble_eq_true rfl⟩, (htx _ kw_5_216), (htx _ kp_M_out)⟩ ⟨xPre_blind, va_recv hK hP (ci := 5) rfl (q0 := 0) rfl, (fun U hU hW => ⟨rfl, xPre_of hZ hS hFc hP hD hK U hU hW⟩)⟩ rfl rfl hl.1 rfl (xm_room (Nat.le_of_ble_eq_true rfl)) dM_compare_6 ⟨Nat.zero_le _, Nat.zero_le _⟩) hS (fun q _ h => hFc q h) hFc (fun r7 u9 t H1 locs ht hvm hr9 hB hz1 hk1 hS => ?_)
  obtain ⟨hP1, hK1, hD1⟩ := hB
  rw [ht] at hP1
  have hP : va_P D xcl (xMw cT aM ad rd gd vad o1 []) H1 := hP1
  have hD : va_D A (xMw cT aM ad rd gd vad o1 []) := hD1.weaken (fun k q _ h => hFc q.1 h)
  generalize H1 = H at hP hS ⊢
  rw [hr9]
  refine W.eq (g2 := F0 m 9 ls [.int o5]) (by first | rfl | (skip; rfl)) ?_
  refine lv_if_ne (tgt := 20) hx hb dM_compare_9 (by decide) (fun hc => ?_) (fun hc => ?_)
  · rw [if_neg hc] at hf
    refine lv_aload_n hx hb dM_compare_20 rfl (lv_at hl 0 rfl) ?_
    refine lv_iconst (v := 1) hx hb dM_compare_21 (by decide) ?_
    obtain ⟨o8, hq9, hf⟩ := xbind hf
    have hFc := xm_free hD hS hA
    refine va_calli (va_runV (C := "ValueBenchModel") (As := [.int 1]) (rest := []) ⟨hx, hb, hml, hown, htx⟩ (gM_fail l hl9 D cT aK aV H.size n aM ad rd gd vad o1 (1 : Int32) o8 hq9) ⟨callB_of 1 htx (xw_goodC kw_5_195) rfl rfl rfl (htx _ kw_1_5) (htx _ kw_5_192) ⟨by decide, by decide, by decide +kernel⟩ ⟨Nat.le_of_ble_eq_true rfl, Nat.le_of_ble_eq_true rfl⟩, (htx _ kw_5_194), (htx _ kp_M_fail)⟩ ⟨xPre_blind, va_recv hK hP (ci := 5) rfl (q0 := 0) rfl, (fun U hU hW => ⟨rfl, xPre_of hZ hS hFc hP hD hK U hU hW⟩)⟩ rfl rfl hl.1 rfl (xm_room (Nat.le_of_ble_eq_true rfl)) dM_compare_22 ⟨Nat.zero_le _, Nat.zero_le _⟩) hS (fun q _ h => hFc q h) hFc (fun r10 u9 t H1 locs ht hvm hr9 hB hz1 hk1 hS => ?_)
    obtain ⟨hP1, hK1, hD1⟩ := hB
    rw [ht] at hP1
    obtain ⟨hr9, hn11⟩ := hr9
    have hN : xct st ≤ xct o8.2 := Nat.le_trans hN hn11
    have hP : va_P D xcl (xMw cT aM ad rd gd vad o8.2 []) H1 := hP1
    have hD : va_D A (xMw cT aM ad rd gd vad o8.2 []) := hD1.weaken (fun k q _ h => hFc q.1 h)
    generalize H1 = H at hP hS ⊢
    rw [hr9]
    refine W.eq (g2 := F0 m 25 ls [.int o8.1]) (by first | rfl | (skip; rfl)) ?_
    obtain rfl := Option.some.inj hf
    exact absurd (show (0 : Nat) = 1 from hkd) (by decide)
  · rw [if_pos hc] at hf
    refine lv_aload_n hx hb dM_compare_12 rfl (lv_at hl 0 rfl) ?_
    refine lv_iload_n hx hb dM_compare_13 rfl (lv_at hl 2 rfl) ?_
    obtain ⟨o8, hq9, hf⟩ := xbind hf
    have hFc := xm_free hD hS hA
    refine va_calli (va_runV (C := "ValueBenchModel") (As := [.int x1]) (rest := []) ⟨hx, hb, hml, hown, htx⟩ (gM_out l hl9 D cT aK aV H.size n aM ad rd gd vad o1 x1 o8 hq9) ⟨callB_of 1 htx (xw_goodC kw_5_217) rfl rfl rfl (htx _ kw_1_5) (htx _ kw_5_214) ⟨by decide, by decide, by decide +kernel⟩ ⟨Nat.le_of_ble_eq_true rfl, Nat.le_of_ble_eq_true rfl⟩, (htx _ kw_5_216), (htx _ kp_M_out)⟩ ⟨xPre_blind, va_recv hK hP (ci := 5) rfl (q0 := 0) rfl, (fun U hU hW => ⟨rfl, xPre_of hZ hS hFc hP hD hK U hU hW⟩)⟩ rfl rfl hl.1 rfl (xm_room (Nat.le_of_ble_eq_true rfl)) dM_compare_14 ⟨Nat.zero_le _, Nat.zero_le _⟩) hS (fun q _ h => hFc q h) hFc (fun r10 u9 t H1 locs ht hvm hr9 hB hz1 hk1 hS => ?_)
    obtain ⟨hP1, hK1, hD1⟩ := hB
    rw [ht] at hP1
    have hP : va_P D xcl (xMw cT aM ad rd gd vad o1 []) H1 := hP1
    have hD : va_D A (xMw cT aM ad rd gd vad o1 []) := hD1.weaken (fun k q _ h => hFc q.1 h)
    generalize H1 = H at hP hS ⊢
    rw [hr9]
    refine W.eq (g2 := F0 m 17 ls [.int o8]) (by first | rfl | (skip; rfl)) ?_
    refine lv_if_eq (tgt := 26) hx hb dM_compare_17 (by decide) (fun hc => ?_) (fun hc => ?_)
    · rw [if_pos hc] at hf
      refine lv_aload_n hx hb dM_compare_26 rfl (lv_at hl 0 rfl) ?_
      refine lv_aload_n hx hb dM_compare_27 rfl (lv_at hl 0 rfl) ?_
      refine lv_iload_n hx hb dM_compare_28 rfl (lv_at hl 1 rfl) ?_
      obtain ⟨o11, hq12, hf⟩ := xbind hf
      by_cases hk13 : o11.1 = 0
      · rw [if_pos hk13] at hf
        obtain ⟨hm14, hf⟩ := xmoE hf
        have hFc := xm_free hD hS hA
        refine va_callq (va_runV (C := "ValueBenchModel") (As := [.int x0]) (rest := [.ref aM]) ⟨hx, hb, hml, hown, htx⟩ (gM_register l hl9 D cT aK aV H.size d n aM ad rd gd vad o1 x0 o11 hq12 hk13) ⟨callB_of 1 htx (xw_goodC kw_6_170) rfl rfl rfl (htx _ kw_1_5) (htx _ kw_6_167) ⟨by decide, by decide, by decide +kernel⟩ ⟨(by show (16 * d + 8) + 1 ≤ 16 * d + 9; omega), (by show 8 + (2 + 11) + (400 * d + 145) ≤ 400 * d + 166; omega)⟩, (htx _ kw_6_169), (htx _ kp_M_register)⟩ ⟨xPre_blind, va_recv hK hP (ci := 5) rfl (q0 := 0) rfl, (fun U hU hW => ⟨rfl, xPre_of hZ hS hFc hP hD hK U hU hW⟩)⟩ rfl rfl hl.1 rfl (xm_room (Nat.le_of_ble_eq_true rfl)) dM_compare_29 ⟨hm14.1, hm14.2⟩) hS (fun q _ h => hFc q h) hFc (fun r15 u9 t H1 locs ht hvm hr9 hB hz1 hk1 hS => ?_)
        obtain ⟨hP1, hK1, hD1⟩ := hB
        rw [ht] at hP1
        obtain ⟨ad16, gd17, vad18⟩ := u9
        obtain ⟨hr9, hv19, hn20⟩ := hr9
        have hP : va_P D xcl (xMw cT aM ad16 rd gd17 vad18 o11.2.2.2.2 []) H1 := hP1
        have hD : va_D A (xMw cT aM ad16 rd gd17 vad18 o11.2.2.2.2 []) := hD1.weaken (fun k q _ h => hFc q.1 h)
        generalize H1 = H at hP hS ⊢
        have hE9 : ∀ p, p < xct st → vad18 p = vad p := fun p h => (hv19 p (Nat.lt_of_lt_of_le h hN)).trans (hE p h)
        have hE := hE9
        have hN : xct st ≤ xct o11.2.2.2.2 := Nat.le_trans hN hn20
        rw [hr9]
        refine W.eq (g2 := F0 m 32 ls [xv vad18 o11.2.2.2.1, .ref aM]) (by first | rfl | (skip; rfl)) ?_
        refine lv_aload_n hx hb dM_compare_32 rfl (lv_at hl 0 rfl) ?_
        refine lv_iload_n hx hb dM_compare_33 rfl (lv_at hl 2 rfl) ?_
        obtain ⟨o21, hq22, hf⟩ := xbind hf
        by_cases hk23 : o21.1 = 0
        · rw [if_pos hk23] at hf
          obtain ⟨hg24, hf⟩ := xifn hf
          obtain ⟨hm25, hf⟩ := xmoE hf
          have hFc := xm_free hD hS hA
          refine va_callq (va_runV (C := "ValueBenchModel") (As := [.int x1]) (rest := [xv vad18 o11.2.2.2.1, .ref aM]) ⟨hx, hb, hml, hown, htx⟩ (gM_register l hl9 D cT aK aV H.size d n aM ad16 rd gd17 vad18 o11.2.2.2.2 x1 o21 hq22 hk23) ⟨callB_of 1 htx (xw_goodC kw_6_170) rfl rfl rfl (htx _ kw_1_5) (htx _ kw_6_167) ⟨by decide, by decide, by decide +kernel⟩ ⟨(by show (16 * d + 8) + 1 ≤ 16 * d + 9; omega), (by show 8 + (2 + 11) + (400 * d + 145) ≤ 400 * d + 166; omega)⟩, (htx _ kw_6_169), (htx _ kp_M_register)⟩ ⟨xPre_blind, va_recv hK hP (ci := 5) rfl (q0 := 0) rfl, (fun U hU hW => ⟨rfl, xPre_of hZ hS hFc hP hD hK U hU hW⟩)⟩ rfl rfl hl.1 rfl (xm_room (by simp [xvcat, xrscat, xcI, xcL, xcR, xcN])) dM_compare_34 ⟨hm25.1, hm25.2⟩) hS (fun q _ h => hFc q h) hFc (fun r26 u9 t H1 locs ht hvm hr9 hB hz1 hk1 hS => ?_)
          obtain ⟨hP1, hK1, hD1⟩ := hB
          rw [ht] at hP1
          obtain ⟨ad27, gd28, vad29⟩ := u9
          obtain ⟨hr9, hv30, hn31⟩ := hr9
          have hP : va_P D xcl (xMw cT aM ad27 rd gd28 vad29 o21.2.2.2.2 []) H1 := hP1
          have hD : va_D A (xMw cT aM ad27 rd gd28 vad29 o21.2.2.2.2 []) := hD1.weaken (fun k q _ h => hFc q.1 h)
          generalize H1 = H at hP hS ⊢
          have hE9 : ∀ p, p < xct st → vad29 p = vad p := fun p h => (hv30 p (Nat.lt_of_lt_of_le h hN)).trans (hE p h)
          have hE := hE9
          have hN : xct st ≤ xct o21.2.2.2.2 := Nat.le_trans hN hn31
          have ev32 : xv vad18 o11.2.2.2.1 = xv vad29 o11.2.2.2.1 := xvE hv30 hg24
          rw [hr9]
          refine W.eq (g2 := F0 m 37 ls [xv vad29 o21.2.2.2.1, xv vad29 o11.2.2.2.1, .ref aM]) (by first | rfl | ((try (rw [ev32])); rfl)) ?_
          obtain ⟨o33, hq34, hf⟩ := xbind hf
          have hFc := xm_free hD hS hA
          refine va_calli (va_runV (C := "ValueBenchModel") (As := [xv vad29 o11.2.2.2.1, xv vad29 o21.2.2.2.1]) (rest := []) ⟨hx, hb, hml, hown, htx⟩ (gM_order l hl9 D cT aK aV d H.size n aM ad27 rd gd28 vad29 o21.2.2.2.2 o11.2.2.2.1 o21.2.2.2.1 o33 hq34) ⟨callB_of 2 htx (xw_goodC kw_7_25) rfl rfl rfl (htx _ kw_1_5) (htx _ kw_7_22) ⟨by decide, by decide, by decide +kernel⟩ ⟨(by show (16 * d) + 1 ≤ 16 * d + 9; omega), (by show 8 + (5 + 11) + (400 * d) ≤ 400 * d + 166; omega)⟩, (htx _ kw_7_24), (htx _ kp_M_order)⟩ ⟨xPre_blind, va_recv hK hP (ci := 5) rfl (q0 := 0) rfl, (fun U hU hW => ⟨rfl, xPre_of hZ hS hFc hP hD hK U hU hW⟩)⟩ rfl rfl hl.1 rfl (xm_room (Nat.le_of_ble_eq_true rfl)) dM_compare_37 ⟨hm25.1, hm25.2⟩) hS (fun q _ h => hFc q h) hFc (fun r35 u9 t H1 locs ht hvm hr9 hB hz1 hk1 hS => ?_)
          obtain ⟨hP1, hK1, hD1⟩ := hB
          rw [ht] at hP1
          have hP : va_P D xcl (xMw cT aM ad27 rd gd28 vad29 o21.2.2.2.2 []) H1 := hP1
          have hD : va_D A (xMw cT aM ad27 rd gd28 vad29 o21.2.2.2.2 []) := hD1.weaken (fun k q _ h => hFc q.1 h)
          generalize H1 = H at hP hS ⊢
          rw [hr9]
          refine W.eq (g2 := F0 m 40 ls [.int o33]) (by first | rfl | (skip; rfl)) ?_
          refine lv_istore_n (lv' := [(3, .int o33), (0, .ref aM), (1, .int x0), (2, .int x1)]) hx hb dM_compare_40 rfl hl (by decide) rfl (fun ls hl => ?_)
          refine lv_iload_n hx hb dM_compare_41 rfl (lv_at hl 0 rfl) ?_
          refine lv_if_ge (tgt := 49) hx hb dM_compare_42 (by decide) (fun hc => ?_) (fun hc => ?_)
          · rw [if_pos hc] at hf
            refine lv_iload_n hx hb dM_compare_49 rfl (lv_at hl 0 rfl) ?_
            refine lv_if_le (tgt := 57) hx hb dM_compare_50 (by decide) (fun hc => ?_) (fun hc => ?_)
            · rw [if_pos hc] at hf
              refine lv_iconst (v := 0) hx hb dM_compare_57 (by decide) ?_
              obtain rfl := Option.some.inj hf
              exact absurd (show (0 : Nat) = 1 from hkd) (by decide)
            · rw [if_neg hc] at hf
              refine lv_iconst (v := 1) hx hb dM_compare_53 (by decide) ?_
              refine lv_goto (tgt := 58) hx hb dM_compare_54 (by decide) ?_
              obtain rfl := Option.some.inj hf
              exact absurd (show (0 : Nat) = 1 from hkd) (by decide)
          · rw [if_neg hc] at hf
            refine lv_iconst (v := (-1)) hx hb dM_compare_45 (by decide) ?_
            refine lv_goto (tgt := 58) hx hb dM_compare_46 (by decide) ?_
            obtain rfl := Option.some.inj hf
            exact absurd (show (0 : Nat) = 1 from hkd) (by decide)
        rw [if_neg hk23] at hf
        by_cases hk36 : o21.1 = 1
        · rw [if_pos hk36] at hf
          obtain ⟨hm37, hf⟩ := xmoE hf
          have hFc := xm_free hD hS hA
          refine xx_thr (vx_runV (C := "ValueBenchModel") (As := [.int x1]) (rest := [xv vad18 o11.2.2.2.1, .ref aM]) ⟨hx, hb, hml, hown, htx⟩ (gM_register_1 l hl9 D cT aK aV H.size d n aM ad16 rd gd17 vad18 o11.2.2.2.2 x1 o21 hq22 hk36) ⟨callB_of 1 htx (xw_goodC kw_6_170) rfl rfl rfl (htx _ kw_1_5) (htx _ kw_6_167) ⟨by decide, by decide, by decide +kernel⟩ ⟨(by show (16 * d + 8) + 1 ≤ 16 * d + 9; omega), (by show 8 + (2 + 11) + (400 * d + 145) ≤ 400 * d + 166; omega)⟩, (htx _ kw_6_169), (htx _ kp_M_register)⟩ ⟨xPre_blind, va_recv hK hP (ci := 5) rfl (q0 := 0) rfl, (fun U hU hW => ⟨rfl, xPre_of hZ hS hFc hP hD hK U hU hW⟩)⟩ rfl rfl hl.1 rfl (xm_room (by simp [xvcat, xrscat, xcI, xcL, xcR, xcN])) dM_compare_34 ⟨hm37.1, hm37.2⟩) hS hFc (fun q _ h => hFc q h) (fun E ce q9 u9 t H1 locs ht hvm hr9 hB hz1 hk1 hS hce hcv hcl => ?_)
          obtain ⟨rfl, hP1, hK1, hD1⟩ := hB
          rw [ht] at hP1
          obtain ⟨ad39, gd40, vad41⟩ := u9
          obtain ⟨hv42, hn43⟩ := hr9
          have hP : va_P D xcl (xMw cT aM ad39 rd gd40 vad41 o21.2.2.2.2 []) H1 := hP1
          have hD : va_D A (xMw cT aM ad39 rd gd40 vad41 o21.2.2.2.2 []) := hD1.weaken (fun k q _ h => hFc q.1 h)
          generalize H1 = H at hP hS hce ⊢
          have hE9 : ∀ p, p < xct st → vad41 p = vad p := fun p h => (hv42 p (Nat.lt_of_lt_of_le h hN)).trans (hE p h)
          have hE := hE9
          have hN : xct st ≤ xct o21.2.2.2.2 := Nat.le_trans hN hn43
          obtain rfl := Option.some.inj hf
          exact vx_out (E := "java/lang/UnsupportedOperationException") (fun x h => (hne x h).elim) hlocks hce hcv hcl (fun t ht ha => ⟨(ad39, gd40, vad41), ⟨hE, hN⟩, ⟨rfl, by rw [ht]; exact hP, va_K.moved ha hK, hD⟩, hS.F ht⟩) hS.2.2 (Nat.le_refl _) (Nat.le_refl _)
        rw [if_neg hk36] at hf
        by_cases hk44 : o21.1 = 2
        · rw [if_pos hk44] at hf
          obtain ⟨hm45, hf⟩ := xmoE hf
          obtain rfl := Option.some.inj hf
          exact absurd (show (2 : Nat) = 1 from hkd) (by decide)
        rw [if_neg hk44] at hf
        by_cases hk52 : o21.1 = 3
        · rw [if_pos hk52] at hf
          obtain ⟨hm53, hf⟩ := xmoE hf
          obtain rfl := Option.some.inj hf
          exact absurd (show (3 : Nat) = 1 from hkd) (by decide)
        rw [if_neg hk52] at hf
        exact nomatch hf
      rw [if_neg hk13] at hf
      by_cases hk60 : o11.1 = 1
      · rw [if_pos hk60] at hf
        obtain ⟨hm61, hf⟩ := xmoE hf
        have hFc := xm_free hD hS hA
        refine xx_thr (vx_runV (C := "ValueBenchModel") (As := [.int x0]) (rest := [.ref aM]) ⟨hx, hb, hml, hown, htx⟩ (gM_register_1 l hl9 D cT aK aV H.size d n aM ad rd gd vad o1 x0 o11 hq12 hk60) ⟨callB_of 1 htx (xw_goodC kw_6_170) rfl rfl rfl (htx _ kw_1_5) (htx _ kw_6_167) ⟨by decide, by decide, by decide +kernel⟩ ⟨(by show (16 * d + 8) + 1 ≤ 16 * d + 9; omega), (by show 8 + (2 + 11) + (400 * d + 145) ≤ 400 * d + 166; omega)⟩, (htx _ kw_6_169), (htx _ kp_M_register)⟩ ⟨xPre_blind, va_recv hK hP (ci := 5) rfl (q0 := 0) rfl, (fun U hU hW => ⟨rfl, xPre_of hZ hS hFc hP hD hK U hU hW⟩)⟩ rfl rfl hl.1 rfl (xm_room (Nat.le_of_ble_eq_true rfl)) dM_compare_29 ⟨hm61.1, hm61.2⟩) hS hFc (fun q _ h => hFc q h) (fun E ce q9 u9 t H1 locs ht hvm hr9 hB hz1 hk1 hS hce hcv hcl => ?_)
        obtain ⟨rfl, hP1, hK1, hD1⟩ := hB
        rw [ht] at hP1
        obtain ⟨ad63, gd64, vad65⟩ := u9
        obtain ⟨hv66, hn67⟩ := hr9
        have hP : va_P D xcl (xMw cT aM ad63 rd gd64 vad65 o11.2.2.2.2 []) H1 := hP1
        have hD : va_D A (xMw cT aM ad63 rd gd64 vad65 o11.2.2.2.2 []) := hD1.weaken (fun k q _ h => hFc q.1 h)
        generalize H1 = H at hP hS hce ⊢
        have hE9 : ∀ p, p < xct st → vad65 p = vad p := fun p h => (hv66 p (Nat.lt_of_lt_of_le h hN)).trans (hE p h)
        have hE := hE9
        have hN : xct st ≤ xct o11.2.2.2.2 := Nat.le_trans hN hn67
        obtain rfl := Option.some.inj hf
        exact vx_out (E := "java/lang/UnsupportedOperationException") (fun x h => (hne x h).elim) hlocks hce hcv hcl (fun t ht ha => ⟨(ad63, gd64, vad65), ⟨hE, hN⟩, ⟨rfl, by rw [ht]; exact hP, va_K.moved ha hK, hD⟩, hS.F ht⟩) hS.2.2 (Nat.le_refl _) (Nat.le_refl _)
      rw [if_neg hk60] at hf
      by_cases hk68 : o11.1 = 2
      · rw [if_pos hk68] at hf
        obtain ⟨hm69, hf⟩ := xmoE hf
        obtain rfl := Option.some.inj hf
        exact absurd (show (2 : Nat) = 1 from hkd) (by decide)
      rw [if_neg hk68] at hf
      by_cases hk76 : o11.1 = 3
      · rw [if_pos hk76] at hf
        obtain ⟨hm77, hf⟩ := xmoE hf
        obtain rfl := Option.some.inj hf
        exact absurd (show (3 : Nat) = 1 from hkd) (by decide)
      rw [if_neg hk76] at hf
      exact nomatch hf
    · rw [if_neg hc] at hf
      refine lv_aload_n hx hb dM_compare_20 rfl (lv_at hl 0 rfl) ?_
      refine lv_iconst (v := 1) hx hb dM_compare_21 (by decide) ?_
      obtain ⟨o11, hq12, hf⟩ := xbind hf
      have hFc := xm_free hD hS hA
      refine va_calli (va_runV (C := "ValueBenchModel") (As := [.int 1]) (rest := []) ⟨hx, hb, hml, hown, htx⟩ (gM_fail l hl9 D cT aK aV H.size n aM ad rd gd vad o1 (1 : Int32) o11 hq12) ⟨callB_of 1 htx (xw_goodC kw_5_195) rfl rfl rfl (htx _ kw_1_5) (htx _ kw_5_192) ⟨by decide, by decide, by decide +kernel⟩ ⟨Nat.le_of_ble_eq_true rfl, Nat.le_of_ble_eq_true rfl⟩, (htx _ kw_5_194), (htx _ kp_M_fail)⟩ ⟨xPre_blind, va_recv hK hP (ci := 5) rfl (q0 := 0) rfl, (fun U hU hW => ⟨rfl, xPre_of hZ hS hFc hP hD hK U hU hW⟩)⟩ rfl rfl hl.1 rfl (xm_room (Nat.le_of_ble_eq_true rfl)) dM_compare_22 ⟨Nat.zero_le _, Nat.zero_le _⟩) hS (fun q _ h => hFc q h) hFc (fun r13 u9 t H1 locs ht hvm hr9 hB hz1 hk1 hS => ?_)
      obtain ⟨hP1, hK1, hD1⟩ := hB
      rw [ht] at hP1
      obtain ⟨hr9, hn14⟩ := hr9
      have hN : xct st ≤ xct o11.2 := Nat.le_trans hN hn14
      have hP : va_P D xcl (xMw cT aM ad rd gd vad o11.2 []) H1 := hP1
      have hD : va_D A (xMw cT aM ad rd gd vad o11.2 []) := hD1.weaken (fun k q _ h => hFc q.1 h)
      generalize H1 = H at hP hS ⊢
      rw [hr9]
      refine W.eq (g2 := F0 m 25 ls [.int o11.1]) (by first | rfl | (skip; rfl)) ?_
      obtain rfl := Option.some.inj hf
      exact absurd (show (0 : Nat) = 1 from hkd) (by decide)
set_option maxHeartbeats 400000000 in
set_option maxRecDepth 100000 in
theorem gM_compare_2 (l : Launch) (hl9 : l.stackTraces = false) (D : va_G) (cT : Nat → ClassId) (aK aV : Nat → Nat) (sz d n : Nat) (aM : Nat) (ad rd gd vad : Nat → Nat) (st : xS) (x0 : Int32) (x1 : Int32) (out : Nat × Nat × Nat × Int32 × xS) (hf : fM_compare d n st x0 x1 = some out) (hkd : out.1 = 2) : xMetY l yM_compare wyM_compare (16 * d + 9) out.2.1 out.2.2.1 (400 * d + 166) D cT aK aV sz [.ref aM, .int x0, .int x1] (xMw cT aM ad rd gd vad st []) "java/lang/IndexOutOfBoundsException" (fun u => xE vad st out.2.2.2.2 u) (fun A u t => xB D xcl cT A (xMw cT aM u.1 rd u.2.1 u.2.2 out.2.2.2.2 []) t) := by
  refine vx_ofW (cc := prog_13_method_91_code) (maxL := 4) (ret := (some .int)) (by decide) rfl ?_
  intro p e s m args below meth c s₁ B hml hne hv
  obtain ⟨rfl, hsz, hZ, hP, hK, hD0⟩ := hv
  have hx := B.exec
  have hb := B.bytes
  have hr := B.returns
  have hts := atoms_spec (ws := wyM_compare) B.pre
  have htx := fun w h => hts w (List.mem_cons_of_mem _ h)
  have hown : s.vm.findClass "ValueBenchModel" = some m.cls := findClass_of_methodNamed B.named
  have hlocks := B.notSynchronized
  subst hsz
  have hD := hD0.self (sz := s.heap.size)
  generalize hAe : va_A (xMw cT aM ad rd gd vad st []) s.heap.size = A at hD hZ ⊢
  have hA : ∀ q : Nat, s.heap.size ≤ q → A q := fun q h => by rw [← hAe]; exact Or.inr h
  have hS : va_S A s.heap s.heap [] := va_S.rf
  have hl := lv_entry ([.ref aM, .int x0, .int x1]) (n := 4) (by simp [lg_sl, xvcat, xrscat, xcI, xcL, xcR, xcN])
  rw [show lv_args 0 [.ref aM, .int x0, .int x1] = [(0, .ref aM), (1, .int x0), (2, .int x1)] from by simp [lv_args, xvcat, xrscat, xcI, xcL, xcR, xcN]] at hl
  rw [lg_entry_eq]
  generalize (lg_sl ([.ref aM, .int x0, .int x1]) ++ List.replicate (4 - (lg_sl ([.ref aM, .int x0, .int x1])).length) Slot.unset).toArray = ls at hl ⊢
  have hl : lv_has ls 4 [(0, .ref aM), (1, .int x0), (2, .int x1)] := hl
  have hE : ∀ p, p < xct st → vad p = vad p := fun _ _ => rfl
  have hN : xct st ≤ xct st := Nat.le_refl _
  unfold fM_compare at hf
  refine lv_aload_n hx hb dM_compare_0 rfl (lv_at hl 0 rfl) ?_
  obtain ⟨o1, hq2, hf⟩ := xbind hf
  have hFc := xm_free hD hS hA
  refine va_callv (va_runV (C := "ValueBenchModel") (As := []) (rest := []) ⟨hx, hb, hml, hown, htx⟩ (gM_begin l hl9 D cT aK aV s.heap.size n aM ad rd gd vad st o1 hq2) ⟨callB_of 0 htx (xw_goodC kw_5_209) rfl rfl rfl (htx _ kw_1_5) (htx _ kw_5_206) ⟨by decide, by decide, by decide +kernel⟩ ⟨Nat.le_of_ble_eq_true rfl, Nat.le_of_ble_eq_true rfl⟩, (htx _ kw_5_208), (htx _ kp_M_begin)⟩ ⟨xPre_blind, va_recv hK hP (ci := 5) rfl (q0 := 0) rfl, (fun U hU hW => ⟨rfl, xPre_of hZ hS hFc hP hD hK U hU hW⟩)⟩ rfl rfl hl.1 rfl (xm_room (Nat.le_of_ble_eq_true rfl)) dM_compare_1 ⟨Nat.zero_le _, Nat.zero_le _⟩) hS (fun q _ h => hFc q h) hFc (fun u9 t H1 locs ht hvm hr9 hB hz1 hk1 hS => ?_)
  obtain ⟨hP1, hK1, hD1⟩ := hB
  rw [ht] at hP1
  have hn4 := hr9
  have hN : xct st ≤ xct o1 := Nat.le_trans hN hn4
  have hP : va_P D xcl (xMw cT aM ad rd gd vad o1 []) H1 := hP1
  have hD : va_D A (xMw cT aM ad rd gd vad o1 []) := hD1.weaken (fun k q _ h => hFc q.1 h)
  generalize H1 = H at hP hS ⊢
  refine W.eq (g2 := F0 m 4 ls []) (by first | rfl | (skip; rfl)) ?_
  refine lv_aload_n hx hb dM_compare_4 rfl (lv_at hl 0 rfl) ?_
  refine lv_iload_n hx hb dM_compare_5 rfl (lv_at hl 1 rfl) ?_
  obtain ⟨o5, hq6, hf⟩ := xbind hf
  have hFc := xm_free hD hS hA
  refine va_calli (va_runV (C := "ValueBenchModel") (As := [.int x0]) (rest := []) ⟨hx, hb, hml, hown, htx⟩ (gM_out l hl9 D cT aK aV H.size n aM ad rd gd vad o1 x0 o5 hq6) ⟨callB_of 1 htx (xw_goodC kw_5_217) rfl rfl rfl (htx _ kw_1_5) (htx _ kw_5_214) ⟨by decide, by decide, by decide +kernel⟩ ⟨Nat.le_of_ble_eq_true rfl, Nat.le_of_ble_eq_true rfl⟩, (htx _ kw_5_216), (htx _ kp_M_out)⟩ ⟨xPre_blind, va_recv hK hP (ci := 5) rfl (q0 := 0) rfl, (fun U hU hW => ⟨rfl, xPre_of hZ hS hFc hP hD hK U hU hW⟩)⟩ rfl rfl hl.1 rfl (xm_room (Nat.le_of_ble_eq_true rfl)) dM_compare_6 ⟨Nat.zero_le _, Nat.zero_le _⟩) hS (fun q _ h => hFc q h) hFc (fun r7 u9 t H1 locs ht hvm hr9 hB hz1 hk1 hS => ?_)
  obtain ⟨hP1, hK1, hD1⟩ := hB
  rw [ht] at hP1
  have hP : va_P D xcl (xMw cT aM ad rd gd vad o1 []) H1 := hP1
  have hD : va_D A (xMw cT aM ad rd gd vad o1 []) := hD1.weaken (fun k q _ h => hFc q.1 h)
  generalize H1 = H at hP hS ⊢
  rw [hr9]
  refine W.eq (g2 := F0 m 9 ls [.int o5]) (by first | rfl | (skip; rfl)) ?_
  refine lv_if_ne (tgt := 20) hx hb dM_compare_9 (by decide) (fun hc => ?_) (fun hc => ?_)
  · rw [if_neg hc] at hf
    refine lv_aload_n hx hb dM_compare_20 rfl (lv_at hl 0 rfl) ?_
    refine lv_iconst (v := 1) hx hb dM_compare_21 (by decide) ?_
    obtain ⟨o8, hq9, hf⟩ := xbind hf
    have hFc := xm_free hD hS hA
    refine va_calli (va_runV (C := "ValueBenchModel") (As := [.int 1]) (rest := []) ⟨hx, hb, hml, hown, htx⟩ (gM_fail l hl9 D cT aK aV H.size n aM ad rd gd vad o1 (1 : Int32) o8 hq9) ⟨callB_of 1 htx (xw_goodC kw_5_195) rfl rfl rfl (htx _ kw_1_5) (htx _ kw_5_192) ⟨by decide, by decide, by decide +kernel⟩ ⟨Nat.le_of_ble_eq_true rfl, Nat.le_of_ble_eq_true rfl⟩, (htx _ kw_5_194), (htx _ kp_M_fail)⟩ ⟨xPre_blind, va_recv hK hP (ci := 5) rfl (q0 := 0) rfl, (fun U hU hW => ⟨rfl, xPre_of hZ hS hFc hP hD hK U hU hW⟩)⟩ rfl rfl hl.1 rfl (xm_room (Nat.le_of_ble_eq_true rfl)) dM_compare_22 ⟨Nat.zero_le _, Nat.zero_le _⟩) hS (fun q _ h => hFc q h) hFc (fun r10 u9 t H1 locs ht hvm hr9 hB hz1 hk1 hS => ?_)
    obtain ⟨hP1, hK1, hD1⟩ := hB
    rw [ht] at hP1
    obtain ⟨hr9, hn11⟩ := hr9
    have hN : xct st ≤ xct o8.2 := Nat.le_trans hN hn11
    have hP : va_P D xcl (xMw cT aM ad rd gd vad o8.2 []) H1 := hP1
    have hD : va_D A (xMw cT aM ad rd gd vad o8.2 []) := hD1.weaken (fun k q _ h => hFc q.1 h)
    generalize H1 = H at hP hS ⊢
    rw [hr9]
    refine W.eq (g2 := F0 m 25 ls [.int o8.1]) (by first | rfl | (skip; rfl)) ?_
    obtain rfl := Option.some.inj hf
    exact absurd (show (0 : Nat) = 2 from hkd) (by decide)
  · rw [if_pos hc] at hf
    refine lv_aload_n hx hb dM_compare_12 rfl (lv_at hl 0 rfl) ?_
    refine lv_iload_n hx hb dM_compare_13 rfl (lv_at hl 2 rfl) ?_
    obtain ⟨o8, hq9, hf⟩ := xbind hf
    have hFc := xm_free hD hS hA
    refine va_calli (va_runV (C := "ValueBenchModel") (As := [.int x1]) (rest := []) ⟨hx, hb, hml, hown, htx⟩ (gM_out l hl9 D cT aK aV H.size n aM ad rd gd vad o1 x1 o8 hq9) ⟨callB_of 1 htx (xw_goodC kw_5_217) rfl rfl rfl (htx _ kw_1_5) (htx _ kw_5_214) ⟨by decide, by decide, by decide +kernel⟩ ⟨Nat.le_of_ble_eq_true rfl, Nat.le_of_ble_eq_true rfl⟩, (htx _ kw_5_216), (htx _ kp_M_out)⟩ ⟨xPre_blind, va_recv hK hP (ci := 5) rfl (q0 := 0) rfl, (fun U hU hW => ⟨rfl, xPre_of hZ hS hFc hP hD hK U hU hW⟩)⟩ rfl rfl hl.1 rfl (xm_room (Nat.le_of_ble_eq_true rfl)) dM_compare_14 ⟨Nat.zero_le _, Nat.zero_le _⟩) hS (fun q _ h => hFc q h) hFc (fun r10 u9 t H1 locs ht hvm hr9 hB hz1 hk1 hS => ?_)
    obtain ⟨hP1, hK1, hD1⟩ := hB
    rw [ht] at hP1
    have hP : va_P D xcl (xMw cT aM ad rd gd vad o1 []) H1 := hP1
    have hD : va_D A (xMw cT aM ad rd gd vad o1 []) := hD1.weaken (fun k q _ h => hFc q.1 h)
    generalize H1 = H at hP hS ⊢
    rw [hr9]
    refine W.eq (g2 := F0 m 17 ls [.int o8]) (by first | rfl | (skip; rfl)) ?_
    refine lv_if_eq (tgt := 26) hx hb dM_compare_17 (by decide) (fun hc => ?_) (fun hc => ?_)
    · rw [if_pos hc] at hf
      refine lv_aload_n hx hb dM_compare_26 rfl (lv_at hl 0 rfl) ?_
      refine lv_aload_n hx hb dM_compare_27 rfl (lv_at hl 0 rfl) ?_
      refine lv_iload_n hx hb dM_compare_28 rfl (lv_at hl 1 rfl) ?_
      obtain ⟨o11, hq12, hf⟩ := xbind hf
      by_cases hk13 : o11.1 = 0
      · rw [if_pos hk13] at hf
        obtain ⟨hm14, hf⟩ := xmoE hf
        have hFc := xm_free hD hS hA
        refine va_callq (va_runV (C := "ValueBenchModel") (As := [.int x0]) (rest := [.ref aM]) ⟨hx, hb, hml, hown, htx⟩ (gM_register l hl9 D cT aK aV H.size d n aM ad rd gd vad o1 x0 o11 hq12 hk13) ⟨callB_of 1 htx (xw_goodC kw_6_170) rfl rfl rfl (htx _ kw_1_5) (htx _ kw_6_167) ⟨by decide, by decide, by decide +kernel⟩ ⟨(by show (16 * d + 8) + 1 ≤ 16 * d + 9; omega), (by show 8 + (2 + 11) + (400 * d + 145) ≤ 400 * d + 166; omega)⟩, (htx _ kw_6_169), (htx _ kp_M_register)⟩ ⟨xPre_blind, va_recv hK hP (ci := 5) rfl (q0 := 0) rfl, (fun U hU hW => ⟨rfl, xPre_of hZ hS hFc hP hD hK U hU hW⟩)⟩ rfl rfl hl.1 rfl (xm_room (Nat.le_of_ble_eq_true rfl)) dM_compare_29 ⟨hm14.1, hm14.2⟩) hS (fun q _ h => hFc q h) hFc (fun r15 u9 t H1 locs ht hvm hr9 hB hz1 hk1 hS => ?_)
        obtain ⟨hP1, hK1, hD1⟩ := hB
        rw [ht] at hP1
        obtain ⟨ad16, gd17, vad18⟩ := u9
        obtain ⟨hr9, hv19, hn20⟩ := hr9
        have hP : va_P D xcl (xMw cT aM ad16 rd gd17 vad18 o11.2.2.2.2 []) H1 := hP1
        have hD : va_D A (xMw cT aM ad16 rd gd17 vad18 o11.2.2.2.2 []) := hD1.weaken (fun k q _ h => hFc q.1 h)
        generalize H1 = H at hP hS ⊢
        have hE9 : ∀ p, p < xct st → vad18 p = vad p := fun p h => (hv19 p (Nat.lt_of_lt_of_le h hN)).trans (hE p h)
        have hE := hE9
        have hN : xct st ≤ xct o11.2.2.2.2 := Nat.le_trans hN hn20
        rw [hr9]
        refine W.eq (g2 := F0 m 32 ls [xv vad18 o11.2.2.2.1, .ref aM]) (by first | rfl | (skip; rfl)) ?_
        refine lv_aload_n hx hb dM_compare_32 rfl (lv_at hl 0 rfl) ?_
        refine lv_iload_n hx hb dM_compare_33 rfl (lv_at hl 2 rfl) ?_
        obtain ⟨o21, hq22, hf⟩ := xbind hf
        by_cases hk23 : o21.1 = 0
        · rw [if_pos hk23] at hf
          obtain ⟨hg24, hf⟩ := xifn hf
          obtain ⟨hm25, hf⟩ := xmoE hf
          have hFc := xm_free hD hS hA
          refine va_callq (va_runV (C := "ValueBenchModel") (As := [.int x1]) (rest := [xv vad18 o11.2.2.2.1, .ref aM]) ⟨hx, hb, hml, hown, htx⟩ (gM_register l hl9 D cT aK aV H.size d n aM ad16 rd gd17 vad18 o11.2.2.2.2 x1 o21 hq22 hk23) ⟨callB_of 1 htx (xw_goodC kw_6_170) rfl rfl rfl (htx _ kw_1_5) (htx _ kw_6_167) ⟨by decide, by decide, by decide +kernel⟩ ⟨(by show (16 * d + 8) + 1 ≤ 16 * d + 9; omega), (by show 8 + (2 + 11) + (400 * d + 145) ≤ 400 * d + 166; omega)⟩, (htx _ kw_6_169), (htx _ kp_M_register)⟩ ⟨xPre_blind, va_recv hK hP (ci := 5) rfl (q0 := 0) rfl, (fun U hU hW => ⟨rfl, xPre_of hZ hS hFc hP hD hK U hU hW⟩)⟩ rfl rfl hl.1 rfl (xm_room (by simp [xvcat, xrscat, xcI, xcL, xcR, xcN])) dM_compare_34 ⟨hm25.1, hm25.2⟩) hS (fun q _ h => hFc q h) hFc (fun r26 u9 t H1 locs ht hvm hr9 hB hz1 hk1 hS => ?_)
          obtain ⟨hP1, hK1, hD1⟩ := hB
          rw [ht] at hP1
          obtain ⟨ad27, gd28, vad29⟩ := u9
          obtain ⟨hr9, hv30, hn31⟩ := hr9
          have hP : va_P D xcl (xMw cT aM ad27 rd gd28 vad29 o21.2.2.2.2 []) H1 := hP1
          have hD : va_D A (xMw cT aM ad27 rd gd28 vad29 o21.2.2.2.2 []) := hD1.weaken (fun k q _ h => hFc q.1 h)
          generalize H1 = H at hP hS ⊢
          have hE9 : ∀ p, p < xct st → vad29 p = vad p := fun p h => (hv30 p (Nat.lt_of_lt_of_le h hN)).trans (hE p h)
          have hE := hE9
          have hN : xct st ≤ xct o21.2.2.2.2 := Nat.le_trans hN hn31
          have ev32 : xv vad18 o11.2.2.2.1 = xv vad29 o11.2.2.2.1 := xvE hv30 hg24
          rw [hr9]
          refine W.eq (g2 := F0 m 37 ls [xv vad29 o21.2.2.2.1, xv vad29 o11.2.2.2.1, .ref aM]) (by first | rfl | ((try (rw [ev32])); rfl)) ?_
          obtain ⟨o33, hq34, hf⟩ := xbind hf
          have hFc := xm_free hD hS hA
          refine va_calli (va_runV (C := "ValueBenchModel") (As := [xv vad29 o11.2.2.2.1, xv vad29 o21.2.2.2.1]) (rest := []) ⟨hx, hb, hml, hown, htx⟩ (gM_order l hl9 D cT aK aV d H.size n aM ad27 rd gd28 vad29 o21.2.2.2.2 o11.2.2.2.1 o21.2.2.2.1 o33 hq34) ⟨callB_of 2 htx (xw_goodC kw_7_25) rfl rfl rfl (htx _ kw_1_5) (htx _ kw_7_22) ⟨by decide, by decide, by decide +kernel⟩ ⟨(by show (16 * d) + 1 ≤ 16 * d + 9; omega), (by show 8 + (5 + 11) + (400 * d) ≤ 400 * d + 166; omega)⟩, (htx _ kw_7_24), (htx _ kp_M_order)⟩ ⟨xPre_blind, va_recv hK hP (ci := 5) rfl (q0 := 0) rfl, (fun U hU hW => ⟨rfl, xPre_of hZ hS hFc hP hD hK U hU hW⟩)⟩ rfl rfl hl.1 rfl (xm_room (Nat.le_of_ble_eq_true rfl)) dM_compare_37 ⟨hm25.1, hm25.2⟩) hS (fun q _ h => hFc q h) hFc (fun r35 u9 t H1 locs ht hvm hr9 hB hz1 hk1 hS => ?_)
          obtain ⟨hP1, hK1, hD1⟩ := hB
          rw [ht] at hP1
          have hP : va_P D xcl (xMw cT aM ad27 rd gd28 vad29 o21.2.2.2.2 []) H1 := hP1
          have hD : va_D A (xMw cT aM ad27 rd gd28 vad29 o21.2.2.2.2 []) := hD1.weaken (fun k q _ h => hFc q.1 h)
          generalize H1 = H at hP hS ⊢
          rw [hr9]
          refine W.eq (g2 := F0 m 40 ls [.int o33]) (by first | rfl | (skip; rfl)) ?_
          refine lv_istore_n (lv' := [(3, .int o33), (0, .ref aM), (1, .int x0), (2, .int x1)]) hx hb dM_compare_40 rfl hl (by decide) rfl (fun ls hl => ?_)
          refine lv_iload_n hx hb dM_compare_41 rfl (lv_at hl 0 rfl) ?_
          refine lv_if_ge (tgt := 49) hx hb dM_compare_42 (by decide) (fun hc => ?_) (fun hc => ?_)
          · rw [if_pos hc] at hf
            refine lv_iload_n hx hb dM_compare_49 rfl (lv_at hl 0 rfl) ?_
            refine lv_if_le (tgt := 57) hx hb dM_compare_50 (by decide) (fun hc => ?_) (fun hc => ?_)
            · rw [if_pos hc] at hf
              refine lv_iconst (v := 0) hx hb dM_compare_57 (by decide) ?_
              obtain rfl := Option.some.inj hf
              exact absurd (show (0 : Nat) = 2 from hkd) (by decide)
            · rw [if_neg hc] at hf
              refine lv_iconst (v := 1) hx hb dM_compare_53 (by decide) ?_
              refine lv_goto (tgt := 58) hx hb dM_compare_54 (by decide) ?_
              obtain rfl := Option.some.inj hf
              exact absurd (show (0 : Nat) = 2 from hkd) (by decide)
          · rw [if_neg hc] at hf
            refine lv_iconst (v := (-1)) hx hb dM_compare_45 (by decide) ?_
            refine lv_goto (tgt := 58) hx hb dM_compare_46 (by decide) ?_
            obtain rfl := Option.some.inj hf
            exact absurd (show (0 : Nat) = 2 from hkd) (by decide)
        rw [if_neg hk23] at hf
        by_cases hk36 : o21.1 = 1
        · rw [if_pos hk36] at hf
          obtain ⟨hm37, hf⟩ := xmoE hf
          obtain rfl := Option.some.inj hf
          exact absurd (show (1 : Nat) = 2 from hkd) (by decide)
        rw [if_neg hk36] at hf
        by_cases hk44 : o21.1 = 2
        · rw [if_pos hk44] at hf
          obtain ⟨hm45, hf⟩ := xmoE hf
          have hFc := xm_free hD hS hA
          refine xx_thr (vx_runV (C := "ValueBenchModel") (As := [.int x1]) (rest := [xv vad18 o11.2.2.2.1, .ref aM]) ⟨hx, hb, hml, hown, htx⟩ (gM_register_2 l hl9 D cT aK aV H.size d n aM ad16 rd gd17 vad18 o11.2.2.2.2 x1 o21 hq22 hk44) ⟨callB_of 1 htx (xw_goodC kw_6_170) rfl rfl rfl (htx _ kw_1_5) (htx _ kw_6_167) ⟨by decide, by decide, by decide +kernel⟩ ⟨(by show (16 * d + 8) + 1 ≤ 16 * d + 9; omega), (by show 8 + (2 + 11) + (400 * d + 145) ≤ 400 * d + 166; omega)⟩, (htx _ kw_6_169), (htx _ kp_M_register)⟩ ⟨xPre_blind, va_recv hK hP (ci := 5) rfl (q0 := 0) rfl, (fun U hU hW => ⟨rfl, xPre_of hZ hS hFc hP hD hK U hU hW⟩)⟩ rfl rfl hl.1 rfl (xm_room (by simp [xvcat, xrscat, xcI, xcL, xcR, xcN])) dM_compare_34 ⟨hm45.1, hm45.2⟩) hS hFc (fun q _ h => hFc q h) (fun E ce q9 u9 t H1 locs ht hvm hr9 hB hz1 hk1 hS hce hcv hcl => ?_)
          obtain ⟨rfl, hP1, hK1, hD1⟩ := hB
          rw [ht] at hP1
          obtain ⟨ad47, gd48, vad49⟩ := u9
          obtain ⟨hv50, hn51⟩ := hr9
          have hP : va_P D xcl (xMw cT aM ad47 rd gd48 vad49 o21.2.2.2.2 []) H1 := hP1
          have hD : va_D A (xMw cT aM ad47 rd gd48 vad49 o21.2.2.2.2 []) := hD1.weaken (fun k q _ h => hFc q.1 h)
          generalize H1 = H at hP hS hce ⊢
          have hE9 : ∀ p, p < xct st → vad49 p = vad p := fun p h => (hv50 p (Nat.lt_of_lt_of_le h hN)).trans (hE p h)
          have hE := hE9
          have hN : xct st ≤ xct o21.2.2.2.2 := Nat.le_trans hN hn51
          obtain rfl := Option.some.inj hf
          exact vx_out (E := "java/lang/IndexOutOfBoundsException") (fun x h => (hne x h).elim) hlocks hce hcv hcl (fun t ht ha => ⟨(ad47, gd48, vad49), ⟨hE, hN⟩, ⟨rfl, by rw [ht]; exact hP, va_K.moved ha hK, hD⟩, hS.F ht⟩) hS.2.2 (Nat.le_refl _) (Nat.le_refl _)
        rw [if_neg hk44] at hf
        by_cases hk52 : o21.1 = 3
        · rw [if_pos hk52] at hf
          obtain ⟨hm53, hf⟩ := xmoE hf
          obtain rfl := Option.some.inj hf
          exact absurd (show (3 : Nat) = 2 from hkd) (by decide)
        rw [if_neg hk52] at hf
        exact nomatch hf
      rw [if_neg hk13] at hf
      by_cases hk60 : o11.1 = 1
      · rw [if_pos hk60] at hf
        obtain ⟨hm61, hf⟩ := xmoE hf
        obtain rfl := Option.some.inj hf
        exact absurd (show (1 : Nat) = 2 from hkd) (by decide)
      rw [if_neg hk60] at hf
      by_cases hk68 : o11.1 = 2
      · rw [if_pos hk68] at hf
        obtain ⟨hm69, hf⟩ := xmoE hf
        have hFc := xm_free hD hS hA
        refine xx_thr (vx_runV (C := "ValueBenchModel") (As := [.int x0]) (rest := [.ref aM]) ⟨hx, hb, hml, hown, htx⟩ (gM_register_2 l hl9 D cT aK aV H.size d n aM ad rd gd vad o1 x0 o11 hq12 hk68) ⟨callB_of 1 htx (xw_goodC kw_6_170) rfl rfl rfl (htx _ kw_1_5) (htx _ kw_6_167) ⟨by decide, by decide, by decide +kernel⟩ ⟨(by show (16 * d + 8) + 1 ≤ 16 * d + 9; omega), (by show 8 + (2 + 11) + (400 * d + 145) ≤ 400 * d + 166; omega)⟩, (htx _ kw_6_169), (htx _ kp_M_register)⟩ ⟨xPre_blind, va_recv hK hP (ci := 5) rfl (q0 := 0) rfl, (fun U hU hW => ⟨rfl, xPre_of hZ hS hFc hP hD hK U hU hW⟩)⟩ rfl rfl hl.1 rfl (xm_room (Nat.le_of_ble_eq_true rfl)) dM_compare_29 ⟨hm69.1, hm69.2⟩) hS hFc (fun q _ h => hFc q h) (fun E ce q9 u9 t H1 locs ht hvm hr9 hB hz1 hk1 hS hce hcv hcl => ?_)
        obtain ⟨rfl, hP1, hK1, hD1⟩ := hB
        rw [ht] at hP1
        obtain ⟨ad71, gd72, vad73⟩ := u9
        obtain ⟨hv74, hn75⟩ := hr9
        have hP : va_P D xcl (xMw cT aM ad71 rd gd72 vad73 o11.2.2.2.2 []) H1 := hP1
        have hD : va_D A (xMw cT aM ad71 rd gd72 vad73 o11.2.2.2.2 []) := hD1.weaken (fun k q _ h => hFc q.1 h)
        generalize H1 = H at hP hS hce ⊢
        have hE9 : ∀ p, p < xct st → vad73 p = vad p := fun p h => (hv74 p (Nat.lt_of_lt_of_le h hN)).trans (hE p h)
        have hE := hE9
        have hN : xct st ≤ xct o11.2.2.2.2 := Nat.le_trans hN hn75
        obtain rfl := Option.some.inj hf
        exact vx_out (E := "java/lang/IndexOutOfBoundsException") (fun x h => (hne x h).elim) hlocks hce hcv hcl (fun t ht ha => ⟨(ad71, gd72, vad73), ⟨hE, hN⟩, ⟨rfl, by rw [ht]; exact hP, va_K.moved ha hK, hD⟩, hS.F ht⟩) hS.2.2 (Nat.le_refl _) (Nat.le_refl _)
      rw [if_neg hk68] at hf
      by_cases hk76 : o11.1 = 3
      · rw [if_pos hk76] at hf
        obtain ⟨hm77, hf⟩ := xmoE hf
        obtain rfl := Option.some.inj hf
        exact absurd (show (3 : Nat) = 2 from hkd) (by decide)
      rw [if_neg hk76] at hf
      exact nomatch hf
    · rw [if_neg hc] at hf
      refine lv_aload_n hx hb dM_compare_20 rfl (lv_at hl 0 rfl) ?_
      refine lv_iconst (v := 1) hx hb dM_compare_21 (by decide) ?_
      obtain ⟨o11, hq12, hf⟩ := xbind hf
      have hFc := xm_free hD hS hA
      refine va_calli (va_runV (C := "ValueBenchModel") (As := [.int 1]) (rest := []) ⟨hx, hb, hml, hown, htx⟩ (gM_fail l hl9 D cT aK aV H.size n aM ad rd gd vad o1 (1 : Int32) o11 hq12) ⟨callB_of 1 htx (xw_goodC kw_5_195) rfl rfl rfl (htx _ kw_1_5) (htx _ kw_5_192) ⟨by decide, by decide, by decide +kernel⟩ ⟨Nat.le_of_ble_eq_true rfl, Nat.le_of_ble_eq_true rfl⟩, (htx _ kw_5_194), (htx _ kp_M_fail)⟩ ⟨xPre_blind, va_recv hK hP (ci := 5) rfl (q0 := 0) rfl, (fun U hU hW => ⟨rfl, xPre_of hZ hS hFc hP hD hK U hU hW⟩)⟩ rfl rfl hl.1 rfl (xm_room (Nat.le_of_ble_eq_true rfl)) dM_compare_22 ⟨Nat.zero_le _, Nat.zero_le _⟩) hS (fun q _ h => hFc q h) hFc (fun r13 u9 t H1 locs ht hvm hr9 hB hz1 hk1 hS => ?_)
      obtain ⟨hP1, hK1, hD1⟩ := hB
      rw [ht] at hP1
      obtain ⟨hr9, hn14⟩ := hr9
      have hN : xct st ≤ xct o11.2 := Nat.le_trans hN hn14
      have hP : va_P D xcl (xMw cT aM ad rd gd vad o11.2 []) H1 := hP1
      have hD : va_D A (xMw cT aM ad rd gd vad o11.2 []) := hD1.weaken (fun k q _ h => hFc q.1 h)
      generalize H1 = H at hP hS ⊢
      rw [hr9]
      refine W.eq (g2 := F0 m 25 ls [.int o11.1]) (by first | rfl | (skip; rfl)) ?_
      obtain rfl := Option.some.inj hf
      exact absurd (show (0 : Nat) = 2 from hkd) (by decide)
set_option maxHeartbeats 400000000 in
set_option maxRecDepth 100000 in
theorem gM_compare_3 (l : Launch) (hl9 : l.stackTraces = false) (D : va_G) (cT : Nat → ClassId) (aK aV : Nat → Nat) (sz d n : Nat) (aM : Nat) (ad rd gd vad : Nat → Nat) (st : xS) (x0 : Int32) (x1 : Int32) (out : Nat × Nat × Nat × Int32 × xS) (hf : fM_compare d n st x0 x1 = some out) (hkd : out.1 = 3) : xMetY l yM_compare wyM_compare (16 * d + 9) out.2.1 out.2.2.1 (400 * d + 166) D cT aK aV sz [.ref aM, .int x0, .int x1] (xMw cT aM ad rd gd vad st []) "java/lang/ArithmeticException" (fun u => xE vad st out.2.2.2.2 u) (fun A u t => xB D xcl cT A (xMw cT aM u.1 rd u.2.1 u.2.2 out.2.2.2.2 []) t) := by
  refine vx_ofW (cc := prog_13_method_91_code) (maxL := 4) (ret := (some .int)) (by decide) rfl ?_
  intro p e s m args below meth c s₁ B hml hne hv
  obtain ⟨rfl, hsz, hZ, hP, hK, hD0⟩ := hv
  have hx := B.exec
  have hb := B.bytes
  have hr := B.returns
  have hts := atoms_spec (ws := wyM_compare) B.pre
  have htx := fun w h => hts w (List.mem_cons_of_mem _ h)
  have hown : s.vm.findClass "ValueBenchModel" = some m.cls := findClass_of_methodNamed B.named
  have hlocks := B.notSynchronized
  subst hsz
  have hD := hD0.self (sz := s.heap.size)
  generalize hAe : va_A (xMw cT aM ad rd gd vad st []) s.heap.size = A at hD hZ ⊢
  have hA : ∀ q : Nat, s.heap.size ≤ q → A q := fun q h => by rw [← hAe]; exact Or.inr h
  have hS : va_S A s.heap s.heap [] := va_S.rf
  have hl := lv_entry ([.ref aM, .int x0, .int x1]) (n := 4) (by simp [lg_sl, xvcat, xrscat, xcI, xcL, xcR, xcN])
  rw [show lv_args 0 [.ref aM, .int x0, .int x1] = [(0, .ref aM), (1, .int x0), (2, .int x1)] from by simp [lv_args, xvcat, xrscat, xcI, xcL, xcR, xcN]] at hl
  rw [lg_entry_eq]
  generalize (lg_sl ([.ref aM, .int x0, .int x1]) ++ List.replicate (4 - (lg_sl ([.ref aM, .int x0, .int x1])).length) Slot.unset).toArray = ls at hl ⊢
  have hl : lv_has ls 4 [(0, .ref aM), (1, .int x0), (2, .int x1)] := hl
  have hE : ∀ p, p < xct st → vad p = vad p := fun _ _ => rfl
  have hN : xct st ≤ xct st := Nat.le_refl _
  unfold fM_compare at hf
  refine lv_aload_n hx hb dM_compare_0 rfl (lv_at hl 0 rfl) ?_
  obtain ⟨o1, hq2, hf⟩ := xbind hf
  have hFc := xm_free hD hS hA
  refine va_callv (va_runV (C := "ValueBenchModel") (As := []) (rest := []) ⟨hx, hb, hml, hown, htx⟩ (gM_begin l hl9 D cT aK aV s.heap.size n aM ad rd gd vad st o1 hq2) ⟨callB_of 0 htx (xw_goodC kw_5_209) rfl rfl rfl (htx _ kw_1_5) (htx _ kw_5_206) ⟨by decide, by decide, by decide +kernel⟩ ⟨Nat.le_of_ble_eq_true rfl, Nat.le_of_ble_eq_true rfl⟩, (htx _ kw_5_208), (htx _ kp_M_begin)⟩ ⟨xPre_blind, va_recv hK hP (ci := 5) rfl (q0 := 0) rfl, (fun U hU hW => ⟨rfl, xPre_of hZ hS hFc hP hD hK U hU hW⟩)⟩ rfl rfl hl.1 rfl (xm_room (Nat.le_of_ble_eq_true rfl)) dM_compare_1 ⟨Nat.zero_le _, Nat.zero_le _⟩) hS (fun q _ h => hFc q h) hFc (fun u9 t H1 locs ht hvm hr9 hB hz1 hk1 hS => ?_)
  obtain ⟨hP1, hK1, hD1⟩ := hB
  rw [ht] at hP1
  have hn4 := hr9
  have hN : xct st ≤ xct o1 := Nat.le_trans hN hn4
  have hP : va_P D xcl (xMw cT aM ad rd gd vad o1 []) H1 := hP1
  have hD : va_D A (xMw cT aM ad rd gd vad o1 []) := hD1.weaken (fun k q _ h => hFc q.1 h)
  generalize H1 = H at hP hS ⊢
  refine W.eq (g2 := F0 m 4 ls []) (by first | rfl | (skip; rfl)) ?_
  refine lv_aload_n hx hb dM_compare_4 rfl (lv_at hl 0 rfl) ?_
  refine lv_iload_n hx hb dM_compare_5 rfl (lv_at hl 1 rfl) ?_
  obtain ⟨o5, hq6, hf⟩ := xbind hf
  have hFc := xm_free hD hS hA
  refine va_calli (va_runV (C := "ValueBenchModel") (As := [.int x0]) (rest := []) ⟨hx, hb, hml, hown, htx⟩ (gM_out l hl9 D cT aK aV H.size n aM ad rd gd vad o1 x0 o5 hq6) ⟨callB_of 1 htx (xw_goodC kw_5_217) rfl rfl rfl (htx _ kw_1_5) (htx _ kw_5_214) ⟨by decide, by decide, by decide +kernel⟩ ⟨Nat.le_of_ble_eq_true rfl, Nat.le_of_ble_eq_true rfl⟩, (htx _ kw_5_216), (htx _ kp_M_out)⟩ ⟨xPre_blind, va_recv hK hP (ci := 5) rfl (q0 := 0) rfl, (fun U hU hW => ⟨rfl, xPre_of hZ hS hFc hP hD hK U hU hW⟩)⟩ rfl rfl hl.1 rfl (xm_room (Nat.le_of_ble_eq_true rfl)) dM_compare_6 ⟨Nat.zero_le _, Nat.zero_le _⟩) hS (fun q _ h => hFc q h) hFc (fun r7 u9 t H1 locs ht hvm hr9 hB hz1 hk1 hS => ?_)
  obtain ⟨hP1, hK1, hD1⟩ := hB
  rw [ht] at hP1
  have hP : va_P D xcl (xMw cT aM ad rd gd vad o1 []) H1 := hP1
  have hD : va_D A (xMw cT aM ad rd gd vad o1 []) := hD1.weaken (fun k q _ h => hFc q.1 h)
  generalize H1 = H at hP hS ⊢
  rw [hr9]
  refine W.eq (g2 := F0 m 9 ls [.int o5]) (by first | rfl | (skip; rfl)) ?_
  refine lv_if_ne (tgt := 20) hx hb dM_compare_9 (by decide) (fun hc => ?_) (fun hc => ?_)
  · rw [if_neg hc] at hf
    refine lv_aload_n hx hb dM_compare_20 rfl (lv_at hl 0 rfl) ?_
    refine lv_iconst (v := 1) hx hb dM_compare_21 (by decide) ?_
    obtain ⟨o8, hq9, hf⟩ := xbind hf
    have hFc := xm_free hD hS hA
    refine va_calli (va_runV (C := "ValueBenchModel") (As := [.int 1]) (rest := []) ⟨hx, hb, hml, hown, htx⟩ (gM_fail l hl9 D cT aK aV H.size n aM ad rd gd vad o1 (1 : Int32) o8 hq9) ⟨callB_of 1 htx (xw_goodC kw_5_195) rfl rfl rfl (htx _ kw_1_5) (htx _ kw_5_192) ⟨by decide, by decide, by decide +kernel⟩ ⟨Nat.le_of_ble_eq_true rfl, Nat.le_of_ble_eq_true rfl⟩, (htx _ kw_5_194), (htx _ kp_M_fail)⟩ ⟨xPre_blind, va_recv hK hP (ci := 5) rfl (q0 := 0) rfl, (fun U hU hW => ⟨rfl, xPre_of hZ hS hFc hP hD hK U hU hW⟩)⟩ rfl rfl hl.1 rfl (xm_room (Nat.le_of_ble_eq_true rfl)) dM_compare_22 ⟨Nat.zero_le _, Nat.zero_le _⟩) hS (fun q _ h => hFc q h) hFc (fun r10 u9 t H1 locs ht hvm hr9 hB hz1 hk1 hS => ?_)
    obtain ⟨hP1, hK1, hD1⟩ := hB
    rw [ht] at hP1
    obtain ⟨hr9, hn11⟩ := hr9
    have hN : xct st ≤ xct o8.2 := Nat.le_trans hN hn11
    have hP : va_P D xcl (xMw cT aM ad rd gd vad o8.2 []) H1 := hP1
    have hD : va_D A (xMw cT aM ad rd gd vad o8.2 []) := hD1.weaken (fun k q _ h => hFc q.1 h)
    generalize H1 = H at hP hS ⊢
    rw [hr9]
    refine W.eq (g2 := F0 m 25 ls [.int o8.1]) (by first | rfl | (skip; rfl)) ?_
    obtain rfl := Option.some.inj hf
    exact absurd (show (0 : Nat) = 3 from hkd) (by decide)
  · rw [if_pos hc] at hf
    refine lv_aload_n hx hb dM_compare_12 rfl (lv_at hl 0 rfl) ?_
    refine lv_iload_n hx hb dM_compare_13 rfl (lv_at hl 2 rfl) ?_
    obtain ⟨o8, hq9, hf⟩ := xbind hf
    have hFc := xm_free hD hS hA
    refine va_calli (va_runV (C := "ValueBenchModel") (As := [.int x1]) (rest := []) ⟨hx, hb, hml, hown, htx⟩ (gM_out l hl9 D cT aK aV H.size n aM ad rd gd vad o1 x1 o8 hq9) ⟨callB_of 1 htx (xw_goodC kw_5_217) rfl rfl rfl (htx _ kw_1_5) (htx _ kw_5_214) ⟨by decide, by decide, by decide +kernel⟩ ⟨Nat.le_of_ble_eq_true rfl, Nat.le_of_ble_eq_true rfl⟩, (htx _ kw_5_216), (htx _ kp_M_out)⟩ ⟨xPre_blind, va_recv hK hP (ci := 5) rfl (q0 := 0) rfl, (fun U hU hW => ⟨rfl, xPre_of hZ hS hFc hP hD hK U hU hW⟩)⟩ rfl rfl hl.1 rfl (xm_room (Nat.le_of_ble_eq_true rfl)) dM_compare_14 ⟨Nat.zero_le _, Nat.zero_le _⟩) hS (fun q _ h => hFc q h) hFc (fun r10 u9 t H1 locs ht hvm hr9 hB hz1 hk1 hS => ?_)
    obtain ⟨hP1, hK1, hD1⟩ := hB
    rw [ht] at hP1
    have hP : va_P D xcl (xMw cT aM ad rd gd vad o1 []) H1 := hP1
    have hD : va_D A (xMw cT aM ad rd gd vad o1 []) := hD1.weaken (fun k q _ h => hFc q.1 h)
    generalize H1 = H at hP hS ⊢
    rw [hr9]
    refine W.eq (g2 := F0 m 17 ls [.int o8]) (by first | rfl | (skip; rfl)) ?_
    refine lv_if_eq (tgt := 26) hx hb dM_compare_17 (by decide) (fun hc => ?_) (fun hc => ?_)
    · rw [if_pos hc] at hf
      refine lv_aload_n hx hb dM_compare_26 rfl (lv_at hl 0 rfl) ?_
      refine lv_aload_n hx hb dM_compare_27 rfl (lv_at hl 0 rfl) ?_
      refine lv_iload_n hx hb dM_compare_28 rfl (lv_at hl 1 rfl) ?_
      obtain ⟨o11, hq12, hf⟩ := xbind hf
      by_cases hk13 : o11.1 = 0
      · rw [if_pos hk13] at hf
        obtain ⟨hm14, hf⟩ := xmoE hf
        have hFc := xm_free hD hS hA
        refine va_callq (va_runV (C := "ValueBenchModel") (As := [.int x0]) (rest := [.ref aM]) ⟨hx, hb, hml, hown, htx⟩ (gM_register l hl9 D cT aK aV H.size d n aM ad rd gd vad o1 x0 o11 hq12 hk13) ⟨callB_of 1 htx (xw_goodC kw_6_170) rfl rfl rfl (htx _ kw_1_5) (htx _ kw_6_167) ⟨by decide, by decide, by decide +kernel⟩ ⟨(by show (16 * d + 8) + 1 ≤ 16 * d + 9; omega), (by show 8 + (2 + 11) + (400 * d + 145) ≤ 400 * d + 166; omega)⟩, (htx _ kw_6_169), (htx _ kp_M_register)⟩ ⟨xPre_blind, va_recv hK hP (ci := 5) rfl (q0 := 0) rfl, (fun U hU hW => ⟨rfl, xPre_of hZ hS hFc hP hD hK U hU hW⟩)⟩ rfl rfl hl.1 rfl (xm_room (Nat.le_of_ble_eq_true rfl)) dM_compare_29 ⟨hm14.1, hm14.2⟩) hS (fun q _ h => hFc q h) hFc (fun r15 u9 t H1 locs ht hvm hr9 hB hz1 hk1 hS => ?_)
        obtain ⟨hP1, hK1, hD1⟩ := hB
        rw [ht] at hP1
        obtain ⟨ad16, gd17, vad18⟩ := u9
        obtain ⟨hr9, hv19, hn20⟩ := hr9
        have hP : va_P D xcl (xMw cT aM ad16 rd gd17 vad18 o11.2.2.2.2 []) H1 := hP1
        have hD : va_D A (xMw cT aM ad16 rd gd17 vad18 o11.2.2.2.2 []) := hD1.weaken (fun k q _ h => hFc q.1 h)
        generalize H1 = H at hP hS ⊢
        have hE9 : ∀ p, p < xct st → vad18 p = vad p := fun p h => (hv19 p (Nat.lt_of_lt_of_le h hN)).trans (hE p h)
        have hE := hE9
        have hN : xct st ≤ xct o11.2.2.2.2 := Nat.le_trans hN hn20
        rw [hr9]
        refine W.eq (g2 := F0 m 32 ls [xv vad18 o11.2.2.2.1, .ref aM]) (by first | rfl | (skip; rfl)) ?_
        refine lv_aload_n hx hb dM_compare_32 rfl (lv_at hl 0 rfl) ?_
        refine lv_iload_n hx hb dM_compare_33 rfl (lv_at hl 2 rfl) ?_
        obtain ⟨o21, hq22, hf⟩ := xbind hf
        by_cases hk23 : o21.1 = 0
        · rw [if_pos hk23] at hf
          obtain ⟨hg24, hf⟩ := xifn hf
          obtain ⟨hm25, hf⟩ := xmoE hf
          have hFc := xm_free hD hS hA
          refine va_callq (va_runV (C := "ValueBenchModel") (As := [.int x1]) (rest := [xv vad18 o11.2.2.2.1, .ref aM]) ⟨hx, hb, hml, hown, htx⟩ (gM_register l hl9 D cT aK aV H.size d n aM ad16 rd gd17 vad18 o11.2.2.2.2 x1 o21 hq22 hk23) ⟨callB_of 1 htx (xw_goodC kw_6_170) rfl rfl rfl (htx _ kw_1_5) (htx _ kw_6_167) ⟨by decide, by decide, by decide +kernel⟩ ⟨(by show (16 * d + 8) + 1 ≤ 16 * d + 9; omega), (by show 8 + (2 + 11) + (400 * d + 145) ≤ 400 * d + 166; omega)⟩, (htx _ kw_6_169), (htx _ kp_M_register)⟩ ⟨xPre_blind, va_recv hK hP (ci := 5) rfl (q0 := 0) rfl, (fun U hU hW => ⟨rfl, xPre_of hZ hS hFc hP hD hK U hU hW⟩)⟩ rfl rfl hl.1 rfl (xm_room (by simp [xvcat, xrscat, xcI, xcL, xcR, xcN])) dM_compare_34 ⟨hm25.1, hm25.2⟩) hS (fun q _ h => hFc q h) hFc (fun r26 u9 t H1 locs ht hvm hr9 hB hz1 hk1 hS => ?_)
          obtain ⟨hP1, hK1, hD1⟩ := hB
          rw [ht] at hP1
          obtain ⟨ad27, gd28, vad29⟩ := u9
          obtain ⟨hr9, hv30, hn31⟩ := hr9
          have hP : va_P D xcl (xMw cT aM ad27 rd gd28 vad29 o21.2.2.2.2 []) H1 := hP1
          have hD : va_D A (xMw cT aM ad27 rd gd28 vad29 o21.2.2.2.2 []) := hD1.weaken (fun k q _ h => hFc q.1 h)
          generalize H1 = H at hP hS ⊢
          have hE9 : ∀ p, p < xct st → vad29 p = vad p := fun p h => (hv30 p (Nat.lt_of_lt_of_le h hN)).trans (hE p h)
          have hE := hE9
          have hN : xct st ≤ xct o21.2.2.2.2 := Nat.le_trans hN hn31
          have ev32 : xv vad18 o11.2.2.2.1 = xv vad29 o11.2.2.2.1 := xvE hv30 hg24
          rw [hr9]
          refine W.eq (g2 := F0 m 37 ls [xv vad29 o21.2.2.2.1, xv vad29 o11.2.2.2.1, .ref aM]) (by first | rfl | ((try (rw [ev32])); rfl)) ?_
          obtain ⟨o33, hq34, hf⟩ := xbind hf
          have hFc := xm_free hD hS hA
          refine va_calli (va_runV (C := "ValueBenchModel") (As := [xv vad29 o11.2.2.2.1, xv vad29 o21.2.2.2.1]) (rest := []) ⟨hx, hb, hml, hown, htx⟩ (gM_order l hl9 D cT aK aV d H.size n aM ad27 rd gd28 vad29 o21.2.2.2.2 o11.2.2.2.1 o21.2.2.2.1 o33 hq34) ⟨callB_of 2 htx (xw_goodC kw_7_25) rfl rfl rfl (htx _ kw_1_5) (htx _ kw_7_22) ⟨by decide, by decide, by decide +kernel⟩ ⟨(by show (16 * d) + 1 ≤ 16 * d + 9; omega), (by show 8 + (5 + 11) + (400 * d) ≤ 400 * d + 166; omega)⟩, (htx _ kw_7_24), (htx _ kp_M_order)⟩ ⟨xPre_blind, va_recv hK hP (ci := 5) rfl (q0 := 0) rfl, (fun U hU hW => ⟨rfl, xPre_of hZ hS hFc hP hD hK U hU hW⟩)⟩ rfl rfl hl.1 rfl (xm_room (Nat.le_of_ble_eq_true rfl)) dM_compare_37 ⟨hm25.1, hm25.2⟩) hS (fun q _ h => hFc q h) hFc (fun r35 u9 t H1 locs ht hvm hr9 hB hz1 hk1 hS => ?_)
          obtain ⟨hP1, hK1, hD1⟩ := hB
          rw [ht] at hP1
          have hP : va_P D xcl (xMw cT aM ad27 rd gd28 vad29 o21.2.2.2.2 []) H1 := hP1
          have hD : va_D A (xMw cT aM ad27 rd gd28 vad29 o21.2.2.2.2 []) := hD1.weaken (fun k q _ h => hFc q.1 h)
          generalize H1 = H at hP hS ⊢
          rw [hr9]
          refine W.eq (g2 := F0 m 40 ls [.int o33]) (by first | rfl | (skip; rfl)) ?_
          refine lv_istore_n (lv' := [(3, .int o33), (0, .ref aM), (1, .int x0), (2, .int x1)]) hx hb dM_compare_40 rfl hl (by decide) rfl (fun ls hl => ?_)
          refine lv_iload_n hx hb dM_compare_41 rfl (lv_at hl 0 rfl) ?_
          refine lv_if_ge (tgt := 49) hx hb dM_compare_42 (by decide) (fun hc => ?_) (fun hc => ?_)
          · rw [if_pos hc] at hf
            refine lv_iload_n hx hb dM_compare_49 rfl (lv_at hl 0 rfl) ?_
            refine lv_if_le (tgt := 57) hx hb dM_compare_50 (by decide) (fun hc => ?_) (fun hc => ?_)
            · rw [if_pos hc] at hf
              refine lv_iconst (v := 0) hx hb dM_compare_57 (by decide) ?_
              obtain rfl := Option.some.inj hf
              exact absurd (show (0 : Nat) = 3 from hkd) (by decide)
            · rw [if_neg hc] at hf
              refine lv_iconst (v := 1) hx hb dM_compare_53 (by decide) ?_
              refine lv_goto (tgt := 58) hx hb dM_compare_54 (by decide) ?_
              obtain rfl := Option.some.inj hf
              exact absurd (show (0 : Nat) = 3 from hkd) (by decide)
          · rw [if_neg hc] at hf
            refine lv_iconst (v := (-1)) hx hb dM_compare_45 (by decide) ?_
            refine lv_goto (tgt := 58) hx hb dM_compare_46 (by decide) ?_
            obtain rfl := Option.some.inj hf
            exact absurd (show (0 : Nat) = 3 from hkd) (by decide)
        rw [if_neg hk23] at hf
        by_cases hk36 : o21.1 = 1
        · rw [if_pos hk36] at hf
          obtain ⟨hm37, hf⟩ := xmoE hf
          obtain rfl := Option.some.inj hf
          exact absurd (show (1 : Nat) = 3 from hkd) (by decide)
        rw [if_neg hk36] at hf
        by_cases hk44 : o21.1 = 2
        · rw [if_pos hk44] at hf
          obtain ⟨hm45, hf⟩ := xmoE hf
          obtain rfl := Option.some.inj hf
          exact absurd (show (2 : Nat) = 3 from hkd) (by decide)
        rw [if_neg hk44] at hf
        by_cases hk52 : o21.1 = 3
        · rw [if_pos hk52] at hf
          obtain ⟨hm53, hf⟩ := xmoE hf
          have hFc := xm_free hD hS hA
          refine xx_thr (vx_runV (C := "ValueBenchModel") (As := [.int x1]) (rest := [xv vad18 o11.2.2.2.1, .ref aM]) ⟨hx, hb, hml, hown, htx⟩ (gM_register_3 l hl9 D cT aK aV H.size d n aM ad16 rd gd17 vad18 o11.2.2.2.2 x1 o21 hq22 hk52) ⟨callB_of 1 htx (xw_goodC kw_6_170) rfl rfl rfl (htx _ kw_1_5) (htx _ kw_6_167) ⟨by decide, by decide, by decide +kernel⟩ ⟨(by show (16 * d + 8) + 1 ≤ 16 * d + 9; omega), (by show 8 + (2 + 11) + (400 * d + 145) ≤ 400 * d + 166; omega)⟩, (htx _ kw_6_169), (htx _ kp_M_register)⟩ ⟨xPre_blind, va_recv hK hP (ci := 5) rfl (q0 := 0) rfl, (fun U hU hW => ⟨rfl, xPre_of hZ hS hFc hP hD hK U hU hW⟩)⟩ rfl rfl hl.1 rfl (xm_room (by simp [xvcat, xrscat, xcI, xcL, xcR, xcN])) dM_compare_34 ⟨hm53.1, hm53.2⟩) hS hFc (fun q _ h => hFc q h) (fun E ce q9 u9 t H1 locs ht hvm hr9 hB hz1 hk1 hS hce hcv hcl => ?_)
          obtain ⟨rfl, hP1, hK1, hD1⟩ := hB
          rw [ht] at hP1
          obtain ⟨ad55, gd56, vad57⟩ := u9
          obtain ⟨hv58, hn59⟩ := hr9
          have hP : va_P D xcl (xMw cT aM ad55 rd gd56 vad57 o21.2.2.2.2 []) H1 := hP1
          have hD : va_D A (xMw cT aM ad55 rd gd56 vad57 o21.2.2.2.2 []) := hD1.weaken (fun k q _ h => hFc q.1 h)
          generalize H1 = H at hP hS hce ⊢
          have hE9 : ∀ p, p < xct st → vad57 p = vad p := fun p h => (hv58 p (Nat.lt_of_lt_of_le h hN)).trans (hE p h)
          have hE := hE9
          have hN : xct st ≤ xct o21.2.2.2.2 := Nat.le_trans hN hn59
          obtain rfl := Option.some.inj hf
          exact vx_out (E := "java/lang/ArithmeticException") (fun x h => (hne x h).elim) hlocks hce hcv hcl (fun t ht ha => ⟨(ad55, gd56, vad57), ⟨hE, hN⟩, ⟨rfl, by rw [ht]; exact hP, va_K.moved ha hK, hD⟩, hS.F ht⟩) hS.2.2 (Nat.le_refl _) (Nat.le_refl _)
        rw [if_neg hk52] at hf
        exact nomatch hf
      rw [if_neg hk13] at hf
      by_cases hk60 : o11.1 = 1
      · rw [if_pos hk60] at hf
        obtain ⟨hm61, hf⟩ := xmoE hf
        obtain rfl := Option.some.inj hf
        exact absurd (show (1 : Nat) = 3 from hkd) (by decide)
      rw [if_neg hk60] at hf
      by_cases hk68 : o11.1 = 2
      · rw [if_pos hk68] at hf
        obtain ⟨hm69, hf⟩ := xmoE hf
        obtain rfl := Option.some.inj hf
        exact absurd (show (2 : Nat) = 3 from hkd) (by decide)
      rw [if_neg hk68] at hf
      by_cases hk76 : o11.1 = 3
      · rw [if_pos hk76] at hf
        obtain ⟨hm77, hf⟩ := xmoE hf
        have hFc := xm_free hD hS hA
        refine xx_thr (vx_runV (C := "ValueBenchModel") (As := [.int x0]) (rest := [.ref aM]) ⟨hx, hb, hml, hown, htx⟩ (gM_register_3 l hl9 D cT aK aV H.size d n aM ad rd gd vad o1 x0 o11 hq12 hk76) ⟨callB_of 1 htx (xw_goodC kw_6_170) rfl rfl rfl (htx _ kw_1_5) (htx _ kw_6_167) ⟨by decide, by decide, by decide +kernel⟩ ⟨(by show (16 * d + 8) + 1 ≤ 16 * d + 9; omega), (by show 8 + (2 + 11) + (400 * d + 145) ≤ 400 * d + 166; omega)⟩, (htx _ kw_6_169), (htx _ kp_M_register)⟩ ⟨xPre_blind, va_recv hK hP (ci := 5) rfl (q0 := 0) rfl, (fun U hU hW => ⟨rfl, xPre_of hZ hS hFc hP hD hK U hU hW⟩)⟩ rfl rfl hl.1 rfl (xm_room (Nat.le_of_ble_eq_true rfl)) dM_compare_29 ⟨hm77.1, hm77.2⟩) hS hFc (fun q _ h => hFc q h) (fun E ce q9 u9 t H1 locs ht hvm hr9 hB hz1 hk1 hS hce hcv hcl => ?_)
        obtain ⟨rfl, hP1, hK1, hD1⟩ := hB
        rw [ht] at hP1
        obtain ⟨ad79, gd80, vad81⟩ := u9
        obtain ⟨hv82, hn83⟩ := hr9
        have hP : va_P D xcl (xMw cT aM ad79 rd gd80 vad81 o11.2.2.2.2 []) H1 := hP1
        have hD : va_D A (xMw cT aM ad79 rd gd80 vad81 o11.2.2.2.2 []) := hD1.weaken (fun k q _ h => hFc q.1 h)
        generalize H1 = H at hP hS hce ⊢
        have hE9 : ∀ p, p < xct st → vad81 p = vad p := fun p h => (hv82 p (Nat.lt_of_lt_of_le h hN)).trans (hE p h)
        have hE := hE9
        have hN : xct st ≤ xct o11.2.2.2.2 := Nat.le_trans hN hn83
        obtain rfl := Option.some.inj hf
        exact vx_out (E := "java/lang/ArithmeticException") (fun x h => (hne x h).elim) hlocks hce hcv hcl (fun t ht ha => ⟨(ad79, gd80, vad81), ⟨hE, hN⟩, ⟨rfl, by rw [ht]; exact hP, va_K.moved ha hK, hD⟩, hS.F ht⟩) hS.2.2 (Nat.le_refl _) (Nat.le_refl _)
      rw [if_neg hk76] at hf
      exact nomatch hf
    · rw [if_neg hc] at hf
      refine lv_aload_n hx hb dM_compare_20 rfl (lv_at hl 0 rfl) ?_
      refine lv_iconst (v := 1) hx hb dM_compare_21 (by decide) ?_
      obtain ⟨o11, hq12, hf⟩ := xbind hf
      have hFc := xm_free hD hS hA
      refine va_calli (va_runV (C := "ValueBenchModel") (As := [.int 1]) (rest := []) ⟨hx, hb, hml, hown, htx⟩ (gM_fail l hl9 D cT aK aV H.size n aM ad rd gd vad o1 (1 : Int32) o11 hq12) ⟨callB_of 1 htx (xw_goodC kw_5_195) rfl rfl rfl (htx _ kw_1_5) (htx _ kw_5_192) ⟨by decide, by decide, by decide +kernel⟩ ⟨Nat.le_of_ble_eq_true rfl, Nat.le_of_ble_eq_true rfl⟩, (htx _ kw_5_194), (htx _ kp_M_fail)⟩ ⟨xPre_blind, va_recv hK hP (ci := 5) rfl (q0 := 0) rfl, (fun U hU hW => ⟨rfl, xPre_of hZ hS hFc hP hD hK U hU hW⟩)⟩ rfl rfl hl.1 rfl (xm_room (Nat.le_of_ble_eq_true rfl)) dM_compare_22 ⟨Nat.zero_le _, Nat.zero_le _⟩) hS (fun q _ h => hFc q h) hFc (fun r13 u9 t H1 locs ht hvm hr9 hB hz1 hk1 hS => ?_)
      obtain ⟨hP1, hK1, hD1⟩ := hB
      rw [ht] at hP1
      obtain ⟨hr9, hn14⟩ := hr9
      have hN : xct st ≤ xct o11.2 := Nat.le_trans hN hn14
      have hP : va_P D xcl (xMw cT aM ad rd gd vad o11.2 []) H1 := hP1
      have hD : va_D A (xMw cT aM ad rd gd vad o11.2 []) := hD1.weaken (fun k q _ h => hFc q.1 h)
      generalize H1 = H at hP hS ⊢
      rw [hr9]
      refine W.eq (g2 := F0 m 25 ls [.int o11.1]) (by first | rfl | (skip; rfl)) ?_
      obtain rfl := Option.some.inj hf
      exact absurd (show (0 : Nat) = 3 from hkd) (by decide)
set_option maxHeartbeats 400000000 in
set_option maxRecDepth 100000 in
theorem gM_count (l : Launch) (hl9 : l.stackTraces = false) (D : va_G) (cT : Nat → ClassId) (aK aV : Nat → Nat) (sz n : Nat) (aM : Nat) (ad rd gd vad : Nat → Nat) (st : xS) (x0 : Int32) (out : Int32 × xS) (hf : fM_count n st x0 = some out) : xMet l yM_count wyM_count 1 0 0 21 D cT aK aV sz [.ref aM, .int x0] (xMw cT aM ad rd gd vad st []) (fun A => va_Qi (fun (r : Int32) (_ : Unit) => r = out.1 ∧ xct st ≤ xct out.2) (fun _ t => xB D xcl cT A (xMw cT aM ad rd gd vad out.2 []) t) A) := by
  refine Met.ofW (cc := prog_13_method_88_code) (maxL := 2) (ret := (some .int)) (by decide) rfl ?_
  intro p e s m args below meth c s₁ B hml hv
  obtain ⟨rfl, hsz, hZ, hP, hK, hD0⟩ := hv
  have hx := B.exec
  have hb := B.bytes
  have hr := B.returns
  have hts := atoms_spec (ws := wyM_count) B.pre
  have htx := fun w h => hts w (List.mem_cons_of_mem _ h)
  have hown : s.vm.findClass "ValueBenchModel" = some m.cls := findClass_of_methodNamed B.named
  have hlocks := B.notSynchronized
  subst hsz
  have hD := hD0.self (sz := s.heap.size)
  generalize hAe : va_A (xMw cT aM ad rd gd vad st []) s.heap.size = A at hD hZ ⊢
  have hA : ∀ q : Nat, s.heap.size ≤ q → A q := fun q h => by rw [← hAe]; exact Or.inr h
  have hS : va_S A s.heap s.heap [] := va_S.rf
  have hl := lv_entry ([.ref aM, .int x0]) (n := 2) (by simp [lg_sl, xvcat, xrscat, xcI, xcL, xcR, xcN])
  rw [show lv_args 0 [.ref aM, .int x0] = [(0, .ref aM), (1, .int x0)] from by simp [lv_args, xvcat, xrscat, xcI, xcL, xcR, xcN]] at hl
  rw [lg_entry_eq]
  generalize (lg_sl ([.ref aM, .int x0]) ++ List.replicate (2 - (lg_sl ([.ref aM, .int x0])).length) Slot.unset).toArray = ls at hl ⊢
  have hl : lv_has ls 2 [(0, .ref aM), (1, .int x0)] := hl
  have hN : xct st ≤ xct st := Nat.le_refl _
  unfold fM_count at hf
  refine lv_aload_n hx hb dM_count_0 rfl (lv_at hl 0 rfl) ?_
  refine lv_iconst (v := 0) hx hb dM_count_1 (by decide) ?_
  refine xm_put (v := .int 0) (W' := (xMw cT aM ad rd gd vad (xsI st 0 0) [])) (ty := .int) hx hb htx hown hK hP hD hS 0 (by decide) rfl (htx _ kw_5_87) rfl rfl (by decide +kernel) rfl rfl dM_count_2 (fun H locs hP hD hS => ?_)
  refine lv_iload_n hx hb dM_count_5 rfl (lv_at hl 1 rfl) ?_
  refine lv_if_lt (tgt := 14) hx hb dM_count_6 (by decide) (fun hc => ?_) (fun hc => ?_)
  · rw [if_pos hc] at hf
    refine lv_aload_n hx hb dM_count_14 rfl (lv_at hl 0 rfl) ?_
    refine lv_iconst (v := 1) hx hb dM_count_15 (by decide) ?_
    obtain ⟨o1, hq2, hf⟩ := xbind hf
    have hFc := xm_free hD hS hA
    refine va_calli (va_runV (C := "ValueBenchModel") (As := [.int 1]) (rest := []) ⟨hx, hb, hml, hown, htx⟩ (gM_fail l hl9 D cT aK aV H.size n aM ad rd gd vad (xsI st 0 0) (1 : Int32) o1 hq2) ⟨callB_of 1 htx (xw_goodC kw_5_195) rfl rfl rfl (htx _ kw_1_5) (htx _ kw_5_192) ⟨by decide, by decide, by decide +kernel⟩ ⟨Nat.le_of_ble_eq_true rfl, Nat.le_of_ble_eq_true rfl⟩, (htx _ kw_5_194), (htx _ kp_M_fail)⟩ ⟨xPre_blind, va_recv hK hP (ci := 5) rfl (q0 := 0) rfl, (fun U hU hW => ⟨rfl, xPre_of hZ hS hFc hP hD hK U hU hW⟩)⟩ rfl rfl hl.1 rfl (xm_room (Nat.le_of_ble_eq_true rfl)) dM_count_16 ⟨Nat.le_of_ble_eq_true rfl, Nat.le_of_ble_eq_true rfl⟩) hS (fun q _ h => hFc q h) hFc (fun r3 u9 t H1 locs ht hvm hr9 hB hz1 hk1 hS => ?_)
    obtain ⟨hP1, hK1, hD1⟩ := hB
    rw [ht] at hP1
    obtain ⟨hr9, hn4⟩ := hr9
    have hN : xct st ≤ xct o1.2 := Nat.le_trans hN hn4
    have hP : va_P D xcl (xMw cT aM ad rd gd vad o1.2 []) H1 := hP1
    have hD : va_D A (xMw cT aM ad rd gd vad o1.2 []) := hD1.weaken (fun k q _ h => hFc q.1 h)
    generalize H1 = H at hP hS ⊢
    rw [hr9]
    refine W.eq (g2 := F0 m 19 ls [.int o1.1]) (by first | rfl | (skip; rfl)) ?_
    obtain rfl := Option.some.inj hf
    exact W.iret (v := o1.1) hx hb hr (fun t ht hW => ⟨⟨o1.1, (), rfl, ⟨rfl, hN⟩, by rw [ht]; exact hP, va_K.moved hW.alike hK, hD⟩, hS.F ht⟩) hS.2.2 dM_count_19
  · rw [if_neg hc] at hf
    refine lv_iload_n hx hb dM_count_9 rfl (lv_at hl 1 rfl) ?_
    refine lv_iconst (v := 3) hx hb dM_count_10 (by decide) ?_
    refine lv_icmp_le (tgt := 20) hx hb dM_count_11 (by decide) (fun hc => ?_) (fun hc => ?_)
    · rw [if_pos hc] at hf
      refine lv_iload_n hx hb dM_count_20 rfl (lv_at hl 1 rfl) ?_
      refine lv_if_ne (tgt := 31) hx hb dM_count_21 (by decide) (fun hc => ?_) (fun hc => ?_)
      · rw [if_neg hc] at hf
        refine lv_iload_n hx hb dM_count_31 rfl (lv_at hl 1 rfl) ?_
        refine lv_iconst (v := 1) hx hb dM_count_32 (by decide) ?_
        refine lv_icmp_ne (tgt := 43) hx hb dM_count_33 (by decide) (fun hc => ?_) (fun hc => ?_)
        · rw [if_neg hc] at hf
          refine lv_iload_n hx hb dM_count_43 rfl (lv_at hl 1 rfl) ?_
          refine lv_iconst (v := 2) hx hb dM_count_44 (by decide) ?_
          refine lv_icmp_ne (tgt := 55) hx hb dM_count_45 (by decide) (fun hc => ?_) (fun hc => ?_)
          · rw [if_neg hc] at hf
            refine lv_aload_n hx hb dM_count_55 rfl (lv_at hl 0 rfl) ?_
            refine xm_get (v := .int (xsi st 30)) hx hb htx hown hK hP 30 (by decide) rfl (htx _ kw_5_117) rfl dM_count_56 ?_
            obtain rfl := Option.some.inj hf
            exact W.iret (v := (xsi st 30)) hx hb hr (fun t ht hW => ⟨⟨(xsi st 30), (), rfl, ⟨rfl, hN⟩, by rw [ht]; exact hP, va_K.moved hW.alike hK, hD⟩, hS.F ht⟩) hS.2.2 dM_count_59
          · rw [if_pos hc] at hf
            refine lv_aload_n hx hb dM_count_48 rfl (lv_at hl 0 rfl) ?_
            refine xm_get (v := .int (xsi st 31)) hx hb htx hown hK hP 31 (by decide) rfl (htx _ kw_5_118) rfl dM_count_49 ?_
            refine lv_goto (tgt := 59) hx hb dM_count_52 (by decide) ?_
            obtain rfl := Option.some.inj hf
            exact W.iret (v := (xsi st 31)) hx hb hr (fun t ht hW => ⟨⟨(xsi st 31), (), rfl, ⟨rfl, hN⟩, by rw [ht]; exact hP, va_K.moved hW.alike hK, hD⟩, hS.F ht⟩) hS.2.2 dM_count_59
        · rw [if_pos hc] at hf
          refine lv_aload_n hx hb dM_count_36 rfl (lv_at hl 0 rfl) ?_
          refine xm_get (v := .int (xsi st 29)) hx hb htx hown hK hP 29 (by decide) rfl (htx _ kw_5_116) rfl dM_count_37 ?_
          refine lv_goto (tgt := 59) hx hb dM_count_40 (by decide) ?_
          obtain rfl := Option.some.inj hf
          exact W.iret (v := (xsi st 29)) hx hb hr (fun t ht hW => ⟨⟨(xsi st 29), (), rfl, ⟨rfl, hN⟩, by rw [ht]; exact hP, va_K.moved hW.alike hK, hD⟩, hS.F ht⟩) hS.2.2 dM_count_59
      · rw [if_pos hc] at hf
        refine lv_aload_n hx hb dM_count_24 rfl (lv_at hl 0 rfl) ?_
        refine xm_get (v := .int (xsi st 27)) hx hb htx hown hK hP 27 (by decide) rfl (htx _ kw_5_114) rfl dM_count_25 ?_
        refine lv_goto (tgt := 59) hx hb dM_count_28 (by decide) ?_
        obtain rfl := Option.some.inj hf
        exact W.iret (v := (xsi st 27)) hx hb hr (fun t ht hW => ⟨⟨(xsi st 27), (), rfl, ⟨rfl, hN⟩, by rw [ht]; exact hP, va_K.moved hW.alike hK, hD⟩, hS.F ht⟩) hS.2.2 dM_count_59
    · rw [if_neg hc] at hf
      refine lv_aload_n hx hb dM_count_14 rfl (lv_at hl 0 rfl) ?_
      refine lv_iconst (v := 1) hx hb dM_count_15 (by decide) ?_
      obtain ⟨o1, hq2, hf⟩ := xbind hf
      have hFc := xm_free hD hS hA
      refine va_calli (va_runV (C := "ValueBenchModel") (As := [.int 1]) (rest := []) ⟨hx, hb, hml, hown, htx⟩ (gM_fail l hl9 D cT aK aV H.size n aM ad rd gd vad (xsI st 0 0) (1 : Int32) o1 hq2) ⟨callB_of 1 htx (xw_goodC kw_5_195) rfl rfl rfl (htx _ kw_1_5) (htx _ kw_5_192) ⟨by decide, by decide, by decide +kernel⟩ ⟨Nat.le_of_ble_eq_true rfl, Nat.le_of_ble_eq_true rfl⟩, (htx _ kw_5_194), (htx _ kp_M_fail)⟩ ⟨xPre_blind, va_recv hK hP (ci := 5) rfl (q0 := 0) rfl, (fun U hU hW => ⟨rfl, xPre_of hZ hS hFc hP hD hK U hU hW⟩)⟩ rfl rfl hl.1 rfl (xm_room (Nat.le_of_ble_eq_true rfl)) dM_count_16 ⟨Nat.le_of_ble_eq_true rfl, Nat.le_of_ble_eq_true rfl⟩) hS (fun q _ h => hFc q h) hFc (fun r3 u9 t H1 locs ht hvm hr9 hB hz1 hk1 hS => ?_)
      obtain ⟨hP1, hK1, hD1⟩ := hB
      rw [ht] at hP1
      obtain ⟨hr9, hn4⟩ := hr9
      have hN : xct st ≤ xct o1.2 := Nat.le_trans hN hn4
      have hP : va_P D xcl (xMw cT aM ad rd gd vad o1.2 []) H1 := hP1
      have hD : va_D A (xMw cT aM ad rd gd vad o1.2 []) := hD1.weaken (fun k q _ h => hFc q.1 h)
      generalize H1 = H at hP hS ⊢
      rw [hr9]
      refine W.eq (g2 := F0 m 19 ls [.int o1.1]) (by first | rfl | (skip; rfl)) ?_
      obtain rfl := Option.some.inj hf
      exact W.iret (v := o1.1) hx hb hr (fun t ht hW => ⟨⟨o1.1, (), rfl, ⟨rfl, hN⟩, by rw [ht]; exact hP, va_K.moved hW.alike hK, hD⟩, hS.F ht⟩) hS.2.2 dM_count_19
