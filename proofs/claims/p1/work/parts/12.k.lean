set_option maxHeartbeats 400000000 in
set_option maxRecDepth 100000 in
theorem cM_same0_2 (l : Launch) (hl9 : l.stackTraces = false) (D : va_G) (cT : Nat → ClassId) (aK aV : Nat → Nat) (sz : Nat) (a0 : Nat) (x1 : Int32) (x6 : Int32) (v8 : Value) (v9 : Value) (v10 : Value) (v11 : Value) (v12 : Value) (v13 : Value) (v14 : Value) (v15 : Value) (v16 : Value) (v17 : Value) (v18 : Value) (v19 : Value) (v20 : Value) (v21 : Value) (v22 : Value) (v23 : Value) (v24 : Value) (v25 : Value) (v26 : Value) (v27 : Value) (v28 : Value) (v29 : Value) (v30 : Value) (v31 : Value) (v32 : Value) (v33 : Value) (v34 : Value) (v35 : Value) (v36 : Value) (v37 : Value) (v38 : Value) (v39 : Value) (h2 : ¬ x1 < 0) (h3 : ¬ 7 < x1) (h4 : x1 ≤ 7) (h5 : vp_in x1 8) (h7 : x6 < 0) : xMet l yM_same0 wyM_same0 2 0 0 40 D cT aK aV sz [.ref a0, .int x1, .int x6] [(a0, .inr (5, [v8, v9, v10, v11, v12, v13, v14, v15, v16, v17, v18, v19, v20, v21, v22, v23, v24, v25, v26, v27, v28, v29, v30, v31, v32, v33, v34, v35, v36, v37, v38, v39]))] (fun A => va_Qi (fun (r : Int32) (_ : Unit) => r = 0) (fun _ t => xB D xcl cT A [(a0, .inr (5, [.int 1, v9, .int 0, v11, .int 0, v13, v14, .int 0, v16, .int 0, v18, v19, .int 0, v21, v22, v23, v24, v25, v26, v27, v28, v29, .int 0, .int 1000000000, v32, v33, v34, v35, v36, v37, v38, v39]))] t) A) := by
  refine Met.ofW (cc := prog_13_method_86_code) (maxL := 3) (ret := (some .boolean)) (by decide) rfl ?_
  intro p e s m args below meth c s₁ B hml hv
  obtain ⟨rfl, hsz, hZ, hP, hK, hD0⟩ := hv
  have hx := B.exec
  have hb := B.bytes
  have hr := B.returns
  have hts := atoms_spec (ws := wyM_same0) B.pre
  have htx := fun w h => hts w (List.mem_cons_of_mem _ h)
  have hown : s.vm.findClass "ValueBenchModel" = some m.cls := findClass_of_methodNamed B.named
  have hlocks := B.notSynchronized
  subst hsz
  have hD := hD0.self (sz := s.heap.size)
  generalize hAe : va_A [(a0, .inr (5, [v8, v9, v10, v11, v12, v13, v14, v15, v16, v17, v18, v19, v20, v21, v22, v23, v24, v25, v26, v27, v28, v29, v30, v31, v32, v33, v34, v35, v36, v37, v38, v39]))] s.heap.size = A at hD hZ ⊢
  have hA : ∀ q : Nat, s.heap.size ≤ q → A q := fun q h => by rw [← hAe]; exact Or.inr h
  have hS : va_S A s.heap s.heap [] := va_S.rf
  have hP : va_P D xcl [(a0, .inr (5, [v8, v9, v10, v11, v12, v13, v14, v15, v16, v17, v18, v19, v20, v21, v22, v23, v24, v25, v26, v27, v28, v29, v30, v31, v32, v33, v34, v35, v36, v37, v38, v39]))] s.heap := hP
  have hl := lv_entry ([.ref a0, .int x1, .int x6]) (n := 3) (Nat.le_of_ble_eq_true rfl)
  rw [lg_entry_eq]
  generalize (lg_sl ([.ref a0, .int x1, .int x6]) ++ List.replicate (3 - (lg_sl ([.ref a0, .int x1, .int x6])).length) Slot.unset).toArray = ls at hl ⊢
  have hl : lv_has ls 3 [(0, .ref a0), (1, .int x1), (2, .int x6)] := hl
  refine lv_aload_n hx hb dM_same0_0 rfl (lv_at hl 0 rfl) ?_
  obtain ⟨hPc, hDc, hFc⟩ := xcut (wc := [(a0, .inr (5, [v8, v9, v10, v11, v12, v13, v14, v15, v16, v17, v18, v19, v20, v21, v22, v23, v24, v25, v26, v27, v28, v29, v30, v31, v32, v33, v34, v35, v36, v37, v38, v39]))]) hP hD hS hA [0] rfl rfl (by decide)
  refine va_callv (va_runV (C := "ValueBenchModel") (As := []) (rest := []) ⟨hx, hb, hml, hown, htx⟩ (cM_begin_0 l hl9 D cT aK aV s.heap.size a0 v8 v9 v10 v11 v12 v13 v14 v15 v16 v17 v18 v19 v20 v21 v22 v23 v24 v25 v26 v27 v28 v29 v30 v31 v32 v33 v34 v35 v36 v37 v38 v39) ⟨callB_of 0 htx (xw_goodC kw_5_209) rfl rfl rfl (htx _ kw_1_5) (htx _ kw_5_206) ⟨by decide, by decide, by decide +kernel⟩ ⟨Nat.le_of_ble_eq_true rfl, Nat.le_of_ble_eq_true rfl⟩, (htx _ kw_5_208), (htx _ kp_M_begin)⟩ ⟨xPre_blind, va_recv hK hP (ci := 5) rfl (q0 := 0) rfl, (fun U hU hW => ⟨rfl, xPre_of hZ hS hFc hPc hDc hK U hU hW⟩)⟩ rfl rfl hl.1 rfl (lv_room (Nat.le_of_ble_eq_true rfl)) dM_same0_1 ⟨Nat.le_of_ble_eq_true rfl, Nat.le_of_ble_eq_true rfl⟩) hS (fun q _ h => hFc q h) hFc (fun u9 t H1 locs ht hvm hr9 hB hz1 hk1 hS => ?_)
  obtain ⟨hP1, hK1, hD1⟩ := hB
  rw [ht] at hP1
  obtain ⟨hP, hD⟩ := xjoin (W := [(a0, .inr (5, [.int 0, v9, .int 0, v11, .int 0, v13, v14, .int 0, v16, .int 0, v18, v19, .int 0, v21, v22, v23, v24, v25, v26, v27, v28, v29, .int 0, .int 1000000000, v32, v33, v34, v35, v36, v37, v38, v39]))]) hP hD [0] [] 0 rfl rfl (by decide) (by decide) hk1 hFc hP1 hD1
  generalize H1 = H at hP hS ⊢
  refine lv_aload_n hx hb dM_same0_4 rfl (lv_at hl 0 rfl) ?_
  refine lv_iload_n hx hb dM_same0_5 rfl (lv_at hl 1 rfl) ?_
  obtain ⟨hPc, hDc, hFc⟩ := xcut (wc := []) hP hD hS hA [] rfl rfl (by decide)
  refine va_calli (va_runV (C := "ValueBenchModel") (As := [.int x1]) (rest := []) ⟨hx, hb, hml, hown, htx⟩ (cM_out_2 l hl9 D cT aK aV H.size a0 x1 h2 h3 h4 h5) ⟨callB_of 1 htx (xw_goodC kw_5_217) rfl rfl rfl (htx _ kw_1_5) (htx _ kw_5_214) ⟨by decide, by decide, by decide +kernel⟩ ⟨Nat.le_of_ble_eq_true rfl, Nat.le_of_ble_eq_true rfl⟩, (htx _ kw_5_216), (htx _ kp_M_out)⟩ ⟨xPre_blind, va_recv hK hP (ci := 5) rfl (q0 := 0) rfl, (fun U hU hW => ⟨rfl, xPre_of hZ hS hFc hPc hDc hK U hU hW⟩)⟩ rfl rfl hl.1 rfl (lv_room (Nat.le_of_ble_eq_true rfl)) dM_same0_6 ⟨Nat.le_of_ble_eq_true rfl, Nat.le_of_ble_eq_true rfl⟩) hS (fun q _ h => hFc q h) hFc (fun r1 u9 t H1 locs ht hvm hr9 hB hz1 hk1 hS => ?_)
  obtain ⟨hP1, hK1, hD1⟩ := hB
  rw [ht] at hP1
  obtain ⟨hP, hD⟩ := xjoin (W := [(a0, .inr (5, [.int 0, v9, .int 0, v11, .int 0, v13, v14, .int 0, v16, .int 0, v18, v19, .int 0, v21, v22, v23, v24, v25, v26, v27, v28, v29, .int 0, .int 1000000000, v32, v33, v34, v35, v36, v37, v38, v39]))]) hP hD [] [0] 1 rfl rfl (by decide) (by decide) hk1 hFc hP1 hD1
  generalize H1 = H at hP hS ⊢
  rw [hr9]
  refine W.eq (g2 := F0 m 9 ls [.int 0]) rfl ?_
  refine lv_if_ne (tgt := 20) hx hb dM_same0_9 (by decide) (fun h => ((by revert h; decide : False)).elim) (fun _ => ?_)
  refine lv_aload_n hx hb dM_same0_12 rfl (lv_at hl 0 rfl) ?_
  refine lv_iload_n hx hb dM_same0_13 rfl (lv_at hl 2 rfl) ?_
  obtain ⟨hPc, hDc, hFc⟩ := xcut (wc := []) hP hD hS hA [] rfl rfl (by decide)
  refine va_calli (va_runV (C := "ValueBenchModel") (As := [.int x6]) (rest := []) ⟨hx, hb, hml, hown, htx⟩ (cM_out_0 l hl9 D cT aK aV H.size a0 x6 h7) ⟨callB_of 1 htx (xw_goodC kw_5_217) rfl rfl rfl (htx _ kw_1_5) (htx _ kw_5_214) ⟨by decide, by decide, by decide +kernel⟩ ⟨Nat.le_of_ble_eq_true rfl, Nat.le_of_ble_eq_true rfl⟩, (htx _ kw_5_216), (htx _ kp_M_out)⟩ ⟨xPre_blind, va_recv hK hP (ci := 5) rfl (q0 := 0) rfl, (fun U hU hW => ⟨rfl, xPre_of hZ hS hFc hPc hDc hK U hU hW⟩)⟩ rfl rfl hl.1 rfl (lv_room (Nat.le_of_ble_eq_true rfl)) dM_same0_14 ⟨Nat.le_of_ble_eq_true rfl, Nat.le_of_ble_eq_true rfl⟩) hS (fun q _ h => hFc q h) hFc (fun r2 u9 t H1 locs ht hvm hr9 hB hz1 hk1 hS => ?_)
  obtain ⟨hP1, hK1, hD1⟩ := hB
  rw [ht] at hP1
  obtain ⟨hP, hD⟩ := xjoin (W := [(a0, .inr (5, [.int 0, v9, .int 0, v11, .int 0, v13, v14, .int 0, v16, .int 0, v18, v19, .int 0, v21, v22, v23, v24, v25, v26, v27, v28, v29, .int 0, .int 1000000000, v32, v33, v34, v35, v36, v37, v38, v39]))]) hP hD [] [0] 1 rfl rfl (by decide) (by decide) hk1 hFc hP1 hD1
  generalize H1 = H at hP hS ⊢
  rw [hr9]
  refine W.eq (g2 := F0 m 17 ls [.int 1]) rfl ?_
  refine lv_if_eq (tgt := 34) hx hb dM_same0_17 (by decide) (fun h => ((by revert h; decide : False)).elim) (fun _ => ?_)
  refine lv_aload_n hx hb dM_same0_20 rfl (lv_at hl 0 rfl) ?_
  refine lv_iconst (v := 1) hx hb dM_same0_21 (by decide) ?_
  obtain ⟨hPc, hDc, hFc⟩ := xcut (wc := [(a0, .inr (5, [.int 0, v9, .int 0, v11, .int 0, v13, v14, .int 0, v16, .int 0, v18, v19, .int 0, v21, v22, v23, v24, v25, v26, v27, v28, v29, .int 0, .int 1000000000, v32, v33, v34, v35, v36, v37, v38, v39]))]) hP hD hS hA [0] rfl rfl (by decide)
  refine va_calli (va_runV (C := "ValueBenchModel") (As := [.int 1]) (rest := []) ⟨hx, hb, hml, hown, htx⟩ (cM_fail_0 l hl9 D cT aK aV H.size a0 (.int 0) v9 (.int 0) v11 (.int 0) v13 v14 (.int 0) v16 (.int 0) v18 v19 (.int 0) v21 v22 v23 v24 v25 v26 v27 v28 v29 (.int 0) (.int 1000000000) v32 v33 v34 v35 v36 v37 v38 v39) ⟨callB_of 1 htx (xw_goodC kw_5_195) rfl rfl rfl (htx _ kw_1_5) (htx _ kw_5_192) ⟨by decide, by decide, by decide +kernel⟩ ⟨Nat.le_of_ble_eq_true rfl, Nat.le_of_ble_eq_true rfl⟩, (htx _ kw_5_194), (htx _ kp_M_fail)⟩ ⟨xPre_blind, va_recv hK hP (ci := 5) rfl (q0 := 0) rfl, (fun U hU hW => ⟨rfl, xPre_of hZ hS hFc hPc hDc hK U hU hW⟩)⟩ rfl rfl hl.1 rfl (lv_room (Nat.le_of_ble_eq_true rfl)) dM_same0_22 ⟨Nat.le_of_ble_eq_true rfl, Nat.le_of_ble_eq_true rfl⟩) hS (fun q _ h => hFc q h) hFc (fun r3 u9 t H1 locs ht hvm hr9 hB hz1 hk1 hS => ?_)
  obtain ⟨hP1, hK1, hD1⟩ := hB
  rw [ht] at hP1
  obtain ⟨hP, hD⟩ := xjoin (W := [(a0, .inr (5, [.int 1, v9, .int 0, v11, .int 0, v13, v14, .int 0, v16, .int 0, v18, v19, .int 0, v21, v22, v23, v24, v25, v26, v27, v28, v29, .int 0, .int 1000000000, v32, v33, v34, v35, v36, v37, v38, v39]))]) hP hD [0] [] 0 rfl rfl (by decide) (by decide) hk1 hFc hP1 hD1
  generalize H1 = H at hP hS ⊢
  rw [hr9]
  refine W.eq (g2 := F0 m 25 ls [.int 0]) rfl ?_
  refine lv_if_le (tgt := 32) hx hb dM_same0_25 (by decide) (fun _ => ?_) (fun h => ((by revert h; decide : False)).elim)
  refine lv_iconst (v := 0) hx hb dM_same0_32 (by decide) ?_
  obtain ⟨hP9, hD9⟩ := xsub (wc := [(a0, .inr (5, [.int 1, v9, .int 0, v11, .int 0, v13, v14, .int 0, v16, .int 0, v18, v19, .int 0, v21, v22, v23, v24, v25, v26, v27, v28, v29, .int 0, .int 1000000000, v32, v33, v34, v35, v36, v37, v38, v39]))]) hP hD [0] rfl rfl (by decide)
  refine W.widen (k := 0) (n := 0) (Nat.le_of_ble_eq_true rfl) (Nat.le_of_ble_eq_true rfl) ?_
  exact W.zret (v := 0) hx hb hr rfl (fun t ht hW => ⟨⟨0, (), rfl, rfl, by rw [ht]; exact hP9, va_K.moved hW.alike hK, hD9⟩, hS.F ht⟩) hS.2.2 dM_same0_33
set_option maxHeartbeats 400000000 in
set_option maxRecDepth 100000 in
theorem cB_same_3 (l : Launch) (hl9 : l.stackTraces = false) (D : va_G) (cT : Nat → ClassId) (aK aV : Nat → Nat) (sz : Nat) (b0 : Nat) (x1 : Int32) (x6 : Int32) (h2 : ¬ x1 < 0) (h3 : ¬ 7 < x1) (h4 : x1 ≤ 7) (h5 : vp_in x1 8) (h7 : ¬ x6 < 0) (h8 : 7 < x6) (h9 : ¬ x6 ≤ 7) : xMetX l yB_same wyB_same 7 1 6 120 D cT aK aV sz [.ref b0, .int x1, .int x6] [] "java/lang/IllegalArgumentException" (fun A t => xB D xcl cT A [] t) := by
  refine vx_ofW (cc := prog_1_method_8_code) (maxL := 3) (ret := (some .boolean)) (by decide) rfl ?_
  intro p e s m args below meth c s₁ B hml hne hv
  obtain ⟨rfl, hsz, hZ, hP, hK, hD0⟩ := hv
  have hx := B.exec
  have hb := B.bytes
  have hr := B.returns
  have hts := atoms_spec (ws := wyB_same) B.pre
  have htx := fun w h => hts w (List.mem_cons_of_mem _ h)
  have hown : s.vm.findClass "ValueBench" = some m.cls := findClass_of_methodNamed B.named
  have hlocks := B.notSynchronized
  subst hsz
  have hD := hD0.self (sz := s.heap.size)
  generalize hAe : va_A [] s.heap.size = A at hD hZ ⊢
  have hA : ∀ q : Nat, s.heap.size ≤ q → A q := fun q h => by rw [← hAe]; exact Or.inr h
  have hS : va_S A s.heap s.heap [] := va_S.rf
  have hP : va_P D xcl [] s.heap := hP
  have hl := lv_entry ([.ref b0, .int x1, .int x6]) (n := 3) (Nat.le_of_ble_eq_true rfl)
  rw [lg_entry_eq]
  generalize (lg_sl ([.ref b0, .int x1, .int x6]) ++ List.replicate (3 - (lg_sl ([.ref b0, .int x1, .int x6])).length) Slot.unset).toArray = ls at hl ⊢
  have hl : lv_has ls 3 [(0, .ref b0), (1, .int x1), (2, .int x6)] := hl
  refine lv_iload_n hx hb dB_same_0 rfl (lv_at hl 1 rfl) ?_
  obtain ⟨hPc, hDc, hFc⟩ := xcut (wc := []) hP hD hS hA [] rfl rfl (by decide)
  refine va_calli (va_runS (As := [.int x1]) (rest := []) ⟨hx, hb, hml, hown, htx⟩ (cB_isRegister_2 l hl9 D cT aK aV s.heap.size x1 h2 h3 h4 h5) ⟨callB_of 1 htx (xw_goodC kw_2_18) rfl rfl rfl (htx _ kw_1_1) (htx _ kw_2_16) ⟨by decide, by decide, by decide +kernel⟩ ⟨Nat.le_of_ble_eq_true rfl, Nat.le_of_ble_eq_true rfl⟩, htx _ kw_2_17⟩ ⟨xPre_blind, (fun U hU hW => ⟨rfl, xPre_of hZ hS hFc hPc hDc hK U hU hW⟩)⟩ rfl rfl hl.1 rfl (lv_room (Nat.le_of_ble_eq_true rfl)) dB_same_1 ⟨Nat.le_of_ble_eq_true rfl, Nat.le_of_ble_eq_true rfl⟩) hS (fun q _ h => hFc q h) hFc (fun r1 u9 t H1 locs ht hvm hr9 hB hz1 hk1 hS => ?_)
  obtain ⟨hP1, hK1, hD1⟩ := hB
  rw [ht] at hP1
  obtain ⟨hP, hD⟩ := xjoin (W := []) hP hD [] [] 0 rfl rfl (by decide) (by decide) hk1 hFc hP1 hD1
  generalize H1 = H at hP hS ⊢
  rw [hr9]
  refine W.eq (g2 := F0 m 4 ls [.int 1]) rfl ?_
  refine lv_if_eq (tgt := 18) hx hb dB_same_4 (by decide) (fun h => ((by revert h; decide : False)).elim) (fun _ => ?_)
  refine lv_iload_n hx hb dB_same_7 rfl (lv_at hl 2 rfl) ?_
  obtain ⟨hPc, hDc, hFc⟩ := xcut (wc := []) hP hD hS hA [] rfl rfl (by decide)
  refine va_calli (va_runS (As := [.int x6]) (rest := []) ⟨hx, hb, hml, hown, htx⟩ (cB_isRegister_1 l hl9 D cT aK aV H.size x6 h7 h8 h9) ⟨callB_of 1 htx (xw_goodC kw_2_18) rfl rfl rfl (htx _ kw_1_1) (htx _ kw_2_16) ⟨by decide, by decide, by decide +kernel⟩ ⟨Nat.le_of_ble_eq_true rfl, Nat.le_of_ble_eq_true rfl⟩, htx _ kw_2_17⟩ ⟨xPre_blind, (fun U hU hW => ⟨rfl, xPre_of hZ hS hFc hPc hDc hK U hU hW⟩)⟩ rfl rfl hl.1 rfl (lv_room (Nat.le_of_ble_eq_true rfl)) dB_same_8 ⟨Nat.le_of_ble_eq_true rfl, Nat.le_of_ble_eq_true rfl⟩) hS (fun q _ h => hFc q h) hFc (fun r2 u9 t H1 locs ht hvm hr9 hB hz1 hk1 hS => ?_)
  obtain ⟨hP1, hK1, hD1⟩ := hB
  rw [ht] at hP1
  obtain ⟨hP, hD⟩ := xjoin (W := []) hP hD [] [] 0 rfl rfl (by decide) (by decide) hk1 hFc hP1 hD1
  generalize H1 = H at hP hS ⊢
  rw [hr9]
  refine W.eq (g2 := F0 m 11 ls [.int 0]) rfl ?_
  refine lv_if_eq (tgt := 18) hx hb dB_same_11 (by decide) (fun _ => ?_) (fun h => ((by revert h; decide : False)).elim)
  refine lv_iconst (v := 0) hx hb dB_same_18 (by decide) ?_
  obtain ⟨hPc, hDc, hFc⟩ := xcut (wc := []) hP hD hS hA [] rfl rfl (by decide)
  refine xx_thr (vx_runS (As := [.int 0]) (rest := []) ⟨hx, hb, hml, hown, htx⟩ (cB_demand_0 l hl9 D cT aK aV H.size) ⟨callB_of 1 htx (xw_goodC kw_1_221) rfl rfl rfl (htx _ kw_1_1) (htx _ kw_1_219) ⟨by decide, by decide, by decide +kernel⟩ ⟨Nat.le_of_ble_eq_true rfl, Nat.le_of_ble_eq_true rfl⟩, htx _ kw_1_220⟩ ⟨xPre_blind, (fun U hU hW => ⟨rfl, xPre_of hZ hS hFc hPc hDc hK U hU hW⟩)⟩ rfl rfl hl.1 rfl (lv_room (Nat.le_of_ble_eq_true rfl)) dB_same_19 ⟨Nat.le_of_ble_eq_true rfl, Nat.le_of_ble_eq_true rfl⟩) hS hFc (fun q _ h => hFc q h) (fun E ce q9 u9 t H1 locs ht hvm _ hB hz1 hk1 hS hce hcv hcl => ?_)
  obtain ⟨rfl, hP1, hK1, hD1⟩ := hB
  rw [ht] at hP1
  obtain ⟨hP, hD⟩ := xjoin (W := []) hP hD [] [] 0 rfl rfl (by decide) (by decide) hk1 hFc hP1 hD1
  generalize H1 = H at hP hS hce ⊢
  obtain ⟨hP9, hD9⟩ := xsub (wc := []) hP hD [] rfl rfl (by decide)
  exact vx_out (E := "java/lang/IllegalArgumentException") (fun x h => (hne x h).elim) hlocks hce hcv hcl (fun t ht ha => ⟨(), trivial, ⟨rfl, by rw [ht]; exact hP9, va_K.moved ha hK, hD9⟩, hS.F ht⟩) hS.2.2 (Nat.le_of_ble_eq_true rfl) (Nat.le_of_ble_eq_true rfl)
set_option maxHeartbeats 400000000 in
set_option maxRecDepth 100000 in
theorem cL_same_3 (l : Launch) (hl9 : l.stackTraces = false) (D : va_G) (cT : Nat → ClassId) (aK aV : Nat → Nat) (sz : Nat) (a0 : Nat) (x1 : Int32) (x6 : Int32) (b10 : Nat) (v11 : Value) (v12 : Value) (v13 : Value) (v14 : Value) (v15 : Value) (v16 : Value) (v17 : Value) (v18 : Value) (h2 : ¬ x1 < 0) (h3 : ¬ 7 < x1) (h4 : x1 ≤ 7) (h5 : vp_in x1 8) (h7 : ¬ x6 < 0) (h8 : 7 < x6) (h9 : ¬ x6 ≤ 7) : xMet l yL_same wyL_same 8 1 6 142 D cT aK aV sz [.ref a0, .int x1, .int x6, .ref b10] [(a0, .inr (0, [v11, v12, v13, v14, v15, v16, v17, v18]))] (fun A => va_Qi (fun (r : Int32) (_ : Unit) => r = 1) (fun _ t => xB D xcl cT A [(a0, .inr (0, [v11, v12, v13, v14, v15, v16, v17, v18]))] t) A) := by
  refine va_MetW (cc := method_9_code) (maxL := 5) (ret := (some .int)) (hh := [(0, 17, 20, 19)]) (by decide) rfl ?_
  intro p e s m args below meth c s₁ B hml hv
  obtain ⟨rfl, hsz, hZ, hP, hK, hD0⟩ := hv
  have hx := B.exec
  have hb := B.bytes
  have hr := B.returns
  have hts := atoms_spec (ws := wyL_same) B.pre
  have htx := fun w h => hts w (List.mem_cons_of_mem _ h)
  have hown : s.vm.findClass "ValueBenchLaw" = some m.cls := findClass_of_methodNamed B.named
  have hlocks := B.notSynchronized
  subst hsz
  have hD := hD0.self (sz := s.heap.size)
  generalize hAe : va_A [(a0, .inr (0, [v11, v12, v13, v14, v15, v16, v17, v18]))] s.heap.size = A at hD hZ ⊢
  have hA : ∀ q : Nat, s.heap.size ≤ q → A q := fun q h => by rw [← hAe]; exact Or.inr h
  have hS : va_S A s.heap s.heap [] := va_S.rf
  have hP : va_P D xcl [(a0, .inr (0, [v11, v12, v13, v14, v15, v16, v17, v18]))] s.heap := hP
  have hl := lv_entry ([.ref a0, .int x1, .int x6, .ref b10]) (n := 5) (Nat.le_of_ble_eq_true rfl)
  rw [lg_entry_eq]
  generalize (lg_sl ([.ref a0, .int x1, .int x6, .ref b10]) ++ List.replicate (5 - (lg_sl ([.ref a0, .int x1, .int x6, .ref b10])).length) Slot.unset).toArray = ls at hl ⊢
  have hl : lv_has ls 5 [(0, .ref a0), (1, .int x1), (2, .int x6), (3, .ref b10)] := hl
  have htab := vx_table (x := yL_same) B (hts _ List.mem_cons_self)
  refine lv_aload_n hx hb dL_same_0 rfl (lv_at hl 3 rfl) ?_
  refine lv_iconst (v := 0) hx hb dL_same_1 (by decide) ?_
  refine lv_aload_n hx hb dL_same_2 rfl (lv_at hl 0 rfl) ?_
  refine lv_iload_n hx hb dL_same_3 rfl (lv_at hl 1 rfl) ?_
  refine lv_iload_n hx hb dL_same_4 rfl (lv_at hl 2 rfl) ?_
  obtain ⟨hPc, hDc, hFc⟩ := xcut (wc := []) hP hD hS hA [] rfl rfl (by decide)
  refine xx_thr (vx_runV (C := "ValueBench") (As := [.int x1, .int x6]) (rest := [.int 0, .ref b10]) ⟨hx, hb, hml, hown, htx⟩ (cB_same_3 l hl9 D cT aK aV s.heap.size a0 x1 x6 h2 h3 h4 h5 h7 h8 h9) ⟨callB_of 2 htx (xw_goodC kw_4_17) rfl rfl rfl (htx _ kw_1_1) (htx _ kw_4_14) ⟨by decide, by decide, by decide +kernel⟩ ⟨Nat.le_of_ble_eq_true rfl, Nat.le_of_ble_eq_true rfl⟩, (htx _ kw_4_15), (htx _ kw_4_16)⟩ ⟨xPre_blind, va_recv hK hP (ci := 0) rfl (q0 := 0) rfl, (fun U hU hW => ⟨rfl, xPre_of hZ hS hFc hPc hDc hK U hU hW⟩)⟩ rfl rfl hl.1 rfl (lv_room (Nat.le_of_ble_eq_true rfl)) dL_same_5 ⟨Nat.le_of_ble_eq_true rfl, Nat.le_of_ble_eq_true rfl⟩) hS hFc (fun q _ h => hFc q h) (fun E ce q9 u9 t H1 locs ht hvm _ hB hz1 hk1 hS hce hcv hcl => ?_)
  obtain ⟨rfl, hP1, hK1, hD1⟩ := hB
  rw [ht] at hP1
  obtain ⟨hP, hD⟩ := xjoin (W := [(a0, .inr (0, [v11, v12, v13, v14, v15, v16, v17, v18]))]) hP hD [] [0] 1 rfl rfl (by decide) (by decide) hk1 hFc hP1 hD1
  generalize H1 = H at hP hS hce ⊢
  refine vx_catch (own := "ValueBenchLaw") (name := "java/lang/IllegalArgumentException") (E := "java/lang/IllegalArgumentException") hown [] ⟨0, 17, 20, 19⟩ [] (by rw [htab]; rfl) (fun z hz => nomatch hz) (by decide) (by decide) (htx _ kw_1_211) ((hZ.2.2.2.2.2.1 "java/lang/IllegalArgumentException" (List.mem_of_getElem? (i := 1) rfl)).use rfl) hce hcv hcl ?_
  refine lv_astore (lv' := [(4, .ref q9), (0, .ref a0), (1, .int x1), (2, .int x6), (3, .ref b10)]) hx hb dL_same_20 hl (by decide) rfl (fun ls hl => ?_)
  refine lv_iconst (v := 1) hx hb dL_same_22 (by decide) ?_
  obtain ⟨hP9, hD9⟩ := xsub (wc := [(a0, .inr (0, [v11, v12, v13, v14, v15, v16, v17, v18]))]) hP hD [0] rfl rfl (by decide)
  refine W.widen (k := 1) (n := 6) (Nat.le_of_ble_eq_true rfl) (Nat.le_of_ble_eq_true rfl) ?_
  exact W.iret (v := 1) hx hb hr (fun t ht hW => ⟨⟨1, (), rfl, rfl, by rw [ht]; exact hP9, va_K.moved hW.alike hK, hD9⟩, hS.F ht⟩) hS.2.2 dL_same_23
set_option maxHeartbeats 400000000 in
set_option maxRecDepth 100000 in
theorem cM_same0_3 (l : Launch) (hl9 : l.stackTraces = false) (D : va_G) (cT : Nat → ClassId) (aK aV : Nat → Nat) (sz : Nat) (a0 : Nat) (x1 : Int32) (x6 : Int32) (v10 : Value) (v11 : Value) (v12 : Value) (v13 : Value) (v14 : Value) (v15 : Value) (v16 : Value) (v17 : Value) (v18 : Value) (v19 : Value) (v20 : Value) (v21 : Value) (v22 : Value) (v23 : Value) (v24 : Value) (v25 : Value) (v26 : Value) (v27 : Value) (v28 : Value) (v29 : Value) (v30 : Value) (v31 : Value) (v32 : Value) (v33 : Value) (v34 : Value) (v35 : Value) (v36 : Value) (v37 : Value) (v38 : Value) (v39 : Value) (v40 : Value) (v41 : Value) (h2 : ¬ x1 < 0) (h3 : ¬ 7 < x1) (h4 : x1 ≤ 7) (h5 : vp_in x1 8) (h7 : ¬ x6 < 0) (h8 : 7 < x6) (h9 : ¬ x6 ≤ 7) : xMet l yM_same0 wyM_same0 2 0 0 40 D cT aK aV sz [.ref a0, .int x1, .int x6] [(a0, .inr (5, [v10, v11, v12, v13, v14, v15, v16, v17, v18, v19, v20, v21, v22, v23, v24, v25, v26, v27, v28, v29, v30, v31, v32, v33, v34, v35, v36, v37, v38, v39, v40, v41]))] (fun A => va_Qi (fun (r : Int32) (_ : Unit) => r = 0) (fun _ t => xB D xcl cT A [(a0, .inr (5, [.int 1, v11, .int 0, v13, .int 0, v15, v16, .int 0, v18, .int 0, v20, v21, .int 0, v23, v24, v25, v26, v27, v28, v29, v30, v31, .int 0, .int 1000000000, v34, v35, v36, v37, v38, v39, v40, v41]))] t) A) := by
  refine Met.ofW (cc := prog_13_method_86_code) (maxL := 3) (ret := (some .boolean)) (by decide) rfl ?_
  intro p e s m args below meth c s₁ B hml hv
  obtain ⟨rfl, hsz, hZ, hP, hK, hD0⟩ := hv
  have hx := B.exec
  have hb := B.bytes
  have hr := B.returns
  have hts := atoms_spec (ws := wyM_same0) B.pre
  have htx := fun w h => hts w (List.mem_cons_of_mem _ h)
  have hown : s.vm.findClass "ValueBenchModel" = some m.cls := findClass_of_methodNamed B.named
  have hlocks := B.notSynchronized
  subst hsz
  have hD := hD0.self (sz := s.heap.size)
  generalize hAe : va_A [(a0, .inr (5, [v10, v11, v12, v13, v14, v15, v16, v17, v18, v19, v20, v21, v22, v23, v24, v25, v26, v27, v28, v29, v30, v31, v32, v33, v34, v35, v36, v37, v38, v39, v40, v41]))] s.heap.size = A at hD hZ ⊢
  have hA : ∀ q : Nat, s.heap.size ≤ q → A q := fun q h => by rw [← hAe]; exact Or.inr h
  have hS : va_S A s.heap s.heap [] := va_S.rf
  have hP : va_P D xcl [(a0, .inr (5, [v10, v11, v12, v13, v14, v15, v16, v17, v18, v19, v20, v21, v22, v23, v24, v25, v26, v27, v28, v29, v30, v31, v32, v33, v34, v35, v36, v37, v38, v39, v40, v41]))] s.heap := hP
  have hl := lv_entry ([.ref a0, .int x1, .int x6]) (n := 3) (Nat.le_of_ble_eq_true rfl)
  rw [lg_entry_eq]
  generalize (lg_sl ([.ref a0, .int x1, .int x6]) ++ List.replicate (3 - (lg_sl ([.ref a0, .int x1, .int x6])).length) Slot.unset).toArray = ls at hl ⊢
  have hl : lv_has ls 3 [(0, .ref a0), (1, .int x1), (2, .int x6)] := hl
  refine lv_aload_n hx hb dM_same0_0 rfl (lv_at hl 0 rfl) ?_
  obtain ⟨hPc, hDc, hFc⟩ := xcut (wc := [(a0, .inr (5, [v10, v11, v12, v13, v14, v15, v16, v17, v18, v19, v20, v21, v22, v23, v24, v25, v26, v27, v28, v29, v30, v31, v32, v33, v34, v35, v36, v37, v38, v39, v40, v41]))]) hP hD hS hA [0] rfl rfl (by decide)
  refine va_callv (va_runV (C := "ValueBenchModel") (As := []) (rest := []) ⟨hx, hb, hml, hown, htx⟩ (cM_begin_0 l hl9 D cT aK aV s.heap.size a0 v10 v11 v12 v13 v14 v15 v16 v17 v18 v19 v20 v21 v22 v23 v24 v25 v26 v27 v28 v29 v30 v31 v32 v33 v34 v35 v36 v37 v38 v39 v40 v41) ⟨callB_of 0 htx (xw_goodC kw_5_209) rfl rfl rfl (htx _ kw_1_5) (htx _ kw_5_206) ⟨by decide, by decide, by decide +kernel⟩ ⟨Nat.le_of_ble_eq_true rfl, Nat.le_of_ble_eq_true rfl⟩, (htx _ kw_5_208), (htx _ kp_M_begin)⟩ ⟨xPre_blind, va_recv hK hP (ci := 5) rfl (q0 := 0) rfl, (fun U hU hW => ⟨rfl, xPre_of hZ hS hFc hPc hDc hK U hU hW⟩)⟩ rfl rfl hl.1 rfl (lv_room (Nat.le_of_ble_eq_true rfl)) dM_same0_1 ⟨Nat.le_of_ble_eq_true rfl, Nat.le_of_ble_eq_true rfl⟩) hS (fun q _ h => hFc q h) hFc (fun u9 t H1 locs ht hvm hr9 hB hz1 hk1 hS => ?_)
  obtain ⟨hP1, hK1, hD1⟩ := hB
  rw [ht] at hP1
  obtain ⟨hP, hD⟩ := xjoin (W := [(a0, .inr (5, [.int 0, v11, .int 0, v13, .int 0, v15, v16, .int 0, v18, .int 0, v20, v21, .int 0, v23, v24, v25, v26, v27, v28, v29, v30, v31, .int 0, .int 1000000000, v34, v35, v36, v37, v38, v39, v40, v41]))]) hP hD [0] [] 0 rfl rfl (by decide) (by decide) hk1 hFc hP1 hD1
  generalize H1 = H at hP hS ⊢
  refine lv_aload_n hx hb dM_same0_4 rfl (lv_at hl 0 rfl) ?_
  refine lv_iload_n hx hb dM_same0_5 rfl (lv_at hl 1 rfl) ?_
  obtain ⟨hPc, hDc, hFc⟩ := xcut (wc := []) hP hD hS hA [] rfl rfl (by decide)
  refine va_calli (va_runV (C := "ValueBenchModel") (As := [.int x1]) (rest := []) ⟨hx, hb, hml, hown, htx⟩ (cM_out_2 l hl9 D cT aK aV H.size a0 x1 h2 h3 h4 h5) ⟨callB_of 1 htx (xw_goodC kw_5_217) rfl rfl rfl (htx _ kw_1_5) (htx _ kw_5_214) ⟨by decide, by decide, by decide +kernel⟩ ⟨Nat.le_of_ble_eq_true rfl, Nat.le_of_ble_eq_true rfl⟩, (htx _ kw_5_216), (htx _ kp_M_out)⟩ ⟨xPre_blind, va_recv hK hP (ci := 5) rfl (q0 := 0) rfl, (fun U hU hW => ⟨rfl, xPre_of hZ hS hFc hPc hDc hK U hU hW⟩)⟩ rfl rfl hl.1 rfl (lv_room (Nat.le_of_ble_eq_true rfl)) dM_same0_6 ⟨Nat.le_of_ble_eq_true rfl, Nat.le_of_ble_eq_true rfl⟩) hS (fun q _ h => hFc q h) hFc (fun r1 u9 t H1 locs ht hvm hr9 hB hz1 hk1 hS => ?_)
  obtain ⟨hP1, hK1, hD1⟩ := hB
  rw [ht] at hP1
  obtain ⟨hP, hD⟩ := xjoin (W := [(a0, .inr (5, [.int 0, v11, .int 0, v13, .int 0, v15, v16, .int 0, v18, .int 0, v20, v21, .int 0, v23, v24, v25, v26, v27, v28, v29, v30, v31, .int 0, .int 1000000000, v34, v35, v36, v37, v38, v39, v40, v41]))]) hP hD [] [0] 1 rfl rfl (by decide) (by decide) hk1 hFc hP1 hD1
  generalize H1 = H at hP hS ⊢
  rw [hr9]
  refine W.eq (g2 := F0 m 9 ls [.int 0]) rfl ?_
  refine lv_if_ne (tgt := 20) hx hb dM_same0_9 (by decide) (fun h => ((by revert h; decide : False)).elim) (fun _ => ?_)
  refine lv_aload_n hx hb dM_same0_12 rfl (lv_at hl 0 rfl) ?_
  refine lv_iload_n hx hb dM_same0_13 rfl (lv_at hl 2 rfl) ?_
  obtain ⟨hPc, hDc, hFc⟩ := xcut (wc := []) hP hD hS hA [] rfl rfl (by decide)
  refine va_calli (va_runV (C := "ValueBenchModel") (As := [.int x6]) (rest := []) ⟨hx, hb, hml, hown, htx⟩ (cM_out_1 l hl9 D cT aK aV H.size a0 x6 h7 h8 h9) ⟨callB_of 1 htx (xw_goodC kw_5_217) rfl rfl rfl (htx _ kw_1_5) (htx _ kw_5_214) ⟨by decide, by decide, by decide +kernel⟩ ⟨Nat.le_of_ble_eq_true rfl, Nat.le_of_ble_eq_true rfl⟩, (htx _ kw_5_216), (htx _ kp_M_out)⟩ ⟨xPre_blind, va_recv hK hP (ci := 5) rfl (q0 := 0) rfl, (fun U hU hW => ⟨rfl, xPre_of hZ hS hFc hPc hDc hK U hU hW⟩)⟩ rfl rfl hl.1 rfl (lv_room (Nat.le_of_ble_eq_true rfl)) dM_same0_14 ⟨Nat.le_of_ble_eq_true rfl, Nat.le_of_ble_eq_true rfl⟩) hS (fun q _ h => hFc q h) hFc (fun r2 u9 t H1 locs ht hvm hr9 hB hz1 hk1 hS => ?_)
  obtain ⟨hP1, hK1, hD1⟩ := hB
  rw [ht] at hP1
  obtain ⟨hP, hD⟩ := xjoin (W := [(a0, .inr (5, [.int 0, v11, .int 0, v13, .int 0, v15, v16, .int 0, v18, .int 0, v20, v21, .int 0, v23, v24, v25, v26, v27, v28, v29, v30, v31, .int 0, .int 1000000000, v34, v35, v36, v37, v38, v39, v40, v41]))]) hP hD [] [0] 1 rfl rfl (by decide) (by decide) hk1 hFc hP1 hD1
  generalize H1 = H at hP hS ⊢
  rw [hr9]
  refine W.eq (g2 := F0 m 17 ls [.int 1]) rfl ?_
  refine lv_if_eq (tgt := 34) hx hb dM_same0_17 (by decide) (fun h => ((by revert h; decide : False)).elim) (fun _ => ?_)
  refine lv_aload_n hx hb dM_same0_20 rfl (lv_at hl 0 rfl) ?_
  refine lv_iconst (v := 1) hx hb dM_same0_21 (by decide) ?_
  obtain ⟨hPc, hDc, hFc⟩ := xcut (wc := [(a0, .inr (5, [.int 0, v11, .int 0, v13, .int 0, v15, v16, .int 0, v18, .int 0, v20, v21, .int 0, v23, v24, v25, v26, v27, v28, v29, v30, v31, .int 0, .int 1000000000, v34, v35, v36, v37, v38, v39, v40, v41]))]) hP hD hS hA [0] rfl rfl (by decide)
  refine va_calli (va_runV (C := "ValueBenchModel") (As := [.int 1]) (rest := []) ⟨hx, hb, hml, hown, htx⟩ (cM_fail_0 l hl9 D cT aK aV H.size a0 (.int 0) v11 (.int 0) v13 (.int 0) v15 v16 (.int 0) v18 (.int 0) v20 v21 (.int 0) v23 v24 v25 v26 v27 v28 v29 v30 v31 (.int 0) (.int 1000000000) v34 v35 v36 v37 v38 v39 v40 v41) ⟨callB_of 1 htx (xw_goodC kw_5_195) rfl rfl rfl (htx _ kw_1_5) (htx _ kw_5_192) ⟨by decide, by decide, by decide +kernel⟩ ⟨Nat.le_of_ble_eq_true rfl, Nat.le_of_ble_eq_true rfl⟩, (htx _ kw_5_194), (htx _ kp_M_fail)⟩ ⟨xPre_blind, va_recv hK hP (ci := 5) rfl (q0 := 0) rfl, (fun U hU hW => ⟨rfl, xPre_of hZ hS hFc hPc hDc hK U hU hW⟩)⟩ rfl rfl hl.1 rfl (lv_room (Nat.le_of_ble_eq_true rfl)) dM_same0_22 ⟨Nat.le_of_ble_eq_true rfl, Nat.le_of_ble_eq_true rfl⟩) hS (fun q _ h => hFc q h) hFc (fun r3 u9 t H1 locs ht hvm hr9 hB hz1 hk1 hS => ?_)
  obtain ⟨hP1, hK1, hD1⟩ := hB
  rw [ht] at hP1
  obtain ⟨hP, hD⟩ := xjoin (W := [(a0, .inr (5, [.int 1, v11, .int 0, v13, .int 0, v15, v16, .int 0, v18, .int 0, v20, v21, .int 0, v23, v24, v25, v26, v27, v28, v29, v30, v31, .int 0, .int 1000000000, v34, v35, v36, v37, v38, v39, v40, v41]))]) hP hD [0] [] 0 rfl rfl (by decide) (by decide) hk1 hFc hP1 hD1
  generalize H1 = H at hP hS ⊢
  rw [hr9]
  refine W.eq (g2 := F0 m 25 ls [.int 0]) rfl ?_
  refine lv_if_le (tgt := 32) hx hb dM_same0_25 (by decide) (fun _ => ?_) (fun h => ((by revert h; decide : False)).elim)
  refine lv_iconst (v := 0) hx hb dM_same0_32 (by decide) ?_
  obtain ⟨hP9, hD9⟩ := xsub (wc := [(a0, .inr (5, [.int 1, v11, .int 0, v13, .int 0, v15, v16, .int 0, v18, .int 0, v20, v21, .int 0, v23, v24, v25, v26, v27, v28, v29, v30, v31, .int 0, .int 1000000000, v34, v35, v36, v37, v38, v39, v40, v41]))]) hP hD [0] rfl rfl (by decide)
  refine W.widen (k := 0) (n := 0) (Nat.le_of_ble_eq_true rfl) (Nat.le_of_ble_eq_true rfl) ?_
  exact W.zret (v := 0) hx hb hr rfl (fun t ht hW => ⟨⟨0, (), rfl, rfl, by rw [ht]; exact hP9, va_K.moved hW.alike hK, hD9⟩, hS.F ht⟩) hS.2.2 dM_same0_33
set_option maxHeartbeats 400000000 in
set_option maxRecDepth 100000 in
theorem cR_cell_0 (l : Launch) (hl9 : l.stackTraces = false) (D : va_G) (cT : Nat → ClassId) (aK aV : Nat → Nat) (sz : Nat) (a0 : Nat) (a1 : Nat) (v2 : Value) (f3 : Nat → Int64) (h4 : f3 0 = 0) : xMet l yR_cell wyR_cell 0 0 0 0 D cT aK aV sz [.ref a0, .int 0] [(a0, .inr (2, [.ref a1, .int 1, v2])), (a1, .inl (cT 2, 4096, .inr (.inl f3)))] (fun A => va_Ql (fun (r : Int64) (_ : Unit) => r = 0) (fun _ t => xB D xcl cT A [(a0, .inr (2, [.ref a1, .int 1, v2])), (a1, .inl (cT 2, 4096, .inr (.inl f3)))] t) A) := by
  refine Met.ofW (cc := prog_8_method_5_code) (maxL := 2) (ret := (some .long)) (by decide) rfl ?_
  intro p e s m args below meth c s₁ B hml hv
  obtain ⟨rfl, hsz, hZ, hP, hK, hD0⟩ := hv
  have hx := B.exec
  have hb := B.bytes
  have hr := B.returns
  have hts := atoms_spec (ws := wyR_cell) B.pre
  have htx := fun w h => hts w (List.mem_cons_of_mem _ h)
  have hown : s.vm.findClass "ValueBench$Row" = some m.cls := findClass_of_methodNamed B.named
  have hlocks := B.notSynchronized
  subst hsz
  have hD := hD0.self (sz := s.heap.size)
  generalize hAe : va_A [(a0, .inr (2, [.ref a1, .int 1, v2])), (a1, .inl (cT 2, 4096, .inr (.inl f3)))] s.heap.size = A at hD hZ ⊢
  have hA : ∀ q : Nat, s.heap.size ≤ q → A q := fun q h => by rw [← hAe]; exact Or.inr h
  have hS : va_S A s.heap s.heap [] := va_S.rf
  have hP : va_P D xcl [(a0, .inr (2, [.ref a1, .int 1, v2])), (a1, .inl (cT 2, 4096, .inr (.inl f3)))] s.heap := hP
  have hl := lv_entry ([.ref a0, .int 0]) (n := 2) (Nat.le_of_ble_eq_true rfl)
  rw [lg_entry_eq]
  generalize (lg_sl ([.ref a0, .int 0]) ++ List.replicate (2 - (lg_sl ([.ref a0, .int 0])).length) Slot.unset).toArray = ls at hl ⊢
  have hl : lv_has ls 2 [(0, .ref a0), (1, .int 0)] := hl
  refine lv_iload_n hx hb dR_cell_0 rfl (lv_at hl 1 rfl) ?_
  refine lv_if_lt (tgt := 21) hx hb dR_cell_1 (by decide) (fun h => ((by revert h; decide : False)).elim) (fun _ => ?_)
  refine lv_iload_n hx hb dR_cell_4 rfl (lv_at hl 1 rfl) ?_
  refine lv_aload_n hx hb dR_cell_5 rfl (lv_at hl 0 rfl) ?_
  refine va_get (D := D) (ci := 2) (v := .int 1) (C := "ValueBench$Row") (T := TR) (N := 3) hx hb htx inR hown hK hP 0 rfl rfl 1 (by decide) (htx _ kw_1_85) (fun _ h9 => h9) rfl dR_cell_6 ?_
  refine lv_icmp_ge (tgt := 21) hx hb dR_cell_9 (by decide) (fun h => ((by revert h; decide : False)).elim) (fun _ => ?_)
  refine lv_aload_n hx hb dR_cell_12 rfl (lv_at hl 0 rfl) ?_
  refine va_get (D := D) (ci := 2) (v := .ref a1) (C := "ValueBench$Row") (T := TR) (N := 3) hx hb htx inR hown hK hP 0 rfl rfl 0 (by decide) (htx _ kw_1_84) (fun _ h9 => h9) rfl dR_cell_13 ?_
  refine lv_iload_n hx hb dR_cell_16 rfl (lv_at hl 1 rfl) ?_
  refine va_lald hx hb hK hP 1 2 rfl rfl (show ¬ ((0 : Int32) < 0 ∨ 4096 ≤ (0 : Int32).toNatClampNeg) by decide) dR_cell_17 ?_
  refine W.eq (g2 := F0 m 18 ls [.long (f3 0)]) rfl ?_
  rw [h4]
  refine W.eq (g2 := F0 m 18 ls [.long 0]) rfl ?_
  refine lv_goto (tgt := 22) hx hb dR_cell_18 (by decide) ?_
  obtain ⟨hP9, hD9⟩ := xsub (wc := [(a0, .inr (2, [.ref a1, .int 1, v2])), (a1, .inl (cT 2, 4096, .inr (.inl f3)))]) hP hD [0, 1] rfl rfl (by decide)
  refine W.widen (k := 0) (n := 0) (Nat.le_of_ble_eq_true rfl) (Nat.le_of_ble_eq_true rfl) ?_
  exact W.lret (v := 0) hx hb hr (fun t ht hW => ⟨⟨0, (), rfl, rfl, by rw [ht]; exact hP9, va_K.moved hW.alike hK, hD9⟩, hS.F ht⟩) hS.2.2 dR_cell_22
set_option maxHeartbeats 400000000 in
set_option maxRecDepth 100000 in
theorem cO_isSame_0 (l : Launch) (hl9 : l.stackTraces = false) (D : va_G) (cT : Nat → ClassId) (aK aV : Nat → Nat) (sz : Nat) (a0 : Nat) (a1 : Nat) (v2 : Value) (f3 : Nat → Int64) (h4 : f3 0 = 0) : xMet l yO_isSame wyO_isSame 2 0 0 45 D cT aK aV sz [.ref a0, .int 0, .ref a0, .int 0] [(a0, .inr (2, [.ref a1, .int 1, v2])), (a1, .inl (cT 2, 4096, .inr (.inl f3)))] (fun A => va_Qi (fun (r : Int32) (_ : Unit) => r = 1) (fun _ t => xB D xcl cT A [(a0, .inr (2, [.ref a1, .int 1, v2])), (a1, .inl (cT 2, 4096, .inr (.inl f3)))] t) A) := by
  refine Met.ofW (cc := prog_4_method_3_code) (maxL := 4) (ret := (some .boolean)) (by decide) rfl ?_
  intro p e s m args below meth c s₁ B hml hv
  obtain ⟨rfl, hsz, hZ, hP, hK, hD0⟩ := hv
  have hx := B.exec
  have hb := B.bytes
  have hr := B.returns
  have hts := atoms_spec (ws := wyO_isSame) B.pre
  have htx := fun w h => hts w (List.mem_cons_of_mem _ h)
  have hown : s.vm.findClass "ValueBench$Order" = some m.cls := findClass_of_methodNamed B.named
  have hlocks := B.notSynchronized
  subst hsz
  have hD := hD0.self (sz := s.heap.size)
  generalize hAe : va_A [(a0, .inr (2, [.ref a1, .int 1, v2])), (a1, .inl (cT 2, 4096, .inr (.inl f3)))] s.heap.size = A at hD hZ ⊢
  have hA : ∀ q : Nat, s.heap.size ≤ q → A q := fun q h => by rw [← hAe]; exact Or.inr h
  have hS : va_S A s.heap s.heap [] := va_S.rf
  have hP : va_P D xcl [(a0, .inr (2, [.ref a1, .int 1, v2])), (a1, .inl (cT 2, 4096, .inr (.inl f3)))] s.heap := hP
  have hl := lv_entry ([.ref a0, .int 0, .ref a0, .int 0]) (n := 4) (Nat.le_of_ble_eq_true rfl)
  rw [lg_entry_eq]
  generalize (lg_sl ([.ref a0, .int 0, .ref a0, .int 0]) ++ List.replicate (4 - (lg_sl ([.ref a0, .int 0, .ref a0, .int 0])).length) Slot.unset).toArray = ls at hl ⊢
  have hl : lv_has ls 4 [(0, .ref a0), (1, .int 0), (2, .ref a0), (3, .int 0)] := hl
  refine lv_aload_n hx hb dO_isSame_0 rfl (lv_at hl 0 rfl) ?_
  refine lv_iload_n hx hb dO_isSame_1 rfl (lv_at hl 1 rfl) ?_
  obtain ⟨hPc, hDc, hFc⟩ := xcut (wc := [(a0, .inr (2, [.ref a1, .int 1, v2])), (a1, .inl (cT 2, 4096, .inr (.inl f3)))]) hP hD hS hA [0, 1] rfl rfl (by decide)
  refine va_calll (va_runV (C := "ValueBench$Row") (As := [.int 0]) (rest := []) ⟨hx, hb, hml, hown, htx⟩ (cR_cell_0 l hl9 D cT aK aV s.heap.size a0 a1 v2 f3 (by first | rfl | exact h4)) ⟨callB_of 1 htx (xw_goodC kw_2_202) rfl rfl rfl (htx _ kw_1_4) (htx _ kw_3_162) ⟨by decide, by decide, by decide +kernel⟩ ⟨Nat.le_of_ble_eq_true rfl, Nat.le_of_ble_eq_true rfl⟩, (htx _ kw_2_200), (htx _ kw_2_201)⟩ ⟨xPre_blind, va_recv hK hP (ci := 2) rfl (q0 := 0) rfl, (fun U hU hW => ⟨rfl, xPre_of hZ hS hFc hPc hDc hK U hU hW⟩)⟩ rfl rfl hl.1 rfl (lv_room (Nat.le_of_ble_eq_true rfl)) dO_isSame_2 ⟨Nat.le_of_ble_eq_true rfl, Nat.le_of_ble_eq_true rfl⟩) hS (fun q _ h => hFc q h) hFc (fun r1 u9 t H1 locs ht hvm hr9 hB hz1 hk1 hS => ?_)
  obtain ⟨hP1, hK1, hD1⟩ := hB
  rw [ht] at hP1
  obtain ⟨hP, hD⟩ := xjoin (W := [(a0, .inr (2, [.ref a1, .int 1, v2])), (a1, .inl (cT 2, 4096, .inr (.inl f3)))]) hP hD [0, 1] [] 0 rfl rfl (by decide) (by decide) hk1 hFc hP1 hD1
  generalize H1 = H at hP hS ⊢
  rw [hr9]
  refine W.eq (g2 := F0 m 5 ls [.long 0]) rfl ?_
  refine lv_aload_n hx hb dO_isSame_5 rfl (lv_at hl 2 rfl) ?_
  refine lv_iload_n hx hb dO_isSame_6 rfl (lv_at hl 3 rfl) ?_
  obtain ⟨hPc, hDc, hFc⟩ := xcut (wc := [(a0, .inr (2, [.ref a1, .int 1, v2])), (a1, .inl (cT 2, 4096, .inr (.inl f3)))]) hP hD hS hA [0, 1] rfl rfl (by decide)
  refine va_calll (va_runV (C := "ValueBench$Row") (As := [.int 0]) (rest := [.long 0]) ⟨hx, hb, hml, hown, htx⟩ (cR_cell_0 l hl9 D cT aK aV H.size a0 a1 v2 f3 (by first | rfl | exact h4)) ⟨callB_of 1 htx (xw_goodC kw_2_202) rfl rfl rfl (htx _ kw_1_4) (htx _ kw_3_162) ⟨by decide, by decide, by decide +kernel⟩ ⟨Nat.le_of_ble_eq_true rfl, Nat.le_of_ble_eq_true rfl⟩, (htx _ kw_2_200), (htx _ kw_2_201)⟩ ⟨xPre_blind, va_recv hK hP (ci := 2) rfl (q0 := 0) rfl, (fun U hU hW => ⟨rfl, xPre_of hZ hS hFc hPc hDc hK U hU hW⟩)⟩ rfl rfl hl.1 rfl (lv_room (Nat.le_of_ble_eq_true rfl)) dO_isSame_7 ⟨Nat.le_of_ble_eq_true rfl, Nat.le_of_ble_eq_true rfl⟩) hS (fun q _ h => hFc q h) hFc (fun r2 u9 t H1 locs ht hvm hr9 hB hz1 hk1 hS => ?_)
  obtain ⟨hP1, hK1, hD1⟩ := hB
  rw [ht] at hP1
  obtain ⟨hP, hD⟩ := xjoin (W := [(a0, .inr (2, [.ref a1, .int 1, v2])), (a1, .inl (cT 2, 4096, .inr (.inl f3)))]) hP hD [0, 1] [] 0 rfl rfl (by decide) (by decide) hk1 hFc hP1 hD1
  generalize H1 = H at hP hS ⊢
  rw [hr9]
  refine W.eq (g2 := F0 m 10 ls [.long 0, .long 0]) rfl ?_
  refine W.lcmp hx hb dO_isSame_10 ?_
  refine W.eq (g2 := F0 m 11 ls [.int 0]) rfl ?_
  refine lv_if_ne (tgt := 29) hx hb dO_isSame_11 (by decide) (fun h => ((by revert h; decide : False)).elim) (fun _ => ?_)
  refine lv_aload_n hx hb dO_isSame_14 rfl (lv_at hl 0 rfl) ?_
  refine lv_iload_n hx hb dO_isSame_15 rfl (lv_at hl 1 rfl) ?_
  refine lv_aload_n hx hb dO_isSame_16 rfl (lv_at hl 2 rfl) ?_
  refine lv_iload_n hx hb dO_isSame_17 rfl (lv_at hl 3 rfl) ?_
  refine lv_iconst (v := 0) hx hb dO_isSame_18 (by decide) ?_
  obtain ⟨hPc, hDc, hFc⟩ := xcut (wc := [(a0, .inr (2, [.ref a1, .int 1, v2])), (a1, .inl (cT 2, 4096, .inr (.inl f3)))]) hP hD hS hA [0, 1] rfl rfl (by decide)
  refine va_calli (va_runS (As := [.ref a0, .int 0, .ref a0, .int 0, .int 0]) (rest := []) ⟨hx, hb, hml, hown, htx⟩ (cO_of_0 l hl9 D cT aK aV H.size a0 a1 v2 f3 (by first | rfl | exact h4)) ⟨callB_of 5 htx (xw_goodC kw_3_165) rfl rfl rfl (htx _ kw_1_23) (htx _ kw_3_163) ⟨by decide, by decide, by decide +kernel⟩ ⟨Nat.le_of_ble_eq_true rfl, Nat.le_of_ble_eq_true rfl⟩, htx _ kw_3_164⟩ ⟨xPre_blind, (fun U hU hW => ⟨rfl, xPre_of hZ hS hFc hPc hDc hK U hU hW⟩)⟩ rfl rfl hl.1 rfl (lv_room (Nat.le_of_ble_eq_true rfl)) dO_isSame_19 ⟨Nat.le_of_ble_eq_true rfl, Nat.le_of_ble_eq_true rfl⟩) hS (fun q _ h => hFc q h) hFc (fun r3 u9 t H1 locs ht hvm hr9 hB hz1 hk1 hS => ?_)
  obtain ⟨hP1, hK1, hD1⟩ := hB
  rw [ht] at hP1
  obtain ⟨hP, hD⟩ := xjoin (W := [(a0, .inr (2, [.ref a1, .int 1, v2])), (a1, .inl (cT 2, 4096, .inr (.inl f3)))]) hP hD [0, 1] [] 0 rfl rfl (by decide) (by decide) hk1 hFc hP1 hD1
  generalize H1 = H at hP hS ⊢
  rw [hr9]
  refine W.eq (g2 := F0 m 22 ls [.int 0]) rfl ?_
  refine lv_if_ne (tgt := 29) hx hb dO_isSame_22 (by decide) (fun h => ((by revert h; decide : False)).elim) (fun _ => ?_)
  refine lv_iconst (v := 1) hx hb dO_isSame_25 (by decide) ?_
  refine lv_goto (tgt := 30) hx hb dO_isSame_26 (by decide) ?_
  obtain ⟨hP9, hD9⟩ := xsub (wc := [(a0, .inr (2, [.ref a1, .int 1, v2])), (a1, .inl (cT 2, 4096, .inr (.inl f3)))]) hP hD [0, 1] rfl rfl (by decide)
  refine W.widen (k := 0) (n := 0) (Nat.le_of_ble_eq_true rfl) (Nat.le_of_ble_eq_true rfl) ?_
  exact W.zret (v := 1) hx hb hr rfl (fun t ht hW => ⟨⟨1, (), rfl, rfl, by rw [ht]; exact hP9, va_K.moved hW.alike hK, hD9⟩, hS.F ht⟩) hS.2.2 dO_isSame_30
set_option maxHeartbeats 400000000 in
set_option maxRecDepth 100000 in
theorem cB_same_4 (l : Launch) (hl9 : l.stackTraces = false) (D : va_G) (cT : Nat → ClassId) (aK aV : Nat → Nat) (sz : Nat) (a0 : Nat) (a1 : Nat) (a2 : Nat) (a3 : Nat) (x4 : Int32) (x9 : Int32) (v14 : Value) (v15 : Value) (v16 : Value) (v17 : Value) (v18 : Value) (v19 : Value) (v20 : Value) (f21 : Nat → Option Nat) (v24 : Value) (f25 : Nat → Int64) (h5 : ¬ x4 < 0) (h6 : ¬ 7 < x4) (h7 : x4 ≤ 7) (h8 : vp_in x4 8) (h10 : ¬ x9 < 0) (h11 : ¬ 7 < x9) (h12 : x9 ≤ 7) (h13 : vp_in x9 8) (h22 : f21 x4.toNatClampNeg = some a2) (h23 : f21 x9.toNatClampNeg = some a2) (h26 : f25 0 = 0) : xMet l yB_same wyB_same 3 0 0 68 D cT aK aV sz [.ref a0, .int x4, .int x9] [(a0, .inr (0, [v14, v15, v16, .ref a1, v17, v18, v19, v20])), (a1, .inl (cT 3, 8, .inr (.inr (.inr (.inr f21))))), (a2, .inr (2, [.ref a3, .int 1, v24])), (a3, .inl (cT 2, 4096, .inr (.inl f25)))] (fun A => va_Qi (fun (r : Int32) (_ : Unit) => r = 1) (fun _ t => xB D xcl cT A [(a0, .inr (0, [v14, v15, v16, .ref a1, v17, v18, v19, v20])), (a1, .inl (cT 3, 8, .inr (.inr (.inr (.inr f21))))), (a2, .inr (2, [.ref a3, .int 1, v24])), (a3, .inl (cT 2, 4096, .inr (.inl f25)))] t) A) := by
  refine Met.ofW (cc := prog_1_method_8_code) (maxL := 3) (ret := (some .boolean)) (by decide) rfl ?_
  intro p e s m args below meth c s₁ B hml hv
  obtain ⟨rfl, hsz, hZ, hP, hK, hD0⟩ := hv
  have hx := B.exec
  have hb := B.bytes
  have hr := B.returns
  have hts := atoms_spec (ws := wyB_same) B.pre
  have htx := fun w h => hts w (List.mem_cons_of_mem _ h)
  have hown : s.vm.findClass "ValueBench" = some m.cls := findClass_of_methodNamed B.named
  have hlocks := B.notSynchronized
  subst hsz
  have hD := hD0.self (sz := s.heap.size)
  generalize hAe : va_A [(a0, .inr (0, [v14, v15, v16, .ref a1, v17, v18, v19, v20])), (a1, .inl (cT 3, 8, .inr (.inr (.inr (.inr f21))))), (a2, .inr (2, [.ref a3, .int 1, v24])), (a3, .inl (cT 2, 4096, .inr (.inl f25)))] s.heap.size = A at hD hZ ⊢
  have hA : ∀ q : Nat, s.heap.size ≤ q → A q := fun q h => by rw [← hAe]; exact Or.inr h
  have hS : va_S A s.heap s.heap [] := va_S.rf
  have hP : va_P D xcl [(a0, .inr (0, [v14, v15, v16, .ref a1, v17, v18, v19, v20])), (a1, .inl (cT 3, 8, .inr (.inr (.inr (.inr f21))))), (a2, .inr (2, [.ref a3, .int 1, v24])), (a3, .inl (cT 2, 4096, .inr (.inl f25)))] s.heap := hP
  have hl := lv_entry ([.ref a0, .int x4, .int x9]) (n := 3) (Nat.le_of_ble_eq_true rfl)
  rw [lg_entry_eq]
  generalize (lg_sl ([.ref a0, .int x4, .int x9]) ++ List.replicate (3 - (lg_sl ([.ref a0, .int x4, .int x9])).length) Slot.unset).toArray = ls at hl ⊢
  have hl : lv_has ls 3 [(0, .ref a0), (1, .int x4), (2, .int x9)] := hl
  refine lv_iload_n hx hb dB_same_0 rfl (lv_at hl 1 rfl) ?_
  obtain ⟨hPc, hDc, hFc⟩ := xcut (wc := []) hP hD hS hA [] rfl rfl (by decide)
  refine va_calli (va_runS (As := [.int x4]) (rest := []) ⟨hx, hb, hml, hown, htx⟩ (cB_isRegister_2 l hl9 D cT aK aV s.heap.size x4 h5 h6 h7 h8) ⟨callB_of 1 htx (xw_goodC kw_2_18) rfl rfl rfl (htx _ kw_1_1) (htx _ kw_2_16) ⟨by decide, by decide, by decide +kernel⟩ ⟨Nat.le_of_ble_eq_true rfl, Nat.le_of_ble_eq_true rfl⟩, htx _ kw_2_17⟩ ⟨xPre_blind, (fun U hU hW => ⟨rfl, xPre_of hZ hS hFc hPc hDc hK U hU hW⟩)⟩ rfl rfl hl.1 rfl (lv_room (Nat.le_of_ble_eq_true rfl)) dB_same_1 ⟨Nat.le_of_ble_eq_true rfl, Nat.le_of_ble_eq_true rfl⟩) hS (fun q _ h => hFc q h) hFc (fun r1 u9 t H1 locs ht hvm hr9 hB hz1 hk1 hS => ?_)
  obtain ⟨hP1, hK1, hD1⟩ := hB
  rw [ht] at hP1
  obtain ⟨hP, hD⟩ := xjoin (W := [(a0, .inr (0, [v14, v15, v16, .ref a1, v17, v18, v19, v20])), (a1, .inl (cT 3, 8, .inr (.inr (.inr (.inr f21))))), (a2, .inr (2, [.ref a3, .int 1, v24])), (a3, .inl (cT 2, 4096, .inr (.inl f25)))]) hP hD [] [0, 1, 2, 3] 4 rfl rfl (by decide) (by decide) hk1 hFc hP1 hD1
  generalize H1 = H at hP hS ⊢
  rw [hr9]
  refine W.eq (g2 := F0 m 4 ls [.int 1]) rfl ?_
  refine lv_if_eq (tgt := 18) hx hb dB_same_4 (by decide) (fun h => ((by revert h; decide : False)).elim) (fun _ => ?_)
  refine lv_iload_n hx hb dB_same_7 rfl (lv_at hl 2 rfl) ?_
  obtain ⟨hPc, hDc, hFc⟩ := xcut (wc := []) hP hD hS hA [] rfl rfl (by decide)
  refine va_calli (va_runS (As := [.int x9]) (rest := []) ⟨hx, hb, hml, hown, htx⟩ (cB_isRegister_2 l hl9 D cT aK aV H.size x9 h10 h11 h12 h13) ⟨callB_of 1 htx (xw_goodC kw_2_18) rfl rfl rfl (htx _ kw_1_1) (htx _ kw_2_16) ⟨by decide, by decide, by decide +kernel⟩ ⟨Nat.le_of_ble_eq_true rfl, Nat.le_of_ble_eq_true rfl⟩, htx _ kw_2_17⟩ ⟨xPre_blind, (fun U hU hW => ⟨rfl, xPre_of hZ hS hFc hPc hDc hK U hU hW⟩)⟩ rfl rfl hl.1 rfl (lv_room (Nat.le_of_ble_eq_true rfl)) dB_same_8 ⟨Nat.le_of_ble_eq_true rfl, Nat.le_of_ble_eq_true rfl⟩) hS (fun q _ h => hFc q h) hFc (fun r2 u9 t H1 locs ht hvm hr9 hB hz1 hk1 hS => ?_)
  obtain ⟨hP1, hK1, hD1⟩ := hB
  rw [ht] at hP1
  obtain ⟨hP, hD⟩ := xjoin (W := [(a0, .inr (0, [v14, v15, v16, .ref a1, v17, v18, v19, v20])), (a1, .inl (cT 3, 8, .inr (.inr (.inr (.inr f21))))), (a2, .inr (2, [.ref a3, .int 1, v24])), (a3, .inl (cT 2, 4096, .inr (.inl f25)))]) hP hD [] [0, 1, 2, 3] 4 rfl rfl (by decide) (by decide) hk1 hFc hP1 hD1
  generalize H1 = H at hP hS ⊢
  rw [hr9]
  refine W.eq (g2 := F0 m 11 ls [.int 1]) rfl ?_
  refine lv_if_eq (tgt := 18) hx hb dB_same_11 (by decide) (fun h => ((by revert h; decide : False)).elim) (fun _ => ?_)
  refine lv_iconst (v := 1) hx hb dB_same_14 (by decide) ?_
  refine lv_goto (tgt := 19) hx hb dB_same_15 (by decide) ?_
  obtain ⟨hPc, hDc, hFc⟩ := xcut (wc := []) hP hD hS hA [] rfl rfl (by decide)
  refine va_callv (va_runS (As := [.int 1]) (rest := []) ⟨hx, hb, hml, hown, htx⟩ (cB_demand_1 l hl9 D cT aK aV H.size) ⟨callB_of 1 htx (xw_goodC kw_1_221) rfl rfl rfl (htx _ kw_1_1) (htx _ kw_1_219) ⟨by decide, by decide, by decide +kernel⟩ ⟨Nat.le_of_ble_eq_true rfl, Nat.le_of_ble_eq_true rfl⟩, htx _ kw_1_220⟩ ⟨xPre_blind, (fun U hU hW => ⟨rfl, xPre_of hZ hS hFc hPc hDc hK U hU hW⟩)⟩ rfl rfl hl.1 rfl (lv_room (Nat.le_of_ble_eq_true rfl)) dB_same_19 ⟨Nat.le_of_ble_eq_true rfl, Nat.le_of_ble_eq_true rfl⟩) hS (fun q _ h => hFc q h) hFc (fun u9 t H1 locs ht hvm hr9 hB hz1 hk1 hS => ?_)
  obtain ⟨hP1, hK1, hD1⟩ := hB
  rw [ht] at hP1
  obtain ⟨hP, hD⟩ := xjoin (W := [(a0, .inr (0, [v14, v15, v16, .ref a1, v17, v18, v19, v20])), (a1, .inl (cT 3, 8, .inr (.inr (.inr (.inr f21))))), (a2, .inr (2, [.ref a3, .int 1, v24])), (a3, .inl (cT 2, 4096, .inr (.inl f25)))]) hP hD [] [0, 1, 2, 3] 4 rfl rfl (by decide) (by decide) hk1 hFc hP1 hD1
  generalize H1 = H at hP hS ⊢
  refine lv_aload_n hx hb dB_same_22 rfl (lv_at hl 0 rfl) ?_
  refine va_get (D := D) (ci := 0) (v := .ref a1) (C := "ValueBench") (T := TB) (N := 8) hx hb htx inB hown hK hP 0 rfl rfl 3 (by decide) (htx _ kw_1_98) (fun _ h9 => h9) rfl dB_same_23 ?_
  refine lv_iload_n hx hb dB_same_26 rfl (lv_at hl 1 rfl) ?_
  refine va_aldq hx hb hK hP 1 3 rfl rfl h8 dB_same_27 ?_
  refine W.eq (g2 := F0 m 28 ls [va_rf (f21 x4.toNatClampNeg)]) rfl ?_
  rw [h22]
  refine W.eq (g2 := F0 m 28 ls [.ref a2]) rfl ?_
  refine lv_iconst (v := 0) hx hb dB_same_28 (by decide) ?_
  refine lv_aload_n hx hb dB_same_29 rfl (lv_at hl 0 rfl) ?_
  refine va_get (D := D) (ci := 0) (v := .ref a1) (C := "ValueBench") (T := TB) (N := 8) hx hb htx inB hown hK hP 0 rfl rfl 3 (by decide) (htx _ kw_1_98) (fun _ h9 => h9) rfl dB_same_30 ?_
  refine lv_iload_n hx hb dB_same_33 rfl (lv_at hl 2 rfl) ?_
  refine va_aldq hx hb hK hP 1 3 rfl rfl h13 dB_same_34 ?_
  refine W.eq (g2 := F0 m 35 ls [va_rf (f21 x9.toNatClampNeg), .int 0, .ref a2]) rfl ?_
  rw [h23]
  refine W.eq (g2 := F0 m 35 ls [.ref a2, .int 0, .ref a2]) rfl ?_
  refine lv_iconst (v := 0) hx hb dB_same_35 (by decide) ?_
  obtain ⟨hPc, hDc, hFc⟩ := xcut (wc := [(a2, .inr (2, [.ref a3, .int 1, v24])), (a3, .inl (cT 2, 4096, .inr (.inl f25)))]) hP hD hS hA [2, 3] rfl rfl (by decide)
  refine va_calli (va_runS (As := [.ref a2, .int 0, .ref a2, .int 0]) (rest := []) ⟨hx, hb, hml, hown, htx⟩ (cO_isSame_0 l hl9 D cT aK aV H.size a2 a3 v24 f25 (by first | rfl | exact h22 | exact h23 | exact h26)) ⟨callB_of 4 htx (xw_goodC kw_3_161) rfl rfl rfl (htx _ kw_1_23) (htx _ kw_4_18) ⟨by decide, by decide, by decide +kernel⟩ ⟨Nat.le_of_ble_eq_true rfl, Nat.le_of_ble_eq_true rfl⟩, htx _ kw_3_160⟩ ⟨xPre_blind, (fun U hU hW => ⟨rfl, xPre_of hZ hS hFc hPc hDc hK U hU hW⟩)⟩ rfl rfl hl.1 rfl (lv_room (Nat.le_of_ble_eq_true rfl)) dB_same_36 ⟨Nat.le_of_ble_eq_true rfl, Nat.le_of_ble_eq_true rfl⟩) hS (fun q _ h => hFc q h) hFc (fun r3 u9 t H1 locs ht hvm hr9 hB hz1 hk1 hS => ?_)
  obtain ⟨hP1, hK1, hD1⟩ := hB
  rw [ht] at hP1
  obtain ⟨hP, hD⟩ := xjoin (W := [(a0, .inr (0, [v14, v15, v16, .ref a1, v17, v18, v19, v20])), (a1, .inl (cT 3, 8, .inr (.inr (.inr (.inr f21))))), (a2, .inr (2, [.ref a3, .int 1, v24])), (a3, .inl (cT 2, 4096, .inr (.inl f25)))]) hP hD [2, 3] [0, 1] 2 rfl rfl (by decide) (by decide) hk1 hFc hP1 hD1
  generalize H1 = H at hP hS ⊢
  rw [hr9]
  refine W.eq (g2 := F0 m 39 ls [.int 1]) rfl ?_
  obtain ⟨hP9, hD9⟩ := xsub (wc := [(a0, .inr (0, [v14, v15, v16, .ref a1, v17, v18, v19, v20])), (a1, .inl (cT 3, 8, .inr (.inr (.inr (.inr f21))))), (a2, .inr (2, [.ref a3, .int 1, v24])), (a3, .inl (cT 2, 4096, .inr (.inl f25)))]) hP hD [0, 1, 2, 3] rfl rfl (by decide)
  refine W.widen (k := 0) (n := 0) (Nat.le_of_ble_eq_true rfl) (Nat.le_of_ble_eq_true rfl) ?_
  exact W.zret (v := 1) hx hb hr rfl (fun t ht hW => ⟨⟨1, (), rfl, rfl, by rw [ht]; exact hP9, va_K.moved hW.alike hK, hD9⟩, hS.F ht⟩) hS.2.2 dB_same_39
set_option maxHeartbeats 400000000 in
set_option maxRecDepth 100000 in
theorem cL_same_4 (l : Launch) (hl9 : l.stackTraces = false) (D : va_G) (cT : Nat → ClassId) (aK aV : Nat → Nat) (sz : Nat) (a0 : Nat) (a1 : Nat) (a2 : Nat) (a3 : Nat) (a4 : Nat) (x5 : Int32) (x10 : Int32) (v15 : Value) (v16 : Value) (v17 : Value) (v18 : Value) (v19 : Value) (v20 : Value) (v21 : Value) (f22 : Nat → Option Nat) (v25 : Value) (f26 : Nat → Int64) (f28 : Nat → Int64) (h6 : ¬ x5 < 0) (h7 : ¬ 7 < x5) (h8 : x5 ≤ 7) (h9 : vp_in x5 8) (h11 : ¬ x10 < 0) (h12 : ¬ 7 < x10) (h13 : x10 ≤ 7) (h14 : vp_in x10 8) (h23 : f22 x5.toNatClampNeg = some a2) (h24 : f22 x10.toNatClampNeg = some a2) (h27 : f26 0 = 0) : xMet l yL_same wyL_same 4 0 0 90 D cT aK aV sz [.ref a0, .int x5, .int x10, .ref a4] [(a0, .inr (0, [v15, v16, v17, .ref a1, v18, v19, v20, v21])), (a1, .inl (cT 3, 8, .inr (.inr (.inr (.inr f22))))), (a2, .inr (2, [.ref a3, .int 1, v25])), (a3, .inl (cT 2, 4096, .inr (.inl f26))), (a4, .inl (cT 2, 1, .inr (.inl f28)))] (fun A => va_Qi (fun (r : Int32) (_ : Unit) => r = 0) (fun _ t => xB D xcl cT A [(a0, .inr (0, [v15, v16, v17, .ref a1, v18, v19, v20, v21])), (a1, .inl (cT 3, 8, .inr (.inr (.inr (.inr f22))))), (a2, .inr (2, [.ref a3, .int 1, v25])), (a3, .inl (cT 2, 4096, .inr (.inl f26))), (a4, .inl (cT 2, 1, .inr (.inl (vp_updL f28 0 1))))] t) A) := by
  refine va_MetW (cc := method_9_code) (maxL := 5) (ret := (some .int)) (hh := [(0, 17, 20, 19)]) (by decide) rfl ?_
  intro p e s m args below meth c s₁ B hml hv
  obtain ⟨rfl, hsz, hZ, hP, hK, hD0⟩ := hv
  have hx := B.exec
  have hb := B.bytes
  have hr := B.returns
  have hts := atoms_spec (ws := wyL_same) B.pre
  have htx := fun w h => hts w (List.mem_cons_of_mem _ h)
  have hown : s.vm.findClass "ValueBenchLaw" = some m.cls := findClass_of_methodNamed B.named
  have hlocks := B.notSynchronized
  subst hsz
  have hD := hD0.self (sz := s.heap.size)
  generalize hAe : va_A [(a0, .inr (0, [v15, v16, v17, .ref a1, v18, v19, v20, v21])), (a1, .inl (cT 3, 8, .inr (.inr (.inr (.inr f22))))), (a2, .inr (2, [.ref a3, .int 1, v25])), (a3, .inl (cT 2, 4096, .inr (.inl f26))), (a4, .inl (cT 2, 1, .inr (.inl f28)))] s.heap.size = A at hD hZ ⊢
  have hA : ∀ q : Nat, s.heap.size ≤ q → A q := fun q h => by rw [← hAe]; exact Or.inr h
  have hS : va_S A s.heap s.heap [] := va_S.rf
  have hP : va_P D xcl [(a0, .inr (0, [v15, v16, v17, .ref a1, v18, v19, v20, v21])), (a1, .inl (cT 3, 8, .inr (.inr (.inr (.inr f22))))), (a2, .inr (2, [.ref a3, .int 1, v25])), (a3, .inl (cT 2, 4096, .inr (.inl f26))), (a4, .inl (cT 2, 1, .inr (.inl f28)))] s.heap := hP
  have hl := lv_entry ([.ref a0, .int x5, .int x10, .ref a4]) (n := 5) (Nat.le_of_ble_eq_true rfl)
  rw [lg_entry_eq]
  generalize (lg_sl ([.ref a0, .int x5, .int x10, .ref a4]) ++ List.replicate (5 - (lg_sl ([.ref a0, .int x5, .int x10, .ref a4])).length) Slot.unset).toArray = ls at hl ⊢
  have hl : lv_has ls 5 [(0, .ref a0), (1, .int x5), (2, .int x10), (3, .ref a4)] := hl
  have htab := vx_table (x := yL_same) B (hts _ List.mem_cons_self)
  refine lv_aload_n hx hb dL_same_0 rfl (lv_at hl 3 rfl) ?_
  refine lv_iconst (v := 0) hx hb dL_same_1 (by decide) ?_
  refine lv_aload_n hx hb dL_same_2 rfl (lv_at hl 0 rfl) ?_
  refine lv_iload_n hx hb dL_same_3 rfl (lv_at hl 1 rfl) ?_
  refine lv_iload_n hx hb dL_same_4 rfl (lv_at hl 2 rfl) ?_
  obtain ⟨hPc, hDc, hFc⟩ := xcut (wc := [(a0, .inr (0, [v15, v16, v17, .ref a1, v18, v19, v20, v21])), (a1, .inl (cT 3, 8, .inr (.inr (.inr (.inr f22))))), (a2, .inr (2, [.ref a3, .int 1, v25])), (a3, .inl (cT 2, 4096, .inr (.inl f26)))]) hP hD hS hA [0, 1, 2, 3] rfl rfl (by decide)
  refine va_calli (va_runV (C := "ValueBench") (As := [.int x5, .int x10]) (rest := [.int 0, .ref a4]) ⟨hx, hb, hml, hown, htx⟩ (cB_same_4 l hl9 D cT aK aV s.heap.size a0 a1 a2 a3 x5 x10 v15 v16 v17 v18 v19 v20 v21 f22 v25 f26 h6 h7 h8 h9 h11 h12 h13 h14 (by first | rfl | exact h23 | exact h24 | exact h27) (by first | rfl | exact h23 | exact h24 | exact h27) (by first | rfl | exact h23 | exact h24 | exact h27)) ⟨callB_of 2 htx (xw_goodC kw_4_17) rfl rfl rfl (htx _ kw_1_1) (htx _ kw_4_14) ⟨by decide, by decide, by decide +kernel⟩ ⟨Nat.le_of_ble_eq_true rfl, Nat.le_of_ble_eq_true rfl⟩, (htx _ kw_4_15), (htx _ kw_4_16)⟩ ⟨xPre_blind, va_recv hK hP (ci := 0) rfl (q0 := 0) rfl, (fun U hU hW => ⟨rfl, xPre_of hZ hS hFc hPc hDc hK U hU hW⟩)⟩ rfl rfl hl.1 rfl (lv_room (Nat.le_of_ble_eq_true rfl)) dL_same_5 ⟨Nat.le_of_ble_eq_true rfl, Nat.le_of_ble_eq_true rfl⟩) hS (fun q _ h => hFc q h) hFc (fun r1 u9 t H1 locs ht hvm hr9 hB hz1 hk1 hS => ?_)
  obtain ⟨hP1, hK1, hD1⟩ := hB
  rw [ht] at hP1
  obtain ⟨hP, hD⟩ := xjoin (W := [(a4, .inl (cT 2, 1, .inr (.inl f28))), (a0, .inr (0, [v15, v16, v17, .ref a1, v18, v19, v20, v21])), (a1, .inl (cT 3, 8, .inr (.inr (.inr (.inr f22))))), (a2, .inr (2, [.ref a3, .int 1, v25])), (a3, .inl (cT 2, 4096, .inr (.inl f26)))]) hP hD [0, 1, 2, 3] [4] 1 rfl rfl (by decide) (by decide) hk1 hFc hP1 hD1
  generalize H1 = H at hP hS ⊢
  rw [hr9]
  refine W.eq (g2 := F0 m 8 ls [.int 1, .int 0, .ref a4]) rfl ?_
  refine lv_if_eq (tgt := 15) hx hb dL_same_8 (by decide) (fun h => ((by revert h; decide : False)).elim) (fun _ => ?_)
  refine lv_lconst (v := 1) hx hb dL_same_11 (by decide) ?_
  refine lv_goto (tgt := 16) hx hb dL_same_12 (by decide) ?_
  refine va_last hx hb hK hP hD hS 0 2 rfl rfl (show ¬ ((0 : Int32) < 0 ∨ 1 ≤ (0 : Int32).toNatClampNeg) by decide) dL_same_16 (fun H locs hP hD hS => ?_)
  obtain ⟨hP, hD⟩ : xPD D xcl A [(a4, .inl (cT 2, 1, .inr (.inl (vp_updL f28 0 1)))), (a0, .inr (0, [v15, v16, v17, .ref a1, v18, v19, v20, v21])), (a1, .inl (cT 3, 8, .inr (.inr (.inr (.inr f22))))), (a2, .inr (2, [.ref a3, .int 1, v25])), (a3, .inl (cT 2, 4096, .inr (.inl f26)))] H := ⟨hP, hD⟩
  refine lv_goto (tgt := 24) hx hb dL_same_17 (by decide) ?_
  refine lv_iconst (v := 0) hx hb dL_same_24 (by decide) ?_
  obtain ⟨hP9, hD9⟩ := xsub (wc := [(a0, .inr (0, [v15, v16, v17, .ref a1, v18, v19, v20, v21])), (a1, .inl (cT 3, 8, .inr (.inr (.inr (.inr f22))))), (a2, .inr (2, [.ref a3, .int 1, v25])), (a3, .inl (cT 2, 4096, .inr (.inl f26))), (a4, .inl (cT 2, 1, .inr (.inl (vp_updL f28 0 1))))]) hP hD [1, 2, 3, 4, 0] rfl rfl (by decide)
  refine W.widen (k := 0) (n := 0) (Nat.le_of_ble_eq_true rfl) (Nat.le_of_ble_eq_true rfl) ?_
  exact W.iret (v := 0) hx hb hr (fun t ht hW => ⟨⟨0, (), rfl, rfl, by rw [ht]; exact hP9, va_K.moved hW.alike hK, hD9⟩, hS.F ht⟩) hS.2.2 dL_same_25
set_option maxHeartbeats 400000000 in
set_option maxRecDepth 100000 in
theorem cM_same1_0 (l : Launch) (hl9 : l.stackTraces = false) (D : va_G) (cT : Nat → ClassId) (aK aV : Nat → Nat) (sz : Nat) (a0 : Nat) (a1 : Nat) (b2 : Nat) (v3 : Value) (v4 : Value) (v5 : Value) (v6 : Value) (v7 : Value) (v8 : Value) (v9 : Value) (v10 : Value) (v11 : Value) (v12 : Value) : xMet l yM_same1 wyM_same1 0 0 0 0 D cT aK aV sz [.ref b2, .ref a0, .ref a1] [(a0, .inr (6, [.int 0, v3, v4, v5, v6, v7])), (a1, .inr (6, [.int 0, v8, v9, v10, v11, v12]))] (fun A => va_Qi (fun (r : Int32) (_ : Unit) => r = 1) (fun _ t => xB D xcl cT A [(a0, .inr (6, [.int 0, v3, v4, v5, v6, v7])), (a1, .inr (6, [.int 0, v8, v9, v10, v11, v12]))] t) A) := by
  refine Met.ofW (cc := prog_13_method_21_code) (maxL := 5) (ret := (some .boolean)) (by decide) rfl ?_
  intro p e s m args below meth c s₁ B hml hv
  obtain ⟨rfl, hsz, hZ, hP, hK, hD0⟩ := hv
  have hx := B.exec
  have hb := B.bytes
  have hr := B.returns
  have hts := atoms_spec (ws := wyM_same1) B.pre
  have htx := fun w h => hts w (List.mem_cons_of_mem _ h)
  have hown : s.vm.findClass "ValueBenchModel" = some m.cls := findClass_of_methodNamed B.named
  have hlocks := B.notSynchronized
  subst hsz
  have hD := hD0.self (sz := s.heap.size)
  generalize hAe : va_A [(a0, .inr (6, [.int 0, v3, v4, v5, v6, v7])), (a1, .inr (6, [.int 0, v8, v9, v10, v11, v12]))] s.heap.size = A at hD hZ ⊢
  have hA : ∀ q : Nat, s.heap.size ≤ q → A q := fun q h => by rw [← hAe]; exact Or.inr h
  have hS : va_S A s.heap s.heap [] := va_S.rf
  have hP : va_P D xcl [(a0, .inr (6, [.int 0, v3, v4, v5, v6, v7])), (a1, .inr (6, [.int 0, v8, v9, v10, v11, v12]))] s.heap := hP
  have hl := lv_entry ([.ref b2, .ref a0, .ref a1]) (n := 5) (Nat.le_of_ble_eq_true rfl)
  rw [lg_entry_eq]
  generalize (lg_sl ([.ref b2, .ref a0, .ref a1]) ++ List.replicate (5 - (lg_sl ([.ref b2, .ref a0, .ref a1])).length) Slot.unset).toArray = ls at hl ⊢
  have hl : lv_has ls 5 [(0, .ref b2), (1, .ref a0), (2, .ref a1)] := hl
  refine lv_aload_n hx hb dM_same1_0 rfl (lv_at hl 1 rfl) ?_
  refine va_getN (D := D) (ci := 6) (v := .int 0) (C := "ValueBenchModel$V") (T := TV) (N := 6) hx hb htx inV hown hK hP 0 rfl rfl 0 (by decide) ((hZ.1 (93, "kind", "I") (List.mem_of_getElem? (i := 0) rfl)).use rfl) (fun _ h9 => h9) rfl dM_same1_1 ?_
  refine lv_aload_n hx hb dM_same1_4 rfl (lv_at hl 2 rfl) ?_
  refine va_getN (D := D) (ci := 6) (v := .int 0) (C := "ValueBenchModel$V") (T := TV) (N := 6) hx hb htx inV hown hK hP 1 rfl rfl 0 (by decide) ((hZ.1 (93, "kind", "I") (List.mem_of_getElem? (i := 0) rfl)).use rfl) (fun _ h9 => h9) rfl dM_same1_5 ?_
  refine lv_icmp_eq (tgt := 13) hx hb dM_same1_8 (by decide) (fun _ => ?_) (fun h => ((by revert h; decide : False)).elim)
  refine lv_aload_n hx hb dM_same1_13 rfl (lv_at hl 1 rfl) ?_
  refine va_getN (D := D) (ci := 6) (v := .int 0) (C := "ValueBenchModel$V") (T := TV) (N := 6) hx hb htx inV hown hK hP 0 rfl rfl 0 (by decide) ((hZ.1 (93, "kind", "I") (List.mem_of_getElem? (i := 0) rfl)).use rfl) (fun _ h9 => h9) rfl dM_same1_14 ?_
  refine lv_iconst (v := 3) hx hb dM_same1_17 (by decide) ?_
  refine lv_icmp_ne (tgt := 39) hx hb dM_same1_18 (by decide) (fun _ => ?_) (fun h => ((by revert h; decide : False)).elim)
  refine lv_aload_n hx hb dM_same1_39 rfl (lv_at hl 1 rfl) ?_
  refine va_getN (D := D) (ci := 6) (v := .int 0) (C := "ValueBenchModel$V") (T := TV) (N := 6) hx hb htx inV hown hK hP 0 rfl rfl 0 (by decide) ((hZ.1 (93, "kind", "I") (List.mem_of_getElem? (i := 0) rfl)).use rfl) (fun _ h9 => h9) rfl dM_same1_40 ?_
  refine lv_iconst (v := 4) hx hb dM_same1_43 (by decide) ?_
  refine lv_icmp_ne (tgt := 54) hx hb dM_same1_44 (by decide) (fun _ => ?_) (fun h => ((by revert h; decide : False)).elim)
  refine lv_aload_n hx hb dM_same1_54 rfl (lv_at hl 1 rfl) ?_
  refine va_getN (D := D) (ci := 6) (v := .int 0) (C := "ValueBenchModel$V") (T := TV) (N := 6) hx hb htx inV hown hK hP 0 rfl rfl 0 (by decide) ((hZ.1 (93, "kind", "I") (List.mem_of_getElem? (i := 0) rfl)).use rfl) (fun _ h9 => h9) rfl dM_same1_55 ?_
  refine lv_iconst (v := 5) hx hb dM_same1_58 (by decide) ?_
  refine lv_icmp_ge (tgt := 64) hx hb dM_same1_59 (by decide) (fun h => ((by revert h; decide : False)).elim) (fun _ => ?_)
  refine lv_iconst (v := 1) hx hb dM_same1_62 (by decide) ?_
  obtain ⟨hP9, hD9⟩ := xsub (wc := [(a0, .inr (6, [.int 0, v3, v4, v5, v6, v7])), (a1, .inr (6, [.int 0, v8, v9, v10, v11, v12]))]) hP hD [0, 1] rfl rfl (by decide)
  refine W.widen (k := 0) (n := 0) (Nat.le_of_ble_eq_true rfl) (Nat.le_of_ble_eq_true rfl) ?_
  exact W.zret (v := 1) hx hb hr rfl (fun t ht hW => ⟨⟨1, (), rfl, rfl, by rw [ht]; exact hP9, va_K.moved hW.alike hK, hD9⟩, hS.F ht⟩) hS.2.2 dM_same1_63
set_option maxHeartbeats 400000000 in
set_option maxRecDepth 100000 in
theorem cM_same0_4 (l : Launch) (hl9 : l.stackTraces = false) (D : va_G) (cT : Nat → ClassId) (aK aV : Nat → Nat) (sz : Nat) (a0 : Nat) (a1 : Nat) (a2 : Nat) (a3 : Nat) (a4 : Nat) (x5 : Int32) (x10 : Int32) (v15 : Value) (v16 : Value) (v17 : Value) (v18 : Value) (v19 : Value) (v20 : Value) (v21 : Value) (v22 : Value) (v23 : Value) (v24 : Value) (v25 : Value) (v26 : Value) (v27 : Value) (v28 : Value) (v29 : Value) (v30 : Value) (v31 : Value) (v32 : Value) (v33 : Value) (v34 : Value) (v35 : Value) (v36 : Value) (v37 : Value) (v38 : Value) (v39 : Value) (v40 : Value) (v41 : Value) (v42 : Value) (v43 : Value) (f44 : Nat → Option Nat) (f47 : Nat → Int32) (f50 : Nat → Int32) (f55 : Nat → Option Nat) (h6 : ¬ x5 < 0) (h7 : ¬ 7 < x5) (h8 : x5 ≤ 7) (h9 : vp_in x5 8) (h11 : ¬ x10 < 0) (h12 : ¬ 7 < x10) (h13 : x10 ≤ 7) (h14 : vp_in x10 8) (h45 : f44 x5.toNatClampNeg = some a3) (h46 : f44 x10.toNatClampNeg = some a3) (h48 : f47 x5.toNatClampNeg = 4) (h49 : f47 x10.toNatClampNeg = 4) (h51 : f50 0 = 110) (h52 : f50 1 = 117) (h53 : f50 2 = 108) (h54 : f50 3 = 108) (h56 : f55 0 = none) (h57 : f55 1 = none) : xMet l yM_same0 wyM_same0 8 2 12 175 D cT aK aV sz [.ref a0, .int x5, .int x10] [(a0, .inr (5, [v15, .ref a4, v16, v17, v18, v19, v20, v21, v22, v23, v24, v25, v26, v27, v28, v29, v30, v31, v32, v33, v34, v35, v36, v37, .ref a1, .ref a2, v38, v39, v40, v41, v42, v43])), (a1, .inl (cT 5, 8, .inr (.inr (.inr (.inr f44))))), (a2, .inl (cT 1, 8, .inl f47)), (a3, .inl (cT 0, 4096, .inl f50)), (a4, .inl (cT 4, 1024, .inr (.inr (.inr (.inr f55)))))] (fun A => va_Qi (fun (r : Int32) (_ : Unit) => r = 1) (fun _ t => ∃ (r3 : Nat) (r4 : Nat), xB D xcl cT A [(a0, .inr (5, [.int 0, .ref a4, .int 2, v17, .int 0, v19, v20, .int 0, v22, .int 0, v24, v25, .int 0, v27, v28, .ref a3, .int 4, .int 4, .int 0, .int 100, v34, v35, .int 0, .int 1000000000, .ref a1, .ref a2, v38, v39, v40, v41, v42, v43])), (a1, .inl (cT 5, 8, .inr (.inr (.inr (.inr f44))))), (a2, .inl (cT 1, 8, .inl f47)), (a3, .inl (cT 0, 4096, .inl f50)), (a4, .inl (cT 4, 1024, .inr (.inr (.inr (.inr (va_up (va_up f55 0 (some r3)) 1 (some r4))))))), (r3, .inr (6, [.int 0, .long 0, .int 0, .int 0, .int 0, .int 1])), (r4, .inr (6, [.int 0, .long 0, .int 0, .int 0, .int 0, .int 1]))] t) A) := by
  refine Met.ofW (cc := prog_13_method_86_code) (maxL := 3) (ret := (some .boolean)) (by decide) rfl ?_
  intro p e s m args below meth c s₁ B hml hv
  obtain ⟨rfl, hsz, hZ, hP, hK, hD0⟩ := hv
  have hx := B.exec
  have hb := B.bytes
  have hr := B.returns
  have hts := atoms_spec (ws := wyM_same0) B.pre
  have htx := fun w h => hts w (List.mem_cons_of_mem _ h)
  have hown : s.vm.findClass "ValueBenchModel" = some m.cls := findClass_of_methodNamed B.named
  have hlocks := B.notSynchronized
  subst hsz
  have hD := hD0.self (sz := s.heap.size)
  generalize hAe : va_A [(a0, .inr (5, [v15, .ref a4, v16, v17, v18, v19, v20, v21, v22, v23, v24, v25, v26, v27, v28, v29, v30, v31, v32, v33, v34, v35, v36, v37, .ref a1, .ref a2, v38, v39, v40, v41, v42, v43])), (a1, .inl (cT 5, 8, .inr (.inr (.inr (.inr f44))))), (a2, .inl (cT 1, 8, .inl f47)), (a3, .inl (cT 0, 4096, .inl f50)), (a4, .inl (cT 4, 1024, .inr (.inr (.inr (.inr f55)))))] s.heap.size = A at hD hZ ⊢
  have hA : ∀ q : Nat, s.heap.size ≤ q → A q := fun q h => by rw [← hAe]; exact Or.inr h
  have hS : va_S A s.heap s.heap [] := va_S.rf
  have hP : va_P D xcl [(a0, .inr (5, [v15, .ref a4, v16, v17, v18, v19, v20, v21, v22, v23, v24, v25, v26, v27, v28, v29, v30, v31, v32, v33, v34, v35, v36, v37, .ref a1, .ref a2, v38, v39, v40, v41, v42, v43])), (a1, .inl (cT 5, 8, .inr (.inr (.inr (.inr f44))))), (a2, .inl (cT 1, 8, .inl f47)), (a3, .inl (cT 0, 4096, .inl f50)), (a4, .inl (cT 4, 1024, .inr (.inr (.inr (.inr f55)))))] s.heap := hP
  have hl := lv_entry ([.ref a0, .int x5, .int x10]) (n := 3) (Nat.le_of_ble_eq_true rfl)
  rw [lg_entry_eq]
  generalize (lg_sl ([.ref a0, .int x5, .int x10]) ++ List.replicate (3 - (lg_sl ([.ref a0, .int x5, .int x10])).length) Slot.unset).toArray = ls at hl ⊢
  have hl : lv_has ls 3 [(0, .ref a0), (1, .int x5), (2, .int x10)] := hl
  refine lv_aload_n hx hb dM_same0_0 rfl (lv_at hl 0 rfl) ?_
  obtain ⟨hPc, hDc, hFc⟩ := xcut (wc := [(a0, .inr (5, [v15, .ref a4, v16, v17, v18, v19, v20, v21, v22, v23, v24, v25, v26, v27, v28, v29, v30, v31, v32, v33, v34, v35, v36, v37, .ref a1, .ref a2, v38, v39, v40, v41, v42, v43]))]) hP hD hS hA [0] rfl rfl (by decide)
  refine va_callv (va_runV (C := "ValueBenchModel") (As := []) (rest := []) ⟨hx, hb, hml, hown, htx⟩ (cM_begin_0 l hl9 D cT aK aV s.heap.size a0 v15 (.ref a4) v16 v17 v18 v19 v20 v21 v22 v23 v24 v25 v26 v27 v28 v29 v30 v31 v32 v33 v34 v35 v36 v37 (.ref a1) (.ref a2) v38 v39 v40 v41 v42 v43) ⟨callB_of 0 htx (xw_goodC kw_5_209) rfl rfl rfl (htx _ kw_1_5) (htx _ kw_5_206) ⟨by decide, by decide, by decide +kernel⟩ ⟨Nat.le_of_ble_eq_true rfl, Nat.le_of_ble_eq_true rfl⟩, (htx _ kw_5_208), (htx _ kp_M_begin)⟩ ⟨xPre_blind, va_recv hK hP (ci := 5) rfl (q0 := 0) rfl, (fun U hU hW => ⟨rfl, xPre_of hZ hS hFc hPc hDc hK U hU hW⟩)⟩ rfl rfl hl.1 rfl (lv_room (Nat.le_of_ble_eq_true rfl)) dM_same0_1 ⟨Nat.le_of_ble_eq_true rfl, Nat.le_of_ble_eq_true rfl⟩) hS (fun q _ h => hFc q h) hFc (fun u9 t H1 locs ht hvm hr9 hB hz1 hk1 hS => ?_)
  obtain ⟨hP1, hK1, hD1⟩ := hB
  rw [ht] at hP1
  obtain ⟨hP, hD⟩ := xjoin (W := [(a1, .inl (cT 5, 8, .inr (.inr (.inr (.inr f44))))), (a2, .inl (cT 1, 8, .inl f47)), (a3, .inl (cT 0, 4096, .inl f50)), (a4, .inl (cT 4, 1024, .inr (.inr (.inr (.inr f55))))), (a0, .inr (5, [.int 0, .ref a4, .int 0, v17, .int 0, v19, v20, .int 0, v22, .int 0, v24, v25, .int 0, v27, v28, v29, v30, v31, v32, v33, v34, v35, .int 0, .int 1000000000, .ref a1, .ref a2, v38, v39, v40, v41, v42, v43]))]) hP hD [0] [1, 2, 3, 4] 4 rfl rfl (by decide) (by decide) hk1 hFc hP1 hD1
  generalize H1 = H at hP hS ⊢
  refine lv_aload_n hx hb dM_same0_4 rfl (lv_at hl 0 rfl) ?_
  refine lv_iload_n hx hb dM_same0_5 rfl (lv_at hl 1 rfl) ?_
  obtain ⟨hPc, hDc, hFc⟩ := xcut (wc := []) hP hD hS hA [] rfl rfl (by decide)
  refine va_calli (va_runV (C := "ValueBenchModel") (As := [.int x5]) (rest := []) ⟨hx, hb, hml, hown, htx⟩ (cM_out_2 l hl9 D cT aK aV H.size a0 x5 h6 h7 h8 h9) ⟨callB_of 1 htx (xw_goodC kw_5_217) rfl rfl rfl (htx _ kw_1_5) (htx _ kw_5_214) ⟨by decide, by decide, by decide +kernel⟩ ⟨Nat.le_of_ble_eq_true rfl, Nat.le_of_ble_eq_true rfl⟩, (htx _ kw_5_216), (htx _ kp_M_out)⟩ ⟨xPre_blind, va_recv hK hP (ci := 5) rfl (q0 := 4) rfl, (fun U hU hW => ⟨rfl, xPre_of hZ hS hFc hPc hDc hK U hU hW⟩)⟩ rfl rfl hl.1 rfl (lv_room (Nat.le_of_ble_eq_true rfl)) dM_same0_6 ⟨Nat.le_of_ble_eq_true rfl, Nat.le_of_ble_eq_true rfl⟩) hS (fun q _ h => hFc q h) hFc (fun r1 u9 t H1 locs ht hvm hr9 hB hz1 hk1 hS => ?_)
  obtain ⟨hP1, hK1, hD1⟩ := hB
  rw [ht] at hP1
  obtain ⟨hP, hD⟩ := xjoin (W := [(a1, .inl (cT 5, 8, .inr (.inr (.inr (.inr f44))))), (a2, .inl (cT 1, 8, .inl f47)), (a3, .inl (cT 0, 4096, .inl f50)), (a4, .inl (cT 4, 1024, .inr (.inr (.inr (.inr f55))))), (a0, .inr (5, [.int 0, .ref a4, .int 0, v17, .int 0, v19, v20, .int 0, v22, .int 0, v24, v25, .int 0, v27, v28, v29, v30, v31, v32, v33, v34, v35, .int 0, .int 1000000000, .ref a1, .ref a2, v38, v39, v40, v41, v42, v43]))]) hP hD [] [0, 1, 2, 3, 4] 5 rfl rfl (by decide) (by decide) hk1 hFc hP1 hD1
  generalize H1 = H at hP hS ⊢
  rw [hr9]
  refine W.eq (g2 := F0 m 9 ls [.int 0]) rfl ?_
  refine lv_if_ne (tgt := 20) hx hb dM_same0_9 (by decide) (fun h => ((by revert h; decide : False)).elim) (fun _ => ?_)
  refine lv_aload_n hx hb dM_same0_12 rfl (lv_at hl 0 rfl) ?_
  refine lv_iload_n hx hb dM_same0_13 rfl (lv_at hl 2 rfl) ?_
  obtain ⟨hPc, hDc, hFc⟩ := xcut (wc := []) hP hD hS hA [] rfl rfl (by decide)
  refine va_calli (va_runV (C := "ValueBenchModel") (As := [.int x10]) (rest := []) ⟨hx, hb, hml, hown, htx⟩ (cM_out_2 l hl9 D cT aK aV H.size a0 x10 h11 h12 h13 h14) ⟨callB_of 1 htx (xw_goodC kw_5_217) rfl rfl rfl (htx _ kw_1_5) (htx _ kw_5_214) ⟨by decide, by decide, by decide +kernel⟩ ⟨Nat.le_of_ble_eq_true rfl, Nat.le_of_ble_eq_true rfl⟩, (htx _ kw_5_216), (htx _ kp_M_out)⟩ ⟨xPre_blind, va_recv hK hP (ci := 5) rfl (q0 := 4) rfl, (fun U hU hW => ⟨rfl, xPre_of hZ hS hFc hPc hDc hK U hU hW⟩)⟩ rfl rfl hl.1 rfl (lv_room (Nat.le_of_ble_eq_true rfl)) dM_same0_14 ⟨Nat.le_of_ble_eq_true rfl, Nat.le_of_ble_eq_true rfl⟩) hS (fun q _ h => hFc q h) hFc (fun r2 u9 t H1 locs ht hvm hr9 hB hz1 hk1 hS => ?_)
  obtain ⟨hP1, hK1, hD1⟩ := hB
  rw [ht] at hP1
  obtain ⟨hP, hD⟩ := xjoin (W := [(a1, .inl (cT 5, 8, .inr (.inr (.inr (.inr f44))))), (a2, .inl (cT 1, 8, .inl f47)), (a3, .inl (cT 0, 4096, .inl f50)), (a4, .inl (cT 4, 1024, .inr (.inr (.inr (.inr f55))))), (a0, .inr (5, [.int 0, .ref a4, .int 0, v17, .int 0, v19, v20, .int 0, v22, .int 0, v24, v25, .int 0, v27, v28, v29, v30, v31, v32, v33, v34, v35, .int 0, .int 1000000000, .ref a1, .ref a2, v38, v39, v40, v41, v42, v43]))]) hP hD [] [0, 1, 2, 3, 4] 5 rfl rfl (by decide) (by decide) hk1 hFc hP1 hD1
  generalize H1 = H at hP hS ⊢
  rw [hr9]
  refine W.eq (g2 := F0 m 17 ls [.int 0]) rfl ?_
  refine lv_if_eq (tgt := 34) hx hb dM_same0_17 (by decide) (fun _ => ?_) (fun h => ((by revert h; decide : False)).elim)
  refine lv_aload_n hx hb dM_same0_34 rfl (lv_at hl 0 rfl) ?_
  refine lv_aload_n hx hb dM_same0_35 rfl (lv_at hl 0 rfl) ?_
  refine lv_iload_n hx hb dM_same0_36 rfl (lv_at hl 1 rfl) ?_
  obtain ⟨hPc, hDc, hFc⟩ := xcut (wc := [(a0, .inr (5, [.int 0, .ref a4, .int 0, v17, .int 0, v19, v20, .int 0, v22, .int 0, v24, v25, .int 0, v27, v28, v29, v30, v31, v32, v33, v34, v35, .int 0, .int 1000000000, .ref a1, .ref a2, v38, v39, v40, v41, v42, v43])), (a1, .inl (cT 5, 8, .inr (.inr (.inr (.inr f44))))), (a2, .inl (cT 1, 8, .inl f47)), (a3, .inl (cT 0, 4096, .inl f50)), (a4, .inl (cT 4, 1024, .inr (.inr (.inr (.inr f55)))))]) hP hD hS hA [4, 0, 1, 2, 3] rfl rfl (by decide)
  refine va_callr (va_runV (C := "ValueBenchModel") (As := [.int x5]) (rest := [.ref a0]) ⟨hx, hb, hml, hown, htx⟩ (cM_register_0 l hl9 D cT aK aV H.size a0 a1 a2 a3 a4 x5 (.int 0) v17 (.int 0) v19 v20 (.int 0) v22 (.int 0) v24 v25 (.int 0) v27 v28 v29 v30 v31 v32 v33 v34 v35 (.int 0) (.int 1000000000) v38 v39 v40 v41 v42 v43 f44 f47 f50 f55 h6 h7 h8 h9 (by first | rfl | exact h45 | exact h46 | exact h48 | exact h49 | exact h51 | exact h52 | exact h53 | exact h54 | exact h56 | exact h57) (by first | rfl | exact h45 | exact h46 | exact h48 | exact h49 | exact h51 | exact h52 | exact h53 | exact h54 | exact h56 | exact h57) (by first | rfl | exact h45 | exact h46 | exact h48 | exact h49 | exact h51 | exact h52 | exact h53 | exact h54 | exact h56 | exact h57) (by first | rfl | exact h45 | exact h46 | exact h48 | exact h49 | exact h51 | exact h52 | exact h53 | exact h54 | exact h56 | exact h57) (by first | rfl | exact h45 | exact h46 | exact h48 | exact h49 | exact h51 | exact h52 | exact h53 | exact h54 | exact h56 | exact h57) (by first | rfl | exact h45 | exact h46 | exact h48 | exact h49 | exact h51 | exact h52 | exact h53 | exact h54 | exact h56 | exact h57) (by first | rfl | exact h45 | exact h46 | exact h48 | exact h49 | exact h51 | exact h52 | exact h53 | exact h54 | exact h56 | exact h57)) ⟨callB_of 1 htx (xw_goodC kw_6_170) rfl rfl rfl (htx _ kw_1_5) (htx _ kw_6_167) ⟨by decide, by decide, by decide +kernel⟩ ⟨Nat.le_of_ble_eq_true rfl, Nat.le_of_ble_eq_true rfl⟩, (htx _ kw_6_169), (htx _ kp_M_register)⟩ ⟨xPre_blind, va_recv hK hP (ci := 5) rfl (q0 := 4) rfl, (fun U hU hW => ⟨rfl, xPre_of hZ hS hFc hPc hDc hK U hU hW⟩)⟩ rfl rfl hl.1 rfl (lv_room (Nat.le_of_ble_eq_true rfl)) dM_same0_37 ⟨Nat.le_of_ble_eq_true rfl, Nat.le_of_ble_eq_true rfl⟩) hS (fun q _ h => hFc q h) hFc (fun u9 r3 t H1 locs ht hvm hr9 hB hz1 hk1 hS => ?_)
  obtain ⟨hP1, hK1, hD1⟩ := hB
  rw [ht] at hP1
  obtain ⟨hP, hD⟩ := xjoin (W := [(a0, .inr (5, [.int 0, .ref a4, .int 1, v17, .int 0, v19, v20, .int 0, v22, .int 0, v24, v25, .int 0, v27, v28, .ref a3, .int 4, .int 4, .int 0, .int 100, v34, v35, .int 0, .int 1000000000, .ref a1, .ref a2, v38, v39, v40, v41, v42, v43])), (a1, .inl (cT 5, 8, .inr (.inr (.inr (.inr f44))))), (a2, .inl (cT 1, 8, .inl f47)), (a3, .inl (cT 0, 4096, .inl f50)), (a4, .inl (cT 4, 1024, .inr (.inr (.inr (.inr (va_up f55 0 (some r3))))))), (r3, .inr (6, [.int 0, .long 0, .int 0, .int 0, .int 0, .int 1]))]) hP hD [4, 0, 1, 2, 3] [] 0 rfl rfl (by decide) (by decide) hk1 hFc hP1 hD1
  generalize H1 = H at hP hS ⊢
  refine W.eq (g2 := F0 m 40 ls [.ref r3, .ref a0]) rfl ?_
  refine lv_aload_n hx hb dM_same0_40 rfl (lv_at hl 0 rfl) ?_
  refine lv_iload_n hx hb dM_same0_41 rfl (lv_at hl 2 rfl) ?_
  obtain ⟨hPc, hDc, hFc⟩ := xcut (wc := [(a0, .inr (5, [.int 0, .ref a4, .int 1, v17, .int 0, v19, v20, .int 0, v22, .int 0, v24, v25, .int 0, v27, v28, .ref a3, .int 4, .int 4, .int 0, .int 100, v34, v35, .int 0, .int 1000000000, .ref a1, .ref a2, v38, v39, v40, v41, v42, v43])), (a1, .inl (cT 5, 8, .inr (.inr (.inr (.inr f44))))), (a2, .inl (cT 1, 8, .inl f47)), (a3, .inl (cT 0, 4096, .inl f50)), (a4, .inl (cT 4, 1024, .inr (.inr (.inr (.inr (va_up f55 0 (some r3)))))))]) hP hD hS hA [0, 1, 2, 3, 4] rfl rfl (by decide)
  refine va_callr (va_runV (C := "ValueBenchModel") (As := [.int x10]) (rest := [.ref r3, .ref a0]) ⟨hx, hb, hml, hown, htx⟩ (cM_register_1 l hl9 D cT aK aV H.size a0 a1 a2 a3 a4 x10 (.int 0) v17 (.int 0) v19 v20 (.int 0) v22 (.int 0) v24 v25 (.int 0) v27 v28 (.ref a3) (.int 4) (.int 4) (.int 0) (.int 100) v34 v35 (.int 0) (.int 1000000000) v38 v39 v40 v41 v42 v43 f44 f47 f50 (va_up f55 0 (some r3)) h11 h12 h13 h14 (by first | rfl | exact h45 | exact h46 | exact h48 | exact h49 | exact h51 | exact h52 | exact h53 | exact h54 | exact h57) (by first | rfl | exact h45 | exact h46 | exact h48 | exact h49 | exact h51 | exact h52 | exact h53 | exact h54 | exact h57) (by first | rfl | exact h45 | exact h46 | exact h48 | exact h49 | exact h51 | exact h52 | exact h53 | exact h54 | exact h57) (by first | rfl | exact h45 | exact h46 | exact h48 | exact h49 | exact h51 | exact h52 | exact h53 | exact h54 | exact h57) (by first | rfl | exact h45 | exact h46 | exact h48 | exact h49 | exact h51 | exact h52 | exact h53 | exact h54 | exact h57) (by first | rfl | exact h45 | exact h46 | exact h48 | exact h49 | exact h51 | exact h52 | exact h53 | exact h54 | exact h57) (by first | rfl | exact h45 | exact h46 | exact h48 | exact h49 | exact h51 | exact h52 | exact h53 | exact h54 | exact h57)) ⟨callB_of 1 htx (xw_goodC kw_6_170) rfl rfl rfl (htx _ kw_1_5) (htx _ kw_6_167) ⟨by decide, by decide, by decide +kernel⟩ ⟨Nat.le_of_ble_eq_true rfl, Nat.le_of_ble_eq_true rfl⟩, (htx _ kw_6_169), (htx _ kp_M_register)⟩ ⟨xPre_blind, va_recv hK hP (ci := 5) rfl (q0 := 0) rfl, (fun U hU hW => ⟨rfl, xPre_of hZ hS hFc hPc hDc hK U hU hW⟩)⟩ rfl rfl hl.1 rfl (lv_room (Nat.le_of_ble_eq_true rfl)) dM_same0_42 ⟨Nat.le_of_ble_eq_true rfl, Nat.le_of_ble_eq_true rfl⟩) hS (fun q _ h => hFc q h) hFc (fun u9 r4 t H1 locs ht hvm hr9 hB hz1 hk1 hS => ?_)
  obtain ⟨hP1, hK1, hD1⟩ := hB
  rw [ht] at hP1
  obtain ⟨hP, hD⟩ := xjoin (W := [(r3, .inr (6, [.int 0, .long 0, .int 0, .int 0, .int 0, .int 1])), (a0, .inr (5, [.int 0, .ref a4, .int 2, v17, .int 0, v19, v20, .int 0, v22, .int 0, v24, v25, .int 0, v27, v28, .ref a3, .int 4, .int 4, .int 0, .int 100, v34, v35, .int 0, .int 1000000000, .ref a1, .ref a2, v38, v39, v40, v41, v42, v43])), (a1, .inl (cT 5, 8, .inr (.inr (.inr (.inr f44))))), (a2, .inl (cT 1, 8, .inl f47)), (a3, .inl (cT 0, 4096, .inl f50)), (a4, .inl (cT 4, 1024, .inr (.inr (.inr (.inr (va_up (va_up f55 0 (some r3)) 1 (some r4))))))), (r4, .inr (6, [.int 0, .long 0, .int 0, .int 0, .int 0, .int 1]))]) hP hD [0, 1, 2, 3, 4] [5] 1 rfl rfl (by decide) (by decide) hk1 hFc hP1 hD1
  generalize H1 = H at hP hS ⊢
  refine W.eq (g2 := F0 m 45 ls [.ref r4, .ref r3, .ref a0]) rfl ?_
  obtain ⟨hPc, hDc, hFc⟩ := xcut (wc := [(r3, .inr (6, [.int 0, .long 0, .int 0, .int 0, .int 0, .int 1])), (r4, .inr (6, [.int 0, .long 0, .int 0, .int 0, .int 0, .int 1]))]) hP hD hS hA [0, 6] rfl rfl (by decide)
  refine va_calli (va_runV (C := "ValueBenchModel") (As := [.ref r3, .ref r4]) (rest := []) ⟨hx, hb, hml, hown, htx⟩ (cM_same1_0 l hl9 D cT aK aV H.size r3 r4 a0 (.long 0) (.int 0) (.int 0) (.int 0) (.int 1) (.long 0) (.int 0) (.int 0) (.int 0) (.int 1)) ⟨callB_of 2 htx (xw_goodC kw_6_174) rfl rfl rfl (htx _ kw_1_5) (htx _ kw_6_171) ⟨by decide, by decide, by decide +kernel⟩ ⟨Nat.le_of_ble_eq_true rfl, Nat.le_of_ble_eq_true rfl⟩, (htx _ kw_6_173), (htx _ kp_M_same1)⟩ ⟨xPre_blind, va_recv hK hP (ci := 5) rfl (q0 := 1) rfl, (fun U hU hW => ⟨rfl, xPre_of hZ hS hFc hPc hDc hK U hU hW⟩)⟩ rfl rfl hl.1 rfl (lv_room (Nat.le_of_ble_eq_true rfl)) dM_same0_45 ⟨Nat.le_of_ble_eq_true rfl, Nat.le_of_ble_eq_true rfl⟩) hS (fun q _ h => hFc q h) hFc (fun r5 u9 t H1 locs ht hvm hr9 hB hz1 hk1 hS => ?_)
  obtain ⟨hP1, hK1, hD1⟩ := hB
  rw [ht] at hP1
  obtain ⟨hP, hD⟩ := xjoin (W := [(a0, .inr (5, [.int 0, .ref a4, .int 2, v17, .int 0, v19, v20, .int 0, v22, .int 0, v24, v25, .int 0, v27, v28, .ref a3, .int 4, .int 4, .int 0, .int 100, v34, v35, .int 0, .int 1000000000, .ref a1, .ref a2, v38, v39, v40, v41, v42, v43])), (a1, .inl (cT 5, 8, .inr (.inr (.inr (.inr f44))))), (a2, .inl (cT 1, 8, .inl f47)), (a3, .inl (cT 0, 4096, .inl f50)), (a4, .inl (cT 4, 1024, .inr (.inr (.inr (.inr (va_up (va_up f55 0 (some r3)) 1 (some r4))))))), (r3, .inr (6, [.int 0, .long 0, .int 0, .int 0, .int 0, .int 1])), (r4, .inr (6, [.int 0, .long 0, .int 0, .int 0, .int 0, .int 1]))]) hP hD [0, 6] [1, 2, 3, 4, 5] 5 rfl rfl (by decide) (by decide) hk1 hFc hP1 hD1
  generalize H1 = H at hP hS ⊢
  rw [hr9]
  refine W.eq (g2 := F0 m 48 ls [.int 1]) rfl ?_
  obtain ⟨hP9, hD9⟩ := xsub (wc := [(a0, .inr (5, [.int 0, .ref a4, .int 2, v17, .int 0, v19, v20, .int 0, v22, .int 0, v24, v25, .int 0, v27, v28, .ref a3, .int 4, .int 4, .int 0, .int 100, v34, v35, .int 0, .int 1000000000, .ref a1, .ref a2, v38, v39, v40, v41, v42, v43])), (a1, .inl (cT 5, 8, .inr (.inr (.inr (.inr f44))))), (a2, .inl (cT 1, 8, .inl f47)), (a3, .inl (cT 0, 4096, .inl f50)), (a4, .inl (cT 4, 1024, .inr (.inr (.inr (.inr (va_up (va_up f55 0 (some r3)) 1 (some r4))))))), (r3, .inr (6, [.int 0, .long 0, .int 0, .int 0, .int 0, .int 1])), (r4, .inr (6, [.int 0, .long 0, .int 0, .int 0, .int 0, .int 1]))]) hP hD [0, 1, 2, 3, 4, 5, 6] rfl rfl (by decide)
  refine W.widen (k := 2) (n := 12) (Nat.le_of_ble_eq_true rfl) (Nat.le_of_ble_eq_true rfl) ?_
  exact W.zret (v := 1) hx hb hr rfl (fun t ht hW => ⟨⟨1, (), rfl, rfl, r3, r4, by rw [ht]; exact hP9, va_K.moved hW.alike hK, hD9⟩, hS.F ht⟩) hS.2.2 dM_same0_48
set_option maxHeartbeats 400000000 in
set_option maxRecDepth 100000 in
theorem cO_isSame_1 (l : Launch) (hl9 : l.stackTraces = false) (D : va_G) (cT : Nat → ClassId) (aK aV : Nat → Nat) (sz : Nat) (a0 : Nat) (a1 : Nat) (a2 : Nat) (a3 : Nat) (v4 : Value) (f5 : Nat → Int64) (v7 : Value) (f8 : Nat → Int64) (h6 : f5 0 = 0) (h9 : f8 0 = 0) : xMet l yO_isSame wyO_isSame 2 0 0 45 D cT aK aV sz [.ref a0, .int 0, .ref a2, .int 0] [(a0, .inr (2, [.ref a1, .int 1, v4])), (a1, .inl (cT 2, 4096, .inr (.inl f5))), (a2, .inr (2, [.ref a3, .int 1, v7])), (a3, .inl (cT 2, 4096, .inr (.inl f8)))] (fun A => va_Qi (fun (r : Int32) (_ : Unit) => r = 1) (fun _ t => xB D xcl cT A [(a0, .inr (2, [.ref a1, .int 1, v4])), (a1, .inl (cT 2, 4096, .inr (.inl f5))), (a2, .inr (2, [.ref a3, .int 1, v7])), (a3, .inl (cT 2, 4096, .inr (.inl f8)))] t) A) := by
  refine Met.ofW (cc := prog_4_method_3_code) (maxL := 4) (ret := (some .boolean)) (by decide) rfl ?_
  intro p e s m args below meth c s₁ B hml hv
  obtain ⟨rfl, hsz, hZ, hP, hK, hD0⟩ := hv
  have hx := B.exec
  have hb := B.bytes
  have hr := B.returns
  have hts := atoms_spec (ws := wyO_isSame) B.pre
  have htx := fun w h => hts w (List.mem_cons_of_mem _ h)
  have hown : s.vm.findClass "ValueBench$Order" = some m.cls := findClass_of_methodNamed B.named
  have hlocks := B.notSynchronized
  subst hsz
  have hD := hD0.self (sz := s.heap.size)
  generalize hAe : va_A [(a0, .inr (2, [.ref a1, .int 1, v4])), (a1, .inl (cT 2, 4096, .inr (.inl f5))), (a2, .inr (2, [.ref a3, .int 1, v7])), (a3, .inl (cT 2, 4096, .inr (.inl f8)))] s.heap.size = A at hD hZ ⊢
  have hA : ∀ q : Nat, s.heap.size ≤ q → A q := fun q h => by rw [← hAe]; exact Or.inr h
  have hS : va_S A s.heap s.heap [] := va_S.rf
  have hP : va_P D xcl [(a0, .inr (2, [.ref a1, .int 1, v4])), (a1, .inl (cT 2, 4096, .inr (.inl f5))), (a2, .inr (2, [.ref a3, .int 1, v7])), (a3, .inl (cT 2, 4096, .inr (.inl f8)))] s.heap := hP
  have hl := lv_entry ([.ref a0, .int 0, .ref a2, .int 0]) (n := 4) (Nat.le_of_ble_eq_true rfl)
  rw [lg_entry_eq]
  generalize (lg_sl ([.ref a0, .int 0, .ref a2, .int 0]) ++ List.replicate (4 - (lg_sl ([.ref a0, .int 0, .ref a2, .int 0])).length) Slot.unset).toArray = ls at hl ⊢
  have hl : lv_has ls 4 [(0, .ref a0), (1, .int 0), (2, .ref a2), (3, .int 0)] := hl
  refine lv_aload_n hx hb dO_isSame_0 rfl (lv_at hl 0 rfl) ?_
  refine lv_iload_n hx hb dO_isSame_1 rfl (lv_at hl 1 rfl) ?_
  obtain ⟨hPc, hDc, hFc⟩ := xcut (wc := [(a0, .inr (2, [.ref a1, .int 1, v4])), (a1, .inl (cT 2, 4096, .inr (.inl f5)))]) hP hD hS hA [0, 1] rfl rfl (by decide)
  refine va_calll (va_runV (C := "ValueBench$Row") (As := [.int 0]) (rest := []) ⟨hx, hb, hml, hown, htx⟩ (cR_cell_0 l hl9 D cT aK aV s.heap.size a0 a1 v4 f5 (by first | rfl | exact h6 | exact h9)) ⟨callB_of 1 htx (xw_goodC kw_2_202) rfl rfl rfl (htx _ kw_1_4) (htx _ kw_3_162) ⟨by decide, by decide, by decide +kernel⟩ ⟨Nat.le_of_ble_eq_true rfl, Nat.le_of_ble_eq_true rfl⟩, (htx _ kw_2_200), (htx _ kw_2_201)⟩ ⟨xPre_blind, va_recv hK hP (ci := 2) rfl (q0 := 0) rfl, (fun U hU hW => ⟨rfl, xPre_of hZ hS hFc hPc hDc hK U hU hW⟩)⟩ rfl rfl hl.1 rfl (lv_room (Nat.le_of_ble_eq_true rfl)) dO_isSame_2 ⟨Nat.le_of_ble_eq_true rfl, Nat.le_of_ble_eq_true rfl⟩) hS (fun q _ h => hFc q h) hFc (fun r1 u9 t H1 locs ht hvm hr9 hB hz1 hk1 hS => ?_)
  obtain ⟨hP1, hK1, hD1⟩ := hB
  rw [ht] at hP1
  obtain ⟨hP, hD⟩ := xjoin (W := [(a2, .inr (2, [.ref a3, .int 1, v7])), (a3, .inl (cT 2, 4096, .inr (.inl f8))), (a0, .inr (2, [.ref a1, .int 1, v4])), (a1, .inl (cT 2, 4096, .inr (.inl f5)))]) hP hD [0, 1] [2, 3] 2 rfl rfl (by decide) (by decide) hk1 hFc hP1 hD1
  generalize H1 = H at hP hS ⊢
  rw [hr9]
  refine W.eq (g2 := F0 m 5 ls [.long 0]) rfl ?_
  refine lv_aload_n hx hb dO_isSame_5 rfl (lv_at hl 2 rfl) ?_
  refine lv_iload_n hx hb dO_isSame_6 rfl (lv_at hl 3 rfl) ?_
  obtain ⟨hPc, hDc, hFc⟩ := xcut (wc := [(a2, .inr (2, [.ref a3, .int 1, v7])), (a3, .inl (cT 2, 4096, .inr (.inl f8)))]) hP hD hS hA [0, 1] rfl rfl (by decide)
  refine va_calll (va_runV (C := "ValueBench$Row") (As := [.int 0]) (rest := [.long 0]) ⟨hx, hb, hml, hown, htx⟩ (cR_cell_0 l hl9 D cT aK aV H.size a2 a3 v7 f8 (by first | rfl | exact h6 | exact h9)) ⟨callB_of 1 htx (xw_goodC kw_2_202) rfl rfl rfl (htx _ kw_1_4) (htx _ kw_3_162) ⟨by decide, by decide, by decide +kernel⟩ ⟨Nat.le_of_ble_eq_true rfl, Nat.le_of_ble_eq_true rfl⟩, (htx _ kw_2_200), (htx _ kw_2_201)⟩ ⟨xPre_blind, va_recv hK hP (ci := 2) rfl (q0 := 0) rfl, (fun U hU hW => ⟨rfl, xPre_of hZ hS hFc hPc hDc hK U hU hW⟩)⟩ rfl rfl hl.1 rfl (lv_room (Nat.le_of_ble_eq_true rfl)) dO_isSame_7 ⟨Nat.le_of_ble_eq_true rfl, Nat.le_of_ble_eq_true rfl⟩) hS (fun q _ h => hFc q h) hFc (fun r2 u9 t H1 locs ht hvm hr9 hB hz1 hk1 hS => ?_)
  obtain ⟨hP1, hK1, hD1⟩ := hB
  rw [ht] at hP1
  obtain ⟨hP, hD⟩ := xjoin (W := [(a0, .inr (2, [.ref a1, .int 1, v4])), (a1, .inl (cT 2, 4096, .inr (.inl f5))), (a2, .inr (2, [.ref a3, .int 1, v7])), (a3, .inl (cT 2, 4096, .inr (.inl f8)))]) hP hD [0, 1] [2, 3] 2 rfl rfl (by decide) (by decide) hk1 hFc hP1 hD1
  generalize H1 = H at hP hS ⊢
  rw [hr9]
  refine W.eq (g2 := F0 m 10 ls [.long 0, .long 0]) rfl ?_
  refine W.lcmp hx hb dO_isSame_10 ?_
  refine W.eq (g2 := F0 m 11 ls [.int 0]) rfl ?_
  refine lv_if_ne (tgt := 29) hx hb dO_isSame_11 (by decide) (fun h => ((by revert h; decide : False)).elim) (fun _ => ?_)
  refine lv_aload_n hx hb dO_isSame_14 rfl (lv_at hl 0 rfl) ?_
  refine lv_iload_n hx hb dO_isSame_15 rfl (lv_at hl 1 rfl) ?_
  refine lv_aload_n hx hb dO_isSame_16 rfl (lv_at hl 2 rfl) ?_
  refine lv_iload_n hx hb dO_isSame_17 rfl (lv_at hl 3 rfl) ?_
  refine lv_iconst (v := 0) hx hb dO_isSame_18 (by decide) ?_
  obtain ⟨hPc, hDc, hFc⟩ := xcut (wc := [(a0, .inr (2, [.ref a1, .int 1, v4])), (a1, .inl (cT 2, 4096, .inr (.inl f5))), (a2, .inr (2, [.ref a3, .int 1, v7])), (a3, .inl (cT 2, 4096, .inr (.inl f8)))]) hP hD hS hA [0, 1, 2, 3] rfl rfl (by decide)
  refine va_calli (va_runS (As := [.ref a0, .int 0, .ref a2, .int 0, .int 0]) (rest := []) ⟨hx, hb, hml, hown, htx⟩ (cO_of_1 l hl9 D cT aK aV H.size a0 a1 a2 a3 v4 f5 v7 f8 (by first | rfl | exact h6 | exact h9) (by first | rfl | exact h6 | exact h9)) ⟨callB_of 5 htx (xw_goodC kw_3_165) rfl rfl rfl (htx _ kw_1_23) (htx _ kw_3_163) ⟨by decide, by decide, by decide +kernel⟩ ⟨Nat.le_of_ble_eq_true rfl, Nat.le_of_ble_eq_true rfl⟩, htx _ kw_3_164⟩ ⟨xPre_blind, (fun U hU hW => ⟨rfl, xPre_of hZ hS hFc hPc hDc hK U hU hW⟩)⟩ rfl rfl hl.1 rfl (lv_room (Nat.le_of_ble_eq_true rfl)) dO_isSame_19 ⟨Nat.le_of_ble_eq_true rfl, Nat.le_of_ble_eq_true rfl⟩) hS (fun q _ h => hFc q h) hFc (fun r3 u9 t H1 locs ht hvm hr9 hB hz1 hk1 hS => ?_)
  obtain ⟨hP1, hK1, hD1⟩ := hB
  rw [ht] at hP1
  obtain ⟨hP, hD⟩ := xjoin (W := [(a0, .inr (2, [.ref a1, .int 1, v4])), (a1, .inl (cT 2, 4096, .inr (.inl f5))), (a2, .inr (2, [.ref a3, .int 1, v7])), (a3, .inl (cT 2, 4096, .inr (.inl f8)))]) hP hD [0, 1, 2, 3] [] 0 rfl rfl (by decide) (by decide) hk1 hFc hP1 hD1
  generalize H1 = H at hP hS ⊢
  rw [hr9]
  refine W.eq (g2 := F0 m 22 ls [.int 0]) rfl ?_
  refine lv_if_ne (tgt := 29) hx hb dO_isSame_22 (by decide) (fun h => ((by revert h; decide : False)).elim) (fun _ => ?_)
  refine lv_iconst (v := 1) hx hb dO_isSame_25 (by decide) ?_
  refine lv_goto (tgt := 30) hx hb dO_isSame_26 (by decide) ?_
  obtain ⟨hP9, hD9⟩ := xsub (wc := [(a0, .inr (2, [.ref a1, .int 1, v4])), (a1, .inl (cT 2, 4096, .inr (.inl f5))), (a2, .inr (2, [.ref a3, .int 1, v7])), (a3, .inl (cT 2, 4096, .inr (.inl f8)))]) hP hD [0, 1, 2, 3] rfl rfl (by decide)
  refine W.widen (k := 0) (n := 0) (Nat.le_of_ble_eq_true rfl) (Nat.le_of_ble_eq_true rfl) ?_
  exact W.zret (v := 1) hx hb hr rfl (fun t ht hW => ⟨⟨1, (), rfl, rfl, by rw [ht]; exact hP9, va_K.moved hW.alike hK, hD9⟩, hS.F ht⟩) hS.2.2 dO_isSame_30
set_option maxHeartbeats 400000000 in
set_option maxRecDepth 100000 in
theorem cB_same_5 (l : Launch) (hl9 : l.stackTraces = false) (D : va_G) (cT : Nat → ClassId) (aK aV : Nat → Nat) (sz : Nat) (a0 : Nat) (a1 : Nat) (a2 : Nat) (a3 : Nat) (a4 : Nat) (a5 : Nat) (x6 : Int32) (x11 : Int32) (v16 : Value) (v17 : Value) (v18 : Value) (v19 : Value) (v20 : Value) (v21 : Value) (v22 : Value) (f23 : Nat → Option Nat) (v26 : Value) (f27 : Nat → Int64) (v29 : Value) (f30 : Nat → Int64) (h7 : ¬ x6 < 0) (h8 : ¬ 7 < x6) (h9 : x6 ≤ 7) (h10 : vp_in x6 8) (h12 : ¬ x11 < 0) (h13 : ¬ 7 < x11) (h14 : x11 ≤ 7) (h15 : vp_in x11 8) (h24 : f23 x6.toNatClampNeg = some a2) (h25 : f23 x11.toNatClampNeg = some a4) (h28 : f27 0 = 0) (h31 : f30 0 = 0) : xMet l yB_same wyB_same 3 0 0 68 D cT aK aV sz [.ref a0, .int x6, .int x11] [(a0, .inr (0, [v16, v17, v18, .ref a1, v19, v20, v21, v22])), (a1, .inl (cT 3, 8, .inr (.inr (.inr (.inr f23))))), (a2, .inr (2, [.ref a3, .int 1, v26])), (a3, .inl (cT 2, 4096, .inr (.inl f27))), (a4, .inr (2, [.ref a5, .int 1, v29])), (a5, .inl (cT 2, 4096, .inr (.inl f30)))] (fun A => va_Qi (fun (r : Int32) (_ : Unit) => r = 1) (fun _ t => xB D xcl cT A [(a0, .inr (0, [v16, v17, v18, .ref a1, v19, v20, v21, v22])), (a1, .inl (cT 3, 8, .inr (.inr (.inr (.inr f23))))), (a2, .inr (2, [.ref a3, .int 1, v26])), (a3, .inl (cT 2, 4096, .inr (.inl f27))), (a4, .inr (2, [.ref a5, .int 1, v29])), (a5, .inl (cT 2, 4096, .inr (.inl f30)))] t) A) := by
  refine Met.ofW (cc := prog_1_method_8_code) (maxL := 3) (ret := (some .boolean)) (by decide) rfl ?_
  intro p e s m args below meth c s₁ B hml hv
  obtain ⟨rfl, hsz, hZ, hP, hK, hD0⟩ := hv
  have hx := B.exec
  have hb := B.bytes
  have hr := B.returns
  have hts := atoms_spec (ws := wyB_same) B.pre
  have htx := fun w h => hts w (List.mem_cons_of_mem _ h)
  have hown : s.vm.findClass "ValueBench" = some m.cls := findClass_of_methodNamed B.named
  have hlocks := B.notSynchronized
  subst hsz
  have hD := hD0.self (sz := s.heap.size)
  generalize hAe : va_A [(a0, .inr (0, [v16, v17, v18, .ref a1, v19, v20, v21, v22])), (a1, .inl (cT 3, 8, .inr (.inr (.inr (.inr f23))))), (a2, .inr (2, [.ref a3, .int 1, v26])), (a3, .inl (cT 2, 4096, .inr (.inl f27))), (a4, .inr (2, [.ref a5, .int 1, v29])), (a5, .inl (cT 2, 4096, .inr (.inl f30)))] s.heap.size = A at hD hZ ⊢
  have hA : ∀ q : Nat, s.heap.size ≤ q → A q := fun q h => by rw [← hAe]; exact Or.inr h
  have hS : va_S A s.heap s.heap [] := va_S.rf
  have hP : va_P D xcl [(a0, .inr (0, [v16, v17, v18, .ref a1, v19, v20, v21, v22])), (a1, .inl (cT 3, 8, .inr (.inr (.inr (.inr f23))))), (a2, .inr (2, [.ref a3, .int 1, v26])), (a3, .inl (cT 2, 4096, .inr (.inl f27))), (a4, .inr (2, [.ref a5, .int 1, v29])), (a5, .inl (cT 2, 4096, .inr (.inl f30)))] s.heap := hP
  have hl := lv_entry ([.ref a0, .int x6, .int x11]) (n := 3) (Nat.le_of_ble_eq_true rfl)
  rw [lg_entry_eq]
  generalize (lg_sl ([.ref a0, .int x6, .int x11]) ++ List.replicate (3 - (lg_sl ([.ref a0, .int x6, .int x11])).length) Slot.unset).toArray = ls at hl ⊢
  have hl : lv_has ls 3 [(0, .ref a0), (1, .int x6), (2, .int x11)] := hl
  refine lv_iload_n hx hb dB_same_0 rfl (lv_at hl 1 rfl) ?_
  obtain ⟨hPc, hDc, hFc⟩ := xcut (wc := []) hP hD hS hA [] rfl rfl (by decide)
  refine va_calli (va_runS (As := [.int x6]) (rest := []) ⟨hx, hb, hml, hown, htx⟩ (cB_isRegister_2 l hl9 D cT aK aV s.heap.size x6 h7 h8 h9 h10) ⟨callB_of 1 htx (xw_goodC kw_2_18) rfl rfl rfl (htx _ kw_1_1) (htx _ kw_2_16) ⟨by decide, by decide, by decide +kernel⟩ ⟨Nat.le_of_ble_eq_true rfl, Nat.le_of_ble_eq_true rfl⟩, htx _ kw_2_17⟩ ⟨xPre_blind, (fun U hU hW => ⟨rfl, xPre_of hZ hS hFc hPc hDc hK U hU hW⟩)⟩ rfl rfl hl.1 rfl (lv_room (Nat.le_of_ble_eq_true rfl)) dB_same_1 ⟨Nat.le_of_ble_eq_true rfl, Nat.le_of_ble_eq_true rfl⟩) hS (fun q _ h => hFc q h) hFc (fun r1 u9 t H1 locs ht hvm hr9 hB hz1 hk1 hS => ?_)
  obtain ⟨hP1, hK1, hD1⟩ := hB
  rw [ht] at hP1
  obtain ⟨hP, hD⟩ := xjoin (W := [(a0, .inr (0, [v16, v17, v18, .ref a1, v19, v20, v21, v22])), (a1, .inl (cT 3, 8, .inr (.inr (.inr (.inr f23))))), (a2, .inr (2, [.ref a3, .int 1, v26])), (a3, .inl (cT 2, 4096, .inr (.inl f27))), (a4, .inr (2, [.ref a5, .int 1, v29])), (a5, .inl (cT 2, 4096, .inr (.inl f30)))]) hP hD [] [0, 1, 2, 3, 4, 5] 6 rfl rfl (by decide) (by decide) hk1 hFc hP1 hD1
  generalize H1 = H at hP hS ⊢
  rw [hr9]
  refine W.eq (g2 := F0 m 4 ls [.int 1]) rfl ?_
  refine lv_if_eq (tgt := 18) hx hb dB_same_4 (by decide) (fun h => ((by revert h; decide : False)).elim) (fun _ => ?_)
  refine lv_iload_n hx hb dB_same_7 rfl (lv_at hl 2 rfl) ?_
  obtain ⟨hPc, hDc, hFc⟩ := xcut (wc := []) hP hD hS hA [] rfl rfl (by decide)
  refine va_calli (va_runS (As := [.int x11]) (rest := []) ⟨hx, hb, hml, hown, htx⟩ (cB_isRegister_2 l hl9 D cT aK aV H.size x11 h12 h13 h14 h15) ⟨callB_of 1 htx (xw_goodC kw_2_18) rfl rfl rfl (htx _ kw_1_1) (htx _ kw_2_16) ⟨by decide, by decide, by decide +kernel⟩ ⟨Nat.le_of_ble_eq_true rfl, Nat.le_of_ble_eq_true rfl⟩, htx _ kw_2_17⟩ ⟨xPre_blind, (fun U hU hW => ⟨rfl, xPre_of hZ hS hFc hPc hDc hK U hU hW⟩)⟩ rfl rfl hl.1 rfl (lv_room (Nat.le_of_ble_eq_true rfl)) dB_same_8 ⟨Nat.le_of_ble_eq_true rfl, Nat.le_of_ble_eq_true rfl⟩) hS (fun q _ h => hFc q h) hFc (fun r2 u9 t H1 locs ht hvm hr9 hB hz1 hk1 hS => ?_)
  obtain ⟨hP1, hK1, hD1⟩ := hB
  rw [ht] at hP1
  obtain ⟨hP, hD⟩ := xjoin (W := [(a0, .inr (0, [v16, v17, v18, .ref a1, v19, v20, v21, v22])), (a1, .inl (cT 3, 8, .inr (.inr (.inr (.inr f23))))), (a2, .inr (2, [.ref a3, .int 1, v26])), (a3, .inl (cT 2, 4096, .inr (.inl f27))), (a4, .inr (2, [.ref a5, .int 1, v29])), (a5, .inl (cT 2, 4096, .inr (.inl f30)))]) hP hD [] [0, 1, 2, 3, 4, 5] 6 rfl rfl (by decide) (by decide) hk1 hFc hP1 hD1
  generalize H1 = H at hP hS ⊢
  rw [hr9]
  refine W.eq (g2 := F0 m 11 ls [.int 1]) rfl ?_
  refine lv_if_eq (tgt := 18) hx hb dB_same_11 (by decide) (fun h => ((by revert h; decide : False)).elim) (fun _ => ?_)
  refine lv_iconst (v := 1) hx hb dB_same_14 (by decide) ?_
  refine lv_goto (tgt := 19) hx hb dB_same_15 (by decide) ?_
  obtain ⟨hPc, hDc, hFc⟩ := xcut (wc := []) hP hD hS hA [] rfl rfl (by decide)
  refine va_callv (va_runS (As := [.int 1]) (rest := []) ⟨hx, hb, hml, hown, htx⟩ (cB_demand_1 l hl9 D cT aK aV H.size) ⟨callB_of 1 htx (xw_goodC kw_1_221) rfl rfl rfl (htx _ kw_1_1) (htx _ kw_1_219) ⟨by decide, by decide, by decide +kernel⟩ ⟨Nat.le_of_ble_eq_true rfl, Nat.le_of_ble_eq_true rfl⟩, htx _ kw_1_220⟩ ⟨xPre_blind, (fun U hU hW => ⟨rfl, xPre_of hZ hS hFc hPc hDc hK U hU hW⟩)⟩ rfl rfl hl.1 rfl (lv_room (Nat.le_of_ble_eq_true rfl)) dB_same_19 ⟨Nat.le_of_ble_eq_true rfl, Nat.le_of_ble_eq_true rfl⟩) hS (fun q _ h => hFc q h) hFc (fun u9 t H1 locs ht hvm hr9 hB hz1 hk1 hS => ?_)
  obtain ⟨hP1, hK1, hD1⟩ := hB
  rw [ht] at hP1
  obtain ⟨hP, hD⟩ := xjoin (W := [(a0, .inr (0, [v16, v17, v18, .ref a1, v19, v20, v21, v22])), (a1, .inl (cT 3, 8, .inr (.inr (.inr (.inr f23))))), (a2, .inr (2, [.ref a3, .int 1, v26])), (a3, .inl (cT 2, 4096, .inr (.inl f27))), (a4, .inr (2, [.ref a5, .int 1, v29])), (a5, .inl (cT 2, 4096, .inr (.inl f30)))]) hP hD [] [0, 1, 2, 3, 4, 5] 6 rfl rfl (by decide) (by decide) hk1 hFc hP1 hD1
  generalize H1 = H at hP hS ⊢
  refine lv_aload_n hx hb dB_same_22 rfl (lv_at hl 0 rfl) ?_
  refine va_get (D := D) (ci := 0) (v := .ref a1) (C := "ValueBench") (T := TB) (N := 8) hx hb htx inB hown hK hP 0 rfl rfl 3 (by decide) (htx _ kw_1_98) (fun _ h9 => h9) rfl dB_same_23 ?_
  refine lv_iload_n hx hb dB_same_26 rfl (lv_at hl 1 rfl) ?_
  refine va_aldq hx hb hK hP 1 3 rfl rfl h10 dB_same_27 ?_
  refine W.eq (g2 := F0 m 28 ls [va_rf (f23 x6.toNatClampNeg)]) rfl ?_
  rw [h24]
  refine W.eq (g2 := F0 m 28 ls [.ref a2]) rfl ?_
  refine lv_iconst (v := 0) hx hb dB_same_28 (by decide) ?_
  refine lv_aload_n hx hb dB_same_29 rfl (lv_at hl 0 rfl) ?_
  refine va_get (D := D) (ci := 0) (v := .ref a1) (C := "ValueBench") (T := TB) (N := 8) hx hb htx inB hown hK hP 0 rfl rfl 3 (by decide) (htx _ kw_1_98) (fun _ h9 => h9) rfl dB_same_30 ?_
  refine lv_iload_n hx hb dB_same_33 rfl (lv_at hl 2 rfl) ?_
  refine va_aldq hx hb hK hP 1 3 rfl rfl h15 dB_same_34 ?_
  refine W.eq (g2 := F0 m 35 ls [va_rf (f23 x11.toNatClampNeg), .int 0, .ref a2]) rfl ?_
  rw [h25]
  refine W.eq (g2 := F0 m 35 ls [.ref a4, .int 0, .ref a2]) rfl ?_
  refine lv_iconst (v := 0) hx hb dB_same_35 (by decide) ?_
  obtain ⟨hPc, hDc, hFc⟩ := xcut (wc := [(a2, .inr (2, [.ref a3, .int 1, v26])), (a3, .inl (cT 2, 4096, .inr (.inl f27))), (a4, .inr (2, [.ref a5, .int 1, v29])), (a5, .inl (cT 2, 4096, .inr (.inl f30)))]) hP hD hS hA [2, 3, 4, 5] rfl rfl (by decide)
  refine va_calli (va_runS (As := [.ref a2, .int 0, .ref a4, .int 0]) (rest := []) ⟨hx, hb, hml, hown, htx⟩ (cO_isSame_1 l hl9 D cT aK aV H.size a2 a3 a4 a5 v26 f27 v29 f30 (by first | rfl | exact h24 | exact h25 | exact h28 | exact h31) (by first | rfl | exact h24 | exact h25 | exact h28 | exact h31)) ⟨callB_of 4 htx (xw_goodC kw_3_161) rfl rfl rfl (htx _ kw_1_23) (htx _ kw_4_18) ⟨by decide, by decide, by decide +kernel⟩ ⟨Nat.le_of_ble_eq_true rfl, Nat.le_of_ble_eq_true rfl⟩, htx _ kw_3_160⟩ ⟨xPre_blind, (fun U hU hW => ⟨rfl, xPre_of hZ hS hFc hPc hDc hK U hU hW⟩)⟩ rfl rfl hl.1 rfl (lv_room (Nat.le_of_ble_eq_true rfl)) dB_same_36 ⟨Nat.le_of_ble_eq_true rfl, Nat.le_of_ble_eq_true rfl⟩) hS (fun q _ h => hFc q h) hFc (fun r3 u9 t H1 locs ht hvm hr9 hB hz1 hk1 hS => ?_)
  obtain ⟨hP1, hK1, hD1⟩ := hB
  rw [ht] at hP1
  obtain ⟨hP, hD⟩ := xjoin (W := [(a0, .inr (0, [v16, v17, v18, .ref a1, v19, v20, v21, v22])), (a1, .inl (cT 3, 8, .inr (.inr (.inr (.inr f23))))), (a2, .inr (2, [.ref a3, .int 1, v26])), (a3, .inl (cT 2, 4096, .inr (.inl f27))), (a4, .inr (2, [.ref a5, .int 1, v29])), (a5, .inl (cT 2, 4096, .inr (.inl f30)))]) hP hD [2, 3, 4, 5] [0, 1] 2 rfl rfl (by decide) (by decide) hk1 hFc hP1 hD1
  generalize H1 = H at hP hS ⊢
  rw [hr9]
  refine W.eq (g2 := F0 m 39 ls [.int 1]) rfl ?_
  obtain ⟨hP9, hD9⟩ := xsub (wc := [(a0, .inr (0, [v16, v17, v18, .ref a1, v19, v20, v21, v22])), (a1, .inl (cT 3, 8, .inr (.inr (.inr (.inr f23))))), (a2, .inr (2, [.ref a3, .int 1, v26])), (a3, .inl (cT 2, 4096, .inr (.inl f27))), (a4, .inr (2, [.ref a5, .int 1, v29])), (a5, .inl (cT 2, 4096, .inr (.inl f30)))]) hP hD [0, 1, 2, 3, 4, 5] rfl rfl (by decide)
  refine W.widen (k := 0) (n := 0) (Nat.le_of_ble_eq_true rfl) (Nat.le_of_ble_eq_true rfl) ?_
  exact W.zret (v := 1) hx hb hr rfl (fun t ht hW => ⟨⟨1, (), rfl, rfl, by rw [ht]; exact hP9, va_K.moved hW.alike hK, hD9⟩, hS.F ht⟩) hS.2.2 dB_same_39
set_option maxHeartbeats 400000000 in
set_option maxRecDepth 100000 in
theorem cL_same_5 (l : Launch) (hl9 : l.stackTraces = false) (D : va_G) (cT : Nat → ClassId) (aK aV : Nat → Nat) (sz : Nat) (a0 : Nat) (a1 : Nat) (a2 : Nat) (a3 : Nat) (a4 : Nat) (a5 : Nat) (a6 : Nat) (x7 : Int32) (x12 : Int32) (v17 : Value) (v18 : Value) (v19 : Value) (v20 : Value) (v21 : Value) (v22 : Value) (v23 : Value) (f24 : Nat → Option Nat) (v27 : Value) (f28 : Nat → Int64) (v30 : Value) (f31 : Nat → Int64) (f33 : Nat → Int64) (h8 : ¬ x7 < 0) (h9 : ¬ 7 < x7) (h10 : x7 ≤ 7) (h11 : vp_in x7 8) (h13 : ¬ x12 < 0) (h14 : ¬ 7 < x12) (h15 : x12 ≤ 7) (h16 : vp_in x12 8) (h25 : f24 x7.toNatClampNeg = some a2) (h26 : f24 x12.toNatClampNeg = some a4) (h29 : f28 0 = 0) (h32 : f31 0 = 0) : xMet l yL_same wyL_same 4 0 0 90 D cT aK aV sz [.ref a0, .int x7, .int x12, .ref a6] [(a0, .inr (0, [v17, v18, v19, .ref a1, v20, v21, v22, v23])), (a1, .inl (cT 3, 8, .inr (.inr (.inr (.inr f24))))), (a2, .inr (2, [.ref a3, .int 1, v27])), (a3, .inl (cT 2, 4096, .inr (.inl f28))), (a4, .inr (2, [.ref a5, .int 1, v30])), (a5, .inl (cT 2, 4096, .inr (.inl f31))), (a6, .inl (cT 2, 1, .inr (.inl f33)))] (fun A => va_Qi (fun (r : Int32) (_ : Unit) => r = 0) (fun _ t => xB D xcl cT A [(a0, .inr (0, [v17, v18, v19, .ref a1, v20, v21, v22, v23])), (a1, .inl (cT 3, 8, .inr (.inr (.inr (.inr f24))))), (a2, .inr (2, [.ref a3, .int 1, v27])), (a3, .inl (cT 2, 4096, .inr (.inl f28))), (a4, .inr (2, [.ref a5, .int 1, v30])), (a5, .inl (cT 2, 4096, .inr (.inl f31))), (a6, .inl (cT 2, 1, .inr (.inl (vp_updL f33 0 1))))] t) A) := by
  refine va_MetW (cc := method_9_code) (maxL := 5) (ret := (some .int)) (hh := [(0, 17, 20, 19)]) (by decide) rfl ?_
  intro p e s m args below meth c s₁ B hml hv
  obtain ⟨rfl, hsz, hZ, hP, hK, hD0⟩ := hv
  have hx := B.exec
  have hb := B.bytes
  have hr := B.returns
  have hts := atoms_spec (ws := wyL_same) B.pre
  have htx := fun w h => hts w (List.mem_cons_of_mem _ h)
  have hown : s.vm.findClass "ValueBenchLaw" = some m.cls := findClass_of_methodNamed B.named
  have hlocks := B.notSynchronized
  subst hsz
  have hD := hD0.self (sz := s.heap.size)
  generalize hAe : va_A [(a0, .inr (0, [v17, v18, v19, .ref a1, v20, v21, v22, v23])), (a1, .inl (cT 3, 8, .inr (.inr (.inr (.inr f24))))), (a2, .inr (2, [.ref a3, .int 1, v27])), (a3, .inl (cT 2, 4096, .inr (.inl f28))), (a4, .inr (2, [.ref a5, .int 1, v30])), (a5, .inl (cT 2, 4096, .inr (.inl f31))), (a6, .inl (cT 2, 1, .inr (.inl f33)))] s.heap.size = A at hD hZ ⊢
  have hA : ∀ q : Nat, s.heap.size ≤ q → A q := fun q h => by rw [← hAe]; exact Or.inr h
  have hS : va_S A s.heap s.heap [] := va_S.rf
  have hP : va_P D xcl [(a0, .inr (0, [v17, v18, v19, .ref a1, v20, v21, v22, v23])), (a1, .inl (cT 3, 8, .inr (.inr (.inr (.inr f24))))), (a2, .inr (2, [.ref a3, .int 1, v27])), (a3, .inl (cT 2, 4096, .inr (.inl f28))), (a4, .inr (2, [.ref a5, .int 1, v30])), (a5, .inl (cT 2, 4096, .inr (.inl f31))), (a6, .inl (cT 2, 1, .inr (.inl f33)))] s.heap := hP
  have hl := lv_entry ([.ref a0, .int x7, .int x12, .ref a6]) (n := 5) (Nat.le_of_ble_eq_true rfl)
  rw [lg_entry_eq]
  generalize (lg_sl ([.ref a0, .int x7, .int x12, .ref a6]) ++ List.replicate (5 - (lg_sl ([.ref a0, .int x7, .int x12, .ref a6])).length) Slot.unset).toArray = ls at hl ⊢
  have hl : lv_has ls 5 [(0, .ref a0), (1, .int x7), (2, .int x12), (3, .ref a6)] := hl
  have htab := vx_table (x := yL_same) B (hts _ List.mem_cons_self)
  refine lv_aload_n hx hb dL_same_0 rfl (lv_at hl 3 rfl) ?_
  refine lv_iconst (v := 0) hx hb dL_same_1 (by decide) ?_
  refine lv_aload_n hx hb dL_same_2 rfl (lv_at hl 0 rfl) ?_
  refine lv_iload_n hx hb dL_same_3 rfl (lv_at hl 1 rfl) ?_
  refine lv_iload_n hx hb dL_same_4 rfl (lv_at hl 2 rfl) ?_
  obtain ⟨hPc, hDc, hFc⟩ := xcut (wc := [(a0, .inr (0, [v17, v18, v19, .ref a1, v20, v21, v22, v23])), (a1, .inl (cT 3, 8, .inr (.inr (.inr (.inr f24))))), (a2, .inr (2, [.ref a3, .int 1, v27])), (a3, .inl (cT 2, 4096, .inr (.inl f28))), (a4, .inr (2, [.ref a5, .int 1, v30])), (a5, .inl (cT 2, 4096, .inr (.inl f31)))]) hP hD hS hA [0, 1, 2, 3, 4, 5] rfl rfl (by decide)
  refine va_calli (va_runV (C := "ValueBench") (As := [.int x7, .int x12]) (rest := [.int 0, .ref a6]) ⟨hx, hb, hml, hown, htx⟩ (cB_same_5 l hl9 D cT aK aV s.heap.size a0 a1 a2 a3 a4 a5 x7 x12 v17 v18 v19 v20 v21 v22 v23 f24 v27 f28 v30 f31 h8 h9 h10 h11 h13 h14 h15 h16 (by first | rfl | exact h25 | exact h26 | exact h29 | exact h32) (by first | rfl | exact h25 | exact h26 | exact h29 | exact h32) (by first | rfl | exact h25 | exact h26 | exact h29 | exact h32) (by first | rfl | exact h25 | exact h26 | exact h29 | exact h32)) ⟨callB_of 2 htx (xw_goodC kw_4_17) rfl rfl rfl (htx _ kw_1_1) (htx _ kw_4_14) ⟨by decide, by decide, by decide +kernel⟩ ⟨Nat.le_of_ble_eq_true rfl, Nat.le_of_ble_eq_true rfl⟩, (htx _ kw_4_15), (htx _ kw_4_16)⟩ ⟨xPre_blind, va_recv hK hP (ci := 0) rfl (q0 := 0) rfl, (fun U hU hW => ⟨rfl, xPre_of hZ hS hFc hPc hDc hK U hU hW⟩)⟩ rfl rfl hl.1 rfl (lv_room (Nat.le_of_ble_eq_true rfl)) dL_same_5 ⟨Nat.le_of_ble_eq_true rfl, Nat.le_of_ble_eq_true rfl⟩) hS (fun q _ h => hFc q h) hFc (fun r1 u9 t H1 locs ht hvm hr9 hB hz1 hk1 hS => ?_)
  obtain ⟨hP1, hK1, hD1⟩ := hB
  rw [ht] at hP1
  obtain ⟨hP, hD⟩ := xjoin (W := [(a6, .inl (cT 2, 1, .inr (.inl f33))), (a0, .inr (0, [v17, v18, v19, .ref a1, v20, v21, v22, v23])), (a1, .inl (cT 3, 8, .inr (.inr (.inr (.inr f24))))), (a2, .inr (2, [.ref a3, .int 1, v27])), (a3, .inl (cT 2, 4096, .inr (.inl f28))), (a4, .inr (2, [.ref a5, .int 1, v30])), (a5, .inl (cT 2, 4096, .inr (.inl f31)))]) hP hD [0, 1, 2, 3, 4, 5] [6] 1 rfl rfl (by decide) (by decide) hk1 hFc hP1 hD1
  generalize H1 = H at hP hS ⊢
  rw [hr9]
  refine W.eq (g2 := F0 m 8 ls [.int 1, .int 0, .ref a6]) rfl ?_
  refine lv_if_eq (tgt := 15) hx hb dL_same_8 (by decide) (fun h => ((by revert h; decide : False)).elim) (fun _ => ?_)
  refine lv_lconst (v := 1) hx hb dL_same_11 (by decide) ?_
  refine lv_goto (tgt := 16) hx hb dL_same_12 (by decide) ?_
  refine va_last hx hb hK hP hD hS 0 2 rfl rfl (show ¬ ((0 : Int32) < 0 ∨ 1 ≤ (0 : Int32).toNatClampNeg) by decide) dL_same_16 (fun H locs hP hD hS => ?_)
  obtain ⟨hP, hD⟩ : xPD D xcl A [(a6, .inl (cT 2, 1, .inr (.inl (vp_updL f33 0 1)))), (a0, .inr (0, [v17, v18, v19, .ref a1, v20, v21, v22, v23])), (a1, .inl (cT 3, 8, .inr (.inr (.inr (.inr f24))))), (a2, .inr (2, [.ref a3, .int 1, v27])), (a3, .inl (cT 2, 4096, .inr (.inl f28))), (a4, .inr (2, [.ref a5, .int 1, v30])), (a5, .inl (cT 2, 4096, .inr (.inl f31)))] H := ⟨hP, hD⟩
  refine lv_goto (tgt := 24) hx hb dL_same_17 (by decide) ?_
  refine lv_iconst (v := 0) hx hb dL_same_24 (by decide) ?_
  obtain ⟨hP9, hD9⟩ := xsub (wc := [(a0, .inr (0, [v17, v18, v19, .ref a1, v20, v21, v22, v23])), (a1, .inl (cT 3, 8, .inr (.inr (.inr (.inr f24))))), (a2, .inr (2, [.ref a3, .int 1, v27])), (a3, .inl (cT 2, 4096, .inr (.inl f28))), (a4, .inr (2, [.ref a5, .int 1, v30])), (a5, .inl (cT 2, 4096, .inr (.inl f31))), (a6, .inl (cT 2, 1, .inr (.inl (vp_updL f33 0 1))))]) hP hD [1, 2, 3, 4, 5, 6, 0] rfl rfl (by decide)
  refine W.widen (k := 0) (n := 0) (Nat.le_of_ble_eq_true rfl) (Nat.le_of_ble_eq_true rfl) ?_
  exact W.iret (v := 0) hx hb hr (fun t ht hW => ⟨⟨0, (), rfl, rfl, by rw [ht]; exact hP9, va_K.moved hW.alike hK, hD9⟩, hS.F ht⟩) hS.2.2 dL_same_25
set_option maxHeartbeats 400000000 in
set_option maxRecDepth 100000 in
theorem cM_same0_5 (l : Launch) (hl9 : l.stackTraces = false) (D : va_G) (cT : Nat → ClassId) (aK aV : Nat → Nat) (sz : Nat) (a0 : Nat) (a1 : Nat) (a2 : Nat) (a3 : Nat) (a4 : Nat) (a5 : Nat) (x6 : Int32) (x11 : Int32) (v16 : Value) (v17 : Value) (v18 : Value) (v19 : Value) (v20 : Value) (v21 : Value) (v22 : Value) (v23 : Value) (v24 : Value) (v25 : Value) (v26 : Value) (v27 : Value) (v28 : Value) (v29 : Value) (v30 : Value) (v31 : Value) (v32 : Value) (v33 : Value) (v34 : Value) (v35 : Value) (v36 : Value) (v37 : Value) (v38 : Value) (v39 : Value) (v40 : Value) (v41 : Value) (v42 : Value) (v43 : Value) (v44 : Value) (f45 : Nat → Option Nat) (f48 : Nat → Int32) (f51 : Nat → Int32) (f56 : Nat → Option Nat) (f59 : Nat → Int32) (h7 : ¬ x6 < 0) (h8 : ¬ 7 < x6) (h9 : x6 ≤ 7) (h10 : vp_in x6 8) (h12 : ¬ x11 < 0) (h13 : ¬ 7 < x11) (h14 : x11 ≤ 7) (h15 : vp_in x11 8) (h46 : f45 x6.toNatClampNeg = some a3) (h47 : f45 x11.toNatClampNeg = some a5) (h49 : f48 x6.toNatClampNeg = 4) (h50 : f48 x11.toNatClampNeg = 4) (h52 : f51 0 = 110) (h53 : f51 1 = 117) (h54 : f51 2 = 108) (h55 : f51 3 = 108) (h57 : f56 0 = none) (h58 : f56 1 = none) (h60 : f59 0 = 110) (h61 : f59 1 = 117) (h62 : f59 2 = 108) (h63 : f59 3 = 108) : xMet l yM_same0 wyM_same0 8 2 12 175 D cT aK aV sz [.ref a0, .int x6, .int x11] [(a0, .inr (5, [v16, .ref a4, v17, v18, v19, v20, v21, v22, v23, v24, v25, v26, v27, v28, v29, v30, v31, v32, v33, v34, v35, v36, v37, v38, .ref a1, .ref a2, v39, v40, v41, v42, v43, v44])), (a1, .inl (cT 5, 8, .inr (.inr (.inr (.inr f45))))), (a2, .inl (cT 1, 8, .inl f48)), (a3, .inl (cT 0, 4096, .inl f51)), (a4, .inl (cT 4, 1024, .inr (.inr (.inr (.inr f56))))), (a5, .inl (cT 0, 4096, .inl f59))] (fun A => va_Qi (fun (r : Int32) (_ : Unit) => r = 1) (fun _ t => ∃ (r3 : Nat) (r4 : Nat), xB D xcl cT A [(a0, .inr (5, [.int 0, .ref a4, .int 2, v18, .int 0, v20, v21, .int 0, v23, .int 0, v25, v26, .int 0, v28, v29, .ref a5, .int 4, .int 4, .int 0, .int 100, v35, v36, .int 0, .int 1000000000, .ref a1, .ref a2, v39, v40, v41, v42, v43, v44])), (a1, .inl (cT 5, 8, .inr (.inr (.inr (.inr f45))))), (a2, .inl (cT 1, 8, .inl f48)), (a3, .inl (cT 0, 4096, .inl f51)), (a4, .inl (cT 4, 1024, .inr (.inr (.inr (.inr (va_up (va_up f56 0 (some r3)) 1 (some r4))))))), (a5, .inl (cT 0, 4096, .inl f59)), (r3, .inr (6, [.int 0, .long 0, .int 0, .int 0, .int 0, .int 1])), (r4, .inr (6, [.int 0, .long 0, .int 0, .int 0, .int 0, .int 1]))] t) A) := by
  refine Met.ofW (cc := prog_13_method_86_code) (maxL := 3) (ret := (some .boolean)) (by decide) rfl ?_
  intro p e s m args below meth c s₁ B hml hv
  obtain ⟨rfl, hsz, hZ, hP, hK, hD0⟩ := hv
  have hx := B.exec
  have hb := B.bytes
  have hr := B.returns
  have hts := atoms_spec (ws := wyM_same0) B.pre
  have htx := fun w h => hts w (List.mem_cons_of_mem _ h)
  have hown : s.vm.findClass "ValueBenchModel" = some m.cls := findClass_of_methodNamed B.named
  have hlocks := B.notSynchronized
  subst hsz
  have hD := hD0.self (sz := s.heap.size)
  generalize hAe : va_A [(a0, .inr (5, [v16, .ref a4, v17, v18, v19, v20, v21, v22, v23, v24, v25, v26, v27, v28, v29, v30, v31, v32, v33, v34, v35, v36, v37, v38, .ref a1, .ref a2, v39, v40, v41, v42, v43, v44])), (a1, .inl (cT 5, 8, .inr (.inr (.inr (.inr f45))))), (a2, .inl (cT 1, 8, .inl f48)), (a3, .inl (cT 0, 4096, .inl f51)), (a4, .inl (cT 4, 1024, .inr (.inr (.inr (.inr f56))))), (a5, .inl (cT 0, 4096, .inl f59))] s.heap.size = A at hD hZ ⊢
  have hA : ∀ q : Nat, s.heap.size ≤ q → A q := fun q h => by rw [← hAe]; exact Or.inr h
  have hS : va_S A s.heap s.heap [] := va_S.rf
  have hP : va_P D xcl [(a0, .inr (5, [v16, .ref a4, v17, v18, v19, v20, v21, v22, v23, v24, v25, v26, v27, v28, v29, v30, v31, v32, v33, v34, v35, v36, v37, v38, .ref a1, .ref a2, v39, v40, v41, v42, v43, v44])), (a1, .inl (cT 5, 8, .inr (.inr (.inr (.inr f45))))), (a2, .inl (cT 1, 8, .inl f48)), (a3, .inl (cT 0, 4096, .inl f51)), (a4, .inl (cT 4, 1024, .inr (.inr (.inr (.inr f56))))), (a5, .inl (cT 0, 4096, .inl f59))] s.heap := hP
  have hl := lv_entry ([.ref a0, .int x6, .int x11]) (n := 3) (Nat.le_of_ble_eq_true rfl)
  rw [lg_entry_eq]
  generalize (lg_sl ([.ref a0, .int x6, .int x11]) ++ List.replicate (3 - (lg_sl ([.ref a0, .int x6, .int x11])).length) Slot.unset).toArray = ls at hl ⊢
  have hl : lv_has ls 3 [(0, .ref a0), (1, .int x6), (2, .int x11)] := hl
  refine lv_aload_n hx hb dM_same0_0 rfl (lv_at hl 0 rfl) ?_
  obtain ⟨hPc, hDc, hFc⟩ := xcut (wc := [(a0, .inr (5, [v16, .ref a4, v17, v18, v19, v20, v21, v22, v23, v24, v25, v26, v27, v28, v29, v30, v31, v32, v33, v34, v35, v36, v37, v38, .ref a1, .ref a2, v39, v40, v41, v42, v43, v44]))]) hP hD hS hA [0] rfl rfl (by decide)
  refine va_callv (va_runV (C := "ValueBenchModel") (As := []) (rest := []) ⟨hx, hb, hml, hown, htx⟩ (cM_begin_0 l hl9 D cT aK aV s.heap.size a0 v16 (.ref a4) v17 v18 v19 v20 v21 v22 v23 v24 v25 v26 v27 v28 v29 v30 v31 v32 v33 v34 v35 v36 v37 v38 (.ref a1) (.ref a2) v39 v40 v41 v42 v43 v44) ⟨callB_of 0 htx (xw_goodC kw_5_209) rfl rfl rfl (htx _ kw_1_5) (htx _ kw_5_206) ⟨by decide, by decide, by decide +kernel⟩ ⟨Nat.le_of_ble_eq_true rfl, Nat.le_of_ble_eq_true rfl⟩, (htx _ kw_5_208), (htx _ kp_M_begin)⟩ ⟨xPre_blind, va_recv hK hP (ci := 5) rfl (q0 := 0) rfl, (fun U hU hW => ⟨rfl, xPre_of hZ hS hFc hPc hDc hK U hU hW⟩)⟩ rfl rfl hl.1 rfl (lv_room (Nat.le_of_ble_eq_true rfl)) dM_same0_1 ⟨Nat.le_of_ble_eq_true rfl, Nat.le_of_ble_eq_true rfl⟩) hS (fun q _ h => hFc q h) hFc (fun u9 t H1 locs ht hvm hr9 hB hz1 hk1 hS => ?_)
  obtain ⟨hP1, hK1, hD1⟩ := hB
  rw [ht] at hP1
  obtain ⟨hP, hD⟩ := xjoin (W := [(a1, .inl (cT 5, 8, .inr (.inr (.inr (.inr f45))))), (a2, .inl (cT 1, 8, .inl f48)), (a3, .inl (cT 0, 4096, .inl f51)), (a4, .inl (cT 4, 1024, .inr (.inr (.inr (.inr f56))))), (a5, .inl (cT 0, 4096, .inl f59)), (a0, .inr (5, [.int 0, .ref a4, .int 0, v18, .int 0, v20, v21, .int 0, v23, .int 0, v25, v26, .int 0, v28, v29, v30, v31, v32, v33, v34, v35, v36, .int 0, .int 1000000000, .ref a1, .ref a2, v39, v40, v41, v42, v43, v44]))]) hP hD [0] [1, 2, 3, 4, 5] 5 rfl rfl (by decide) (by decide) hk1 hFc hP1 hD1
  generalize H1 = H at hP hS ⊢
  refine lv_aload_n hx hb dM_same0_4 rfl (lv_at hl 0 rfl) ?_
  refine lv_iload_n hx hb dM_same0_5 rfl (lv_at hl 1 rfl) ?_
  obtain ⟨hPc, hDc, hFc⟩ := xcut (wc := []) hP hD hS hA [] rfl rfl (by decide)
  refine va_calli (va_runV (C := "ValueBenchModel") (As := [.int x6]) (rest := []) ⟨hx, hb, hml, hown, htx⟩ (cM_out_2 l hl9 D cT aK aV H.size a0 x6 h7 h8 h9 h10) ⟨callB_of 1 htx (xw_goodC kw_5_217) rfl rfl rfl (htx _ kw_1_5) (htx _ kw_5_214) ⟨by decide, by decide, by decide +kernel⟩ ⟨Nat.le_of_ble_eq_true rfl, Nat.le_of_ble_eq_true rfl⟩, (htx _ kw_5_216), (htx _ kp_M_out)⟩ ⟨xPre_blind, va_recv hK hP (ci := 5) rfl (q0 := 5) rfl, (fun U hU hW => ⟨rfl, xPre_of hZ hS hFc hPc hDc hK U hU hW⟩)⟩ rfl rfl hl.1 rfl (lv_room (Nat.le_of_ble_eq_true rfl)) dM_same0_6 ⟨Nat.le_of_ble_eq_true rfl, Nat.le_of_ble_eq_true rfl⟩) hS (fun q _ h => hFc q h) hFc (fun r1 u9 t H1 locs ht hvm hr9 hB hz1 hk1 hS => ?_)
  obtain ⟨hP1, hK1, hD1⟩ := hB
  rw [ht] at hP1
  obtain ⟨hP, hD⟩ := xjoin (W := [(a1, .inl (cT 5, 8, .inr (.inr (.inr (.inr f45))))), (a2, .inl (cT 1, 8, .inl f48)), (a3, .inl (cT 0, 4096, .inl f51)), (a4, .inl (cT 4, 1024, .inr (.inr (.inr (.inr f56))))), (a5, .inl (cT 0, 4096, .inl f59)), (a0, .inr (5, [.int 0, .ref a4, .int 0, v18, .int 0, v20, v21, .int 0, v23, .int 0, v25, v26, .int 0, v28, v29, v30, v31, v32, v33, v34, v35, v36, .int 0, .int 1000000000, .ref a1, .ref a2, v39, v40, v41, v42, v43, v44]))]) hP hD [] [0, 1, 2, 3, 4, 5] 6 rfl rfl (by decide) (by decide) hk1 hFc hP1 hD1
  generalize H1 = H at hP hS ⊢
  rw [hr9]
  refine W.eq (g2 := F0 m 9 ls [.int 0]) rfl ?_
  refine lv_if_ne (tgt := 20) hx hb dM_same0_9 (by decide) (fun h => ((by revert h; decide : False)).elim) (fun _ => ?_)
  refine lv_aload_n hx hb dM_same0_12 rfl (lv_at hl 0 rfl) ?_
  refine lv_iload_n hx hb dM_same0_13 rfl (lv_at hl 2 rfl) ?_
  obtain ⟨hPc, hDc, hFc⟩ := xcut (wc := []) hP hD hS hA [] rfl rfl (by decide)
  refine va_calli (va_runV (C := "ValueBenchModel") (As := [.int x11]) (rest := []) ⟨hx, hb, hml, hown, htx⟩ (cM_out_2 l hl9 D cT aK aV H.size a0 x11 h12 h13 h14 h15) ⟨callB_of 1 htx (xw_goodC kw_5_217) rfl rfl rfl (htx _ kw_1_5) (htx _ kw_5_214) ⟨by decide, by decide, by decide +kernel⟩ ⟨Nat.le_of_ble_eq_true rfl, Nat.le_of_ble_eq_true rfl⟩, (htx _ kw_5_216), (htx _ kp_M_out)⟩ ⟨xPre_blind, va_recv hK hP (ci := 5) rfl (q0 := 5) rfl, (fun U hU hW => ⟨rfl, xPre_of hZ hS hFc hPc hDc hK U hU hW⟩)⟩ rfl rfl hl.1 rfl (lv_room (Nat.le_of_ble_eq_true rfl)) dM_same0_14 ⟨Nat.le_of_ble_eq_true rfl, Nat.le_of_ble_eq_true rfl⟩) hS (fun q _ h => hFc q h) hFc (fun r2 u9 t H1 locs ht hvm hr9 hB hz1 hk1 hS => ?_)
  obtain ⟨hP1, hK1, hD1⟩ := hB
  rw [ht] at hP1
  obtain ⟨hP, hD⟩ := xjoin (W := [(a1, .inl (cT 5, 8, .inr (.inr (.inr (.inr f45))))), (a2, .inl (cT 1, 8, .inl f48)), (a3, .inl (cT 0, 4096, .inl f51)), (a4, .inl (cT 4, 1024, .inr (.inr (.inr (.inr f56))))), (a5, .inl (cT 0, 4096, .inl f59)), (a0, .inr (5, [.int 0, .ref a4, .int 0, v18, .int 0, v20, v21, .int 0, v23, .int 0, v25, v26, .int 0, v28, v29, v30, v31, v32, v33, v34, v35, v36, .int 0, .int 1000000000, .ref a1, .ref a2, v39, v40, v41, v42, v43, v44]))]) hP hD [] [0, 1, 2, 3, 4, 5] 6 rfl rfl (by decide) (by decide) hk1 hFc hP1 hD1
  generalize H1 = H at hP hS ⊢
  rw [hr9]
  refine W.eq (g2 := F0 m 17 ls [.int 0]) rfl ?_
  refine lv_if_eq (tgt := 34) hx hb dM_same0_17 (by decide) (fun _ => ?_) (fun h => ((by revert h; decide : False)).elim)
  refine lv_aload_n hx hb dM_same0_34 rfl (lv_at hl 0 rfl) ?_
  refine lv_aload_n hx hb dM_same0_35 rfl (lv_at hl 0 rfl) ?_
  refine lv_iload_n hx hb dM_same0_36 rfl (lv_at hl 1 rfl) ?_
  obtain ⟨hPc, hDc, hFc⟩ := xcut (wc := [(a0, .inr (5, [.int 0, .ref a4, .int 0, v18, .int 0, v20, v21, .int 0, v23, .int 0, v25, v26, .int 0, v28, v29, v30, v31, v32, v33, v34, v35, v36, .int 0, .int 1000000000, .ref a1, .ref a2, v39, v40, v41, v42, v43, v44])), (a1, .inl (cT 5, 8, .inr (.inr (.inr (.inr f45))))), (a2, .inl (cT 1, 8, .inl f48)), (a3, .inl (cT 0, 4096, .inl f51)), (a4, .inl (cT 4, 1024, .inr (.inr (.inr (.inr f56)))))]) hP hD hS hA [5, 0, 1, 2, 3] rfl rfl (by decide)
  refine va_callr (va_runV (C := "ValueBenchModel") (As := [.int x6]) (rest := [.ref a0]) ⟨hx, hb, hml, hown, htx⟩ (cM_register_0 l hl9 D cT aK aV H.size a0 a1 a2 a3 a4 x6 (.int 0) v18 (.int 0) v20 v21 (.int 0) v23 (.int 0) v25 v26 (.int 0) v28 v29 v30 v31 v32 v33 v34 v35 v36 (.int 0) (.int 1000000000) v39 v40 v41 v42 v43 v44 f45 f48 f51 f56 h7 h8 h9 h10 (by first | rfl | exact h46 | exact h47 | exact h49 | exact h50 | exact h52 | exact h53 | exact h54 | exact h55 | exact h57 | exact h58 | exact h60 | exact h61 | exact h62 | exact h63) (by first | rfl | exact h46 | exact h47 | exact h49 | exact h50 | exact h52 | exact h53 | exact h54 | exact h55 | exact h57 | exact h58 | exact h60 | exact h61 | exact h62 | exact h63) (by first | rfl | exact h46 | exact h47 | exact h49 | exact h50 | exact h52 | exact h53 | exact h54 | exact h55 | exact h57 | exact h58 | exact h60 | exact h61 | exact h62 | exact h63) (by first | rfl | exact h46 | exact h47 | exact h49 | exact h50 | exact h52 | exact h53 | exact h54 | exact h55 | exact h57 | exact h58 | exact h60 | exact h61 | exact h62 | exact h63) (by first | rfl | exact h46 | exact h47 | exact h49 | exact h50 | exact h52 | exact h53 | exact h54 | exact h55 | exact h57 | exact h58 | exact h60 | exact h61 | exact h62 | exact h63) (by first | rfl | exact h46 | exact h47 | exact h49 | exact h50 | exact h52 | exact h53 | exact h54 | exact h55 | exact h57 | exact h58 | exact h60 | exact h61 | exact h62 | exact h63) (by first | rfl | exact h46 | exact h47 | exact h49 | exact h50 | exact h52 | exact h53 | exact h54 | exact h55 | exact h57 | exact h58 | exact h60 | exact h61 | exact h62 | exact h63)) ⟨callB_of 1 htx (xw_goodC kw_6_170) rfl rfl rfl (htx _ kw_1_5) (htx _ kw_6_167) ⟨by decide, by decide, by decide +kernel⟩ ⟨Nat.le_of_ble_eq_true rfl, Nat.le_of_ble_eq_true rfl⟩, (htx _ kw_6_169), (htx _ kp_M_register)⟩ ⟨xPre_blind, va_recv hK hP (ci := 5) rfl (q0 := 5) rfl, (fun U hU hW => ⟨rfl, xPre_of hZ hS hFc hPc hDc hK U hU hW⟩)⟩ rfl rfl hl.1 rfl (lv_room (Nat.le_of_ble_eq_true rfl)) dM_same0_37 ⟨Nat.le_of_ble_eq_true rfl, Nat.le_of_ble_eq_true rfl⟩) hS (fun q _ h => hFc q h) hFc (fun u9 r3 t H1 locs ht hvm hr9 hB hz1 hk1 hS => ?_)
  obtain ⟨hP1, hK1, hD1⟩ := hB
  rw [ht] at hP1
  obtain ⟨hP, hD⟩ := xjoin (W := [(a5, .inl (cT 0, 4096, .inl f59)), (a0, .inr (5, [.int 0, .ref a4, .int 1, v18, .int 0, v20, v21, .int 0, v23, .int 0, v25, v26, .int 0, v28, v29, .ref a3, .int 4, .int 4, .int 0, .int 100, v35, v36, .int 0, .int 1000000000, .ref a1, .ref a2, v39, v40, v41, v42, v43, v44])), (a1, .inl (cT 5, 8, .inr (.inr (.inr (.inr f45))))), (a2, .inl (cT 1, 8, .inl f48)), (a3, .inl (cT 0, 4096, .inl f51)), (a4, .inl (cT 4, 1024, .inr (.inr (.inr (.inr (va_up f56 0 (some r3))))))), (r3, .inr (6, [.int 0, .long 0, .int 0, .int 0, .int 0, .int 1]))]) hP hD [5, 0, 1, 2, 3] [4] 1 rfl rfl (by decide) (by decide) hk1 hFc hP1 hD1
  generalize H1 = H at hP hS ⊢
  refine W.eq (g2 := F0 m 40 ls [.ref r3, .ref a0]) rfl ?_
  refine lv_aload_n hx hb dM_same0_40 rfl (lv_at hl 0 rfl) ?_
  refine lv_iload_n hx hb dM_same0_41 rfl (lv_at hl 2 rfl) ?_
  obtain ⟨hPc, hDc, hFc⟩ := xcut (wc := [(a0, .inr (5, [.int 0, .ref a4, .int 1, v18, .int 0, v20, v21, .int 0, v23, .int 0, v25, v26, .int 0, v28, v29, .ref a3, .int 4, .int 4, .int 0, .int 100, v35, v36, .int 0, .int 1000000000, .ref a1, .ref a2, v39, v40, v41, v42, v43, v44])), (a1, .inl (cT 5, 8, .inr (.inr (.inr (.inr f45))))), (a2, .inl (cT 1, 8, .inl f48)), (a5, .inl (cT 0, 4096, .inl f59)), (a4, .inl (cT 4, 1024, .inr (.inr (.inr (.inr (va_up f56 0 (some r3)))))))]) hP hD hS hA [1, 2, 3, 0, 5] rfl rfl (by decide)
  refine va_callr (va_runV (C := "ValueBenchModel") (As := [.int x11]) (rest := [.ref r3, .ref a0]) ⟨hx, hb, hml, hown, htx⟩ (cM_register_1 l hl9 D cT aK aV H.size a0 a1 a2 a5 a4 x11 (.int 0) v18 (.int 0) v20 v21 (.int 0) v23 (.int 0) v25 v26 (.int 0) v28 v29 (.ref a3) (.int 4) (.int 4) (.int 0) (.int 100) v35 v36 (.int 0) (.int 1000000000) v39 v40 v41 v42 v43 v44 f45 f48 f59 (va_up f56 0 (some r3)) h12 h13 h14 h15 (by first | rfl | exact h46 | exact h47 | exact h49 | exact h50 | exact h52 | exact h53 | exact h54 | exact h55 | exact h58 | exact h60 | exact h61 | exact h62 | exact h63) (by first | rfl | exact h46 | exact h47 | exact h49 | exact h50 | exact h52 | exact h53 | exact h54 | exact h55 | exact h58 | exact h60 | exact h61 | exact h62 | exact h63) (by first | rfl | exact h46 | exact h47 | exact h49 | exact h50 | exact h52 | exact h53 | exact h54 | exact h55 | exact h58 | exact h60 | exact h61 | exact h62 | exact h63) (by first | rfl | exact h46 | exact h47 | exact h49 | exact h50 | exact h52 | exact h53 | exact h54 | exact h55 | exact h58 | exact h60 | exact h61 | exact h62 | exact h63) (by first | rfl | exact h46 | exact h47 | exact h49 | exact h50 | exact h52 | exact h53 | exact h54 | exact h55 | exact h58 | exact h60 | exact h61 | exact h62 | exact h63) (by first | rfl | exact h46 | exact h47 | exact h49 | exact h50 | exact h52 | exact h53 | exact h54 | exact h55 | exact h58 | exact h60 | exact h61 | exact h62 | exact h63) (by first | rfl | exact h46 | exact h47 | exact h49 | exact h50 | exact h52 | exact h53 | exact h54 | exact h55 | exact h58 | exact h60 | exact h61 | exact h62 | exact h63)) ⟨callB_of 1 htx (xw_goodC kw_6_170) rfl rfl rfl (htx _ kw_1_5) (htx _ kw_6_167) ⟨by decide, by decide, by decide +kernel⟩ ⟨Nat.le_of_ble_eq_true rfl, Nat.le_of_ble_eq_true rfl⟩, (htx _ kw_6_169), (htx _ kp_M_register)⟩ ⟨xPre_blind, va_recv hK hP (ci := 5) rfl (q0 := 1) rfl, (fun U hU hW => ⟨rfl, xPre_of hZ hS hFc hPc hDc hK U hU hW⟩)⟩ rfl rfl hl.1 rfl (lv_room (Nat.le_of_ble_eq_true rfl)) dM_same0_42 ⟨Nat.le_of_ble_eq_true rfl, Nat.le_of_ble_eq_true rfl⟩) hS (fun q _ h => hFc q h) hFc (fun u9 r4 t H1 locs ht hvm hr9 hB hz1 hk1 hS => ?_)
  obtain ⟨hP1, hK1, hD1⟩ := hB
  rw [ht] at hP1
  obtain ⟨hP, hD⟩ := xjoin (W := [(a3, .inl (cT 0, 4096, .inl f51)), (r3, .inr (6, [.int 0, .long 0, .int 0, .int 0, .int 0, .int 1])), (a0, .inr (5, [.int 0, .ref a4, .int 2, v18, .int 0, v20, v21, .int 0, v23, .int 0, v25, v26, .int 0, v28, v29, .ref a5, .int 4, .int 4, .int 0, .int 100, v35, v36, .int 0, .int 1000000000, .ref a1, .ref a2, v39, v40, v41, v42, v43, v44])), (a1, .inl (cT 5, 8, .inr (.inr (.inr (.inr f45))))), (a2, .inl (cT 1, 8, .inl f48)), (a5, .inl (cT 0, 4096, .inl f59)), (a4, .inl (cT 4, 1024, .inr (.inr (.inr (.inr (va_up (va_up f56 0 (some r3)) 1 (some r4))))))), (r4, .inr (6, [.int 0, .long 0, .int 0, .int 0, .int 0, .int 1]))]) hP hD [1, 2, 3, 0, 5] [4, 6] 2 rfl rfl (by decide) (by decide) hk1 hFc hP1 hD1
  generalize H1 = H at hP hS ⊢
  refine W.eq (g2 := F0 m 45 ls [.ref r4, .ref r3, .ref a0]) rfl ?_
  obtain ⟨hPc, hDc, hFc⟩ := xcut (wc := [(r3, .inr (6, [.int 0, .long 0, .int 0, .int 0, .int 0, .int 1])), (r4, .inr (6, [.int 0, .long 0, .int 0, .int 0, .int 0, .int 1]))]) hP hD hS hA [1, 7] rfl rfl (by decide)
  refine va_calli (va_runV (C := "ValueBenchModel") (As := [.ref r3, .ref r4]) (rest := []) ⟨hx, hb, hml, hown, htx⟩ (cM_same1_0 l hl9 D cT aK aV H.size r3 r4 a0 (.long 0) (.int 0) (.int 0) (.int 0) (.int 1) (.long 0) (.int 0) (.int 0) (.int 0) (.int 1)) ⟨callB_of 2 htx (xw_goodC kw_6_174) rfl rfl rfl (htx _ kw_1_5) (htx _ kw_6_171) ⟨by decide, by decide, by decide +kernel⟩ ⟨Nat.le_of_ble_eq_true rfl, Nat.le_of_ble_eq_true rfl⟩, (htx _ kw_6_173), (htx _ kp_M_same1)⟩ ⟨xPre_blind, va_recv hK hP (ci := 5) rfl (q0 := 2) rfl, (fun U hU hW => ⟨rfl, xPre_of hZ hS hFc hPc hDc hK U hU hW⟩)⟩ rfl rfl hl.1 rfl (lv_room (Nat.le_of_ble_eq_true rfl)) dM_same0_45 ⟨Nat.le_of_ble_eq_true rfl, Nat.le_of_ble_eq_true rfl⟩) hS (fun q _ h => hFc q h) hFc (fun r5 u9 t H1 locs ht hvm hr9 hB hz1 hk1 hS => ?_)
  obtain ⟨hP1, hK1, hD1⟩ := hB
  rw [ht] at hP1
  obtain ⟨hP, hD⟩ := xjoin (W := [(a3, .inl (cT 0, 4096, .inl f51)), (a0, .inr (5, [.int 0, .ref a4, .int 2, v18, .int 0, v20, v21, .int 0, v23, .int 0, v25, v26, .int 0, v28, v29, .ref a5, .int 4, .int 4, .int 0, .int 100, v35, v36, .int 0, .int 1000000000, .ref a1, .ref a2, v39, v40, v41, v42, v43, v44])), (a1, .inl (cT 5, 8, .inr (.inr (.inr (.inr f45))))), (a2, .inl (cT 1, 8, .inl f48)), (a5, .inl (cT 0, 4096, .inl f59)), (a4, .inl (cT 4, 1024, .inr (.inr (.inr (.inr (va_up (va_up f56 0 (some r3)) 1 (some r4))))))), (r3, .inr (6, [.int 0, .long 0, .int 0, .int 0, .int 0, .int 1])), (r4, .inr (6, [.int 0, .long 0, .int 0, .int 0, .int 0, .int 1]))]) hP hD [1, 7] [0, 2, 3, 4, 5, 6] 6 rfl rfl (by decide) (by decide) hk1 hFc hP1 hD1
  generalize H1 = H at hP hS ⊢
  rw [hr9]
  refine W.eq (g2 := F0 m 48 ls [.int 1]) rfl ?_
  obtain ⟨hP9, hD9⟩ := xsub (wc := [(a0, .inr (5, [.int 0, .ref a4, .int 2, v18, .int 0, v20, v21, .int 0, v23, .int 0, v25, v26, .int 0, v28, v29, .ref a5, .int 4, .int 4, .int 0, .int 100, v35, v36, .int 0, .int 1000000000, .ref a1, .ref a2, v39, v40, v41, v42, v43, v44])), (a1, .inl (cT 5, 8, .inr (.inr (.inr (.inr f45))))), (a2, .inl (cT 1, 8, .inl f48)), (a3, .inl (cT 0, 4096, .inl f51)), (a4, .inl (cT 4, 1024, .inr (.inr (.inr (.inr (va_up (va_up f56 0 (some r3)) 1 (some r4))))))), (a5, .inl (cT 0, 4096, .inl f59)), (r3, .inr (6, [.int 0, .long 0, .int 0, .int 0, .int 0, .int 1])), (r4, .inr (6, [.int 0, .long 0, .int 0, .int 0, .int 0, .int 1]))]) hP hD [1, 2, 3, 0, 5, 4, 6, 7] rfl rfl (by decide)
  refine W.widen (k := 2) (n := 12) (Nat.le_of_ble_eq_true rfl) (Nat.le_of_ble_eq_true rfl) ?_
  exact W.zret (v := 1) hx hb hr rfl (fun t ht hW => ⟨⟨1, (), rfl, rfl, r3, r4, by rw [ht]; exact hP9, va_K.moved hW.alike hK, hD9⟩, hS.F ht⟩) hS.2.2 dM_same0_48
set_option maxHeartbeats 400000000 in
set_option maxRecDepth 100000 in
theorem cB_one_0 (l : Launch) (hl9 : l.stackTraces = false) (D : va_G) (cT : Nat → ClassId) (aK aV : Nat → Nat) (sz : Nat) (b0 : Nat) (x1 : Int32) (x3 : Int32) (x4 : Int32) (h2 : x1 < 0) : xMetX l yB_one wyB_one 7 1 6 120 D cT aK aV sz [.ref b0, .int x1, .int x3, .int x4] [] "java/lang/IllegalArgumentException" (fun A t => xB D xcl cT A [] t) := by
  refine vx_ofW (cc := prog_1_method_9_code) (maxL := 4) (ret := none) (by decide) rfl ?_
  intro p e s m args below meth c s₁ B hml hne hv
  obtain ⟨rfl, hsz, hZ, hP, hK, hD0⟩ := hv
  have hx := B.exec
  have hb := B.bytes
  have hr := B.returns
  have hts := atoms_spec (ws := wyB_one) B.pre
  have htx := fun w h => hts w (List.mem_cons_of_mem _ h)
  have hown : s.vm.findClass "ValueBench" = some m.cls := findClass_of_methodNamed B.named
  have hlocks := B.notSynchronized
  subst hsz
  have hD := hD0.self (sz := s.heap.size)
  generalize hAe : va_A [] s.heap.size = A at hD hZ ⊢
  have hA : ∀ q : Nat, s.heap.size ≤ q → A q := fun q h => by rw [← hAe]; exact Or.inr h
  have hS : va_S A s.heap s.heap [] := va_S.rf
  have hP : va_P D xcl [] s.heap := hP
  have hl := lv_entry ([.ref b0, .int x1, .int x3, .int x4]) (n := 4) (Nat.le_of_ble_eq_true rfl)
  rw [lg_entry_eq]
  generalize (lg_sl ([.ref b0, .int x1, .int x3, .int x4]) ++ List.replicate (4 - (lg_sl ([.ref b0, .int x1, .int x3, .int x4])).length) Slot.unset).toArray = ls at hl ⊢
  have hl : lv_has ls 4 [(0, .ref b0), (1, .int x1), (2, .int x3), (3, .int x4)] := hl
  refine lv_iload_n hx hb dB_one_0 rfl (lv_at hl 1 rfl) ?_
  obtain ⟨hPc, hDc, hFc⟩ := xcut (wc := []) hP hD hS hA [] rfl rfl (by decide)
  refine va_calli (va_runS (As := [.int x1]) (rest := []) ⟨hx, hb, hml, hown, htx⟩ (cB_isRegister_0 l hl9 D cT aK aV s.heap.size x1 h2) ⟨callB_of 1 htx (xw_goodC kw_2_18) rfl rfl rfl (htx _ kw_1_1) (htx _ kw_2_16) ⟨by decide, by decide, by decide +kernel⟩ ⟨Nat.le_of_ble_eq_true rfl, Nat.le_of_ble_eq_true rfl⟩, htx _ kw_2_17⟩ ⟨xPre_blind, (fun U hU hW => ⟨rfl, xPre_of hZ hS hFc hPc hDc hK U hU hW⟩)⟩ rfl rfl hl.1 rfl (lv_room (Nat.le_of_ble_eq_true rfl)) dB_one_1 ⟨Nat.le_of_ble_eq_true rfl, Nat.le_of_ble_eq_true rfl⟩) hS (fun q _ h => hFc q h) hFc (fun r1 u9 t H1 locs ht hvm hr9 hB hz1 hk1 hS => ?_)
  obtain ⟨hP1, hK1, hD1⟩ := hB
  rw [ht] at hP1
  obtain ⟨hP, hD⟩ := xjoin (W := []) hP hD [] [] 0 rfl rfl (by decide) (by decide) hk1 hFc hP1 hD1
  generalize H1 = H at hP hS ⊢
  rw [hr9]
  refine W.eq (g2 := F0 m 4 ls [.int 0]) rfl ?_
  refine lv_if_eq (tgt := 27) hx hb dB_one_4 (by decide) (fun _ => ?_) (fun h => ((by revert h; decide : False)).elim)
  refine lv_iconst (v := 0) hx hb dB_one_27 (by decide) ?_
  obtain ⟨hPc, hDc, hFc⟩ := xcut (wc := []) hP hD hS hA [] rfl rfl (by decide)
  refine xx_thr (vx_runS (As := [.int 0]) (rest := []) ⟨hx, hb, hml, hown, htx⟩ (cB_demand_0 l hl9 D cT aK aV H.size) ⟨callB_of 1 htx (xw_goodC kw_1_221) rfl rfl rfl (htx _ kw_1_1) (htx _ kw_1_219) ⟨by decide, by decide, by decide +kernel⟩ ⟨Nat.le_of_ble_eq_true rfl, Nat.le_of_ble_eq_true rfl⟩, htx _ kw_1_220⟩ ⟨xPre_blind, (fun U hU hW => ⟨rfl, xPre_of hZ hS hFc hPc hDc hK U hU hW⟩)⟩ rfl rfl hl.1 rfl (lv_room (Nat.le_of_ble_eq_true rfl)) dB_one_28 ⟨Nat.le_of_ble_eq_true rfl, Nat.le_of_ble_eq_true rfl⟩) hS hFc (fun q _ h => hFc q h) (fun E ce q9 u9 t H1 locs ht hvm _ hB hz1 hk1 hS hce hcv hcl => ?_)
  obtain ⟨rfl, hP1, hK1, hD1⟩ := hB
  rw [ht] at hP1
  obtain ⟨hP, hD⟩ := xjoin (W := []) hP hD [] [] 0 rfl rfl (by decide) (by decide) hk1 hFc hP1 hD1
  generalize H1 = H at hP hS hce ⊢
  obtain ⟨hP9, hD9⟩ := xsub (wc := []) hP hD [] rfl rfl (by decide)
  exact vx_out (E := "java/lang/IllegalArgumentException") (fun x h => (hne x h).elim) hlocks hce hcv hcl (fun t ht ha => ⟨(), trivial, ⟨rfl, by rw [ht]; exact hP9, va_K.moved ha hK, hD9⟩, hS.F ht⟩) hS.2.2 (Nat.le_of_ble_eq_true rfl) (Nat.le_of_ble_eq_true rfl)
set_option maxHeartbeats 400000000 in
set_option maxRecDepth 100000 in
theorem cL_one_0 (l : Launch) (hl9 : l.stackTraces = false) (D : va_G) (cT : Nat → ClassId) (aK aV : Nat → Nat) (sz : Nat) (a0 : Nat) (x1 : Int32) (x3 : Int32) (x4 : Int32) (v5 : Value) (v6 : Value) (v7 : Value) (v8 : Value) (v9 : Value) (v10 : Value) (v11 : Value) (v12 : Value) (h2 : x1 < 0) : xMet l yL_one wyL_one 8 1 6 143 D cT aK aV sz [.ref a0, .int x1, .int x3, .int x4] [(a0, .inr (0, [v5, v6, v7, v8, v9, v10, v11, v12]))] (fun A => va_Qi (fun (r : Int32) (_ : Unit) => r = 1) (fun _ t => xB D xcl cT A [(a0, .inr (0, [v5, v6, v7, v8, v9, v10, v11, v12]))] t) A) := by
  refine va_MetW (cc := method_10_code) (maxL := 5) (ret := (some .int)) (hh := [(0, 7, 10, 19), (0, 7, 14, 33), (0, 7, 18, 13)]) (by decide) rfl ?_
  intro p e s m args below meth c s₁ B hml hv
  obtain ⟨rfl, hsz, hZ, hP, hK, hD0⟩ := hv
  have hx := B.exec
  have hb := B.bytes
  have hr := B.returns
  have hts := atoms_spec (ws := wyL_one) B.pre
  have htx := fun w h => hts w (List.mem_cons_of_mem _ h)
  have hown : s.vm.findClass "ValueBenchLaw" = some m.cls := findClass_of_methodNamed B.named
  have hlocks := B.notSynchronized
  subst hsz
  have hD := hD0.self (sz := s.heap.size)
  generalize hAe : va_A [(a0, .inr (0, [v5, v6, v7, v8, v9, v10, v11, v12]))] s.heap.size = A at hD hZ ⊢
  have hA : ∀ q : Nat, s.heap.size ≤ q → A q := fun q h => by rw [← hAe]; exact Or.inr h
  have hS : va_S A s.heap s.heap [] := va_S.rf
  have hP : va_P D xcl [(a0, .inr (0, [v5, v6, v7, v8, v9, v10, v11, v12]))] s.heap := hP
  have hl := lv_entry ([.ref a0, .int x1, .int x3, .int x4]) (n := 5) (Nat.le_of_ble_eq_true rfl)
  rw [lg_entry_eq]
  generalize (lg_sl ([.ref a0, .int x1, .int x3, .int x4]) ++ List.replicate (5 - (lg_sl ([.ref a0, .int x1, .int x3, .int x4])).length) Slot.unset).toArray = ls at hl ⊢
  have hl : lv_has ls 5 [(0, .ref a0), (1, .int x1), (2, .int x3), (3, .int x4)] := hl
  have htab := vx_table (x := yL_one) B (hts _ List.mem_cons_self)
  refine lv_aload_n hx hb dL_one_0 rfl (lv_at hl 0 rfl) ?_
  refine lv_iload_n hx hb dL_one_1 rfl (lv_at hl 1 rfl) ?_
  refine lv_iload_n hx hb dL_one_2 rfl (lv_at hl 2 rfl) ?_
  refine lv_iload_n hx hb dL_one_3 rfl (lv_at hl 3 rfl) ?_
  obtain ⟨hPc, hDc, hFc⟩ := xcut (wc := []) hP hD hS hA [] rfl rfl (by decide)
  refine xx_thr (vx_runV (C := "ValueBench") (As := [.int x1, .int x3, .int x4]) (rest := []) ⟨hx, hb, hml, hown, htx⟩ (cB_one_0 l hl9 D cT aK aV s.heap.size a0 x1 x3 x4 h2) ⟨callB_of 3 htx (xw_goodC kw_4_25) rfl rfl rfl (htx _ kw_1_1) (htx _ kw_4_22) ⟨by decide, by decide, by decide +kernel⟩ ⟨Nat.le_of_ble_eq_true rfl, Nat.le_of_ble_eq_true rfl⟩, (htx _ kw_4_23), (htx _ kw_4_24)⟩ ⟨xPre_blind, va_recv hK hP (ci := 0) rfl (q0 := 0) rfl, (fun U hU hW => ⟨rfl, xPre_of hZ hS hFc hPc hDc hK U hU hW⟩)⟩ rfl rfl hl.1 rfl (lv_room (Nat.le_of_ble_eq_true rfl)) dL_one_4 ⟨Nat.le_of_ble_eq_true rfl, Nat.le_of_ble_eq_true rfl⟩) hS hFc (fun q _ h => hFc q h) (fun E ce q9 u9 t H1 locs ht hvm _ hB hz1 hk1 hS hce hcv hcl => ?_)
  obtain ⟨rfl, hP1, hK1, hD1⟩ := hB
  rw [ht] at hP1
  obtain ⟨hP, hD⟩ := xjoin (W := [(a0, .inr (0, [v5, v6, v7, v8, v9, v10, v11, v12]))]) hP hD [] [0] 1 rfl rfl (by decide) (by decide) hk1 hFc hP1 hD1
  generalize H1 = H at hP hS hce ⊢
  refine vx_catch (own := "ValueBenchLaw") (name := "java/lang/IllegalArgumentException") (E := "java/lang/IllegalArgumentException") hown [] ⟨0, 7, 10, 19⟩ [⟨0, 7, 14, 33⟩, ⟨0, 7, 18, 13⟩] (by rw [htab]; rfl) (fun z hz => nomatch hz) (by decide) (by decide) (htx _ kw_1_211) ((hZ.2.2.2.2.2.1 "java/lang/IllegalArgumentException" (List.mem_of_getElem? (i := 1) rfl)).use rfl) hce hcv hcl ?_
  refine lv_astore (lv' := [(4, .ref q9), (0, .ref a0), (1, .int x1), (2, .int x3), (3, .int x4)]) hx hb dL_one_10 hl (by decide) rfl (fun ls hl => ?_)
  refine lv_iconst (v := 1) hx hb dL_one_12 (by decide) ?_
  obtain ⟨hP9, hD9⟩ := xsub (wc := [(a0, .inr (0, [v5, v6, v7, v8, v9, v10, v11, v12]))]) hP hD [0] rfl rfl (by decide)
  refine W.widen (k := 1) (n := 6) (Nat.le_of_ble_eq_true rfl) (Nat.le_of_ble_eq_true rfl) ?_
  exact W.iret (v := 1) hx hb hr (fun t ht hW => ⟨⟨1, (), rfl, rfl, by rw [ht]; exact hP9, va_K.moved hW.alike hK, hD9⟩, hS.F ht⟩) hS.2.2 dL_one_13
set_option maxHeartbeats 400000000 in
set_option maxRecDepth 100000 in
theorem cM_one0_0 (l : Launch) (hl9 : l.stackTraces = false) (D : va_G) (cT : Nat → ClassId) (aK aV : Nat → Nat) (sz : Nat) (a0 : Nat) (x1 : Int32) (x3 : Int32) (x4 : Int32) (v5 : Value) (v6 : Value) (v7 : Value) (v8 : Value) (v9 : Value) (v10 : Value) (v11 : Value) (v12 : Value) (v13 : Value) (v14 : Value) (v15 : Value) (v16 : Value) (v17 : Value) (v18 : Value) (v19 : Value) (v20 : Value) (v21 : Value) (v22 : Value) (v23 : Value) (v24 : Value) (v25 : Value) (v26 : Value) (v27 : Value) (v28 : Value) (v29 : Value) (v30 : Value) (v31 : Value) (v32 : Value) (v33 : Value) (v34 : Value) (v35 : Value) (v36 : Value) (h2 : x1 < 0) : xMet l yM_one0 wyM_one0 2 0 0 40 D cT aK aV sz [.ref a0, .int x1, .int x3, .int x4] [(a0, .inr (5, [v5, v6, v7, v8, v9, v10, v11, v12, v13, v14, v15, v16, v17, v18, v19, v20, v21, v22, v23, v24, v25, v26, v27, v28, v29, v30, v31, v32, v33, v34, v35, v36]))] (fun A => va_Qv (fun _ : Unit => True) (fun _ t => xB D xcl cT A [(a0, .inr (5, [.int 1, v6, .int 0, v8, .int 0, v10, v11, .int 0, v13, .int 0, v15, v16, .int 0, v18, v19, v20, v21, v22, v23, v24, v25, v26, .int 0, .int 1000000000, v29, v30, v31, v32, v33, v34, v35, v36]))] t) A) := by
  refine Met.ofW (cc := prog_13_method_92_code) (maxL := 4) (ret := none) (by decide) rfl ?_
  intro p e s m args below meth c s₁ B hml hv
  obtain ⟨rfl, hsz, hZ, hP, hK, hD0⟩ := hv
  have hx := B.exec
  have hb := B.bytes
  have hr := B.returns
  have hts := atoms_spec (ws := wyM_one0) B.pre
  have htx := fun w h => hts w (List.mem_cons_of_mem _ h)
  have hown : s.vm.findClass "ValueBenchModel" = some m.cls := findClass_of_methodNamed B.named
  have hlocks := B.notSynchronized
  subst hsz
  have hD := hD0.self (sz := s.heap.size)
  generalize hAe : va_A [(a0, .inr (5, [v5, v6, v7, v8, v9, v10, v11, v12, v13, v14, v15, v16, v17, v18, v19, v20, v21, v22, v23, v24, v25, v26, v27, v28, v29, v30, v31, v32, v33, v34, v35, v36]))] s.heap.size = A at hD hZ ⊢
  have hA : ∀ q : Nat, s.heap.size ≤ q → A q := fun q h => by rw [← hAe]; exact Or.inr h
  have hS : va_S A s.heap s.heap [] := va_S.rf
  have hP : va_P D xcl [(a0, .inr (5, [v5, v6, v7, v8, v9, v10, v11, v12, v13, v14, v15, v16, v17, v18, v19, v20, v21, v22, v23, v24, v25, v26, v27, v28, v29, v30, v31, v32, v33, v34, v35, v36]))] s.heap := hP
  have hl := lv_entry ([.ref a0, .int x1, .int x3, .int x4]) (n := 4) (Nat.le_of_ble_eq_true rfl)
  rw [lg_entry_eq]
  generalize (lg_sl ([.ref a0, .int x1, .int x3, .int x4]) ++ List.replicate (4 - (lg_sl ([.ref a0, .int x1, .int x3, .int x4])).length) Slot.unset).toArray = ls at hl ⊢
  have hl : lv_has ls 4 [(0, .ref a0), (1, .int x1), (2, .int x3), (3, .int x4)] := hl
  refine lv_aload_n hx hb dM_one0_0 rfl (lv_at hl 0 rfl) ?_
  obtain ⟨hPc, hDc, hFc⟩ := xcut (wc := [(a0, .inr (5, [v5, v6, v7, v8, v9, v10, v11, v12, v13, v14, v15, v16, v17, v18, v19, v20, v21, v22, v23, v24, v25, v26, v27, v28, v29, v30, v31, v32, v33, v34, v35, v36]))]) hP hD hS hA [0] rfl rfl (by decide)
  refine va_callv (va_runV (C := "ValueBenchModel") (As := []) (rest := []) ⟨hx, hb, hml, hown, htx⟩ (cM_begin_0 l hl9 D cT aK aV s.heap.size a0 v5 v6 v7 v8 v9 v10 v11 v12 v13 v14 v15 v16 v17 v18 v19 v20 v21 v22 v23 v24 v25 v26 v27 v28 v29 v30 v31 v32 v33 v34 v35 v36) ⟨callB_of 0 htx (xw_goodC kw_5_209) rfl rfl rfl (htx _ kw_1_5) (htx _ kw_5_206) ⟨by decide, by decide, by decide +kernel⟩ ⟨Nat.le_of_ble_eq_true rfl, Nat.le_of_ble_eq_true rfl⟩, (htx _ kw_5_208), (htx _ kp_M_begin)⟩ ⟨xPre_blind, va_recv hK hP (ci := 5) rfl (q0 := 0) rfl, (fun U hU hW => ⟨rfl, xPre_of hZ hS hFc hPc hDc hK U hU hW⟩)⟩ rfl rfl hl.1 rfl (lv_room (Nat.le_of_ble_eq_true rfl)) dM_one0_1 ⟨Nat.le_of_ble_eq_true rfl, Nat.le_of_ble_eq_true rfl⟩) hS (fun q _ h => hFc q h) hFc (fun u9 t H1 locs ht hvm hr9 hB hz1 hk1 hS => ?_)
  obtain ⟨hP1, hK1, hD1⟩ := hB
  rw [ht] at hP1
  obtain ⟨hP, hD⟩ := xjoin (W := [(a0, .inr (5, [.int 0, v6, .int 0, v8, .int 0, v10, v11, .int 0, v13, .int 0, v15, v16, .int 0, v18, v19, v20, v21, v22, v23, v24, v25, v26, .int 0, .int 1000000000, v29, v30, v31, v32, v33, v34, v35, v36]))]) hP hD [0] [] 0 rfl rfl (by decide) (by decide) hk1 hFc hP1 hD1
  generalize H1 = H at hP hS ⊢
  refine lv_aload_n hx hb dM_one0_4 rfl (lv_at hl 0 rfl) ?_
  refine lv_iload_n hx hb dM_one0_5 rfl (lv_at hl 1 rfl) ?_
  obtain ⟨hPc, hDc, hFc⟩ := xcut (wc := []) hP hD hS hA [] rfl rfl (by decide)
  refine va_calli (va_runV (C := "ValueBenchModel") (As := [.int x1]) (rest := []) ⟨hx, hb, hml, hown, htx⟩ (cM_out_0 l hl9 D cT aK aV H.size a0 x1 h2) ⟨callB_of 1 htx (xw_goodC kw_5_217) rfl rfl rfl (htx _ kw_1_5) (htx _ kw_5_214) ⟨by decide, by decide, by decide +kernel⟩ ⟨Nat.le_of_ble_eq_true rfl, Nat.le_of_ble_eq_true rfl⟩, (htx _ kw_5_216), (htx _ kp_M_out)⟩ ⟨xPre_blind, va_recv hK hP (ci := 5) rfl (q0 := 0) rfl, (fun U hU hW => ⟨rfl, xPre_of hZ hS hFc hPc hDc hK U hU hW⟩)⟩ rfl rfl hl.1 rfl (lv_room (Nat.le_of_ble_eq_true rfl)) dM_one0_6 ⟨Nat.le_of_ble_eq_true rfl, Nat.le_of_ble_eq_true rfl⟩) hS (fun q _ h => hFc q h) hFc (fun r1 u9 t H1 locs ht hvm hr9 hB hz1 hk1 hS => ?_)
  obtain ⟨hP1, hK1, hD1⟩ := hB
  rw [ht] at hP1
  obtain ⟨hP, hD⟩ := xjoin (W := [(a0, .inr (5, [.int 0, v6, .int 0, v8, .int 0, v10, v11, .int 0, v13, .int 0, v15, v16, .int 0, v18, v19, v20, v21, v22, v23, v24, v25, v26, .int 0, .int 1000000000, v29, v30, v31, v32, v33, v34, v35, v36]))]) hP hD [] [0] 1 rfl rfl (by decide) (by decide) hk1 hFc hP1 hD1
  generalize H1 = H at hP hS ⊢
  rw [hr9]
  refine W.eq (g2 := F0 m 9 ls [.int 1]) rfl ?_
  refine lv_if_ne (tgt := 30) hx hb dM_one0_9 (by decide) (fun _ => ?_) (fun h => ((by revert h; decide : False)).elim)
  refine lv_aload_n hx hb dM_one0_30 rfl (lv_at hl 0 rfl) ?_
  refine lv_iconst (v := 1) hx hb dM_one0_31 (by decide) ?_
  refine va_put (D := D) (ci := 5) (v := .int 1) (ty := .int) (C := "ValueBenchModel") (T := TM) (N := 32) hx hb htx inM tyM tyM_ok nmM hown hK hP hD hS 0 rfl rfl 0 (by decide) (htx _ kw_5_87) (fun _ h9 => h9) rfl (by decide +kernel) rfl rfl (Nat.le_of_ble_eq_true rfl) dM_one0_32 (fun H locs hP hD hS => ?_)
  obtain ⟨hP, hD⟩ : xPD D xcl A [(a0, .inr (5, [.int 1, v6, .int 0, v8, .int 0, v10, v11, .int 0, v13, .int 0, v15, v16, .int 0, v18, v19, v20, v21, v22, v23, v24, v25, v26, .int 0, .int 1000000000, v29, v30, v31, v32, v33, v34, v35, v36]))] H := ⟨hP, hD⟩
  refine lv_goto (tgt := 47) hx hb dM_one0_35 (by decide) ?_
  obtain ⟨hP9, hD9⟩ := xsub (wc := [(a0, .inr (5, [.int 1, v6, .int 0, v8, .int 0, v10, v11, .int 0, v13, .int 0, v15, v16, .int 0, v18, v19, v20, v21, v22, v23, v24, v25, v26, .int 0, .int 1000000000, v29, v30, v31, v32, v33, v34, v35, v36]))]) hP hD [0] rfl rfl (by decide)
  refine W.widen (k := 0) (n := 0) (Nat.le_of_ble_eq_true rfl) (Nat.le_of_ble_eq_true rfl) ?_
  exact W.vret hx hb hr (fun t ht hW => ⟨⟨(), rfl, trivial, by rw [ht]; exact hP9, va_K.moved hW.alike hK, hD9⟩, hS.F ht⟩) hS.2.2 dM_one0_47
set_option maxHeartbeats 400000000 in
set_option maxRecDepth 100000 in
theorem cB_one_1 (l : Launch) (hl9 : l.stackTraces = false) (D : va_G) (cT : Nat → ClassId) (aK aV : Nat → Nat) (sz : Nat) (b0 : Nat) (x1 : Int32) (x5 : Int32) (x6 : Int32) (h2 : ¬ x1 < 0) (h3 : 7 < x1) (h4 : ¬ x1 ≤ 7) : xMetX l yB_one wyB_one 7 1 6 120 D cT aK aV sz [.ref b0, .int x1, .int x5, .int x6] [] "java/lang/IllegalArgumentException" (fun A t => xB D xcl cT A [] t) := by
  refine vx_ofW (cc := prog_1_method_9_code) (maxL := 4) (ret := none) (by decide) rfl ?_
  intro p e s m args below meth c s₁ B hml hne hv
  obtain ⟨rfl, hsz, hZ, hP, hK, hD0⟩ := hv
  have hx := B.exec
  have hb := B.bytes
  have hr := B.returns
  have hts := atoms_spec (ws := wyB_one) B.pre
  have htx := fun w h => hts w (List.mem_cons_of_mem _ h)
  have hown : s.vm.findClass "ValueBench" = some m.cls := findClass_of_methodNamed B.named
  have hlocks := B.notSynchronized
  subst hsz
  have hD := hD0.self (sz := s.heap.size)
  generalize hAe : va_A [] s.heap.size = A at hD hZ ⊢
  have hA : ∀ q : Nat, s.heap.size ≤ q → A q := fun q h => by rw [← hAe]; exact Or.inr h
  have hS : va_S A s.heap s.heap [] := va_S.rf
  have hP : va_P D xcl [] s.heap := hP
  have hl := lv_entry ([.ref b0, .int x1, .int x5, .int x6]) (n := 4) (Nat.le_of_ble_eq_true rfl)
  rw [lg_entry_eq]
  generalize (lg_sl ([.ref b0, .int x1, .int x5, .int x6]) ++ List.replicate (4 - (lg_sl ([.ref b0, .int x1, .int x5, .int x6])).length) Slot.unset).toArray = ls at hl ⊢
  have hl : lv_has ls 4 [(0, .ref b0), (1, .int x1), (2, .int x5), (3, .int x6)] := hl
  refine lv_iload_n hx hb dB_one_0 rfl (lv_at hl 1 rfl) ?_
  obtain ⟨hPc, hDc, hFc⟩ := xcut (wc := []) hP hD hS hA [] rfl rfl (by decide)
  refine va_calli (va_runS (As := [.int x1]) (rest := []) ⟨hx, hb, hml, hown, htx⟩ (cB_isRegister_1 l hl9 D cT aK aV s.heap.size x1 h2 h3 h4) ⟨callB_of 1 htx (xw_goodC kw_2_18) rfl rfl rfl (htx _ kw_1_1) (htx _ kw_2_16) ⟨by decide, by decide, by decide +kernel⟩ ⟨Nat.le_of_ble_eq_true rfl, Nat.le_of_ble_eq_true rfl⟩, htx _ kw_2_17⟩ ⟨xPre_blind, (fun U hU hW => ⟨rfl, xPre_of hZ hS hFc hPc hDc hK U hU hW⟩)⟩ rfl rfl hl.1 rfl (lv_room (Nat.le_of_ble_eq_true rfl)) dB_one_1 ⟨Nat.le_of_ble_eq_true rfl, Nat.le_of_ble_eq_true rfl⟩) hS (fun q _ h => hFc q h) hFc (fun r1 u9 t H1 locs ht hvm hr9 hB hz1 hk1 hS => ?_)
  obtain ⟨hP1, hK1, hD1⟩ := hB
  rw [ht] at hP1
  obtain ⟨hP, hD⟩ := xjoin (W := []) hP hD [] [] 0 rfl rfl (by decide) (by decide) hk1 hFc hP1 hD1
  generalize H1 = H at hP hS ⊢
  rw [hr9]
  refine W.eq (g2 := F0 m 4 ls [.int 0]) rfl ?_
  refine lv_if_eq (tgt := 27) hx hb dB_one_4 (by decide) (fun _ => ?_) (fun h => ((by revert h; decide : False)).elim)
  refine lv_iconst (v := 0) hx hb dB_one_27 (by decide) ?_
  obtain ⟨hPc, hDc, hFc⟩ := xcut (wc := []) hP hD hS hA [] rfl rfl (by decide)
  refine xx_thr (vx_runS (As := [.int 0]) (rest := []) ⟨hx, hb, hml, hown, htx⟩ (cB_demand_0 l hl9 D cT aK aV H.size) ⟨callB_of 1 htx (xw_goodC kw_1_221) rfl rfl rfl (htx _ kw_1_1) (htx _ kw_1_219) ⟨by decide, by decide, by decide +kernel⟩ ⟨Nat.le_of_ble_eq_true rfl, Nat.le_of_ble_eq_true rfl⟩, htx _ kw_1_220⟩ ⟨xPre_blind, (fun U hU hW => ⟨rfl, xPre_of hZ hS hFc hPc hDc hK U hU hW⟩)⟩ rfl rfl hl.1 rfl (lv_room (Nat.le_of_ble_eq_true rfl)) dB_one_28 ⟨Nat.le_of_ble_eq_true rfl, Nat.le_of_ble_eq_true rfl⟩) hS hFc (fun q _ h => hFc q h) (fun E ce q9 u9 t H1 locs ht hvm _ hB hz1 hk1 hS hce hcv hcl => ?_)
  obtain ⟨rfl, hP1, hK1, hD1⟩ := hB
  rw [ht] at hP1
  obtain ⟨hP, hD⟩ := xjoin (W := []) hP hD [] [] 0 rfl rfl (by decide) (by decide) hk1 hFc hP1 hD1
  generalize H1 = H at hP hS hce ⊢
  obtain ⟨hP9, hD9⟩ := xsub (wc := []) hP hD [] rfl rfl (by decide)
  exact vx_out (E := "java/lang/IllegalArgumentException") (fun x h => (hne x h).elim) hlocks hce hcv hcl (fun t ht ha => ⟨(), trivial, ⟨rfl, by rw [ht]; exact hP9, va_K.moved ha hK, hD9⟩, hS.F ht⟩) hS.2.2 (Nat.le_of_ble_eq_true rfl) (Nat.le_of_ble_eq_true rfl)
set_option maxHeartbeats 400000000 in
set_option maxRecDepth 100000 in
theorem cL_one_1 (l : Launch) (hl9 : l.stackTraces = false) (D : va_G) (cT : Nat → ClassId) (aK aV : Nat → Nat) (sz : Nat) (a0 : Nat) (x1 : Int32) (x5 : Int32) (x6 : Int32) (v7 : Value) (v8 : Value) (v9 : Value) (v10 : Value) (v11 : Value) (v12 : Value) (v13 : Value) (v14 : Value) (h2 : ¬ x1 < 0) (h3 : 7 < x1) (h4 : ¬ x1 ≤ 7) : xMet l yL_one wyL_one 8 1 6 143 D cT aK aV sz [.ref a0, .int x1, .int x5, .int x6] [(a0, .inr (0, [v7, v8, v9, v10, v11, v12, v13, v14]))] (fun A => va_Qi (fun (r : Int32) (_ : Unit) => r = 1) (fun _ t => xB D xcl cT A [(a0, .inr (0, [v7, v8, v9, v10, v11, v12, v13, v14]))] t) A) := by
  refine va_MetW (cc := method_10_code) (maxL := 5) (ret := (some .int)) (hh := [(0, 7, 10, 19), (0, 7, 14, 33), (0, 7, 18, 13)]) (by decide) rfl ?_
  intro p e s m args below meth c s₁ B hml hv
  obtain ⟨rfl, hsz, hZ, hP, hK, hD0⟩ := hv
  have hx := B.exec
  have hb := B.bytes
  have hr := B.returns
  have hts := atoms_spec (ws := wyL_one) B.pre
  have htx := fun w h => hts w (List.mem_cons_of_mem _ h)
  have hown : s.vm.findClass "ValueBenchLaw" = some m.cls := findClass_of_methodNamed B.named
  have hlocks := B.notSynchronized
  subst hsz
  have hD := hD0.self (sz := s.heap.size)
  generalize hAe : va_A [(a0, .inr (0, [v7, v8, v9, v10, v11, v12, v13, v14]))] s.heap.size = A at hD hZ ⊢
  have hA : ∀ q : Nat, s.heap.size ≤ q → A q := fun q h => by rw [← hAe]; exact Or.inr h
  have hS : va_S A s.heap s.heap [] := va_S.rf
  have hP : va_P D xcl [(a0, .inr (0, [v7, v8, v9, v10, v11, v12, v13, v14]))] s.heap := hP
  have hl := lv_entry ([.ref a0, .int x1, .int x5, .int x6]) (n := 5) (Nat.le_of_ble_eq_true rfl)
  rw [lg_entry_eq]
  generalize (lg_sl ([.ref a0, .int x1, .int x5, .int x6]) ++ List.replicate (5 - (lg_sl ([.ref a0, .int x1, .int x5, .int x6])).length) Slot.unset).toArray = ls at hl ⊢
  have hl : lv_has ls 5 [(0, .ref a0), (1, .int x1), (2, .int x5), (3, .int x6)] := hl
  have htab := vx_table (x := yL_one) B (hts _ List.mem_cons_self)
  refine lv_aload_n hx hb dL_one_0 rfl (lv_at hl 0 rfl) ?_
  refine lv_iload_n hx hb dL_one_1 rfl (lv_at hl 1 rfl) ?_
  refine lv_iload_n hx hb dL_one_2 rfl (lv_at hl 2 rfl) ?_
  refine lv_iload_n hx hb dL_one_3 rfl (lv_at hl 3 rfl) ?_
  obtain ⟨hPc, hDc, hFc⟩ := xcut (wc := []) hP hD hS hA [] rfl rfl (by decide)
  refine xx_thr (vx_runV (C := "ValueBench") (As := [.int x1, .int x5, .int x6]) (rest := []) ⟨hx, hb, hml, hown, htx⟩ (cB_one_1 l hl9 D cT aK aV s.heap.size a0 x1 x5 x6 h2 h3 h4) ⟨callB_of 3 htx (xw_goodC kw_4_25) rfl rfl rfl (htx _ kw_1_1) (htx _ kw_4_22) ⟨by decide, by decide, by decide +kernel⟩ ⟨Nat.le_of_ble_eq_true rfl, Nat.le_of_ble_eq_true rfl⟩, (htx _ kw_4_23), (htx _ kw_4_24)⟩ ⟨xPre_blind, va_recv hK hP (ci := 0) rfl (q0 := 0) rfl, (fun U hU hW => ⟨rfl, xPre_of hZ hS hFc hPc hDc hK U hU hW⟩)⟩ rfl rfl hl.1 rfl (lv_room (Nat.le_of_ble_eq_true rfl)) dL_one_4 ⟨Nat.le_of_ble_eq_true rfl, Nat.le_of_ble_eq_true rfl⟩) hS hFc (fun q _ h => hFc q h) (fun E ce q9 u9 t H1 locs ht hvm _ hB hz1 hk1 hS hce hcv hcl => ?_)
  obtain ⟨rfl, hP1, hK1, hD1⟩ := hB
  rw [ht] at hP1
  obtain ⟨hP, hD⟩ := xjoin (W := [(a0, .inr (0, [v7, v8, v9, v10, v11, v12, v13, v14]))]) hP hD [] [0] 1 rfl rfl (by decide) (by decide) hk1 hFc hP1 hD1
  generalize H1 = H at hP hS hce ⊢
  refine vx_catch (own := "ValueBenchLaw") (name := "java/lang/IllegalArgumentException") (E := "java/lang/IllegalArgumentException") hown [] ⟨0, 7, 10, 19⟩ [⟨0, 7, 14, 33⟩, ⟨0, 7, 18, 13⟩] (by rw [htab]; rfl) (fun z hz => nomatch hz) (by decide) (by decide) (htx _ kw_1_211) ((hZ.2.2.2.2.2.1 "java/lang/IllegalArgumentException" (List.mem_of_getElem? (i := 1) rfl)).use rfl) hce hcv hcl ?_
  refine lv_astore (lv' := [(4, .ref q9), (0, .ref a0), (1, .int x1), (2, .int x5), (3, .int x6)]) hx hb dL_one_10 hl (by decide) rfl (fun ls hl => ?_)
  refine lv_iconst (v := 1) hx hb dL_one_12 (by decide) ?_
  obtain ⟨hP9, hD9⟩ := xsub (wc := [(a0, .inr (0, [v7, v8, v9, v10, v11, v12, v13, v14]))]) hP hD [0] rfl rfl (by decide)
  refine W.widen (k := 1) (n := 6) (Nat.le_of_ble_eq_true rfl) (Nat.le_of_ble_eq_true rfl) ?_
  exact W.iret (v := 1) hx hb hr (fun t ht hW => ⟨⟨1, (), rfl, rfl, by rw [ht]; exact hP9, va_K.moved hW.alike hK, hD9⟩, hS.F ht⟩) hS.2.2 dL_one_13
set_option maxHeartbeats 400000000 in
set_option maxRecDepth 100000 in
theorem cM_one0_1 (l : Launch) (hl9 : l.stackTraces = false) (D : va_G) (cT : Nat → ClassId) (aK aV : Nat → Nat) (sz : Nat) (a0 : Nat) (x1 : Int32) (x5 : Int32) (x6 : Int32) (v7 : Value) (v8 : Value) (v9 : Value) (v10 : Value) (v11 : Value) (v12 : Value) (v13 : Value) (v14 : Value) (v15 : Value) (v16 : Value) (v17 : Value) (v18 : Value) (v19 : Value) (v20 : Value) (v21 : Value) (v22 : Value) (v23 : Value) (v24 : Value) (v25 : Value) (v26 : Value) (v27 : Value) (v28 : Value) (v29 : Value) (v30 : Value) (v31 : Value) (v32 : Value) (v33 : Value) (v34 : Value) (v35 : Value) (v36 : Value) (v37 : Value) (v38 : Value) (h2 : ¬ x1 < 0) (h3 : 7 < x1) (h4 : ¬ x1 ≤ 7) : xMet l yM_one0 wyM_one0 2 0 0 40 D cT aK aV sz [.ref a0, .int x1, .int x5, .int x6] [(a0, .inr (5, [v7, v8, v9, v10, v11, v12, v13, v14, v15, v16, v17, v18, v19, v20, v21, v22, v23, v24, v25, v26, v27, v28, v29, v30, v31, v32, v33, v34, v35, v36, v37, v38]))] (fun A => va_Qv (fun _ : Unit => True) (fun _ t => xB D xcl cT A [(a0, .inr (5, [.int 1, v8, .int 0, v10, .int 0, v12, v13, .int 0, v15, .int 0, v17, v18, .int 0, v20, v21, v22, v23, v24, v25, v26, v27, v28, .int 0, .int 1000000000, v31, v32, v33, v34, v35, v36, v37, v38]))] t) A) := by
  refine Met.ofW (cc := prog_13_method_92_code) (maxL := 4) (ret := none) (by decide) rfl ?_
  intro p e s m args below meth c s₁ B hml hv
  obtain ⟨rfl, hsz, hZ, hP, hK, hD0⟩ := hv
  have hx := B.exec
  have hb := B.bytes
  have hr := B.returns
  have hts := atoms_spec (ws := wyM_one0) B.pre
  have htx := fun w h => hts w (List.mem_cons_of_mem _ h)
  have hown : s.vm.findClass "ValueBenchModel" = some m.cls := findClass_of_methodNamed B.named
  have hlocks := B.notSynchronized
  subst hsz
  have hD := hD0.self (sz := s.heap.size)
  generalize hAe : va_A [(a0, .inr (5, [v7, v8, v9, v10, v11, v12, v13, v14, v15, v16, v17, v18, v19, v20, v21, v22, v23, v24, v25, v26, v27, v28, v29, v30, v31, v32, v33, v34, v35, v36, v37, v38]))] s.heap.size = A at hD hZ ⊢
  have hA : ∀ q : Nat, s.heap.size ≤ q → A q := fun q h => by rw [← hAe]; exact Or.inr h
  have hS : va_S A s.heap s.heap [] := va_S.rf
  have hP : va_P D xcl [(a0, .inr (5, [v7, v8, v9, v10, v11, v12, v13, v14, v15, v16, v17, v18, v19, v20, v21, v22, v23, v24, v25, v26, v27, v28, v29, v30, v31, v32, v33, v34, v35, v36, v37, v38]))] s.heap := hP
  have hl := lv_entry ([.ref a0, .int x1, .int x5, .int x6]) (n := 4) (Nat.le_of_ble_eq_true rfl)
  rw [lg_entry_eq]
  generalize (lg_sl ([.ref a0, .int x1, .int x5, .int x6]) ++ List.replicate (4 - (lg_sl ([.ref a0, .int x1, .int x5, .int x6])).length) Slot.unset).toArray = ls at hl ⊢
  have hl : lv_has ls 4 [(0, .ref a0), (1, .int x1), (2, .int x5), (3, .int x6)] := hl
  refine lv_aload_n hx hb dM_one0_0 rfl (lv_at hl 0 rfl) ?_
  obtain ⟨hPc, hDc, hFc⟩ := xcut (wc := [(a0, .inr (5, [v7, v8, v9, v10, v11, v12, v13, v14, v15, v16, v17, v18, v19, v20, v21, v22, v23, v24, v25, v26, v27, v28, v29, v30, v31, v32, v33, v34, v35, v36, v37, v38]))]) hP hD hS hA [0] rfl rfl (by decide)
  refine va_callv (va_runV (C := "ValueBenchModel") (As := []) (rest := []) ⟨hx, hb, hml, hown, htx⟩ (cM_begin_0 l hl9 D cT aK aV s.heap.size a0 v7 v8 v9 v10 v11 v12 v13 v14 v15 v16 v17 v18 v19 v20 v21 v22 v23 v24 v25 v26 v27 v28 v29 v30 v31 v32 v33 v34 v35 v36 v37 v38) ⟨callB_of 0 htx (xw_goodC kw_5_209) rfl rfl rfl (htx _ kw_1_5) (htx _ kw_5_206) ⟨by decide, by decide, by decide +kernel⟩ ⟨Nat.le_of_ble_eq_true rfl, Nat.le_of_ble_eq_true rfl⟩, (htx _ kw_5_208), (htx _ kp_M_begin)⟩ ⟨xPre_blind, va_recv hK hP (ci := 5) rfl (q0 := 0) rfl, (fun U hU hW => ⟨rfl, xPre_of hZ hS hFc hPc hDc hK U hU hW⟩)⟩ rfl rfl hl.1 rfl (lv_room (Nat.le_of_ble_eq_true rfl)) dM_one0_1 ⟨Nat.le_of_ble_eq_true rfl, Nat.le_of_ble_eq_true rfl⟩) hS (fun q _ h => hFc q h) hFc (fun u9 t H1 locs ht hvm hr9 hB hz1 hk1 hS => ?_)
  obtain ⟨hP1, hK1, hD1⟩ := hB
  rw [ht] at hP1
  obtain ⟨hP, hD⟩ := xjoin (W := [(a0, .inr (5, [.int 0, v8, .int 0, v10, .int 0, v12, v13, .int 0, v15, .int 0, v17, v18, .int 0, v20, v21, v22, v23, v24, v25, v26, v27, v28, .int 0, .int 1000000000, v31, v32, v33, v34, v35, v36, v37, v38]))]) hP hD [0] [] 0 rfl rfl (by decide) (by decide) hk1 hFc hP1 hD1
  generalize H1 = H at hP hS ⊢
  refine lv_aload_n hx hb dM_one0_4 rfl (lv_at hl 0 rfl) ?_
  refine lv_iload_n hx hb dM_one0_5 rfl (lv_at hl 1 rfl) ?_
  obtain ⟨hPc, hDc, hFc⟩ := xcut (wc := []) hP hD hS hA [] rfl rfl (by decide)
  refine va_calli (va_runV (C := "ValueBenchModel") (As := [.int x1]) (rest := []) ⟨hx, hb, hml, hown, htx⟩ (cM_out_1 l hl9 D cT aK aV H.size a0 x1 h2 h3 h4) ⟨callB_of 1 htx (xw_goodC kw_5_217) rfl rfl rfl (htx _ kw_1_5) (htx _ kw_5_214) ⟨by decide, by decide, by decide +kernel⟩ ⟨Nat.le_of_ble_eq_true rfl, Nat.le_of_ble_eq_true rfl⟩, (htx _ kw_5_216), (htx _ kp_M_out)⟩ ⟨xPre_blind, va_recv hK hP (ci := 5) rfl (q0 := 0) rfl, (fun U hU hW => ⟨rfl, xPre_of hZ hS hFc hPc hDc hK U hU hW⟩)⟩ rfl rfl hl.1 rfl (lv_room (Nat.le_of_ble_eq_true rfl)) dM_one0_6 ⟨Nat.le_of_ble_eq_true rfl, Nat.le_of_ble_eq_true rfl⟩) hS (fun q _ h => hFc q h) hFc (fun r1 u9 t H1 locs ht hvm hr9 hB hz1 hk1 hS => ?_)
  obtain ⟨hP1, hK1, hD1⟩ := hB
  rw [ht] at hP1
  obtain ⟨hP, hD⟩ := xjoin (W := [(a0, .inr (5, [.int 0, v8, .int 0, v10, .int 0, v12, v13, .int 0, v15, .int 0, v17, v18, .int 0, v20, v21, v22, v23, v24, v25, v26, v27, v28, .int 0, .int 1000000000, v31, v32, v33, v34, v35, v36, v37, v38]))]) hP hD [] [0] 1 rfl rfl (by decide) (by decide) hk1 hFc hP1 hD1
  generalize H1 = H at hP hS ⊢
  rw [hr9]
  refine W.eq (g2 := F0 m 9 ls [.int 1]) rfl ?_
  refine lv_if_ne (tgt := 30) hx hb dM_one0_9 (by decide) (fun _ => ?_) (fun h => ((by revert h; decide : False)).elim)
  refine lv_aload_n hx hb dM_one0_30 rfl (lv_at hl 0 rfl) ?_
  refine lv_iconst (v := 1) hx hb dM_one0_31 (by decide) ?_
  refine va_put (D := D) (ci := 5) (v := .int 1) (ty := .int) (C := "ValueBenchModel") (T := TM) (N := 32) hx hb htx inM tyM tyM_ok nmM hown hK hP hD hS 0 rfl rfl 0 (by decide) (htx _ kw_5_87) (fun _ h9 => h9) rfl (by decide +kernel) rfl rfl (Nat.le_of_ble_eq_true rfl) dM_one0_32 (fun H locs hP hD hS => ?_)
  obtain ⟨hP, hD⟩ : xPD D xcl A [(a0, .inr (5, [.int 1, v8, .int 0, v10, .int 0, v12, v13, .int 0, v15, .int 0, v17, v18, .int 0, v20, v21, v22, v23, v24, v25, v26, v27, v28, .int 0, .int 1000000000, v31, v32, v33, v34, v35, v36, v37, v38]))] H := ⟨hP, hD⟩
  refine lv_goto (tgt := 47) hx hb dM_one0_35 (by decide) ?_
  obtain ⟨hP9, hD9⟩ := xsub (wc := [(a0, .inr (5, [.int 1, v8, .int 0, v10, .int 0, v12, v13, .int 0, v15, .int 0, v17, v18, .int 0, v20, v21, v22, v23, v24, v25, v26, v27, v28, .int 0, .int 1000000000, v31, v32, v33, v34, v35, v36, v37, v38]))]) hP hD [0] rfl rfl (by decide)
  refine W.widen (k := 0) (n := 0) (Nat.le_of_ble_eq_true rfl) (Nat.le_of_ble_eq_true rfl) ?_
  exact W.vret hx hb hr (fun t ht hW => ⟨⟨(), rfl, trivial, by rw [ht]; exact hP9, va_K.moved hW.alike hK, hD9⟩, hS.F ht⟩) hS.2.2 dM_one0_47
set_option maxHeartbeats 400000000 in
set_option maxRecDepth 100000 in
theorem cB_one_2 (l : Launch) (hl9 : l.stackTraces = false) (D : va_G) (cT : Nat → ClassId) (aK aV : Nat → Nat) (sz : Nat) (b0 : Nat) (x1 : Int32) (x6 : Int32) (x8 : Int32) (h2 : ¬ x1 < 0) (h3 : ¬ 7 < x1) (h4 : x1 ≤ 7) (h5 : vp_in x1 8) (h7 : x6 < 0) : xMetX l yB_one wyB_one 7 1 6 120 D cT aK aV sz [.ref b0, .int x1, .int x6, .int x8] [] "java/lang/IllegalArgumentException" (fun A t => xB D xcl cT A [] t) := by
  refine vx_ofW (cc := prog_1_method_9_code) (maxL := 4) (ret := none) (by decide) rfl ?_
  intro p e s m args below meth c s₁ B hml hne hv
  obtain ⟨rfl, hsz, hZ, hP, hK, hD0⟩ := hv
  have hx := B.exec
  have hb := B.bytes
  have hr := B.returns
  have hts := atoms_spec (ws := wyB_one) B.pre
  have htx := fun w h => hts w (List.mem_cons_of_mem _ h)
  have hown : s.vm.findClass "ValueBench" = some m.cls := findClass_of_methodNamed B.named
  have hlocks := B.notSynchronized
  subst hsz
  have hD := hD0.self (sz := s.heap.size)
  generalize hAe : va_A [] s.heap.size = A at hD hZ ⊢
  have hA : ∀ q : Nat, s.heap.size ≤ q → A q := fun q h => by rw [← hAe]; exact Or.inr h
  have hS : va_S A s.heap s.heap [] := va_S.rf
  have hP : va_P D xcl [] s.heap := hP
  have hl := lv_entry ([.ref b0, .int x1, .int x6, .int x8]) (n := 4) (Nat.le_of_ble_eq_true rfl)
  rw [lg_entry_eq]
  generalize (lg_sl ([.ref b0, .int x1, .int x6, .int x8]) ++ List.replicate (4 - (lg_sl ([.ref b0, .int x1, .int x6, .int x8])).length) Slot.unset).toArray = ls at hl ⊢
  have hl : lv_has ls 4 [(0, .ref b0), (1, .int x1), (2, .int x6), (3, .int x8)] := hl
  refine lv_iload_n hx hb dB_one_0 rfl (lv_at hl 1 rfl) ?_
  obtain ⟨hPc, hDc, hFc⟩ := xcut (wc := []) hP hD hS hA [] rfl rfl (by decide)
  refine va_calli (va_runS (As := [.int x1]) (rest := []) ⟨hx, hb, hml, hown, htx⟩ (cB_isRegister_2 l hl9 D cT aK aV s.heap.size x1 h2 h3 h4 h5) ⟨callB_of 1 htx (xw_goodC kw_2_18) rfl rfl rfl (htx _ kw_1_1) (htx _ kw_2_16) ⟨by decide, by decide, by decide +kernel⟩ ⟨Nat.le_of_ble_eq_true rfl, Nat.le_of_ble_eq_true rfl⟩, htx _ kw_2_17⟩ ⟨xPre_blind, (fun U hU hW => ⟨rfl, xPre_of hZ hS hFc hPc hDc hK U hU hW⟩)⟩ rfl rfl hl.1 rfl (lv_room (Nat.le_of_ble_eq_true rfl)) dB_one_1 ⟨Nat.le_of_ble_eq_true rfl, Nat.le_of_ble_eq_true rfl⟩) hS (fun q _ h => hFc q h) hFc (fun r1 u9 t H1 locs ht hvm hr9 hB hz1 hk1 hS => ?_)
  obtain ⟨hP1, hK1, hD1⟩ := hB
  rw [ht] at hP1
  obtain ⟨hP, hD⟩ := xjoin (W := []) hP hD [] [] 0 rfl rfl (by decide) (by decide) hk1 hFc hP1 hD1
  generalize H1 = H at hP hS ⊢
  rw [hr9]
  refine W.eq (g2 := F0 m 4 ls [.int 1]) rfl ?_
  refine lv_if_eq (tgt := 27) hx hb dB_one_4 (by decide) (fun h => ((by revert h; decide : False)).elim) (fun _ => ?_)
  refine lv_iload_n hx hb dB_one_7 rfl (lv_at hl 2 rfl) ?_
  refine lv_bipush (v := 13) hx hb dB_one_8 (by decide) ?_
  obtain ⟨hPc, hDc, hFc⟩ := xcut (wc := []) hP hD hS hA [] rfl rfl (by decide)
  refine va_calli (va_runS (As := [.int x6, .int 13]) (rest := []) ⟨hx, hb, hml, hown, htx⟩ (cB_isWithin_0 l hl9 D cT aK aV H.size x6 13 h7) ⟨callB_of 2 htx (xw_goodC kw_1_218) rfl rfl rfl (htx _ kw_1_1) (htx _ kw_1_216) ⟨by decide, by decide, by decide +kernel⟩ ⟨Nat.le_of_ble_eq_true rfl, Nat.le_of_ble_eq_true rfl⟩, htx _ kw_1_217⟩ ⟨xPre_blind, (fun U hU hW => ⟨rfl, xPre_of hZ hS hFc hPc hDc hK U hU hW⟩)⟩ rfl rfl hl.1 rfl (lv_room (Nat.le_of_ble_eq_true rfl)) dB_one_10 ⟨Nat.le_of_ble_eq_true rfl, Nat.le_of_ble_eq_true rfl⟩) hS (fun q _ h => hFc q h) hFc (fun r2 u9 t H1 locs ht hvm hr9 hB hz1 hk1 hS => ?_)
  obtain ⟨hP1, hK1, hD1⟩ := hB
  rw [ht] at hP1
  obtain ⟨hP, hD⟩ := xjoin (W := []) hP hD [] [] 0 rfl rfl (by decide) (by decide) hk1 hFc hP1 hD1
  generalize H1 = H at hP hS ⊢
  rw [hr9]
  refine W.eq (g2 := F0 m 13 ls [.int 0]) rfl ?_
  refine lv_if_eq (tgt := 27) hx hb dB_one_13 (by decide) (fun _ => ?_) (fun h => ((by revert h; decide : False)).elim)
  refine lv_iconst (v := 0) hx hb dB_one_27 (by decide) ?_
  obtain ⟨hPc, hDc, hFc⟩ := xcut (wc := []) hP hD hS hA [] rfl rfl (by decide)
  refine xx_thr (vx_runS (As := [.int 0]) (rest := []) ⟨hx, hb, hml, hown, htx⟩ (cB_demand_0 l hl9 D cT aK aV H.size) ⟨callB_of 1 htx (xw_goodC kw_1_221) rfl rfl rfl (htx _ kw_1_1) (htx _ kw_1_219) ⟨by decide, by decide, by decide +kernel⟩ ⟨Nat.le_of_ble_eq_true rfl, Nat.le_of_ble_eq_true rfl⟩, htx _ kw_1_220⟩ ⟨xPre_blind, (fun U hU hW => ⟨rfl, xPre_of hZ hS hFc hPc hDc hK U hU hW⟩)⟩ rfl rfl hl.1 rfl (lv_room (Nat.le_of_ble_eq_true rfl)) dB_one_28 ⟨Nat.le_of_ble_eq_true rfl, Nat.le_of_ble_eq_true rfl⟩) hS hFc (fun q _ h => hFc q h) (fun E ce q9 u9 t H1 locs ht hvm _ hB hz1 hk1 hS hce hcv hcl => ?_)
  obtain ⟨rfl, hP1, hK1, hD1⟩ := hB
  rw [ht] at hP1
  obtain ⟨hP, hD⟩ := xjoin (W := []) hP hD [] [] 0 rfl rfl (by decide) (by decide) hk1 hFc hP1 hD1
  generalize H1 = H at hP hS hce ⊢
  obtain ⟨hP9, hD9⟩ := xsub (wc := []) hP hD [] rfl rfl (by decide)
  exact vx_out (E := "java/lang/IllegalArgumentException") (fun x h => (hne x h).elim) hlocks hce hcv hcl (fun t ht ha => ⟨(), trivial, ⟨rfl, by rw [ht]; exact hP9, va_K.moved ha hK, hD9⟩, hS.F ht⟩) hS.2.2 (Nat.le_of_ble_eq_true rfl) (Nat.le_of_ble_eq_true rfl)
set_option maxHeartbeats 400000000 in
set_option maxRecDepth 100000 in
theorem cL_one_2 (l : Launch) (hl9 : l.stackTraces = false) (D : va_G) (cT : Nat → ClassId) (aK aV : Nat → Nat) (sz : Nat) (a0 : Nat) (x1 : Int32) (x6 : Int32) (x8 : Int32) (v9 : Value) (v10 : Value) (v11 : Value) (v12 : Value) (v13 : Value) (v14 : Value) (v15 : Value) (v16 : Value) (h2 : ¬ x1 < 0) (h3 : ¬ 7 < x1) (h4 : x1 ≤ 7) (h5 : vp_in x1 8) (h7 : x6 < 0) : xMet l yL_one wyL_one 8 1 6 143 D cT aK aV sz [.ref a0, .int x1, .int x6, .int x8] [(a0, .inr (0, [v9, v10, v11, v12, v13, v14, v15, v16]))] (fun A => va_Qi (fun (r : Int32) (_ : Unit) => r = 1) (fun _ t => xB D xcl cT A [(a0, .inr (0, [v9, v10, v11, v12, v13, v14, v15, v16]))] t) A) := by
  refine va_MetW (cc := method_10_code) (maxL := 5) (ret := (some .int)) (hh := [(0, 7, 10, 19), (0, 7, 14, 33), (0, 7, 18, 13)]) (by decide) rfl ?_
  intro p e s m args below meth c s₁ B hml hv
  obtain ⟨rfl, hsz, hZ, hP, hK, hD0⟩ := hv
  have hx := B.exec
  have hb := B.bytes
  have hr := B.returns
  have hts := atoms_spec (ws := wyL_one) B.pre
  have htx := fun w h => hts w (List.mem_cons_of_mem _ h)
  have hown : s.vm.findClass "ValueBenchLaw" = some m.cls := findClass_of_methodNamed B.named
  have hlocks := B.notSynchronized
  subst hsz
  have hD := hD0.self (sz := s.heap.size)
  generalize hAe : va_A [(a0, .inr (0, [v9, v10, v11, v12, v13, v14, v15, v16]))] s.heap.size = A at hD hZ ⊢
  have hA : ∀ q : Nat, s.heap.size ≤ q → A q := fun q h => by rw [← hAe]; exact Or.inr h
  have hS : va_S A s.heap s.heap [] := va_S.rf
  have hP : va_P D xcl [(a0, .inr (0, [v9, v10, v11, v12, v13, v14, v15, v16]))] s.heap := hP
  have hl := lv_entry ([.ref a0, .int x1, .int x6, .int x8]) (n := 5) (Nat.le_of_ble_eq_true rfl)
  rw [lg_entry_eq]
  generalize (lg_sl ([.ref a0, .int x1, .int x6, .int x8]) ++ List.replicate (5 - (lg_sl ([.ref a0, .int x1, .int x6, .int x8])).length) Slot.unset).toArray = ls at hl ⊢
  have hl : lv_has ls 5 [(0, .ref a0), (1, .int x1), (2, .int x6), (3, .int x8)] := hl
  have htab := vx_table (x := yL_one) B (hts _ List.mem_cons_self)
  refine lv_aload_n hx hb dL_one_0 rfl (lv_at hl 0 rfl) ?_
  refine lv_iload_n hx hb dL_one_1 rfl (lv_at hl 1 rfl) ?_
  refine lv_iload_n hx hb dL_one_2 rfl (lv_at hl 2 rfl) ?_
  refine lv_iload_n hx hb dL_one_3 rfl (lv_at hl 3 rfl) ?_
  obtain ⟨hPc, hDc, hFc⟩ := xcut (wc := []) hP hD hS hA [] rfl rfl (by decide)
  refine xx_thr (vx_runV (C := "ValueBench") (As := [.int x1, .int x6, .int x8]) (rest := []) ⟨hx, hb, hml, hown, htx⟩ (cB_one_2 l hl9 D cT aK aV s.heap.size a0 x1 x6 x8 h2 h3 h4 h5 h7) ⟨callB_of 3 htx (xw_goodC kw_4_25) rfl rfl rfl (htx _ kw_1_1) (htx _ kw_4_22) ⟨by decide, by decide, by decide +kernel⟩ ⟨Nat.le_of_ble_eq_true rfl, Nat.le_of_ble_eq_true rfl⟩, (htx _ kw_4_23), (htx _ kw_4_24)⟩ ⟨xPre_blind, va_recv hK hP (ci := 0) rfl (q0 := 0) rfl, (fun U hU hW => ⟨rfl, xPre_of hZ hS hFc hPc hDc hK U hU hW⟩)⟩ rfl rfl hl.1 rfl (lv_room (Nat.le_of_ble_eq_true rfl)) dL_one_4 ⟨Nat.le_of_ble_eq_true rfl, Nat.le_of_ble_eq_true rfl⟩) hS hFc (fun q _ h => hFc q h) (fun E ce q9 u9 t H1 locs ht hvm _ hB hz1 hk1 hS hce hcv hcl => ?_)
  obtain ⟨rfl, hP1, hK1, hD1⟩ := hB
  rw [ht] at hP1
  obtain ⟨hP, hD⟩ := xjoin (W := [(a0, .inr (0, [v9, v10, v11, v12, v13, v14, v15, v16]))]) hP hD [] [0] 1 rfl rfl (by decide) (by decide) hk1 hFc hP1 hD1
  generalize H1 = H at hP hS hce ⊢
  refine vx_catch (own := "ValueBenchLaw") (name := "java/lang/IllegalArgumentException") (E := "java/lang/IllegalArgumentException") hown [] ⟨0, 7, 10, 19⟩ [⟨0, 7, 14, 33⟩, ⟨0, 7, 18, 13⟩] (by rw [htab]; rfl) (fun z hz => nomatch hz) (by decide) (by decide) (htx _ kw_1_211) ((hZ.2.2.2.2.2.1 "java/lang/IllegalArgumentException" (List.mem_of_getElem? (i := 1) rfl)).use rfl) hce hcv hcl ?_
  refine lv_astore (lv' := [(4, .ref q9), (0, .ref a0), (1, .int x1), (2, .int x6), (3, .int x8)]) hx hb dL_one_10 hl (by decide) rfl (fun ls hl => ?_)
  refine lv_iconst (v := 1) hx hb dL_one_12 (by decide) ?_
  obtain ⟨hP9, hD9⟩ := xsub (wc := [(a0, .inr (0, [v9, v10, v11, v12, v13, v14, v15, v16]))]) hP hD [0] rfl rfl (by decide)
  refine W.widen (k := 1) (n := 6) (Nat.le_of_ble_eq_true rfl) (Nat.le_of_ble_eq_true rfl) ?_
  exact W.iret (v := 1) hx hb hr (fun t ht hW => ⟨⟨1, (), rfl, rfl, by rw [ht]; exact hP9, va_K.moved hW.alike hK, hD9⟩, hS.F ht⟩) hS.2.2 dL_one_13
set_option maxHeartbeats 400000000 in
set_option maxRecDepth 100000 in
theorem cM_one0_2 (l : Launch) (hl9 : l.stackTraces = false) (D : va_G) (cT : Nat → ClassId) (aK aV : Nat → Nat) (sz : Nat) (a0 : Nat) (x1 : Int32) (x6 : Int32) (x8 : Int32) (v9 : Value) (v10 : Value) (v11 : Value) (v12 : Value) (v13 : Value) (v14 : Value) (v15 : Value) (v16 : Value) (v17 : Value) (v18 : Value) (v19 : Value) (v20 : Value) (v21 : Value) (v22 : Value) (v23 : Value) (v24 : Value) (v25 : Value) (v26 : Value) (v27 : Value) (v28 : Value) (v29 : Value) (v30 : Value) (v31 : Value) (v32 : Value) (v33 : Value) (v34 : Value) (v35 : Value) (v36 : Value) (v37 : Value) (v38 : Value) (v39 : Value) (v40 : Value) (h2 : ¬ x1 < 0) (h3 : ¬ 7 < x1) (h4 : x1 ≤ 7) (h5 : vp_in x1 8) (h7 : x6 < 0) : xMet l yM_one0 wyM_one0 2 0 0 40 D cT aK aV sz [.ref a0, .int x1, .int x6, .int x8] [(a0, .inr (5, [v9, v10, v11, v12, v13, v14, v15, v16, v17, v18, v19, v20, v21, v22, v23, v24, v25, v26, v27, v28, v29, v30, v31, v32, v33, v34, v35, v36, v37, v38, v39, v40]))] (fun A => va_Qv (fun _ : Unit => True) (fun _ t => xB D xcl cT A [(a0, .inr (5, [.int 1, v10, .int 0, v12, .int 0, v14, v15, .int 0, v17, .int 0, v19, v20, .int 0, v22, v23, v24, v25, v26, v27, v28, v29, v30, .int 0, .int 1000000000, v33, v34, v35, v36, v37, v38, v39, v40]))] t) A) := by
  refine Met.ofW (cc := prog_13_method_92_code) (maxL := 4) (ret := none) (by decide) rfl ?_
  intro p e s m args below meth c s₁ B hml hv
  obtain ⟨rfl, hsz, hZ, hP, hK, hD0⟩ := hv
  have hx := B.exec
  have hb := B.bytes
  have hr := B.returns
  have hts := atoms_spec (ws := wyM_one0) B.pre
  have htx := fun w h => hts w (List.mem_cons_of_mem _ h)
  have hown : s.vm.findClass "ValueBenchModel" = some m.cls := findClass_of_methodNamed B.named
  have hlocks := B.notSynchronized
  subst hsz
  have hD := hD0.self (sz := s.heap.size)
  generalize hAe : va_A [(a0, .inr (5, [v9, v10, v11, v12, v13, v14, v15, v16, v17, v18, v19, v20, v21, v22, v23, v24, v25, v26, v27, v28, v29, v30, v31, v32, v33, v34, v35, v36, v37, v38, v39, v40]))] s.heap.size = A at hD hZ ⊢
  have hA : ∀ q : Nat, s.heap.size ≤ q → A q := fun q h => by rw [← hAe]; exact Or.inr h
  have hS : va_S A s.heap s.heap [] := va_S.rf
  have hP : va_P D xcl [(a0, .inr (5, [v9, v10, v11, v12, v13, v14, v15, v16, v17, v18, v19, v20, v21, v22, v23, v24, v25, v26, v27, v28, v29, v30, v31, v32, v33, v34, v35, v36, v37, v38, v39, v40]))] s.heap := hP
  have hl := lv_entry ([.ref a0, .int x1, .int x6, .int x8]) (n := 4) (Nat.le_of_ble_eq_true rfl)
  rw [lg_entry_eq]
  generalize (lg_sl ([.ref a0, .int x1, .int x6, .int x8]) ++ List.replicate (4 - (lg_sl ([.ref a0, .int x1, .int x6, .int x8])).length) Slot.unset).toArray = ls at hl ⊢
  have hl : lv_has ls 4 [(0, .ref a0), (1, .int x1), (2, .int x6), (3, .int x8)] := hl
  refine lv_aload_n hx hb dM_one0_0 rfl (lv_at hl 0 rfl) ?_
  obtain ⟨hPc, hDc, hFc⟩ := xcut (wc := [(a0, .inr (5, [v9, v10, v11, v12, v13, v14, v15, v16, v17, v18, v19, v20, v21, v22, v23, v24, v25, v26, v27, v28, v29, v30, v31, v32, v33, v34, v35, v36, v37, v38, v39, v40]))]) hP hD hS hA [0] rfl rfl (by decide)
  refine va_callv (va_runV (C := "ValueBenchModel") (As := []) (rest := []) ⟨hx, hb, hml, hown, htx⟩ (cM_begin_0 l hl9 D cT aK aV s.heap.size a0 v9 v10 v11 v12 v13 v14 v15 v16 v17 v18 v19 v20 v21 v22 v23 v24 v25 v26 v27 v28 v29 v30 v31 v32 v33 v34 v35 v36 v37 v38 v39 v40) ⟨callB_of 0 htx (xw_goodC kw_5_209) rfl rfl rfl (htx _ kw_1_5) (htx _ kw_5_206) ⟨by decide, by decide, by decide +kernel⟩ ⟨Nat.le_of_ble_eq_true rfl, Nat.le_of_ble_eq_true rfl⟩, (htx _ kw_5_208), (htx _ kp_M_begin)⟩ ⟨xPre_blind, va_recv hK hP (ci := 5) rfl (q0 := 0) rfl, (fun U hU hW => ⟨rfl, xPre_of hZ hS hFc hPc hDc hK U hU hW⟩)⟩ rfl rfl hl.1 rfl (lv_room (Nat.le_of_ble_eq_true rfl)) dM_one0_1 ⟨Nat.le_of_ble_eq_true rfl, Nat.le_of_ble_eq_true rfl⟩) hS (fun q _ h => hFc q h) hFc (fun u9 t H1 locs ht hvm hr9 hB hz1 hk1 hS => ?_)
  obtain ⟨hP1, hK1, hD1⟩ := hB
  rw [ht] at hP1
  obtain ⟨hP, hD⟩ := xjoin (W := [(a0, .inr (5, [.int 0, v10, .int 0, v12, .int 0, v14, v15, .int 0, v17, .int 0, v19, v20, .int 0, v22, v23, v24, v25, v26, v27, v28, v29, v30, .int 0, .int 1000000000, v33, v34, v35, v36, v37, v38, v39, v40]))]) hP hD [0] [] 0 rfl rfl (by decide) (by decide) hk1 hFc hP1 hD1
  generalize H1 = H at hP hS ⊢
  refine lv_aload_n hx hb dM_one0_4 rfl (lv_at hl 0 rfl) ?_
  refine lv_iload_n hx hb dM_one0_5 rfl (lv_at hl 1 rfl) ?_
  obtain ⟨hPc, hDc, hFc⟩ := xcut (wc := []) hP hD hS hA [] rfl rfl (by decide)
  refine va_calli (va_runV (C := "ValueBenchModel") (As := [.int x1]) (rest := []) ⟨hx, hb, hml, hown, htx⟩ (cM_out_2 l hl9 D cT aK aV H.size a0 x1 h2 h3 h4 h5) ⟨callB_of 1 htx (xw_goodC kw_5_217) rfl rfl rfl (htx _ kw_1_5) (htx _ kw_5_214) ⟨by decide, by decide, by decide +kernel⟩ ⟨Nat.le_of_ble_eq_true rfl, Nat.le_of_ble_eq_true rfl⟩, (htx _ kw_5_216), (htx _ kp_M_out)⟩ ⟨xPre_blind, va_recv hK hP (ci := 5) rfl (q0 := 0) rfl, (fun U hU hW => ⟨rfl, xPre_of hZ hS hFc hPc hDc hK U hU hW⟩)⟩ rfl rfl hl.1 rfl (lv_room (Nat.le_of_ble_eq_true rfl)) dM_one0_6 ⟨Nat.le_of_ble_eq_true rfl, Nat.le_of_ble_eq_true rfl⟩) hS (fun q _ h => hFc q h) hFc (fun r1 u9 t H1 locs ht hvm hr9 hB hz1 hk1 hS => ?_)
  obtain ⟨hP1, hK1, hD1⟩ := hB
  rw [ht] at hP1
  obtain ⟨hP, hD⟩ := xjoin (W := [(a0, .inr (5, [.int 0, v10, .int 0, v12, .int 0, v14, v15, .int 0, v17, .int 0, v19, v20, .int 0, v22, v23, v24, v25, v26, v27, v28, v29, v30, .int 0, .int 1000000000, v33, v34, v35, v36, v37, v38, v39, v40]))]) hP hD [] [0] 1 rfl rfl (by decide) (by decide) hk1 hFc hP1 hD1
  generalize H1 = H at hP hS ⊢
  rw [hr9]
  refine W.eq (g2 := F0 m 9 ls [.int 0]) rfl ?_
  refine lv_if_ne (tgt := 30) hx hb dM_one0_9 (by decide) (fun h => ((by revert h; decide : False)).elim) (fun _ => ?_)
  refine lv_iload_n hx hb dM_one0_12 rfl (lv_at hl 2 rfl) ?_
  refine lv_if_lt (tgt := 30) hx hb dM_one0_13 (by decide) (fun _ => ?_) (fun h => by first | exact absurd h h7 | exact absurd h7 h)
  refine lv_aload_n hx hb dM_one0_30 rfl (lv_at hl 0 rfl) ?_
  refine lv_iconst (v := 1) hx hb dM_one0_31 (by decide) ?_
  refine va_put (D := D) (ci := 5) (v := .int 1) (ty := .int) (C := "ValueBenchModel") (T := TM) (N := 32) hx hb htx inM tyM tyM_ok nmM hown hK hP hD hS 0 rfl rfl 0 (by decide) (htx _ kw_5_87) (fun _ h9 => h9) rfl (by decide +kernel) rfl rfl (Nat.le_of_ble_eq_true rfl) dM_one0_32 (fun H locs hP hD hS => ?_)
  obtain ⟨hP, hD⟩ : xPD D xcl A [(a0, .inr (5, [.int 1, v10, .int 0, v12, .int 0, v14, v15, .int 0, v17, .int 0, v19, v20, .int 0, v22, v23, v24, v25, v26, v27, v28, v29, v30, .int 0, .int 1000000000, v33, v34, v35, v36, v37, v38, v39, v40]))] H := ⟨hP, hD⟩
  refine lv_goto (tgt := 47) hx hb dM_one0_35 (by decide) ?_
  obtain ⟨hP9, hD9⟩ := xsub (wc := [(a0, .inr (5, [.int 1, v10, .int 0, v12, .int 0, v14, v15, .int 0, v17, .int 0, v19, v20, .int 0, v22, v23, v24, v25, v26, v27, v28, v29, v30, .int 0, .int 1000000000, v33, v34, v35, v36, v37, v38, v39, v40]))]) hP hD [0] rfl rfl (by decide)
  refine W.widen (k := 0) (n := 0) (Nat.le_of_ble_eq_true rfl) (Nat.le_of_ble_eq_true rfl) ?_
  exact W.vret hx hb hr (fun t ht hW => ⟨⟨(), rfl, trivial, by rw [ht]; exact hP9, va_K.moved hW.alike hK, hD9⟩, hS.F ht⟩) hS.2.2 dM_one0_47
set_option maxHeartbeats 400000000 in
set_option maxRecDepth 100000 in
theorem cB_isWithin_12 (l : Launch) (hl9 : l.stackTraces = false) (D : va_G) (cT : Nat → ClassId) (aK aV : Nat → Nat) (sz : Nat) (x0 : Int32) (h1 : ¬ x0 < 0) (h2 : 13 < x0) (h3 : ¬ x0 ≤ 13) : xMet l yB_isWithin wyB_isWithin 0 0 0 0 D cT aK aV sz [.int x0, .int 13] [] (fun A => va_Qi (fun (r : Int32) (_ : Unit) => r = 0) (fun _ t => xB D xcl cT A [] t) A) := by
  refine Met.ofW (cc := prog_1_method_15_code) (maxL := 2) (ret := (some .boolean)) (by decide) rfl ?_
  intro p e s m args below meth c s₁ B hml hv
  obtain ⟨rfl, hsz, hZ, hP, hK, hD0⟩ := hv
  have hx := B.exec
  have hb := B.bytes
  have hr := B.returns
  have hts := atoms_spec (ws := wyB_isWithin) B.pre
  have htx := fun w h => hts w (List.mem_cons_of_mem _ h)
  have hown : s.vm.findClass "ValueBench" = some m.cls := findClass_of_methodNamed B.named
  have hlocks := B.notSynchronized
  subst hsz
  have hD := hD0.self (sz := s.heap.size)
  generalize hAe : va_A [] s.heap.size = A at hD hZ ⊢
  have hA : ∀ q : Nat, s.heap.size ≤ q → A q := fun q h => by rw [← hAe]; exact Or.inr h
  have hS : va_S A s.heap s.heap [] := va_S.rf
  have hP : va_P D xcl [] s.heap := hP
  have hl := lv_entry ([.int x0, .int 13]) (n := 2) (Nat.le_of_ble_eq_true rfl)
  rw [lg_entry_eq]
  generalize (lg_sl ([.int x0, .int 13]) ++ List.replicate (2 - (lg_sl ([.int x0, .int 13])).length) Slot.unset).toArray = ls at hl ⊢
  have hl : lv_has ls 2 [(0, .int x0), (1, .int 13)] := hl
  refine lv_iload_n hx hb dB_isWithin_0 rfl (lv_at hl 0 rfl) ?_
  refine lv_if_lt (tgt := 13) hx hb dB_isWithin_1 (by decide) (fun h => by first | exact absurd h h1 | exact absurd h h2 | exact absurd h h3 | exact absurd h1 h | exact absurd h2 h | exact absurd h3 h) (fun _ => ?_)
  refine lv_iload_n hx hb dB_isWithin_4 rfl (lv_at hl 0 rfl) ?_
  refine lv_iload_n hx hb dB_isWithin_5 rfl (lv_at hl 1 rfl) ?_
  refine lv_icmp_gt (tgt := 13) hx hb dB_isWithin_6 (by decide) (fun _ => ?_) (fun h => by first | exact absurd h h1 | exact absurd h h2 | exact absurd h h3 | exact absurd h1 h | exact absurd h2 h | exact absurd h3 h)
  refine lv_iconst (v := 0) hx hb dB_isWithin_13 (by decide) ?_
  obtain ⟨hP9, hD9⟩ := xsub (wc := []) hP hD [] rfl rfl (by decide)
  refine W.widen (k := 0) (n := 0) (Nat.le_of_ble_eq_true rfl) (Nat.le_of_ble_eq_true rfl) ?_
  exact W.zret (v := 0) hx hb hr rfl (fun t ht hW => ⟨⟨0, (), rfl, rfl, by rw [ht]; exact hP9, va_K.moved hW.alike hK, hD9⟩, hS.F ht⟩) hS.2.2 dB_isWithin_14
set_option maxHeartbeats 400000000 in
set_option maxRecDepth 100000 in
theorem cB_one_3 (l : Launch) (hl9 : l.stackTraces = false) (D : va_G) (cT : Nat → ClassId) (aK aV : Nat → Nat) (sz : Nat) (b0 : Nat) (x1 : Int32) (x6 : Int32) (x10 : Int32) (h2 : ¬ x1 < 0) (h3 : ¬ 7 < x1) (h4 : x1 ≤ 7) (h5 : vp_in x1 8) (h7 : ¬ x6 < 0) (h8 : 13 < x6) (h9 : ¬ x6 ≤ 13) : xMetX l yB_one wyB_one 7 1 6 120 D cT aK aV sz [.ref b0, .int x1, .int x6, .int x10] [] "java/lang/IllegalArgumentException" (fun A t => xB D xcl cT A [] t) := by
  refine vx_ofW (cc := prog_1_method_9_code) (maxL := 4) (ret := none) (by decide) rfl ?_
  intro p e s m args below meth c s₁ B hml hne hv
  obtain ⟨rfl, hsz, hZ, hP, hK, hD0⟩ := hv
  have hx := B.exec
  have hb := B.bytes
  have hr := B.returns
  have hts := atoms_spec (ws := wyB_one) B.pre
  have htx := fun w h => hts w (List.mem_cons_of_mem _ h)
  have hown : s.vm.findClass "ValueBench" = some m.cls := findClass_of_methodNamed B.named
  have hlocks := B.notSynchronized
  subst hsz
  have hD := hD0.self (sz := s.heap.size)
  generalize hAe : va_A [] s.heap.size = A at hD hZ ⊢
  have hA : ∀ q : Nat, s.heap.size ≤ q → A q := fun q h => by rw [← hAe]; exact Or.inr h
  have hS : va_S A s.heap s.heap [] := va_S.rf
  have hP : va_P D xcl [] s.heap := hP
  have hl := lv_entry ([.ref b0, .int x1, .int x6, .int x10]) (n := 4) (Nat.le_of_ble_eq_true rfl)
  rw [lg_entry_eq]
  generalize (lg_sl ([.ref b0, .int x1, .int x6, .int x10]) ++ List.replicate (4 - (lg_sl ([.ref b0, .int x1, .int x6, .int x10])).length) Slot.unset).toArray = ls at hl ⊢
  have hl : lv_has ls 4 [(0, .ref b0), (1, .int x1), (2, .int x6), (3, .int x10)] := hl
  refine lv_iload_n hx hb dB_one_0 rfl (lv_at hl 1 rfl) ?_
  obtain ⟨hPc, hDc, hFc⟩ := xcut (wc := []) hP hD hS hA [] rfl rfl (by decide)
  refine va_calli (va_runS (As := [.int x1]) (rest := []) ⟨hx, hb, hml, hown, htx⟩ (cB_isRegister_2 l hl9 D cT aK aV s.heap.size x1 h2 h3 h4 h5) ⟨callB_of 1 htx (xw_goodC kw_2_18) rfl rfl rfl (htx _ kw_1_1) (htx _ kw_2_16) ⟨by decide, by decide, by decide +kernel⟩ ⟨Nat.le_of_ble_eq_true rfl, Nat.le_of_ble_eq_true rfl⟩, htx _ kw_2_17⟩ ⟨xPre_blind, (fun U hU hW => ⟨rfl, xPre_of hZ hS hFc hPc hDc hK U hU hW⟩)⟩ rfl rfl hl.1 rfl (lv_room (Nat.le_of_ble_eq_true rfl)) dB_one_1 ⟨Nat.le_of_ble_eq_true rfl, Nat.le_of_ble_eq_true rfl⟩) hS (fun q _ h => hFc q h) hFc (fun r1 u9 t H1 locs ht hvm hr9 hB hz1 hk1 hS => ?_)
  obtain ⟨hP1, hK1, hD1⟩ := hB
  rw [ht] at hP1
  obtain ⟨hP, hD⟩ := xjoin (W := []) hP hD [] [] 0 rfl rfl (by decide) (by decide) hk1 hFc hP1 hD1
  generalize H1 = H at hP hS ⊢
  rw [hr9]
  refine W.eq (g2 := F0 m 4 ls [.int 1]) rfl ?_
  refine lv_if_eq (tgt := 27) hx hb dB_one_4 (by decide) (fun h => ((by revert h; decide : False)).elim) (fun _ => ?_)
  refine lv_iload_n hx hb dB_one_7 rfl (lv_at hl 2 rfl) ?_
  refine lv_bipush (v := 13) hx hb dB_one_8 (by decide) ?_
  obtain ⟨hPc, hDc, hFc⟩ := xcut (wc := []) hP hD hS hA [] rfl rfl (by decide)
  refine va_calli (va_runS (As := [.int x6, .int 13]) (rest := []) ⟨hx, hb, hml, hown, htx⟩ (cB_isWithin_12 l hl9 D cT aK aV H.size x6 h7 h8 h9) ⟨callB_of 2 htx (xw_goodC kw_1_218) rfl rfl rfl (htx _ kw_1_1) (htx _ kw_1_216) ⟨by decide, by decide, by decide +kernel⟩ ⟨Nat.le_of_ble_eq_true rfl, Nat.le_of_ble_eq_true rfl⟩, htx _ kw_1_217⟩ ⟨xPre_blind, (fun U hU hW => ⟨rfl, xPre_of hZ hS hFc hPc hDc hK U hU hW⟩)⟩ rfl rfl hl.1 rfl (lv_room (Nat.le_of_ble_eq_true rfl)) dB_one_10 ⟨Nat.le_of_ble_eq_true rfl, Nat.le_of_ble_eq_true rfl⟩) hS (fun q _ h => hFc q h) hFc (fun r2 u9 t H1 locs ht hvm hr9 hB hz1 hk1 hS => ?_)
  obtain ⟨hP1, hK1, hD1⟩ := hB
  rw [ht] at hP1
  obtain ⟨hP, hD⟩ := xjoin (W := []) hP hD [] [] 0 rfl rfl (by decide) (by decide) hk1 hFc hP1 hD1
  generalize H1 = H at hP hS ⊢
  rw [hr9]
  refine W.eq (g2 := F0 m 13 ls [.int 0]) rfl ?_
  refine lv_if_eq (tgt := 27) hx hb dB_one_13 (by decide) (fun _ => ?_) (fun h => ((by revert h; decide : False)).elim)
  refine lv_iconst (v := 0) hx hb dB_one_27 (by decide) ?_
  obtain ⟨hPc, hDc, hFc⟩ := xcut (wc := []) hP hD hS hA [] rfl rfl (by decide)
  refine xx_thr (vx_runS (As := [.int 0]) (rest := []) ⟨hx, hb, hml, hown, htx⟩ (cB_demand_0 l hl9 D cT aK aV H.size) ⟨callB_of 1 htx (xw_goodC kw_1_221) rfl rfl rfl (htx _ kw_1_1) (htx _ kw_1_219) ⟨by decide, by decide, by decide +kernel⟩ ⟨Nat.le_of_ble_eq_true rfl, Nat.le_of_ble_eq_true rfl⟩, htx _ kw_1_220⟩ ⟨xPre_blind, (fun U hU hW => ⟨rfl, xPre_of hZ hS hFc hPc hDc hK U hU hW⟩)⟩ rfl rfl hl.1 rfl (lv_room (Nat.le_of_ble_eq_true rfl)) dB_one_28 ⟨Nat.le_of_ble_eq_true rfl, Nat.le_of_ble_eq_true rfl⟩) hS hFc (fun q _ h => hFc q h) (fun E ce q9 u9 t H1 locs ht hvm _ hB hz1 hk1 hS hce hcv hcl => ?_)
  obtain ⟨rfl, hP1, hK1, hD1⟩ := hB
  rw [ht] at hP1
  obtain ⟨hP, hD⟩ := xjoin (W := []) hP hD [] [] 0 rfl rfl (by decide) (by decide) hk1 hFc hP1 hD1
  generalize H1 = H at hP hS hce ⊢
  obtain ⟨hP9, hD9⟩ := xsub (wc := []) hP hD [] rfl rfl (by decide)
  exact vx_out (E := "java/lang/IllegalArgumentException") (fun x h => (hne x h).elim) hlocks hce hcv hcl (fun t ht ha => ⟨(), trivial, ⟨rfl, by rw [ht]; exact hP9, va_K.moved ha hK, hD9⟩, hS.F ht⟩) hS.2.2 (Nat.le_of_ble_eq_true rfl) (Nat.le_of_ble_eq_true rfl)
set_option maxHeartbeats 400000000 in
set_option maxRecDepth 100000 in
theorem cL_one_3 (l : Launch) (hl9 : l.stackTraces = false) (D : va_G) (cT : Nat → ClassId) (aK aV : Nat → Nat) (sz : Nat) (a0 : Nat) (x1 : Int32) (x6 : Int32) (x10 : Int32) (v11 : Value) (v12 : Value) (v13 : Value) (v14 : Value) (v15 : Value) (v16 : Value) (v17 : Value) (v18 : Value) (h2 : ¬ x1 < 0) (h3 : ¬ 7 < x1) (h4 : x1 ≤ 7) (h5 : vp_in x1 8) (h7 : ¬ x6 < 0) (h8 : 13 < x6) (h9 : ¬ x6 ≤ 13) : xMet l yL_one wyL_one 8 1 6 143 D cT aK aV sz [.ref a0, .int x1, .int x6, .int x10] [(a0, .inr (0, [v11, v12, v13, v14, v15, v16, v17, v18]))] (fun A => va_Qi (fun (r : Int32) (_ : Unit) => r = 1) (fun _ t => xB D xcl cT A [(a0, .inr (0, [v11, v12, v13, v14, v15, v16, v17, v18]))] t) A) := by
  refine va_MetW (cc := method_10_code) (maxL := 5) (ret := (some .int)) (hh := [(0, 7, 10, 19), (0, 7, 14, 33), (0, 7, 18, 13)]) (by decide) rfl ?_
  intro p e s m args below meth c s₁ B hml hv
  obtain ⟨rfl, hsz, hZ, hP, hK, hD0⟩ := hv
  have hx := B.exec
  have hb := B.bytes
  have hr := B.returns
  have hts := atoms_spec (ws := wyL_one) B.pre
  have htx := fun w h => hts w (List.mem_cons_of_mem _ h)
  have hown : s.vm.findClass "ValueBenchLaw" = some m.cls := findClass_of_methodNamed B.named
  have hlocks := B.notSynchronized
  subst hsz
  have hD := hD0.self (sz := s.heap.size)
  generalize hAe : va_A [(a0, .inr (0, [v11, v12, v13, v14, v15, v16, v17, v18]))] s.heap.size = A at hD hZ ⊢
  have hA : ∀ q : Nat, s.heap.size ≤ q → A q := fun q h => by rw [← hAe]; exact Or.inr h
  have hS : va_S A s.heap s.heap [] := va_S.rf
  have hP : va_P D xcl [(a0, .inr (0, [v11, v12, v13, v14, v15, v16, v17, v18]))] s.heap := hP
  have hl := lv_entry ([.ref a0, .int x1, .int x6, .int x10]) (n := 5) (Nat.le_of_ble_eq_true rfl)
  rw [lg_entry_eq]
  generalize (lg_sl ([.ref a0, .int x1, .int x6, .int x10]) ++ List.replicate (5 - (lg_sl ([.ref a0, .int x1, .int x6, .int x10])).length) Slot.unset).toArray = ls at hl ⊢
  have hl : lv_has ls 5 [(0, .ref a0), (1, .int x1), (2, .int x6), (3, .int x10)] := hl
  have htab := vx_table (x := yL_one) B (hts _ List.mem_cons_self)
  refine lv_aload_n hx hb dL_one_0 rfl (lv_at hl 0 rfl) ?_
  refine lv_iload_n hx hb dL_one_1 rfl (lv_at hl 1 rfl) ?_
  refine lv_iload_n hx hb dL_one_2 rfl (lv_at hl 2 rfl) ?_
  refine lv_iload_n hx hb dL_one_3 rfl (lv_at hl 3 rfl) ?_
  obtain ⟨hPc, hDc, hFc⟩ := xcut (wc := []) hP hD hS hA [] rfl rfl (by decide)
  refine xx_thr (vx_runV (C := "ValueBench") (As := [.int x1, .int x6, .int x10]) (rest := []) ⟨hx, hb, hml, hown, htx⟩ (cB_one_3 l hl9 D cT aK aV s.heap.size a0 x1 x6 x10 h2 h3 h4 h5 h7 h8 h9) ⟨callB_of 3 htx (xw_goodC kw_4_25) rfl rfl rfl (htx _ kw_1_1) (htx _ kw_4_22) ⟨by decide, by decide, by decide +kernel⟩ ⟨Nat.le_of_ble_eq_true rfl, Nat.le_of_ble_eq_true rfl⟩, (htx _ kw_4_23), (htx _ kw_4_24)⟩ ⟨xPre_blind, va_recv hK hP (ci := 0) rfl (q0 := 0) rfl, (fun U hU hW => ⟨rfl, xPre_of hZ hS hFc hPc hDc hK U hU hW⟩)⟩ rfl rfl hl.1 rfl (lv_room (Nat.le_of_ble_eq_true rfl)) dL_one_4 ⟨Nat.le_of_ble_eq_true rfl, Nat.le_of_ble_eq_true rfl⟩) hS hFc (fun q _ h => hFc q h) (fun E ce q9 u9 t H1 locs ht hvm _ hB hz1 hk1 hS hce hcv hcl => ?_)
  obtain ⟨rfl, hP1, hK1, hD1⟩ := hB
  rw [ht] at hP1
  obtain ⟨hP, hD⟩ := xjoin (W := [(a0, .inr (0, [v11, v12, v13, v14, v15, v16, v17, v18]))]) hP hD [] [0] 1 rfl rfl (by decide) (by decide) hk1 hFc hP1 hD1
  generalize H1 = H at hP hS hce ⊢
  refine vx_catch (own := "ValueBenchLaw") (name := "java/lang/IllegalArgumentException") (E := "java/lang/IllegalArgumentException") hown [] ⟨0, 7, 10, 19⟩ [⟨0, 7, 14, 33⟩, ⟨0, 7, 18, 13⟩] (by rw [htab]; rfl) (fun z hz => nomatch hz) (by decide) (by decide) (htx _ kw_1_211) ((hZ.2.2.2.2.2.1 "java/lang/IllegalArgumentException" (List.mem_of_getElem? (i := 1) rfl)).use rfl) hce hcv hcl ?_
  refine lv_astore (lv' := [(4, .ref q9), (0, .ref a0), (1, .int x1), (2, .int x6), (3, .int x10)]) hx hb dL_one_10 hl (by decide) rfl (fun ls hl => ?_)
  refine lv_iconst (v := 1) hx hb dL_one_12 (by decide) ?_
  obtain ⟨hP9, hD9⟩ := xsub (wc := [(a0, .inr (0, [v11, v12, v13, v14, v15, v16, v17, v18]))]) hP hD [0] rfl rfl (by decide)
  refine W.widen (k := 1) (n := 6) (Nat.le_of_ble_eq_true rfl) (Nat.le_of_ble_eq_true rfl) ?_
  exact W.iret (v := 1) hx hb hr (fun t ht hW => ⟨⟨1, (), rfl, rfl, by rw [ht]; exact hP9, va_K.moved hW.alike hK, hD9⟩, hS.F ht⟩) hS.2.2 dL_one_13
set_option maxHeartbeats 400000000 in
set_option maxRecDepth 100000 in
theorem cM_one0_3 (l : Launch) (hl9 : l.stackTraces = false) (D : va_G) (cT : Nat → ClassId) (aK aV : Nat → Nat) (sz : Nat) (a0 : Nat) (x1 : Int32) (x6 : Int32) (x10 : Int32) (v11 : Value) (v12 : Value) (v13 : Value) (v14 : Value) (v15 : Value) (v16 : Value) (v17 : Value) (v18 : Value) (v19 : Value) (v20 : Value) (v21 : Value) (v22 : Value) (v23 : Value) (v24 : Value) (v25 : Value) (v26 : Value) (v27 : Value) (v28 : Value) (v29 : Value) (v30 : Value) (v31 : Value) (v32 : Value) (v33 : Value) (v34 : Value) (v35 : Value) (v36 : Value) (v37 : Value) (v38 : Value) (v39 : Value) (v40 : Value) (v41 : Value) (v42 : Value) (h2 : ¬ x1 < 0) (h3 : ¬ 7 < x1) (h4 : x1 ≤ 7) (h5 : vp_in x1 8) (h7 : ¬ x6 < 0) (h8 : 13 < x6) (h9 : ¬ x6 ≤ 13) : xMet l yM_one0 wyM_one0 2 0 0 40 D cT aK aV sz [.ref a0, .int x1, .int x6, .int x10] [(a0, .inr (5, [v11, v12, v13, v14, v15, v16, v17, v18, v19, v20, v21, v22, v23, v24, v25, v26, v27, v28, v29, v30, v31, v32, v33, v34, v35, v36, v37, v38, v39, v40, v41, v42]))] (fun A => va_Qv (fun _ : Unit => True) (fun _ t => xB D xcl cT A [(a0, .inr (5, [.int 1, v12, .int 0, v14, .int 0, v16, v17, .int 0, v19, .int 0, v21, v22, .int 0, v24, v25, v26, v27, v28, v29, v30, v31, v32, .int 0, .int 1000000000, v35, v36, v37, v38, v39, v40, v41, v42]))] t) A) := by
  refine Met.ofW (cc := prog_13_method_92_code) (maxL := 4) (ret := none) (by decide) rfl ?_
  intro p e s m args below meth c s₁ B hml hv
  obtain ⟨rfl, hsz, hZ, hP, hK, hD0⟩ := hv
  have hx := B.exec
  have hb := B.bytes
  have hr := B.returns
  have hts := atoms_spec (ws := wyM_one0) B.pre
  have htx := fun w h => hts w (List.mem_cons_of_mem _ h)
  have hown : s.vm.findClass "ValueBenchModel" = some m.cls := findClass_of_methodNamed B.named
  have hlocks := B.notSynchronized
  subst hsz
  have hD := hD0.self (sz := s.heap.size)
  generalize hAe : va_A [(a0, .inr (5, [v11, v12, v13, v14, v15, v16, v17, v18, v19, v20, v21, v22, v23, v24, v25, v26, v27, v28, v29, v30, v31, v32, v33, v34, v35, v36, v37, v38, v39, v40, v41, v42]))] s.heap.size = A at hD hZ ⊢
  have hA : ∀ q : Nat, s.heap.size ≤ q → A q := fun q h => by rw [← hAe]; exact Or.inr h
  have hS : va_S A s.heap s.heap [] := va_S.rf
  have hP : va_P D xcl [(a0, .inr (5, [v11, v12, v13, v14, v15, v16, v17, v18, v19, v20, v21, v22, v23, v24, v25, v26, v27, v28, v29, v30, v31, v32, v33, v34, v35, v36, v37, v38, v39, v40, v41, v42]))] s.heap := hP
  have hl := lv_entry ([.ref a0, .int x1, .int x6, .int x10]) (n := 4) (Nat.le_of_ble_eq_true rfl)
  rw [lg_entry_eq]
  generalize (lg_sl ([.ref a0, .int x1, .int x6, .int x10]) ++ List.replicate (4 - (lg_sl ([.ref a0, .int x1, .int x6, .int x10])).length) Slot.unset).toArray = ls at hl ⊢
  have hl : lv_has ls 4 [(0, .ref a0), (1, .int x1), (2, .int x6), (3, .int x10)] := hl
  refine lv_aload_n hx hb dM_one0_0 rfl (lv_at hl 0 rfl) ?_
  obtain ⟨hPc, hDc, hFc⟩ := xcut (wc := [(a0, .inr (5, [v11, v12, v13, v14, v15, v16, v17, v18, v19, v20, v21, v22, v23, v24, v25, v26, v27, v28, v29, v30, v31, v32, v33, v34, v35, v36, v37, v38, v39, v40, v41, v42]))]) hP hD hS hA [0] rfl rfl (by decide)
  refine va_callv (va_runV (C := "ValueBenchModel") (As := []) (rest := []) ⟨hx, hb, hml, hown, htx⟩ (cM_begin_0 l hl9 D cT aK aV s.heap.size a0 v11 v12 v13 v14 v15 v16 v17 v18 v19 v20 v21 v22 v23 v24 v25 v26 v27 v28 v29 v30 v31 v32 v33 v34 v35 v36 v37 v38 v39 v40 v41 v42) ⟨callB_of 0 htx (xw_goodC kw_5_209) rfl rfl rfl (htx _ kw_1_5) (htx _ kw_5_206) ⟨by decide, by decide, by decide +kernel⟩ ⟨Nat.le_of_ble_eq_true rfl, Nat.le_of_ble_eq_true rfl⟩, (htx _ kw_5_208), (htx _ kp_M_begin)⟩ ⟨xPre_blind, va_recv hK hP (ci := 5) rfl (q0 := 0) rfl, (fun U hU hW => ⟨rfl, xPre_of hZ hS hFc hPc hDc hK U hU hW⟩)⟩ rfl rfl hl.1 rfl (lv_room (Nat.le_of_ble_eq_true rfl)) dM_one0_1 ⟨Nat.le_of_ble_eq_true rfl, Nat.le_of_ble_eq_true rfl⟩) hS (fun q _ h => hFc q h) hFc (fun u9 t H1 locs ht hvm hr9 hB hz1 hk1 hS => ?_)
  obtain ⟨hP1, hK1, hD1⟩ := hB
  rw [ht] at hP1
  obtain ⟨hP, hD⟩ := xjoin (W := [(a0, .inr (5, [.int 0, v12, .int 0, v14, .int 0, v16, v17, .int 0, v19, .int 0, v21, v22, .int 0, v24, v25, v26, v27, v28, v29, v30, v31, v32, .int 0, .int 1000000000, v35, v36, v37, v38, v39, v40, v41, v42]))]) hP hD [0] [] 0 rfl rfl (by decide) (by decide) hk1 hFc hP1 hD1
  generalize H1 = H at hP hS ⊢
  refine lv_aload_n hx hb dM_one0_4 rfl (lv_at hl 0 rfl) ?_
  refine lv_iload_n hx hb dM_one0_5 rfl (lv_at hl 1 rfl) ?_
  obtain ⟨hPc, hDc, hFc⟩ := xcut (wc := []) hP hD hS hA [] rfl rfl (by decide)
  refine va_calli (va_runV (C := "ValueBenchModel") (As := [.int x1]) (rest := []) ⟨hx, hb, hml, hown, htx⟩ (cM_out_2 l hl9 D cT aK aV H.size a0 x1 h2 h3 h4 h5) ⟨callB_of 1 htx (xw_goodC kw_5_217) rfl rfl rfl (htx _ kw_1_5) (htx _ kw_5_214) ⟨by decide, by decide, by decide +kernel⟩ ⟨Nat.le_of_ble_eq_true rfl, Nat.le_of_ble_eq_true rfl⟩, (htx _ kw_5_216), (htx _ kp_M_out)⟩ ⟨xPre_blind, va_recv hK hP (ci := 5) rfl (q0 := 0) rfl, (fun U hU hW => ⟨rfl, xPre_of hZ hS hFc hPc hDc hK U hU hW⟩)⟩ rfl rfl hl.1 rfl (lv_room (Nat.le_of_ble_eq_true rfl)) dM_one0_6 ⟨Nat.le_of_ble_eq_true rfl, Nat.le_of_ble_eq_true rfl⟩) hS (fun q _ h => hFc q h) hFc (fun r1 u9 t H1 locs ht hvm hr9 hB hz1 hk1 hS => ?_)
  obtain ⟨hP1, hK1, hD1⟩ := hB
  rw [ht] at hP1
  obtain ⟨hP, hD⟩ := xjoin (W := [(a0, .inr (5, [.int 0, v12, .int 0, v14, .int 0, v16, v17, .int 0, v19, .int 0, v21, v22, .int 0, v24, v25, v26, v27, v28, v29, v30, v31, v32, .int 0, .int 1000000000, v35, v36, v37, v38, v39, v40, v41, v42]))]) hP hD [] [0] 1 rfl rfl (by decide) (by decide) hk1 hFc hP1 hD1
  generalize H1 = H at hP hS ⊢
  rw [hr9]
  refine W.eq (g2 := F0 m 9 ls [.int 0]) rfl ?_
  refine lv_if_ne (tgt := 30) hx hb dM_one0_9 (by decide) (fun h => ((by revert h; decide : False)).elim) (fun _ => ?_)
  refine lv_iload_n hx hb dM_one0_12 rfl (lv_at hl 2 rfl) ?_
  refine lv_if_lt (tgt := 30) hx hb dM_one0_13 (by decide) (fun h => by first | exact absurd h h7 | exact absurd h h8 | exact absurd h h9 | exact absurd h7 h | exact absurd h8 h | exact absurd h9 h) (fun _ => ?_)
  refine lv_iload_n hx hb dM_one0_16 rfl (lv_at hl 2 rfl) ?_
  refine lv_bipush (v := 13) hx hb dM_one0_17 (by decide) ?_
  refine lv_icmp_gt (tgt := 30) hx hb dM_one0_19 (by decide) (fun _ => ?_) (fun h => by first | exact absurd h h7 | exact absurd h h8 | exact absurd h h9 | exact absurd h7 h | exact absurd h8 h | exact absurd h9 h)
  refine lv_aload_n hx hb dM_one0_30 rfl (lv_at hl 0 rfl) ?_
  refine lv_iconst (v := 1) hx hb dM_one0_31 (by decide) ?_
  refine va_put (D := D) (ci := 5) (v := .int 1) (ty := .int) (C := "ValueBenchModel") (T := TM) (N := 32) hx hb htx inM tyM tyM_ok nmM hown hK hP hD hS 0 rfl rfl 0 (by decide) (htx _ kw_5_87) (fun _ h9 => h9) rfl (by decide +kernel) rfl rfl (Nat.le_of_ble_eq_true rfl) dM_one0_32 (fun H locs hP hD hS => ?_)
  obtain ⟨hP, hD⟩ : xPD D xcl A [(a0, .inr (5, [.int 1, v12, .int 0, v14, .int 0, v16, v17, .int 0, v19, .int 0, v21, v22, .int 0, v24, v25, v26, v27, v28, v29, v30, v31, v32, .int 0, .int 1000000000, v35, v36, v37, v38, v39, v40, v41, v42]))] H := ⟨hP, hD⟩
  refine lv_goto (tgt := 47) hx hb dM_one0_35 (by decide) ?_
  obtain ⟨hP9, hD9⟩ := xsub (wc := [(a0, .inr (5, [.int 1, v12, .int 0, v14, .int 0, v16, v17, .int 0, v19, .int 0, v21, v22, .int 0, v24, v25, v26, v27, v28, v29, v30, v31, v32, .int 0, .int 1000000000, v35, v36, v37, v38, v39, v40, v41, v42]))]) hP hD [0] rfl rfl (by decide)
  refine W.widen (k := 0) (n := 0) (Nat.le_of_ble_eq_true rfl) (Nat.le_of_ble_eq_true rfl) ?_
  exact W.vret hx hb hr (fun t ht hW => ⟨⟨(), rfl, trivial, by rw [ht]; exact hP9, va_K.moved hW.alike hK, hD9⟩, hS.F ht⟩) hS.2.2 dM_one0_47
set_option maxHeartbeats 400000000 in
set_option maxRecDepth 100000 in
theorem cB_isWithin_13 (l : Launch) (hl9 : l.stackTraces = false) (D : va_G) (cT : Nat → ClassId) (aK aV : Nat → Nat) (sz : Nat) (x0 : Int32) (h1 : ¬ x0 < 0) (h2 : ¬ 13 < x0) (h3 : x0 ≤ 13) : xMet l yB_isWithin wyB_isWithin 0 0 0 0 D cT aK aV sz [.int x0, .int 13] [] (fun A => va_Qi (fun (r : Int32) (_ : Unit) => r = 1) (fun _ t => xB D xcl cT A [] t) A) := by
  refine Met.ofW (cc := prog_1_method_15_code) (maxL := 2) (ret := (some .boolean)) (by decide) rfl ?_
  intro p e s m args below meth c s₁ B hml hv
  obtain ⟨rfl, hsz, hZ, hP, hK, hD0⟩ := hv
  have hx := B.exec
  have hb := B.bytes
  have hr := B.returns
  have hts := atoms_spec (ws := wyB_isWithin) B.pre
  have htx := fun w h => hts w (List.mem_cons_of_mem _ h)
  have hown : s.vm.findClass "ValueBench" = some m.cls := findClass_of_methodNamed B.named
  have hlocks := B.notSynchronized
  subst hsz
  have hD := hD0.self (sz := s.heap.size)
  generalize hAe : va_A [] s.heap.size = A at hD hZ ⊢
  have hA : ∀ q : Nat, s.heap.size ≤ q → A q := fun q h => by rw [← hAe]; exact Or.inr h
  have hS : va_S A s.heap s.heap [] := va_S.rf
  have hP : va_P D xcl [] s.heap := hP
  have hl := lv_entry ([.int x0, .int 13]) (n := 2) (Nat.le_of_ble_eq_true rfl)
  rw [lg_entry_eq]
  generalize (lg_sl ([.int x0, .int 13]) ++ List.replicate (2 - (lg_sl ([.int x0, .int 13])).length) Slot.unset).toArray = ls at hl ⊢
  have hl : lv_has ls 2 [(0, .int x0), (1, .int 13)] := hl
  refine lv_iload_n hx hb dB_isWithin_0 rfl (lv_at hl 0 rfl) ?_
  refine lv_if_lt (tgt := 13) hx hb dB_isWithin_1 (by decide) (fun h => by first | exact absurd h h1 | exact absurd h h2 | exact absurd h h3 | exact absurd h1 h | exact absurd h2 h | exact absurd h3 h) (fun _ => ?_)
  refine lv_iload_n hx hb dB_isWithin_4 rfl (lv_at hl 0 rfl) ?_
  refine lv_iload_n hx hb dB_isWithin_5 rfl (lv_at hl 1 rfl) ?_
  refine lv_icmp_gt (tgt := 13) hx hb dB_isWithin_6 (by decide) (fun h => by first | exact absurd h h1 | exact absurd h h2 | exact absurd h h3 | exact absurd h1 h | exact absurd h2 h | exact absurd h3 h) (fun _ => ?_)
  refine lv_iconst (v := 1) hx hb dB_isWithin_9 (by decide) ?_
  refine lv_goto (tgt := 14) hx hb dB_isWithin_10 (by decide) ?_
  obtain ⟨hP9, hD9⟩ := xsub (wc := []) hP hD [] rfl rfl (by decide)
  refine W.widen (k := 0) (n := 0) (Nat.le_of_ble_eq_true rfl) (Nat.le_of_ble_eq_true rfl) ?_
  exact W.zret (v := 1) hx hb hr rfl (fun t ht hW => ⟨⟨1, (), rfl, rfl, by rw [ht]; exact hP9, va_K.moved hW.alike hK, hD9⟩, hS.F ht⟩) hS.2.2 dB_isWithin_14
set_option maxHeartbeats 400000000 in
set_option maxRecDepth 100000 in
theorem cB_one_4 (l : Launch) (hl9 : l.stackTraces = false) (D : va_G) (cT : Nat → ClassId) (aK aV : Nat → Nat) (sz : Nat) (b0 : Nat) (x1 : Int32) (x6 : Int32) (x10 : Int32) (h2 : ¬ x1 < 0) (h3 : ¬ 7 < x1) (h4 : x1 ≤ 7) (h5 : vp_in x1 8) (h7 : ¬ x6 < 0) (h8 : ¬ 13 < x6) (h9 : x6 ≤ 13) (h11 : x10 < 0) : xMetX l yB_one wyB_one 7 1 6 120 D cT aK aV sz [.ref b0, .int x1, .int x6, .int x10] [] "java/lang/IllegalArgumentException" (fun A t => xB D xcl cT A [] t) := by
  refine vx_ofW (cc := prog_1_method_9_code) (maxL := 4) (ret := none) (by decide) rfl ?_
  intro p e s m args below meth c s₁ B hml hne hv
  obtain ⟨rfl, hsz, hZ, hP, hK, hD0⟩ := hv
  have hx := B.exec
  have hb := B.bytes
  have hr := B.returns
  have hts := atoms_spec (ws := wyB_one) B.pre
  have htx := fun w h => hts w (List.mem_cons_of_mem _ h)
  have hown : s.vm.findClass "ValueBench" = some m.cls := findClass_of_methodNamed B.named
  have hlocks := B.notSynchronized
  subst hsz
  have hD := hD0.self (sz := s.heap.size)
  generalize hAe : va_A [] s.heap.size = A at hD hZ ⊢
  have hA : ∀ q : Nat, s.heap.size ≤ q → A q := fun q h => by rw [← hAe]; exact Or.inr h
  have hS : va_S A s.heap s.heap [] := va_S.rf
  have hP : va_P D xcl [] s.heap := hP
  have hl := lv_entry ([.ref b0, .int x1, .int x6, .int x10]) (n := 4) (Nat.le_of_ble_eq_true rfl)
  rw [lg_entry_eq]
  generalize (lg_sl ([.ref b0, .int x1, .int x6, .int x10]) ++ List.replicate (4 - (lg_sl ([.ref b0, .int x1, .int x6, .int x10])).length) Slot.unset).toArray = ls at hl ⊢
  have hl : lv_has ls 4 [(0, .ref b0), (1, .int x1), (2, .int x6), (3, .int x10)] := hl
  refine lv_iload_n hx hb dB_one_0 rfl (lv_at hl 1 rfl) ?_
  obtain ⟨hPc, hDc, hFc⟩ := xcut (wc := []) hP hD hS hA [] rfl rfl (by decide)
  refine va_calli (va_runS (As := [.int x1]) (rest := []) ⟨hx, hb, hml, hown, htx⟩ (cB_isRegister_2 l hl9 D cT aK aV s.heap.size x1 h2 h3 h4 h5) ⟨callB_of 1 htx (xw_goodC kw_2_18) rfl rfl rfl (htx _ kw_1_1) (htx _ kw_2_16) ⟨by decide, by decide, by decide +kernel⟩ ⟨Nat.le_of_ble_eq_true rfl, Nat.le_of_ble_eq_true rfl⟩, htx _ kw_2_17⟩ ⟨xPre_blind, (fun U hU hW => ⟨rfl, xPre_of hZ hS hFc hPc hDc hK U hU hW⟩)⟩ rfl rfl hl.1 rfl (lv_room (Nat.le_of_ble_eq_true rfl)) dB_one_1 ⟨Nat.le_of_ble_eq_true rfl, Nat.le_of_ble_eq_true rfl⟩) hS (fun q _ h => hFc q h) hFc (fun r1 u9 t H1 locs ht hvm hr9 hB hz1 hk1 hS => ?_)
  obtain ⟨hP1, hK1, hD1⟩ := hB
  rw [ht] at hP1
  obtain ⟨hP, hD⟩ := xjoin (W := []) hP hD [] [] 0 rfl rfl (by decide) (by decide) hk1 hFc hP1 hD1
  generalize H1 = H at hP hS ⊢
  rw [hr9]
  refine W.eq (g2 := F0 m 4 ls [.int 1]) rfl ?_
  refine lv_if_eq (tgt := 27) hx hb dB_one_4 (by decide) (fun h => ((by revert h; decide : False)).elim) (fun _ => ?_)
  refine lv_iload_n hx hb dB_one_7 rfl (lv_at hl 2 rfl) ?_
  refine lv_bipush (v := 13) hx hb dB_one_8 (by decide) ?_
  obtain ⟨hPc, hDc, hFc⟩ := xcut (wc := []) hP hD hS hA [] rfl rfl (by decide)
  refine va_calli (va_runS (As := [.int x6, .int 13]) (rest := []) ⟨hx, hb, hml, hown, htx⟩ (cB_isWithin_13 l hl9 D cT aK aV H.size x6 h7 h8 h9) ⟨callB_of 2 htx (xw_goodC kw_1_218) rfl rfl rfl (htx _ kw_1_1) (htx _ kw_1_216) ⟨by decide, by decide, by decide +kernel⟩ ⟨Nat.le_of_ble_eq_true rfl, Nat.le_of_ble_eq_true rfl⟩, htx _ kw_1_217⟩ ⟨xPre_blind, (fun U hU hW => ⟨rfl, xPre_of hZ hS hFc hPc hDc hK U hU hW⟩)⟩ rfl rfl hl.1 rfl (lv_room (Nat.le_of_ble_eq_true rfl)) dB_one_10 ⟨Nat.le_of_ble_eq_true rfl, Nat.le_of_ble_eq_true rfl⟩) hS (fun q _ h => hFc q h) hFc (fun r2 u9 t H1 locs ht hvm hr9 hB hz1 hk1 hS => ?_)
  obtain ⟨hP1, hK1, hD1⟩ := hB
  rw [ht] at hP1
  obtain ⟨hP, hD⟩ := xjoin (W := []) hP hD [] [] 0 rfl rfl (by decide) (by decide) hk1 hFc hP1 hD1
  generalize H1 = H at hP hS ⊢
  rw [hr9]
  refine W.eq (g2 := F0 m 13 ls [.int 1]) rfl ?_
  refine lv_if_eq (tgt := 27) hx hb dB_one_13 (by decide) (fun h => ((by revert h; decide : False)).elim) (fun _ => ?_)
  refine lv_iload_n hx hb dB_one_16 rfl (lv_at hl 3 rfl) ?_
  obtain ⟨hPc, hDc, hFc⟩ := xcut (wc := []) hP hD hS hA [] rfl rfl (by decide)
  refine va_calli (va_runS (As := [.int x10]) (rest := []) ⟨hx, hb, hml, hown, htx⟩ (cB_isRegister_0 l hl9 D cT aK aV H.size x10 h11) ⟨callB_of 1 htx (xw_goodC kw_2_18) rfl rfl rfl (htx _ kw_1_1) (htx _ kw_2_16) ⟨by decide, by decide, by decide +kernel⟩ ⟨Nat.le_of_ble_eq_true rfl, Nat.le_of_ble_eq_true rfl⟩, htx _ kw_2_17⟩ ⟨xPre_blind, (fun U hU hW => ⟨rfl, xPre_of hZ hS hFc hPc hDc hK U hU hW⟩)⟩ rfl rfl hl.1 rfl (lv_room (Nat.le_of_ble_eq_true rfl)) dB_one_17 ⟨Nat.le_of_ble_eq_true rfl, Nat.le_of_ble_eq_true rfl⟩) hS (fun q _ h => hFc q h) hFc (fun r3 u9 t H1 locs ht hvm hr9 hB hz1 hk1 hS => ?_)
  obtain ⟨hP1, hK1, hD1⟩ := hB
  rw [ht] at hP1
  obtain ⟨hP, hD⟩ := xjoin (W := []) hP hD [] [] 0 rfl rfl (by decide) (by decide) hk1 hFc hP1 hD1
  generalize H1 = H at hP hS ⊢
  rw [hr9]
  refine W.eq (g2 := F0 m 20 ls [.int 0]) rfl ?_
  refine lv_if_eq (tgt := 27) hx hb dB_one_20 (by decide) (fun _ => ?_) (fun h => ((by revert h; decide : False)).elim)
  refine lv_iconst (v := 0) hx hb dB_one_27 (by decide) ?_
  obtain ⟨hPc, hDc, hFc⟩ := xcut (wc := []) hP hD hS hA [] rfl rfl (by decide)
  refine xx_thr (vx_runS (As := [.int 0]) (rest := []) ⟨hx, hb, hml, hown, htx⟩ (cB_demand_0 l hl9 D cT aK aV H.size) ⟨callB_of 1 htx (xw_goodC kw_1_221) rfl rfl rfl (htx _ kw_1_1) (htx _ kw_1_219) ⟨by decide, by decide, by decide +kernel⟩ ⟨Nat.le_of_ble_eq_true rfl, Nat.le_of_ble_eq_true rfl⟩, htx _ kw_1_220⟩ ⟨xPre_blind, (fun U hU hW => ⟨rfl, xPre_of hZ hS hFc hPc hDc hK U hU hW⟩)⟩ rfl rfl hl.1 rfl (lv_room (Nat.le_of_ble_eq_true rfl)) dB_one_28 ⟨Nat.le_of_ble_eq_true rfl, Nat.le_of_ble_eq_true rfl⟩) hS hFc (fun q _ h => hFc q h) (fun E ce q9 u9 t H1 locs ht hvm _ hB hz1 hk1 hS hce hcv hcl => ?_)
  obtain ⟨rfl, hP1, hK1, hD1⟩ := hB
  rw [ht] at hP1
  obtain ⟨hP, hD⟩ := xjoin (W := []) hP hD [] [] 0 rfl rfl (by decide) (by decide) hk1 hFc hP1 hD1
  generalize H1 = H at hP hS hce ⊢
  obtain ⟨hP9, hD9⟩ := xsub (wc := []) hP hD [] rfl rfl (by decide)
  exact vx_out (E := "java/lang/IllegalArgumentException") (fun x h => (hne x h).elim) hlocks hce hcv hcl (fun t ht ha => ⟨(), trivial, ⟨rfl, by rw [ht]; exact hP9, va_K.moved ha hK, hD9⟩, hS.F ht⟩) hS.2.2 (Nat.le_of_ble_eq_true rfl) (Nat.le_of_ble_eq_true rfl)
set_option maxHeartbeats 400000000 in
set_option maxRecDepth 100000 in
theorem cL_one_4 (l : Launch) (hl9 : l.stackTraces = false) (D : va_G) (cT : Nat → ClassId) (aK aV : Nat → Nat) (sz : Nat) (a0 : Nat) (x1 : Int32) (x6 : Int32) (x10 : Int32) (v12 : Value) (v13 : Value) (v14 : Value) (v15 : Value) (v16 : Value) (v17 : Value) (v18 : Value) (v19 : Value) (h2 : ¬ x1 < 0) (h3 : ¬ 7 < x1) (h4 : x1 ≤ 7) (h5 : vp_in x1 8) (h7 : ¬ x6 < 0) (h8 : ¬ 13 < x6) (h9 : x6 ≤ 13) (h11 : x10 < 0) : xMet l yL_one wyL_one 8 1 6 143 D cT aK aV sz [.ref a0, .int x1, .int x6, .int x10] [(a0, .inr (0, [v12, v13, v14, v15, v16, v17, v18, v19]))] (fun A => va_Qi (fun (r : Int32) (_ : Unit) => r = 1) (fun _ t => xB D xcl cT A [(a0, .inr (0, [v12, v13, v14, v15, v16, v17, v18, v19]))] t) A) := by
  refine va_MetW (cc := method_10_code) (maxL := 5) (ret := (some .int)) (hh := [(0, 7, 10, 19), (0, 7, 14, 33), (0, 7, 18, 13)]) (by decide) rfl ?_
  intro p e s m args below meth c s₁ B hml hv
  obtain ⟨rfl, hsz, hZ, hP, hK, hD0⟩ := hv
  have hx := B.exec
  have hb := B.bytes
  have hr := B.returns
  have hts := atoms_spec (ws := wyL_one) B.pre
  have htx := fun w h => hts w (List.mem_cons_of_mem _ h)
  have hown : s.vm.findClass "ValueBenchLaw" = some m.cls := findClass_of_methodNamed B.named
  have hlocks := B.notSynchronized
  subst hsz
  have hD := hD0.self (sz := s.heap.size)
  generalize hAe : va_A [(a0, .inr (0, [v12, v13, v14, v15, v16, v17, v18, v19]))] s.heap.size = A at hD hZ ⊢
  have hA : ∀ q : Nat, s.heap.size ≤ q → A q := fun q h => by rw [← hAe]; exact Or.inr h
  have hS : va_S A s.heap s.heap [] := va_S.rf
  have hP : va_P D xcl [(a0, .inr (0, [v12, v13, v14, v15, v16, v17, v18, v19]))] s.heap := hP
  have hl := lv_entry ([.ref a0, .int x1, .int x6, .int x10]) (n := 5) (Nat.le_of_ble_eq_true rfl)
  rw [lg_entry_eq]
  generalize (lg_sl ([.ref a0, .int x1, .int x6, .int x10]) ++ List.replicate (5 - (lg_sl ([.ref a0, .int x1, .int x6, .int x10])).length) Slot.unset).toArray = ls at hl ⊢
  have hl : lv_has ls 5 [(0, .ref a0), (1, .int x1), (2, .int x6), (3, .int x10)] := hl
  have htab := vx_table (x := yL_one) B (hts _ List.mem_cons_self)
  refine lv_aload_n hx hb dL_one_0 rfl (lv_at hl 0 rfl) ?_
  refine lv_iload_n hx hb dL_one_1 rfl (lv_at hl 1 rfl) ?_
  refine lv_iload_n hx hb dL_one_2 rfl (lv_at hl 2 rfl) ?_
  refine lv_iload_n hx hb dL_one_3 rfl (lv_at hl 3 rfl) ?_
  obtain ⟨hPc, hDc, hFc⟩ := xcut (wc := []) hP hD hS hA [] rfl rfl (by decide)
  refine xx_thr (vx_runV (C := "ValueBench") (As := [.int x1, .int x6, .int x10]) (rest := []) ⟨hx, hb, hml, hown, htx⟩ (cB_one_4 l hl9 D cT aK aV s.heap.size a0 x1 x6 x10 h2 h3 h4 h5 h7 h8 h9 h11) ⟨callB_of 3 htx (xw_goodC kw_4_25) rfl rfl rfl (htx _ kw_1_1) (htx _ kw_4_22) ⟨by decide, by decide, by decide +kernel⟩ ⟨Nat.le_of_ble_eq_true rfl, Nat.le_of_ble_eq_true rfl⟩, (htx _ kw_4_23), (htx _ kw_4_24)⟩ ⟨xPre_blind, va_recv hK hP (ci := 0) rfl (q0 := 0) rfl, (fun U hU hW => ⟨rfl, xPre_of hZ hS hFc hPc hDc hK U hU hW⟩)⟩ rfl rfl hl.1 rfl (lv_room (Nat.le_of_ble_eq_true rfl)) dL_one_4 ⟨Nat.le_of_ble_eq_true rfl, Nat.le_of_ble_eq_true rfl⟩) hS hFc (fun q _ h => hFc q h) (fun E ce q9 u9 t H1 locs ht hvm _ hB hz1 hk1 hS hce hcv hcl => ?_)
  obtain ⟨rfl, hP1, hK1, hD1⟩ := hB
  rw [ht] at hP1
  obtain ⟨hP, hD⟩ := xjoin (W := [(a0, .inr (0, [v12, v13, v14, v15, v16, v17, v18, v19]))]) hP hD [] [0] 1 rfl rfl (by decide) (by decide) hk1 hFc hP1 hD1
  generalize H1 = H at hP hS hce ⊢
  refine vx_catch (own := "ValueBenchLaw") (name := "java/lang/IllegalArgumentException") (E := "java/lang/IllegalArgumentException") hown [] ⟨0, 7, 10, 19⟩ [⟨0, 7, 14, 33⟩, ⟨0, 7, 18, 13⟩] (by rw [htab]; rfl) (fun z hz => nomatch hz) (by decide) (by decide) (htx _ kw_1_211) ((hZ.2.2.2.2.2.1 "java/lang/IllegalArgumentException" (List.mem_of_getElem? (i := 1) rfl)).use rfl) hce hcv hcl ?_
  refine lv_astore (lv' := [(4, .ref q9), (0, .ref a0), (1, .int x1), (2, .int x6), (3, .int x10)]) hx hb dL_one_10 hl (by decide) rfl (fun ls hl => ?_)
  refine lv_iconst (v := 1) hx hb dL_one_12 (by decide) ?_
  obtain ⟨hP9, hD9⟩ := xsub (wc := [(a0, .inr (0, [v12, v13, v14, v15, v16, v17, v18, v19]))]) hP hD [0] rfl rfl (by decide)
  refine W.widen (k := 1) (n := 6) (Nat.le_of_ble_eq_true rfl) (Nat.le_of_ble_eq_true rfl) ?_
  exact W.iret (v := 1) hx hb hr (fun t ht hW => ⟨⟨1, (), rfl, rfl, by rw [ht]; exact hP9, va_K.moved hW.alike hK, hD9⟩, hS.F ht⟩) hS.2.2 dL_one_13
set_option maxHeartbeats 400000000 in
set_option maxRecDepth 100000 in
theorem cM_one0_4 (l : Launch) (hl9 : l.stackTraces = false) (D : va_G) (cT : Nat → ClassId) (aK aV : Nat → Nat) (sz : Nat) (a0 : Nat) (x1 : Int32) (x6 : Int32) (x10 : Int32) (v12 : Value) (v13 : Value) (v14 : Value) (v15 : Value) (v16 : Value) (v17 : Value) (v18 : Value) (v19 : Value) (v20 : Value) (v21 : Value) (v22 : Value) (v23 : Value) (v24 : Value) (v25 : Value) (v26 : Value) (v27 : Value) (v28 : Value) (v29 : Value) (v30 : Value) (v31 : Value) (v32 : Value) (v33 : Value) (v34 : Value) (v35 : Value) (v36 : Value) (v37 : Value) (v38 : Value) (v39 : Value) (v40 : Value) (v41 : Value) (v42 : Value) (v43 : Value) (h2 : ¬ x1 < 0) (h3 : ¬ 7 < x1) (h4 : x1 ≤ 7) (h5 : vp_in x1 8) (h7 : ¬ x6 < 0) (h8 : ¬ 13 < x6) (h9 : x6 ≤ 13) (h11 : x10 < 0) : xMet l yM_one0 wyM_one0 2 0 0 40 D cT aK aV sz [.ref a0, .int x1, .int x6, .int x10] [(a0, .inr (5, [v12, v13, v14, v15, v16, v17, v18, v19, v20, v21, v22, v23, v24, v25, v26, v27, v28, v29, v30, v31, v32, v33, v34, v35, v36, v37, v38, v39, v40, v41, v42, v43]))] (fun A => va_Qv (fun _ : Unit => True) (fun _ t => xB D xcl cT A [(a0, .inr (5, [.int 1, v13, .int 0, v15, .int 0, v17, v18, .int 0, v20, .int 0, v22, v23, .int 0, v25, v26, v27, v28, v29, v30, v31, v32, v33, .int 0, .int 1000000000, v36, v37, v38, v39, v40, v41, v42, v43]))] t) A) := by
  refine Met.ofW (cc := prog_13_method_92_code) (maxL := 4) (ret := none) (by decide) rfl ?_
  intro p e s m args below meth c s₁ B hml hv
  obtain ⟨rfl, hsz, hZ, hP, hK, hD0⟩ := hv
  have hx := B.exec
  have hb := B.bytes
  have hr := B.returns
  have hts := atoms_spec (ws := wyM_one0) B.pre
  have htx := fun w h => hts w (List.mem_cons_of_mem _ h)
  have hown : s.vm.findClass "ValueBenchModel" = some m.cls := findClass_of_methodNamed B.named
  have hlocks := B.notSynchronized
  subst hsz
  have hD := hD0.self (sz := s.heap.size)
  generalize hAe : va_A [(a0, .inr (5, [v12, v13, v14, v15, v16, v17, v18, v19, v20, v21, v22, v23, v24, v25, v26, v27, v28, v29, v30, v31, v32, v33, v34, v35, v36, v37, v38, v39, v40, v41, v42, v43]))] s.heap.size = A at hD hZ ⊢
  have hA : ∀ q : Nat, s.heap.size ≤ q → A q := fun q h => by rw [← hAe]; exact Or.inr h
  have hS : va_S A s.heap s.heap [] := va_S.rf
  have hP : va_P D xcl [(a0, .inr (5, [v12, v13, v14, v15, v16, v17, v18, v19, v20, v21, v22, v23, v24, v25, v26, v27, v28, v29, v30, v31, v32, v33, v34, v35, v36, v37, v38, v39, v40, v41, v42, v43]))] s.heap := hP
  have hl := lv_entry ([.ref a0, .int x1, .int x6, .int x10]) (n := 4) (Nat.le_of_ble_eq_true rfl)
  rw [lg_entry_eq]
  generalize (lg_sl ([.ref a0, .int x1, .int x6, .int x10]) ++ List.replicate (4 - (lg_sl ([.ref a0, .int x1, .int x6, .int x10])).length) Slot.unset).toArray = ls at hl ⊢
  have hl : lv_has ls 4 [(0, .ref a0), (1, .int x1), (2, .int x6), (3, .int x10)] := hl
  refine lv_aload_n hx hb dM_one0_0 rfl (lv_at hl 0 rfl) ?_
  obtain ⟨hPc, hDc, hFc⟩ := xcut (wc := [(a0, .inr (5, [v12, v13, v14, v15, v16, v17, v18, v19, v20, v21, v22, v23, v24, v25, v26, v27, v28, v29, v30, v31, v32, v33, v34, v35, v36, v37, v38, v39, v40, v41, v42, v43]))]) hP hD hS hA [0] rfl rfl (by decide)
  refine va_callv (va_runV (C := "ValueBenchModel") (As := []) (rest := []) ⟨hx, hb, hml, hown, htx⟩ (cM_begin_0 l hl9 D cT aK aV s.heap.size a0 v12 v13 v14 v15 v16 v17 v18 v19 v20 v21 v22 v23 v24 v25 v26 v27 v28 v29 v30 v31 v32 v33 v34 v35 v36 v37 v38 v39 v40 v41 v42 v43) ⟨callB_of 0 htx (xw_goodC kw_5_209) rfl rfl rfl (htx _ kw_1_5) (htx _ kw_5_206) ⟨by decide, by decide, by decide +kernel⟩ ⟨Nat.le_of_ble_eq_true rfl, Nat.le_of_ble_eq_true rfl⟩, (htx _ kw_5_208), (htx _ kp_M_begin)⟩ ⟨xPre_blind, va_recv hK hP (ci := 5) rfl (q0 := 0) rfl, (fun U hU hW => ⟨rfl, xPre_of hZ hS hFc hPc hDc hK U hU hW⟩)⟩ rfl rfl hl.1 rfl (lv_room (Nat.le_of_ble_eq_true rfl)) dM_one0_1 ⟨Nat.le_of_ble_eq_true rfl, Nat.le_of_ble_eq_true rfl⟩) hS (fun q _ h => hFc q h) hFc (fun u9 t H1 locs ht hvm hr9 hB hz1 hk1 hS => ?_)
  obtain ⟨hP1, hK1, hD1⟩ := hB
  rw [ht] at hP1
  obtain ⟨hP, hD⟩ := xjoin (W := [(a0, .inr (5, [.int 0, v13, .int 0, v15, .int 0, v17, v18, .int 0, v20, .int 0, v22, v23, .int 0, v25, v26, v27, v28, v29, v30, v31, v32, v33, .int 0, .int 1000000000, v36, v37, v38, v39, v40, v41, v42, v43]))]) hP hD [0] [] 0 rfl rfl (by decide) (by decide) hk1 hFc hP1 hD1
  generalize H1 = H at hP hS ⊢
  refine lv_aload_n hx hb dM_one0_4 rfl (lv_at hl 0 rfl) ?_
  refine lv_iload_n hx hb dM_one0_5 rfl (lv_at hl 1 rfl) ?_
  obtain ⟨hPc, hDc, hFc⟩ := xcut (wc := []) hP hD hS hA [] rfl rfl (by decide)
  refine va_calli (va_runV (C := "ValueBenchModel") (As := [.int x1]) (rest := []) ⟨hx, hb, hml, hown, htx⟩ (cM_out_2 l hl9 D cT aK aV H.size a0 x1 h2 h3 h4 h5) ⟨callB_of 1 htx (xw_goodC kw_5_217) rfl rfl rfl (htx _ kw_1_5) (htx _ kw_5_214) ⟨by decide, by decide, by decide +kernel⟩ ⟨Nat.le_of_ble_eq_true rfl, Nat.le_of_ble_eq_true rfl⟩, (htx _ kw_5_216), (htx _ kp_M_out)⟩ ⟨xPre_blind, va_recv hK hP (ci := 5) rfl (q0 := 0) rfl, (fun U hU hW => ⟨rfl, xPre_of hZ hS hFc hPc hDc hK U hU hW⟩)⟩ rfl rfl hl.1 rfl (lv_room (Nat.le_of_ble_eq_true rfl)) dM_one0_6 ⟨Nat.le_of_ble_eq_true rfl, Nat.le_of_ble_eq_true rfl⟩) hS (fun q _ h => hFc q h) hFc (fun r1 u9 t H1 locs ht hvm hr9 hB hz1 hk1 hS => ?_)
  obtain ⟨hP1, hK1, hD1⟩ := hB
  rw [ht] at hP1
  obtain ⟨hP, hD⟩ := xjoin (W := [(a0, .inr (5, [.int 0, v13, .int 0, v15, .int 0, v17, v18, .int 0, v20, .int 0, v22, v23, .int 0, v25, v26, v27, v28, v29, v30, v31, v32, v33, .int 0, .int 1000000000, v36, v37, v38, v39, v40, v41, v42, v43]))]) hP hD [] [0] 1 rfl rfl (by decide) (by decide) hk1 hFc hP1 hD1
  generalize H1 = H at hP hS ⊢
  rw [hr9]
  refine W.eq (g2 := F0 m 9 ls [.int 0]) rfl ?_
  refine lv_if_ne (tgt := 30) hx hb dM_one0_9 (by decide) (fun h => ((by revert h; decide : False)).elim) (fun _ => ?_)
  refine lv_iload_n hx hb dM_one0_12 rfl (lv_at hl 2 rfl) ?_
  refine lv_if_lt (tgt := 30) hx hb dM_one0_13 (by decide) (fun h => by first | exact absurd h h7 | exact absurd h h8 | exact absurd h h9 | exact absurd h7 h | exact absurd h8 h | exact absurd h9 h) (fun _ => ?_)
  refine lv_iload_n hx hb dM_one0_16 rfl (lv_at hl 2 rfl) ?_
  refine lv_bipush (v := 13) hx hb dM_one0_17 (by decide) ?_
  refine lv_icmp_gt (tgt := 30) hx hb dM_one0_19 (by decide) (fun h => by first | exact absurd h h7 | exact absurd h h8 | exact absurd h h9 | exact absurd h7 h | exact absurd h8 h | exact absurd h9 h) (fun _ => ?_)
  refine lv_aload_n hx hb dM_one0_22 rfl (lv_at hl 0 rfl) ?_
  refine lv_iload_n hx hb dM_one0_23 rfl (lv_at hl 3 rfl) ?_
  obtain ⟨hPc, hDc, hFc⟩ := xcut (wc := []) hP hD hS hA [] rfl rfl (by decide)
  refine va_calli (va_runV (C := "ValueBenchModel") (As := [.int x10]) (rest := []) ⟨hx, hb, hml, hown, htx⟩ (cM_out_0 l hl9 D cT aK aV H.size a0 x10 h11) ⟨callB_of 1 htx (xw_goodC kw_5_217) rfl rfl rfl (htx _ kw_1_5) (htx _ kw_5_214) ⟨by decide, by decide, by decide +kernel⟩ ⟨Nat.le_of_ble_eq_true rfl, Nat.le_of_ble_eq_true rfl⟩, (htx _ kw_5_216), (htx _ kp_M_out)⟩ ⟨xPre_blind, va_recv hK hP (ci := 5) rfl (q0 := 0) rfl, (fun U hU hW => ⟨rfl, xPre_of hZ hS hFc hPc hDc hK U hU hW⟩)⟩ rfl rfl hl.1 rfl (lv_room (Nat.le_of_ble_eq_true rfl)) dM_one0_24 ⟨Nat.le_of_ble_eq_true rfl, Nat.le_of_ble_eq_true rfl⟩) hS (fun q _ h => hFc q h) hFc (fun r2 u9 t H1 locs ht hvm hr9 hB hz1 hk1 hS => ?_)
  obtain ⟨hP1, hK1, hD1⟩ := hB
  rw [ht] at hP1
  obtain ⟨hP, hD⟩ := xjoin (W := [(a0, .inr (5, [.int 0, v13, .int 0, v15, .int 0, v17, v18, .int 0, v20, .int 0, v22, v23, .int 0, v25, v26, v27, v28, v29, v30, v31, v32, v33, .int 0, .int 1000000000, v36, v37, v38, v39, v40, v41, v42, v43]))]) hP hD [] [0] 1 rfl rfl (by decide) (by decide) hk1 hFc hP1 hD1
  generalize H1 = H at hP hS ⊢
  rw [hr9]
  refine W.eq (g2 := F0 m 27 ls [.int 1]) rfl ?_
  refine lv_if_eq (tgt := 38) hx hb dM_one0_27 (by decide) (fun h => ((by revert h; decide : False)).elim) (fun _ => ?_)
  refine lv_aload_n hx hb dM_one0_30 rfl (lv_at hl 0 rfl) ?_
  refine lv_iconst (v := 1) hx hb dM_one0_31 (by decide) ?_
  refine va_put (D := D) (ci := 5) (v := .int 1) (ty := .int) (C := "ValueBenchModel") (T := TM) (N := 32) hx hb htx inM tyM tyM_ok nmM hown hK hP hD hS 0 rfl rfl 0 (by decide) (htx _ kw_5_87) (fun _ h9 => h9) rfl (by decide +kernel) rfl rfl (Nat.le_of_ble_eq_true rfl) dM_one0_32 (fun H locs hP hD hS => ?_)
  obtain ⟨hP, hD⟩ : xPD D xcl A [(a0, .inr (5, [.int 1, v13, .int 0, v15, .int 0, v17, v18, .int 0, v20, .int 0, v22, v23, .int 0, v25, v26, v27, v28, v29, v30, v31, v32, v33, .int 0, .int 1000000000, v36, v37, v38, v39, v40, v41, v42, v43]))] H := ⟨hP, hD⟩
  refine lv_goto (tgt := 47) hx hb dM_one0_35 (by decide) ?_
  obtain ⟨hP9, hD9⟩ := xsub (wc := [(a0, .inr (5, [.int 1, v13, .int 0, v15, .int 0, v17, v18, .int 0, v20, .int 0, v22, v23, .int 0, v25, v26, v27, v28, v29, v30, v31, v32, v33, .int 0, .int 1000000000, v36, v37, v38, v39, v40, v41, v42, v43]))]) hP hD [0] rfl rfl (by decide)
  refine W.widen (k := 0) (n := 0) (Nat.le_of_ble_eq_true rfl) (Nat.le_of_ble_eq_true rfl) ?_
  exact W.vret hx hb hr (fun t ht hW => ⟨⟨(), rfl, trivial, by rw [ht]; exact hP9, va_K.moved hW.alike hK, hD9⟩, hS.F ht⟩) hS.2.2 dM_one0_47
set_option maxHeartbeats 400000000 in
set_option maxRecDepth 100000 in
theorem cB_one_5 (l : Launch) (hl9 : l.stackTraces = false) (D : va_G) (cT : Nat → ClassId) (aK aV : Nat → Nat) (sz : Nat) (b0 : Nat) (x1 : Int32) (x6 : Int32) (x10 : Int32) (h2 : ¬ x1 < 0) (h3 : ¬ 7 < x1) (h4 : x1 ≤ 7) (h5 : vp_in x1 8) (h7 : ¬ x6 < 0) (h8 : ¬ 13 < x6) (h9 : x6 ≤ 13) (h11 : ¬ x10 < 0) (h12 : 7 < x10) (h13 : ¬ x10 ≤ 7) : xMetX l yB_one wyB_one 7 1 6 120 D cT aK aV sz [.ref b0, .int x1, .int x6, .int x10] [] "java/lang/IllegalArgumentException" (fun A t => xB D xcl cT A [] t) := by
  refine vx_ofW (cc := prog_1_method_9_code) (maxL := 4) (ret := none) (by decide) rfl ?_
  intro p e s m args below meth c s₁ B hml hne hv
  obtain ⟨rfl, hsz, hZ, hP, hK, hD0⟩ := hv
  have hx := B.exec
  have hb := B.bytes
  have hr := B.returns
  have hts := atoms_spec (ws := wyB_one) B.pre
  have htx := fun w h => hts w (List.mem_cons_of_mem _ h)
  have hown : s.vm.findClass "ValueBench" = some m.cls := findClass_of_methodNamed B.named
  have hlocks := B.notSynchronized
  subst hsz
  have hD := hD0.self (sz := s.heap.size)
  generalize hAe : va_A [] s.heap.size = A at hD hZ ⊢
  have hA : ∀ q : Nat, s.heap.size ≤ q → A q := fun q h => by rw [← hAe]; exact Or.inr h
  have hS : va_S A s.heap s.heap [] := va_S.rf
  have hP : va_P D xcl [] s.heap := hP
  have hl := lv_entry ([.ref b0, .int x1, .int x6, .int x10]) (n := 4) (Nat.le_of_ble_eq_true rfl)
  rw [lg_entry_eq]
  generalize (lg_sl ([.ref b0, .int x1, .int x6, .int x10]) ++ List.replicate (4 - (lg_sl ([.ref b0, .int x1, .int x6, .int x10])).length) Slot.unset).toArray = ls at hl ⊢
  have hl : lv_has ls 4 [(0, .ref b0), (1, .int x1), (2, .int x6), (3, .int x10)] := hl
  refine lv_iload_n hx hb dB_one_0 rfl (lv_at hl 1 rfl) ?_
  obtain ⟨hPc, hDc, hFc⟩ := xcut (wc := []) hP hD hS hA [] rfl rfl (by decide)
  refine va_calli (va_runS (As := [.int x1]) (rest := []) ⟨hx, hb, hml, hown, htx⟩ (cB_isRegister_2 l hl9 D cT aK aV s.heap.size x1 h2 h3 h4 h5) ⟨callB_of 1 htx (xw_goodC kw_2_18) rfl rfl rfl (htx _ kw_1_1) (htx _ kw_2_16) ⟨by decide, by decide, by decide +kernel⟩ ⟨Nat.le_of_ble_eq_true rfl, Nat.le_of_ble_eq_true rfl⟩, htx _ kw_2_17⟩ ⟨xPre_blind, (fun U hU hW => ⟨rfl, xPre_of hZ hS hFc hPc hDc hK U hU hW⟩)⟩ rfl rfl hl.1 rfl (lv_room (Nat.le_of_ble_eq_true rfl)) dB_one_1 ⟨Nat.le_of_ble_eq_true rfl, Nat.le_of_ble_eq_true rfl⟩) hS (fun q _ h => hFc q h) hFc (fun r1 u9 t H1 locs ht hvm hr9 hB hz1 hk1 hS => ?_)
  obtain ⟨hP1, hK1, hD1⟩ := hB
  rw [ht] at hP1
  obtain ⟨hP, hD⟩ := xjoin (W := []) hP hD [] [] 0 rfl rfl (by decide) (by decide) hk1 hFc hP1 hD1
  generalize H1 = H at hP hS ⊢
  rw [hr9]
  refine W.eq (g2 := F0 m 4 ls [.int 1]) rfl ?_
  refine lv_if_eq (tgt := 27) hx hb dB_one_4 (by decide) (fun h => ((by revert h; decide : False)).elim) (fun _ => ?_)
  refine lv_iload_n hx hb dB_one_7 rfl (lv_at hl 2 rfl) ?_
  refine lv_bipush (v := 13) hx hb dB_one_8 (by decide) ?_
  obtain ⟨hPc, hDc, hFc⟩ := xcut (wc := []) hP hD hS hA [] rfl rfl (by decide)
  refine va_calli (va_runS (As := [.int x6, .int 13]) (rest := []) ⟨hx, hb, hml, hown, htx⟩ (cB_isWithin_13 l hl9 D cT aK aV H.size x6 h7 h8 h9) ⟨callB_of 2 htx (xw_goodC kw_1_218) rfl rfl rfl (htx _ kw_1_1) (htx _ kw_1_216) ⟨by decide, by decide, by decide +kernel⟩ ⟨Nat.le_of_ble_eq_true rfl, Nat.le_of_ble_eq_true rfl⟩, htx _ kw_1_217⟩ ⟨xPre_blind, (fun U hU hW => ⟨rfl, xPre_of hZ hS hFc hPc hDc hK U hU hW⟩)⟩ rfl rfl hl.1 rfl (lv_room (Nat.le_of_ble_eq_true rfl)) dB_one_10 ⟨Nat.le_of_ble_eq_true rfl, Nat.le_of_ble_eq_true rfl⟩) hS (fun q _ h => hFc q h) hFc (fun r2 u9 t H1 locs ht hvm hr9 hB hz1 hk1 hS => ?_)
  obtain ⟨hP1, hK1, hD1⟩ := hB
  rw [ht] at hP1
  obtain ⟨hP, hD⟩ := xjoin (W := []) hP hD [] [] 0 rfl rfl (by decide) (by decide) hk1 hFc hP1 hD1
  generalize H1 = H at hP hS ⊢
  rw [hr9]
  refine W.eq (g2 := F0 m 13 ls [.int 1]) rfl ?_
  refine lv_if_eq (tgt := 27) hx hb dB_one_13 (by decide) (fun h => ((by revert h; decide : False)).elim) (fun _ => ?_)
  refine lv_iload_n hx hb dB_one_16 rfl (lv_at hl 3 rfl) ?_
  obtain ⟨hPc, hDc, hFc⟩ := xcut (wc := []) hP hD hS hA [] rfl rfl (by decide)
  refine va_calli (va_runS (As := [.int x10]) (rest := []) ⟨hx, hb, hml, hown, htx⟩ (cB_isRegister_1 l hl9 D cT aK aV H.size x10 h11 h12 h13) ⟨callB_of 1 htx (xw_goodC kw_2_18) rfl rfl rfl (htx _ kw_1_1) (htx _ kw_2_16) ⟨by decide, by decide, by decide +kernel⟩ ⟨Nat.le_of_ble_eq_true rfl, Nat.le_of_ble_eq_true rfl⟩, htx _ kw_2_17⟩ ⟨xPre_blind, (fun U hU hW => ⟨rfl, xPre_of hZ hS hFc hPc hDc hK U hU hW⟩)⟩ rfl rfl hl.1 rfl (lv_room (Nat.le_of_ble_eq_true rfl)) dB_one_17 ⟨Nat.le_of_ble_eq_true rfl, Nat.le_of_ble_eq_true rfl⟩) hS (fun q _ h => hFc q h) hFc (fun r3 u9 t H1 locs ht hvm hr9 hB hz1 hk1 hS => ?_)
  obtain ⟨hP1, hK1, hD1⟩ := hB
  rw [ht] at hP1
  obtain ⟨hP, hD⟩ := xjoin (W := []) hP hD [] [] 0 rfl rfl (by decide) (by decide) hk1 hFc hP1 hD1
  generalize H1 = H at hP hS ⊢
  rw [hr9]
  refine W.eq (g2 := F0 m 20 ls [.int 0]) rfl ?_
  refine lv_if_eq (tgt := 27) hx hb dB_one_20 (by decide) (fun _ => ?_) (fun h => ((by revert h; decide : False)).elim)
  refine lv_iconst (v := 0) hx hb dB_one_27 (by decide) ?_
  obtain ⟨hPc, hDc, hFc⟩ := xcut (wc := []) hP hD hS hA [] rfl rfl (by decide)
  refine xx_thr (vx_runS (As := [.int 0]) (rest := []) ⟨hx, hb, hml, hown, htx⟩ (cB_demand_0 l hl9 D cT aK aV H.size) ⟨callB_of 1 htx (xw_goodC kw_1_221) rfl rfl rfl (htx _ kw_1_1) (htx _ kw_1_219) ⟨by decide, by decide, by decide +kernel⟩ ⟨Nat.le_of_ble_eq_true rfl, Nat.le_of_ble_eq_true rfl⟩, htx _ kw_1_220⟩ ⟨xPre_blind, (fun U hU hW => ⟨rfl, xPre_of hZ hS hFc hPc hDc hK U hU hW⟩)⟩ rfl rfl hl.1 rfl (lv_room (Nat.le_of_ble_eq_true rfl)) dB_one_28 ⟨Nat.le_of_ble_eq_true rfl, Nat.le_of_ble_eq_true rfl⟩) hS hFc (fun q _ h => hFc q h) (fun E ce q9 u9 t H1 locs ht hvm _ hB hz1 hk1 hS hce hcv hcl => ?_)
  obtain ⟨rfl, hP1, hK1, hD1⟩ := hB
  rw [ht] at hP1
  obtain ⟨hP, hD⟩ := xjoin (W := []) hP hD [] [] 0 rfl rfl (by decide) (by decide) hk1 hFc hP1 hD1
  generalize H1 = H at hP hS hce ⊢
  obtain ⟨hP9, hD9⟩ := xsub (wc := []) hP hD [] rfl rfl (by decide)
  exact vx_out (E := "java/lang/IllegalArgumentException") (fun x h => (hne x h).elim) hlocks hce hcv hcl (fun t ht ha => ⟨(), trivial, ⟨rfl, by rw [ht]; exact hP9, va_K.moved ha hK, hD9⟩, hS.F ht⟩) hS.2.2 (Nat.le_of_ble_eq_true rfl) (Nat.le_of_ble_eq_true rfl)
set_option maxHeartbeats 400000000 in
set_option maxRecDepth 100000 in
theorem cL_one_5 (l : Launch) (hl9 : l.stackTraces = false) (D : va_G) (cT : Nat → ClassId) (aK aV : Nat → Nat) (sz : Nat) (a0 : Nat) (x1 : Int32) (x6 : Int32) (x10 : Int32) (v14 : Value) (v15 : Value) (v16 : Value) (v17 : Value) (v18 : Value) (v19 : Value) (v20 : Value) (v21 : Value) (h2 : ¬ x1 < 0) (h3 : ¬ 7 < x1) (h4 : x1 ≤ 7) (h5 : vp_in x1 8) (h7 : ¬ x6 < 0) (h8 : ¬ 13 < x6) (h9 : x6 ≤ 13) (h11 : ¬ x10 < 0) (h12 : 7 < x10) (h13 : ¬ x10 ≤ 7) : xMet l yL_one wyL_one 8 1 6 143 D cT aK aV sz [.ref a0, .int x1, .int x6, .int x10] [(a0, .inr (0, [v14, v15, v16, v17, v18, v19, v20, v21]))] (fun A => va_Qi (fun (r : Int32) (_ : Unit) => r = 1) (fun _ t => xB D xcl cT A [(a0, .inr (0, [v14, v15, v16, v17, v18, v19, v20, v21]))] t) A) := by
  refine va_MetW (cc := method_10_code) (maxL := 5) (ret := (some .int)) (hh := [(0, 7, 10, 19), (0, 7, 14, 33), (0, 7, 18, 13)]) (by decide) rfl ?_
  intro p e s m args below meth c s₁ B hml hv
  obtain ⟨rfl, hsz, hZ, hP, hK, hD0⟩ := hv
  have hx := B.exec
  have hb := B.bytes
  have hr := B.returns
  have hts := atoms_spec (ws := wyL_one) B.pre
  have htx := fun w h => hts w (List.mem_cons_of_mem _ h)
  have hown : s.vm.findClass "ValueBenchLaw" = some m.cls := findClass_of_methodNamed B.named
  have hlocks := B.notSynchronized
  subst hsz
  have hD := hD0.self (sz := s.heap.size)
  generalize hAe : va_A [(a0, .inr (0, [v14, v15, v16, v17, v18, v19, v20, v21]))] s.heap.size = A at hD hZ ⊢
  have hA : ∀ q : Nat, s.heap.size ≤ q → A q := fun q h => by rw [← hAe]; exact Or.inr h
  have hS : va_S A s.heap s.heap [] := va_S.rf
  have hP : va_P D xcl [(a0, .inr (0, [v14, v15, v16, v17, v18, v19, v20, v21]))] s.heap := hP
  have hl := lv_entry ([.ref a0, .int x1, .int x6, .int x10]) (n := 5) (Nat.le_of_ble_eq_true rfl)
  rw [lg_entry_eq]
  generalize (lg_sl ([.ref a0, .int x1, .int x6, .int x10]) ++ List.replicate (5 - (lg_sl ([.ref a0, .int x1, .int x6, .int x10])).length) Slot.unset).toArray = ls at hl ⊢
  have hl : lv_has ls 5 [(0, .ref a0), (1, .int x1), (2, .int x6), (3, .int x10)] := hl
  have htab := vx_table (x := yL_one) B (hts _ List.mem_cons_self)
  refine lv_aload_n hx hb dL_one_0 rfl (lv_at hl 0 rfl) ?_
  refine lv_iload_n hx hb dL_one_1 rfl (lv_at hl 1 rfl) ?_
  refine lv_iload_n hx hb dL_one_2 rfl (lv_at hl 2 rfl) ?_
  refine lv_iload_n hx hb dL_one_3 rfl (lv_at hl 3 rfl) ?_
  obtain ⟨hPc, hDc, hFc⟩ := xcut (wc := []) hP hD hS hA [] rfl rfl (by decide)
  refine xx_thr (vx_runV (C := "ValueBench") (As := [.int x1, .int x6, .int x10]) (rest := []) ⟨hx, hb, hml, hown, htx⟩ (cB_one_5 l hl9 D cT aK aV s.heap.size a0 x1 x6 x10 h2 h3 h4 h5 h7 h8 h9 h11 h12 h13) ⟨callB_of 3 htx (xw_goodC kw_4_25) rfl rfl rfl (htx _ kw_1_1) (htx _ kw_4_22) ⟨by decide, by decide, by decide +kernel⟩ ⟨Nat.le_of_ble_eq_true rfl, Nat.le_of_ble_eq_true rfl⟩, (htx _ kw_4_23), (htx _ kw_4_24)⟩ ⟨xPre_blind, va_recv hK hP (ci := 0) rfl (q0 := 0) rfl, (fun U hU hW => ⟨rfl, xPre_of hZ hS hFc hPc hDc hK U hU hW⟩)⟩ rfl rfl hl.1 rfl (lv_room (Nat.le_of_ble_eq_true rfl)) dL_one_4 ⟨Nat.le_of_ble_eq_true rfl, Nat.le_of_ble_eq_true rfl⟩) hS hFc (fun q _ h => hFc q h) (fun E ce q9 u9 t H1 locs ht hvm _ hB hz1 hk1 hS hce hcv hcl => ?_)
  obtain ⟨rfl, hP1, hK1, hD1⟩ := hB
  rw [ht] at hP1
  obtain ⟨hP, hD⟩ := xjoin (W := [(a0, .inr (0, [v14, v15, v16, v17, v18, v19, v20, v21]))]) hP hD [] [0] 1 rfl rfl (by decide) (by decide) hk1 hFc hP1 hD1
  generalize H1 = H at hP hS hce ⊢
  refine vx_catch (own := "ValueBenchLaw") (name := "java/lang/IllegalArgumentException") (E := "java/lang/IllegalArgumentException") hown [] ⟨0, 7, 10, 19⟩ [⟨0, 7, 14, 33⟩, ⟨0, 7, 18, 13⟩] (by rw [htab]; rfl) (fun z hz => nomatch hz) (by decide) (by decide) (htx _ kw_1_211) ((hZ.2.2.2.2.2.1 "java/lang/IllegalArgumentException" (List.mem_of_getElem? (i := 1) rfl)).use rfl) hce hcv hcl ?_
  refine lv_astore (lv' := [(4, .ref q9), (0, .ref a0), (1, .int x1), (2, .int x6), (3, .int x10)]) hx hb dL_one_10 hl (by decide) rfl (fun ls hl => ?_)
  refine lv_iconst (v := 1) hx hb dL_one_12 (by decide) ?_
  obtain ⟨hP9, hD9⟩ := xsub (wc := [(a0, .inr (0, [v14, v15, v16, v17, v18, v19, v20, v21]))]) hP hD [0] rfl rfl (by decide)
  refine W.widen (k := 1) (n := 6) (Nat.le_of_ble_eq_true rfl) (Nat.le_of_ble_eq_true rfl) ?_
  exact W.iret (v := 1) hx hb hr (fun t ht hW => ⟨⟨1, (), rfl, rfl, by rw [ht]; exact hP9, va_K.moved hW.alike hK, hD9⟩, hS.F ht⟩) hS.2.2 dL_one_13
set_option maxHeartbeats 400000000 in
set_option maxRecDepth 100000 in
theorem cM_one0_5 (l : Launch) (hl9 : l.stackTraces = false) (D : va_G) (cT : Nat → ClassId) (aK aV : Nat → Nat) (sz : Nat) (a0 : Nat) (x1 : Int32) (x6 : Int32) (x10 : Int32) (v14 : Value) (v15 : Value) (v16 : Value) (v17 : Value) (v18 : Value) (v19 : Value) (v20 : Value) (v21 : Value) (v22 : Value) (v23 : Value) (v24 : Value) (v25 : Value) (v26 : Value) (v27 : Value) (v28 : Value) (v29 : Value) (v30 : Value) (v31 : Value) (v32 : Value) (v33 : Value) (v34 : Value) (v35 : Value) (v36 : Value) (v37 : Value) (v38 : Value) (v39 : Value) (v40 : Value) (v41 : Value) (v42 : Value) (v43 : Value) (v44 : Value) (v45 : Value) (h2 : ¬ x1 < 0) (h3 : ¬ 7 < x1) (h4 : x1 ≤ 7) (h5 : vp_in x1 8) (h7 : ¬ x6 < 0) (h8 : ¬ 13 < x6) (h9 : x6 ≤ 13) (h11 : ¬ x10 < 0) (h12 : 7 < x10) (h13 : ¬ x10 ≤ 7) : xMet l yM_one0 wyM_one0 2 0 0 40 D cT aK aV sz [.ref a0, .int x1, .int x6, .int x10] [(a0, .inr (5, [v14, v15, v16, v17, v18, v19, v20, v21, v22, v23, v24, v25, v26, v27, v28, v29, v30, v31, v32, v33, v34, v35, v36, v37, v38, v39, v40, v41, v42, v43, v44, v45]))] (fun A => va_Qv (fun _ : Unit => True) (fun _ t => xB D xcl cT A [(a0, .inr (5, [.int 1, v15, .int 0, v17, .int 0, v19, v20, .int 0, v22, .int 0, v24, v25, .int 0, v27, v28, v29, v30, v31, v32, v33, v34, v35, .int 0, .int 1000000000, v38, v39, v40, v41, v42, v43, v44, v45]))] t) A) := by
  refine Met.ofW (cc := prog_13_method_92_code) (maxL := 4) (ret := none) (by decide) rfl ?_
  intro p e s m args below meth c s₁ B hml hv
  obtain ⟨rfl, hsz, hZ, hP, hK, hD0⟩ := hv
  have hx := B.exec
  have hb := B.bytes
  have hr := B.returns
  have hts := atoms_spec (ws := wyM_one0) B.pre
  have htx := fun w h => hts w (List.mem_cons_of_mem _ h)
  have hown : s.vm.findClass "ValueBenchModel" = some m.cls := findClass_of_methodNamed B.named
  have hlocks := B.notSynchronized
  subst hsz
  have hD := hD0.self (sz := s.heap.size)
  generalize hAe : va_A [(a0, .inr (5, [v14, v15, v16, v17, v18, v19, v20, v21, v22, v23, v24, v25, v26, v27, v28, v29, v30, v31, v32, v33, v34, v35, v36, v37, v38, v39, v40, v41, v42, v43, v44, v45]))] s.heap.size = A at hD hZ ⊢
  have hA : ∀ q : Nat, s.heap.size ≤ q → A q := fun q h => by rw [← hAe]; exact Or.inr h
  have hS : va_S A s.heap s.heap [] := va_S.rf
  have hP : va_P D xcl [(a0, .inr (5, [v14, v15, v16, v17, v18, v19, v20, v21, v22, v23, v24, v25, v26, v27, v28, v29, v30, v31, v32, v33, v34, v35, v36, v37, v38, v39, v40, v41, v42, v43, v44, v45]))] s.heap := hP
  have hl := lv_entry ([.ref a0, .int x1, .int x6, .int x10]) (n := 4) (Nat.le_of_ble_eq_true rfl)
  rw [lg_entry_eq]
  generalize (lg_sl ([.ref a0, .int x1, .int x6, .int x10]) ++ List.replicate (4 - (lg_sl ([.ref a0, .int x1, .int x6, .int x10])).length) Slot.unset).toArray = ls at hl ⊢
  have hl : lv_has ls 4 [(0, .ref a0), (1, .int x1), (2, .int x6), (3, .int x10)] := hl
  refine lv_aload_n hx hb dM_one0_0 rfl (lv_at hl 0 rfl) ?_
  obtain ⟨hPc, hDc, hFc⟩ := xcut (wc := [(a0, .inr (5, [v14, v15, v16, v17, v18, v19, v20, v21, v22, v23, v24, v25, v26, v27, v28, v29, v30, v31, v32, v33, v34, v35, v36, v37, v38, v39, v40, v41, v42, v43, v44, v45]))]) hP hD hS hA [0] rfl rfl (by decide)
  refine va_callv (va_runV (C := "ValueBenchModel") (As := []) (rest := []) ⟨hx, hb, hml, hown, htx⟩ (cM_begin_0 l hl9 D cT aK aV s.heap.size a0 v14 v15 v16 v17 v18 v19 v20 v21 v22 v23 v24 v25 v26 v27 v28 v29 v30 v31 v32 v33 v34 v35 v36 v37 v38 v39 v40 v41 v42 v43 v44 v45) ⟨callB_of 0 htx (xw_goodC kw_5_209) rfl rfl rfl (htx _ kw_1_5) (htx _ kw_5_206) ⟨by decide, by decide, by decide +kernel⟩ ⟨Nat.le_of_ble_eq_true rfl, Nat.le_of_ble_eq_true rfl⟩, (htx _ kw_5_208), (htx _ kp_M_begin)⟩ ⟨xPre_blind, va_recv hK hP (ci := 5) rfl (q0 := 0) rfl, (fun U hU hW => ⟨rfl, xPre_of hZ hS hFc hPc hDc hK U hU hW⟩)⟩ rfl rfl hl.1 rfl (lv_room (Nat.le_of_ble_eq_true rfl)) dM_one0_1 ⟨Nat.le_of_ble_eq_true rfl, Nat.le_of_ble_eq_true rfl⟩) hS (fun q _ h => hFc q h) hFc (fun u9 t H1 locs ht hvm hr9 hB hz1 hk1 hS => ?_)
  obtain ⟨hP1, hK1, hD1⟩ := hB
  rw [ht] at hP1
  obtain ⟨hP, hD⟩ := xjoin (W := [(a0, .inr (5, [.int 0, v15, .int 0, v17, .int 0, v19, v20, .int 0, v22, .int 0, v24, v25, .int 0, v27, v28, v29, v30, v31, v32, v33, v34, v35, .int 0, .int 1000000000, v38, v39, v40, v41, v42, v43, v44, v45]))]) hP hD [0] [] 0 rfl rfl (by decide) (by decide) hk1 hFc hP1 hD1
  generalize H1 = H at hP hS ⊢
  refine lv_aload_n hx hb dM_one0_4 rfl (lv_at hl 0 rfl) ?_
  refine lv_iload_n hx hb dM_one0_5 rfl (lv_at hl 1 rfl) ?_
  obtain ⟨hPc, hDc, hFc⟩ := xcut (wc := []) hP hD hS hA [] rfl rfl (by decide)
  refine va_calli (va_runV (C := "ValueBenchModel") (As := [.int x1]) (rest := []) ⟨hx, hb, hml, hown, htx⟩ (cM_out_2 l hl9 D cT aK aV H.size a0 x1 h2 h3 h4 h5) ⟨callB_of 1 htx (xw_goodC kw_5_217) rfl rfl rfl (htx _ kw_1_5) (htx _ kw_5_214) ⟨by decide, by decide, by decide +kernel⟩ ⟨Nat.le_of_ble_eq_true rfl, Nat.le_of_ble_eq_true rfl⟩, (htx _ kw_5_216), (htx _ kp_M_out)⟩ ⟨xPre_blind, va_recv hK hP (ci := 5) rfl (q0 := 0) rfl, (fun U hU hW => ⟨rfl, xPre_of hZ hS hFc hPc hDc hK U hU hW⟩)⟩ rfl rfl hl.1 rfl (lv_room (Nat.le_of_ble_eq_true rfl)) dM_one0_6 ⟨Nat.le_of_ble_eq_true rfl, Nat.le_of_ble_eq_true rfl⟩) hS (fun q _ h => hFc q h) hFc (fun r1 u9 t H1 locs ht hvm hr9 hB hz1 hk1 hS => ?_)
  obtain ⟨hP1, hK1, hD1⟩ := hB
  rw [ht] at hP1
  obtain ⟨hP, hD⟩ := xjoin (W := [(a0, .inr (5, [.int 0, v15, .int 0, v17, .int 0, v19, v20, .int 0, v22, .int 0, v24, v25, .int 0, v27, v28, v29, v30, v31, v32, v33, v34, v35, .int 0, .int 1000000000, v38, v39, v40, v41, v42, v43, v44, v45]))]) hP hD [] [0] 1 rfl rfl (by decide) (by decide) hk1 hFc hP1 hD1
  generalize H1 = H at hP hS ⊢
  rw [hr9]
  refine W.eq (g2 := F0 m 9 ls [.int 0]) rfl ?_
  refine lv_if_ne (tgt := 30) hx hb dM_one0_9 (by decide) (fun h => ((by revert h; decide : False)).elim) (fun _ => ?_)
  refine lv_iload_n hx hb dM_one0_12 rfl (lv_at hl 2 rfl) ?_
  refine lv_if_lt (tgt := 30) hx hb dM_one0_13 (by decide) (fun h => by first | exact absurd h h7 | exact absurd h h8 | exact absurd h h9 | exact absurd h7 h | exact absurd h8 h | exact absurd h9 h) (fun _ => ?_)
  refine lv_iload_n hx hb dM_one0_16 rfl (lv_at hl 2 rfl) ?_
  refine lv_bipush (v := 13) hx hb dM_one0_17 (by decide) ?_
  refine lv_icmp_gt (tgt := 30) hx hb dM_one0_19 (by decide) (fun h => by first | exact absurd h h7 | exact absurd h h8 | exact absurd h h9 | exact absurd h7 h | exact absurd h8 h | exact absurd h9 h) (fun _ => ?_)
  refine lv_aload_n hx hb dM_one0_22 rfl (lv_at hl 0 rfl) ?_
  refine lv_iload_n hx hb dM_one0_23 rfl (lv_at hl 3 rfl) ?_
  obtain ⟨hPc, hDc, hFc⟩ := xcut (wc := []) hP hD hS hA [] rfl rfl (by decide)
  refine va_calli (va_runV (C := "ValueBenchModel") (As := [.int x10]) (rest := []) ⟨hx, hb, hml, hown, htx⟩ (cM_out_1 l hl9 D cT aK aV H.size a0 x10 h11 h12 h13) ⟨callB_of 1 htx (xw_goodC kw_5_217) rfl rfl rfl (htx _ kw_1_5) (htx _ kw_5_214) ⟨by decide, by decide, by decide +kernel⟩ ⟨Nat.le_of_ble_eq_true rfl, Nat.le_of_ble_eq_true rfl⟩, (htx _ kw_5_216), (htx _ kp_M_out)⟩ ⟨xPre_blind, va_recv hK hP (ci := 5) rfl (q0 := 0) rfl, (fun U hU hW => ⟨rfl, xPre_of hZ hS hFc hPc hDc hK U hU hW⟩)⟩ rfl rfl hl.1 rfl (lv_room (Nat.le_of_ble_eq_true rfl)) dM_one0_24 ⟨Nat.le_of_ble_eq_true rfl, Nat.le_of_ble_eq_true rfl⟩) hS (fun q _ h => hFc q h) hFc (fun r2 u9 t H1 locs ht hvm hr9 hB hz1 hk1 hS => ?_)
  obtain ⟨hP1, hK1, hD1⟩ := hB
  rw [ht] at hP1
  obtain ⟨hP, hD⟩ := xjoin (W := [(a0, .inr (5, [.int 0, v15, .int 0, v17, .int 0, v19, v20, .int 0, v22, .int 0, v24, v25, .int 0, v27, v28, v29, v30, v31, v32, v33, v34, v35, .int 0, .int 1000000000, v38, v39, v40, v41, v42, v43, v44, v45]))]) hP hD [] [0] 1 rfl rfl (by decide) (by decide) hk1 hFc hP1 hD1
  generalize H1 = H at hP hS ⊢
  rw [hr9]
  refine W.eq (g2 := F0 m 27 ls [.int 1]) rfl ?_
  refine lv_if_eq (tgt := 38) hx hb dM_one0_27 (by decide) (fun h => ((by revert h; decide : False)).elim) (fun _ => ?_)
  refine lv_aload_n hx hb dM_one0_30 rfl (lv_at hl 0 rfl) ?_
  refine lv_iconst (v := 1) hx hb dM_one0_31 (by decide) ?_
  refine va_put (D := D) (ci := 5) (v := .int 1) (ty := .int) (C := "ValueBenchModel") (T := TM) (N := 32) hx hb htx inM tyM tyM_ok nmM hown hK hP hD hS 0 rfl rfl 0 (by decide) (htx _ kw_5_87) (fun _ h9 => h9) rfl (by decide +kernel) rfl rfl (Nat.le_of_ble_eq_true rfl) dM_one0_32 (fun H locs hP hD hS => ?_)
  obtain ⟨hP, hD⟩ : xPD D xcl A [(a0, .inr (5, [.int 1, v15, .int 0, v17, .int 0, v19, v20, .int 0, v22, .int 0, v24, v25, .int 0, v27, v28, v29, v30, v31, v32, v33, v34, v35, .int 0, .int 1000000000, v38, v39, v40, v41, v42, v43, v44, v45]))] H := ⟨hP, hD⟩
  refine lv_goto (tgt := 47) hx hb dM_one0_35 (by decide) ?_
  obtain ⟨hP9, hD9⟩ := xsub (wc := [(a0, .inr (5, [.int 1, v15, .int 0, v17, .int 0, v19, v20, .int 0, v22, .int 0, v24, v25, .int 0, v27, v28, v29, v30, v31, v32, v33, v34, v35, .int 0, .int 1000000000, v38, v39, v40, v41, v42, v43, v44, v45]))]) hP hD [0] rfl rfl (by decide)
  refine W.widen (k := 0) (n := 0) (Nat.le_of_ble_eq_true rfl) (Nat.le_of_ble_eq_true rfl) ?_
  exact W.vret hx hb hr (fun t ht hW => ⟨⟨(), rfl, trivial, by rw [ht]; exact hP9, va_K.moved hW.alike hK, hD9⟩, hS.F ht⟩) hS.2.2 dM_one0_47
set_option maxHeartbeats 400000000 in
set_option maxRecDepth 100000 in
theorem cB_isWithin_14 (l : Launch) (hl9 : l.stackTraces = false) (D : va_G) (cT : Nat → ClassId) (aK aV : Nat → Nat) (sz : Nat) : xMet l yB_isWithin wyB_isWithin 0 0 0 0 D cT aK aV sz [.int 0, .int 13] [] (fun A => va_Qi (fun (r : Int32) (_ : Unit) => r = 1) (fun _ t => xB D xcl cT A [] t) A) := by
  refine Met.ofW (cc := prog_1_method_15_code) (maxL := 2) (ret := (some .boolean)) (by decide) rfl ?_
  intro p e s m args below meth c s₁ B hml hv
  obtain ⟨rfl, hsz, hZ, hP, hK, hD0⟩ := hv
  have hx := B.exec
  have hb := B.bytes
  have hr := B.returns
  have hts := atoms_spec (ws := wyB_isWithin) B.pre
  have htx := fun w h => hts w (List.mem_cons_of_mem _ h)
  have hown : s.vm.findClass "ValueBench" = some m.cls := findClass_of_methodNamed B.named
  have hlocks := B.notSynchronized
  subst hsz
  have hD := hD0.self (sz := s.heap.size)
  generalize hAe : va_A [] s.heap.size = A at hD hZ ⊢
  have hA : ∀ q : Nat, s.heap.size ≤ q → A q := fun q h => by rw [← hAe]; exact Or.inr h
  have hS : va_S A s.heap s.heap [] := va_S.rf
  have hP : va_P D xcl [] s.heap := hP
  have hl := lv_entry ([.int 0, .int 13]) (n := 2) (Nat.le_of_ble_eq_true rfl)
  rw [lg_entry_eq]
  generalize (lg_sl ([.int 0, .int 13]) ++ List.replicate (2 - (lg_sl ([.int 0, .int 13])).length) Slot.unset).toArray = ls at hl ⊢
  have hl : lv_has ls 2 [(0, .int 0), (1, .int 13)] := hl
  refine lv_iload_n hx hb dB_isWithin_0 rfl (lv_at hl 0 rfl) ?_
  refine lv_if_lt (tgt := 13) hx hb dB_isWithin_1 (by decide) (fun h => ((by revert h; decide : False)).elim) (fun _ => ?_)
  refine lv_iload_n hx hb dB_isWithin_4 rfl (lv_at hl 0 rfl) ?_
  refine lv_iload_n hx hb dB_isWithin_5 rfl (lv_at hl 1 rfl) ?_
  refine lv_icmp_gt (tgt := 13) hx hb dB_isWithin_6 (by decide) (fun h => ((by revert h; decide : False)).elim) (fun _ => ?_)
  refine lv_iconst (v := 1) hx hb dB_isWithin_9 (by decide) ?_
  refine lv_goto (tgt := 14) hx hb dB_isWithin_10 (by decide) ?_
  obtain ⟨hP9, hD9⟩ := xsub (wc := []) hP hD [] rfl rfl (by decide)
  refine W.widen (k := 0) (n := 0) (Nat.le_of_ble_eq_true rfl) (Nat.le_of_ble_eq_true rfl) ?_
  exact W.zret (v := 1) hx hb hr rfl (fun t ht hW => ⟨⟨1, (), rfl, rfl, by rw [ht]; exact hP9, va_K.moved hW.alike hK, hD9⟩, hS.F ht⟩) hS.2.2 dB_isWithin_14
set_option maxHeartbeats 400000000 in
set_option maxRecDepth 100000 in
theorem cR_put_0 (l : Launch) (hl9 : l.stackTraces = false) (D : va_G) (cT : Nat → ClassId) (aK aV : Nat → Nat) (sz : Nat) (a0 : Nat) (a1 : Nat) (f2 : Nat → Int64) : xMet l yR_put wyR_put 0 0 0 0 D cT aK aV sz [.ref a0, .long 2] [(a0, .inr (2, [.ref a1, .int 0, .int 0])), (a1, .inl (cT 2, 4096, .inr (.inl f2)))] (fun A => va_Qv (fun _ : Unit => True) (fun _ t => xB D xcl cT A [(a0, .inr (2, [.ref a1, .int 1, .int 0])), (a1, .inl (cT 2, 4096, .inr (.inl (vp_updL f2 0 2))))] t) A) := by
  refine Met.ofW (cc := prog_8_method_16_code) (maxL := 3) (ret := none) (by decide) rfl ?_
  intro p e s m args below meth c s₁ B hml hv
  obtain ⟨rfl, hsz, hZ, hP, hK, hD0⟩ := hv
  have hx := B.exec
  have hb := B.bytes
  have hr := B.returns
  have hts := atoms_spec (ws := wyR_put) B.pre
  have htx := fun w h => hts w (List.mem_cons_of_mem _ h)
  have hown : s.vm.findClass "ValueBench$Row" = some m.cls := findClass_of_methodNamed B.named
  have hlocks := B.notSynchronized
  subst hsz
  have hD := hD0.self (sz := s.heap.size)
  generalize hAe : va_A [(a0, .inr (2, [.ref a1, .int 0, .int 0])), (a1, .inl (cT 2, 4096, .inr (.inl f2)))] s.heap.size = A at hD hZ ⊢
  have hA : ∀ q : Nat, s.heap.size ≤ q → A q := fun q h => by rw [← hAe]; exact Or.inr h
  have hS : va_S A s.heap s.heap [] := va_S.rf
  have hP : va_P D xcl [(a0, .inr (2, [.ref a1, .int 0, .int 0])), (a1, .inl (cT 2, 4096, .inr (.inl f2)))] s.heap := hP
  have hl := lv_entry ([.ref a0, .long 2]) (n := 3) (Nat.le_of_ble_eq_true rfl)
  rw [lg_entry_eq]
  generalize (lg_sl ([.ref a0, .long 2]) ++ List.replicate (3 - (lg_sl ([.ref a0, .long 2])).length) Slot.unset).toArray = ls at hl ⊢
  have hl : lv_has ls 3 [(0, .ref a0), (1, .long 2)] := hl
  refine lv_aload_n hx hb dR_put_0 rfl (lv_at hl 0 rfl) ?_
  refine va_get (D := D) (ci := 2) (v := .int 0) (C := "ValueBench$Row") (T := TR) (N := 3) hx hb htx inR hown hK hP 0 rfl rfl 2 (by decide) (htx _ kw_1_86) (fun _ h9 => h9) rfl dR_put_1 ?_
  refine lv_if_ne (tgt := 17) hx hb dR_put_4 (by decide) (fun h => ((by revert h; decide : False)).elim) (fun _ => ?_)
  refine lv_aload_n hx hb dR_put_7 rfl (lv_at hl 0 rfl) ?_
  refine va_get (D := D) (ci := 2) (v := .int 0) (C := "ValueBench$Row") (T := TR) (N := 3) hx hb htx inR hown hK hP 0 rfl rfl 1 (by decide) (htx _ kw_1_85) (fun _ h9 => h9) rfl dR_put_8 ?_
  refine lv_sipush (v := 4096) hx hb dR_put_11 (by decide) ?_
  refine lv_icmp_lt (tgt := 23) hx hb dR_put_14 (by decide) (fun _ => ?_) (fun h => ((by revert h; decide : False)).elim)
  refine lv_aload_n hx hb dR_put_23 rfl (lv_at hl 0 rfl) ?_
  refine va_get (D := D) (ci := 2) (v := .ref a1) (C := "ValueBench$Row") (T := TR) (N := 3) hx hb htx inR hown hK hP 0 rfl rfl 0 (by decide) (htx _ kw_1_84) (fun _ h9 => h9) rfl dR_put_24 ?_
  refine lv_aload_n hx hb dR_put_27 rfl (lv_at hl 0 rfl) ?_
  refine va_get (D := D) (ci := 2) (v := .int 0) (C := "ValueBench$Row") (T := TR) (N := 3) hx hb htx inR hown hK hP 0 rfl rfl 1 (by decide) (htx _ kw_1_85) (fun _ h9 => h9) rfl dR_put_28 ?_
  refine lv_lload_n hx hb dR_put_31 rfl (lv_at hl 1 rfl) ?_
  refine va_last hx hb hK hP hD hS 1 2 rfl rfl (show ¬ ((0 : Int32) < 0 ∨ 4096 ≤ (0 : Int32).toNatClampNeg) by decide) dR_put_32 (fun H locs hP hD hS => ?_)
  obtain ⟨hP, hD⟩ : xPD D xcl A [(a0, .inr (2, [.ref a1, .int 0, .int 0])), (a1, .inl (cT 2, 4096, .inr (.inl (vp_updL f2 0 2))))] H := ⟨hP, hD⟩
  refine lv_aload_n hx hb dR_put_33 rfl (lv_at hl 0 rfl) ?_
  refine lv_dup hx hb dR_put_34 rfl ?_
  refine va_get (D := D) (ci := 2) (v := .int 0) (C := "ValueBench$Row") (T := TR) (N := 3) hx hb htx inR hown hK hP 0 rfl rfl 1 (by decide) (htx _ kw_1_85) (fun _ h9 => h9) rfl dR_put_35 ?_
  refine lv_iconst (v := 1) hx hb dR_put_38 (by decide) ?_
  refine lv_iadd hx hb dR_put_39 ?_
  refine W.eq (g2 := F0 m 40 ls [.int 1, .ref a0]) rfl ?_
  refine va_put (D := D) (ci := 2) (v := .int 1) (ty := .int) (C := "ValueBench$Row") (T := TR) (N := 3) hx hb htx inR tyR tyR_ok nmR hown hK hP hD hS 0 rfl rfl 1 (by decide) (htx _ kw_1_85) (fun _ h9 => h9) rfl (by decide +kernel) rfl rfl (Nat.le_of_ble_eq_true rfl) dR_put_40 (fun H locs hP hD hS => ?_)
  obtain ⟨hP, hD⟩ : xPD D xcl A [(a0, .inr (2, [.ref a1, .int 1, .int 0])), (a1, .inl (cT 2, 4096, .inr (.inl (vp_updL f2 0 2))))] H := ⟨hP, hD⟩
  obtain ⟨hP9, hD9⟩ := xsub (wc := [(a0, .inr (2, [.ref a1, .int 1, .int 0])), (a1, .inl (cT 2, 4096, .inr (.inl (vp_updL f2 0 2))))]) hP hD [0, 1] rfl rfl (by decide)
  refine W.widen (k := 0) (n := 0) (Nat.le_of_ble_eq_true rfl) (Nat.le_of_ble_eq_true rfl) ?_
  exact W.vret hx hb hr (fun t ht hW => ⟨⟨(), rfl, trivial, by rw [ht]; exact hP9, va_K.moved hW.alike hK, hD9⟩, hS.F ht⟩) hS.2.2 dR_put_43
set_option maxHeartbeats 400000000 in
set_option maxRecDepth 100000 in
theorem cR_putTruth_0 (l : Launch) (hl9 : l.stackTraces = false) (D : va_G) (cT : Nat → ClassId) (aK aV : Nat → Nat) (sz : Nat) (a0 : Nat) (a1 : Nat) (f2 : Nat → Int64) : xMet l yR_putTruth wyR_putTruth 1 0 0 22 D cT aK aV sz [.ref a0, .int 1] [(a0, .inr (2, [.ref a1, .int 0, .int 0])), (a1, .inl (cT 2, 4096, .inr (.inl f2)))] (fun A => va_Qv (fun _ : Unit => True) (fun _ t => xB D xcl cT A [(a0, .inr (2, [.ref a1, .int 1, .int 0])), (a1, .inl (cT 2, 4096, .inr (.inl (vp_updL f2 0 2))))] t) A) := by
  refine Met.ofW (cc := prog_8_method_18_code) (maxL := 2) (ret := none) (by decide) rfl ?_
  intro p e s m args below meth c s₁ B hml hv
  obtain ⟨rfl, hsz, hZ, hP, hK, hD0⟩ := hv
  have hx := B.exec
  have hb := B.bytes
  have hr := B.returns
  have hts := atoms_spec (ws := wyR_putTruth) B.pre
  have htx := fun w h => hts w (List.mem_cons_of_mem _ h)
  have hown : s.vm.findClass "ValueBench$Row" = some m.cls := findClass_of_methodNamed B.named
  have hlocks := B.notSynchronized
  subst hsz
  have hD := hD0.self (sz := s.heap.size)
  generalize hAe : va_A [(a0, .inr (2, [.ref a1, .int 0, .int 0])), (a1, .inl (cT 2, 4096, .inr (.inl f2)))] s.heap.size = A at hD hZ ⊢
  have hA : ∀ q : Nat, s.heap.size ≤ q → A q := fun q h => by rw [← hAe]; exact Or.inr h
  have hS : va_S A s.heap s.heap [] := va_S.rf
  have hP : va_P D xcl [(a0, .inr (2, [.ref a1, .int 0, .int 0])), (a1, .inl (cT 2, 4096, .inr (.inl f2)))] s.heap := hP
  have hl := lv_entry ([.ref a0, .int 1]) (n := 2) (Nat.le_of_ble_eq_true rfl)
  rw [lg_entry_eq]
  generalize (lg_sl ([.ref a0, .int 1]) ++ List.replicate (2 - (lg_sl ([.ref a0, .int 1])).length) Slot.unset).toArray = ls at hl ⊢
  have hl : lv_has ls 2 [(0, .ref a0), (1, .int 1)] := hl
  refine lv_aload_n hx hb dR_putTruth_0 rfl (lv_at hl 0 rfl) ?_
  refine lv_iload_n hx hb dR_putTruth_1 rfl (lv_at hl 1 rfl) ?_
  refine lv_if_eq (tgt := 11) hx hb dR_putTruth_2 (by decide) (fun h => ((by revert h; decide : False)).elim) (fun _ => ?_)
  refine lv_ldc2 hx hb hown (htx _ kw_4_34) dR_putTruth_5 ?_
  refine lv_goto (tgt := 12) hx hb dR_putTruth_8 (by decide) ?_
  obtain ⟨hPc, hDc, hFc⟩ := xcut (wc := [(a0, .inr (2, [.ref a1, .int 0, .int 0])), (a1, .inl (cT 2, 4096, .inr (.inl f2)))]) hP hD hS hA [0, 1] rfl rfl (by decide)
  refine va_callv (va_runV (C := "ValueBench$Row") (As := [.long 2]) (rest := []) ⟨hx, hb, hml, hown, htx⟩ (cR_put_0 l hl9 D cT aK aV s.heap.size a0 a1 f2) ⟨callB_of 1 htx (xw_goodC kw_2_126) rfl rfl rfl (htx _ kw_1_4) (htx _ kw_2_137) ⟨by decide, by decide, by decide +kernel⟩ ⟨Nat.le_of_ble_eq_true rfl, Nat.le_of_ble_eq_true rfl⟩, (htx _ kw_2_124), (htx _ kw_2_125)⟩ ⟨xPre_blind, va_recv hK hP (ci := 2) rfl (q0 := 0) rfl, (fun U hU hW => ⟨rfl, xPre_of hZ hS hFc hPc hDc hK U hU hW⟩)⟩ rfl rfl hl.1 rfl (lv_room (Nat.le_of_ble_eq_true rfl)) dR_putTruth_12 ⟨Nat.le_of_ble_eq_true rfl, Nat.le_of_ble_eq_true rfl⟩) hS (fun q _ h => hFc q h) hFc (fun u9 t H1 locs ht hvm hr9 hB hz1 hk1 hS => ?_)
  obtain ⟨hP1, hK1, hD1⟩ := hB
  rw [ht] at hP1
  obtain ⟨hP, hD⟩ := xjoin (W := [(a0, .inr (2, [.ref a1, .int 1, .int 0])), (a1, .inl (cT 2, 4096, .inr (.inl (vp_updL f2 0 2))))]) hP hD [0, 1] [] 0 rfl rfl (by decide) (by decide) hk1 hFc hP1 hD1
  generalize H1 = H at hP hS ⊢
  obtain ⟨hP9, hD9⟩ := xsub (wc := [(a0, .inr (2, [.ref a1, .int 1, .int 0])), (a1, .inl (cT 2, 4096, .inr (.inl (vp_updL f2 0 2))))]) hP hD [0, 1] rfl rfl (by decide)
  refine W.widen (k := 0) (n := 0) (Nat.le_of_ble_eq_true rfl) (Nat.le_of_ble_eq_true rfl) ?_
  exact W.vret hx hb hr (fun t ht hW => ⟨⟨(), rfl, trivial, by rw [ht]; exact hP9, va_K.moved hW.alike hK, hD9⟩, hS.F ht⟩) hS.2.2 dR_putTruth_15
set_option maxHeartbeats 400000000 in
set_option maxRecDepth 100000 in
theorem cG_apply_0 (l : Launch) (hl9 : l.stackTraces = false) (D : va_G) (cT : Nat → ClassId) (aK aV : Nat → Nat) (sz : Nat) (a0 : Nat) (a1 : Nat) (a2 : Nat) (a3 : Nat) (b4 : Nat) (b5 : Nat) (v6 : Value) (f7 : Nat → Int64) (f9 : Nat → Int64) (h8 : f7 0 = 0) : xMet l yG_apply wyG_apply 2 0 0 43 D cT aK aV sz [.int 0, .ref a0, .ref b4, .ref b5, .ref a2] [(a0, .inr (2, [.ref a1, .int 1, v6])), (a1, .inl (cT 2, 4096, .inr (.inl f7))), (a2, .inr (2, [.ref a3, .int 0, .int 0])), (a3, .inl (cT 2, 4096, .inr (.inl f9)))] (fun A => va_Qi (fun (r : Int32) (_ : Unit) => r = 0) (fun _ t => xB D xcl cT A [(a0, .inr (2, [.ref a1, .int 1, v6])), (a1, .inl (cT 2, 4096, .inr (.inl f7))), (a2, .inr (2, [.ref a3, .int 1, .int 0])), (a3, .inl (cT 2, 4096, .inr (.inl (vp_updL f9 0 2))))] t) A) := by
  refine Met.ofW (cc := prog_9_method_2_code) (maxL := 5) (ret := (some .int)) (by decide) rfl ?_
  intro p e s m args below meth c s₁ B hml hv
  obtain ⟨rfl, hsz, hZ, hP, hK, hD0⟩ := hv
  have hx := B.exec
  have hb := B.bytes
  have hr := B.returns
  have hts := atoms_spec (ws := wyG_apply) B.pre
  have htx := fun w h => hts w (List.mem_cons_of_mem _ h)
  have hown : s.vm.findClass "ValueBench$Singles" = some m.cls := findClass_of_methodNamed B.named
  have hlocks := B.notSynchronized
  subst hsz
  have hD := hD0.self (sz := s.heap.size)
  generalize hAe : va_A [(a0, .inr (2, [.ref a1, .int 1, v6])), (a1, .inl (cT 2, 4096, .inr (.inl f7))), (a2, .inr (2, [.ref a3, .int 0, .int 0])), (a3, .inl (cT 2, 4096, .inr (.inl f9)))] s.heap.size = A at hD hZ ⊢
  have hA : ∀ q : Nat, s.heap.size ≤ q → A q := fun q h => by rw [← hAe]; exact Or.inr h
  have hS : va_S A s.heap s.heap [] := va_S.rf
  have hP : va_P D xcl [(a0, .inr (2, [.ref a1, .int 1, v6])), (a1, .inl (cT 2, 4096, .inr (.inl f7))), (a2, .inr (2, [.ref a3, .int 0, .int 0])), (a3, .inl (cT 2, 4096, .inr (.inl f9)))] s.heap := hP
  have hl := lv_entry ([.int 0, .ref a0, .ref b4, .ref b5, .ref a2]) (n := 5) (Nat.le_of_ble_eq_true rfl)
  rw [lg_entry_eq]
  generalize (lg_sl ([.int 0, .ref a0, .ref b4, .ref b5, .ref a2]) ++ List.replicate (5 - (lg_sl ([.int 0, .ref a0, .ref b4, .ref b5, .ref a2])).length) Slot.unset).toArray = ls at hl ⊢
  have hl : lv_has ls 5 [(0, .int 0), (1, .ref a0), (2, .ref b4), (3, .ref b5), (4, .ref a2)] := hl
  refine lv_iload_n hx hb dG_apply_0 rfl (lv_at hl 0 rfl) ?_
  refine lv_tableIn (off := 67) (tgt := 68) hx hb dG_apply_1 (by decide) (by decide) (by decide) (by decide) ?_
  refine lv_aload hx hb dG_apply_68 (lv_at hl 4 rfl) ?_
  refine lv_aload_n hx hb dG_apply_70 rfl (lv_at hl 1 rfl) ?_
  refine lv_iconst (v := 0) hx hb dG_apply_71 (by decide) ?_
  refine lv_iconst (v := 0) hx hb dG_apply_72 (by decide) ?_
  obtain ⟨hPc, hDc, hFc⟩ := xcut (wc := [(a0, .inr (2, [.ref a1, .int 1, v6])), (a1, .inl (cT 2, 4096, .inr (.inl f7)))]) hP hD hS hA [0, 1] rfl rfl (by decide)
  refine va_calli (va_runV (C := "ValueBench$Row") (As := [.int 0, .int 0]) (rest := [.ref a2]) ⟨hx, hb, hml, hown, htx⟩ (cR_is_1 l hl9 D cT aK aV s.heap.size a0 a1 v6 f7 (by first | rfl | exact h8)) ⟨callB_of 2 htx (xw_goodC kw_3_75) rfl rfl rfl (htx _ kw_1_4) (htx _ kw_4_29) ⟨by decide, by decide, by decide +kernel⟩ ⟨Nat.le_of_ble_eq_true rfl, Nat.le_of_ble_eq_true rfl⟩, (htx _ kw_3_73), (htx _ kw_3_74)⟩ ⟨xPre_blind, va_recv hK hP (ci := 2) rfl (q0 := 0) rfl, (fun U hU hW => ⟨rfl, xPre_of hZ hS hFc hPc hDc hK U hU hW⟩)⟩ rfl rfl hl.1 rfl (lv_room (Nat.le_of_ble_eq_true rfl)) dG_apply_73 ⟨Nat.le_of_ble_eq_true rfl, Nat.le_of_ble_eq_true rfl⟩) hS (fun q _ h => hFc q h) hFc (fun r1 u9 t H1 locs ht hvm hr9 hB hz1 hk1 hS => ?_)
  obtain ⟨hP1, hK1, hD1⟩ := hB
  rw [ht] at hP1
  obtain ⟨hP, hD⟩ := xjoin (W := [(a2, .inr (2, [.ref a3, .int 0, .int 0])), (a3, .inl (cT 2, 4096, .inr (.inl f9))), (a0, .inr (2, [.ref a1, .int 1, v6])), (a1, .inl (cT 2, 4096, .inr (.inl f7)))]) hP hD [0, 1] [2, 3] 2 rfl rfl (by decide) (by decide) hk1 hFc hP1 hD1
  generalize H1 = H at hP hS ⊢
  rw [hr9]
  refine W.eq (g2 := F0 m 76 ls [.int 1, .ref a2]) rfl ?_
  refine lv_if_ne (tgt := 88) hx hb dG_apply_76 (by decide) (fun _ => ?_) (fun h => ((by revert h; decide : False)).elim)
  refine lv_iconst (v := 1) hx hb dG_apply_88 (by decide) ?_
  refine lv_goto (tgt := 93) hx hb dG_apply_89 (by decide) ?_
  obtain ⟨hPc, hDc, hFc⟩ := xcut (wc := [(a2, .inr (2, [.ref a3, .int 0, .int 0])), (a3, .inl (cT 2, 4096, .inr (.inl f9)))]) hP hD hS hA [0, 1] rfl rfl (by decide)
  refine va_callv (va_runV (C := "ValueBench$Row") (As := [.int 1]) (rest := []) ⟨hx, hb, hml, hown, htx⟩ (cR_putTruth_0 l hl9 D cT aK aV H.size a2 a3 f9) ⟨callB_of 1 htx (xw_goodC kw_4_33) rfl rfl rfl (htx _ kw_1_4) (htx _ kw_4_30) ⟨by decide, by decide, by decide +kernel⟩ ⟨Nat.le_of_ble_eq_true rfl, Nat.le_of_ble_eq_true rfl⟩, (htx _ kw_4_31), (htx _ kw_4_32)⟩ ⟨xPre_blind, va_recv hK hP (ci := 2) rfl (q0 := 0) rfl, (fun U hU hW => ⟨rfl, xPre_of hZ hS hFc hPc hDc hK U hU hW⟩)⟩ rfl rfl hl.1 rfl (lv_room (Nat.le_of_ble_eq_true rfl)) dG_apply_93 ⟨Nat.le_of_ble_eq_true rfl, Nat.le_of_ble_eq_true rfl⟩) hS (fun q _ h => hFc q h) hFc (fun u9 t H1 locs ht hvm hr9 hB hz1 hk1 hS => ?_)
  obtain ⟨hP1, hK1, hD1⟩ := hB
  rw [ht] at hP1
  obtain ⟨hP, hD⟩ := xjoin (W := [(a0, .inr (2, [.ref a1, .int 1, v6])), (a1, .inl (cT 2, 4096, .inr (.inl f7))), (a2, .inr (2, [.ref a3, .int 1, .int 0])), (a3, .inl (cT 2, 4096, .inr (.inl (vp_updL f9 0 2))))]) hP hD [0, 1] [2, 3] 2 rfl rfl (by decide) (by decide) hk1 hFc hP1 hD1
  generalize H1 = H at hP hS ⊢
  refine lv_iconst (v := 0) hx hb dG_apply_96 (by decide) ?_
  obtain ⟨hP9, hD9⟩ := xsub (wc := [(a0, .inr (2, [.ref a1, .int 1, v6])), (a1, .inl (cT 2, 4096, .inr (.inl f7))), (a2, .inr (2, [.ref a3, .int 1, .int 0])), (a3, .inl (cT 2, 4096, .inr (.inl (vp_updL f9 0 2))))]) hP hD [0, 1, 2, 3] rfl rfl (by decide)
  refine W.widen (k := 0) (n := 0) (Nat.le_of_ble_eq_true rfl) (Nat.le_of_ble_eq_true rfl) ?_
  exact W.iret (v := 0) hx hb hr (fun t ht hW => ⟨⟨0, (), rfl, rfl, by rw [ht]; exact hP9, va_K.moved hW.alike hK, hD9⟩, hS.F ht⟩) hS.2.2 dG_apply_97
set_option maxHeartbeats 400000000 in
set_option maxRecDepth 100000 in
theorem cR_kind_1 (l : Launch) (hl9 : l.stackTraces = false) (D : va_G) (cT : Nat → ClassId) (aK aV : Nat → Nat) (sz : Nat) (a0 : Nat) (a1 : Nat) (v2 : Value) (f3 : Nat → Int64) (h4 : f3 0 = 2) : xMet l yR_kind wyR_kind 0 0 0 0 D cT aK aV sz [.ref a0, .int 0] [(a0, .inr (2, [.ref a1, .int 1, v2])), (a1, .inl (cT 2, 4096, .inr (.inl f3)))] (fun A => va_Qi (fun (r : Int32) (_ : Unit) => r = 2) (fun _ t => xB D xcl cT A [(a0, .inr (2, [.ref a1, .int 1, v2])), (a1, .inl (cT 2, 4096, .inr (.inl f3)))] t) A) := by
  refine Met.ofW (cc := prog_8_method_6_code) (maxL := 2) (ret := (some .int)) (by decide) rfl ?_
  intro p e s m args below meth c s₁ B hml hv
  obtain ⟨rfl, hsz, hZ, hP, hK, hD0⟩ := hv
  have hx := B.exec
  have hb := B.bytes
  have hr := B.returns
  have hts := atoms_spec (ws := wyR_kind) B.pre
  have htx := fun w h => hts w (List.mem_cons_of_mem _ h)
  have hown : s.vm.findClass "ValueBench$Row" = some m.cls := findClass_of_methodNamed B.named
  have hlocks := B.notSynchronized
  subst hsz
  have hD := hD0.self (sz := s.heap.size)
  generalize hAe : va_A [(a0, .inr (2, [.ref a1, .int 1, v2])), (a1, .inl (cT 2, 4096, .inr (.inl f3)))] s.heap.size = A at hD hZ ⊢
  have hA : ∀ q : Nat, s.heap.size ≤ q → A q := fun q h => by rw [← hAe]; exact Or.inr h
  have hS : va_S A s.heap s.heap [] := va_S.rf
  have hP : va_P D xcl [(a0, .inr (2, [.ref a1, .int 1, v2])), (a1, .inl (cT 2, 4096, .inr (.inl f3)))] s.heap := hP
  have hl := lv_entry ([.ref a0, .int 0]) (n := 2) (Nat.le_of_ble_eq_true rfl)
  rw [lg_entry_eq]
  generalize (lg_sl ([.ref a0, .int 0]) ++ List.replicate (2 - (lg_sl ([.ref a0, .int 0])).length) Slot.unset).toArray = ls at hl ⊢
  have hl : lv_has ls 2 [(0, .ref a0), (1, .int 0)] := hl
  refine lv_iload_n hx hb dR_kind_0 rfl (lv_at hl 1 rfl) ?_
  refine lv_if_lt (tgt := 25) hx hb dR_kind_1 (by decide) (fun h => ((by revert h; decide : False)).elim) (fun _ => ?_)
  refine lv_iload_n hx hb dR_kind_4 rfl (lv_at hl 1 rfl) ?_
  refine lv_aload_n hx hb dR_kind_5 rfl (lv_at hl 0 rfl) ?_
  refine va_get (D := D) (ci := 2) (v := .int 1) (C := "ValueBench$Row") (T := TR) (N := 3) hx hb htx inR hown hK hP 0 rfl rfl 1 (by decide) (htx _ kw_1_85) (fun _ h9 => h9) rfl dR_kind_6 ?_
  refine lv_icmp_ge (tgt := 25) hx hb dR_kind_9 (by decide) (fun h => ((by revert h; decide : False)).elim) (fun _ => ?_)
  refine lv_aload_n hx hb dR_kind_12 rfl (lv_at hl 0 rfl) ?_
  refine va_get (D := D) (ci := 2) (v := .ref a1) (C := "ValueBench$Row") (T := TR) (N := 3) hx hb htx inR hown hK hP 0 rfl rfl 0 (by decide) (htx _ kw_1_84) (fun _ h9 => h9) rfl dR_kind_13 ?_
  refine lv_iload_n hx hb dR_kind_16 rfl (lv_at hl 1 rfl) ?_
  refine va_lald hx hb hK hP 1 2 rfl rfl (show ¬ ((0 : Int32) < 0 ∨ 4096 ≤ (0 : Int32).toNatClampNeg) by decide) dR_kind_17 ?_
  refine W.eq (g2 := F0 m 18 ls [.long (f3 0)]) rfl ?_
  rw [h4]
  refine W.eq (g2 := F0 m 18 ls [.long 2]) rfl ?_
  refine lv_l2i hx hb dR_kind_18 rfl ?_
  refine W.eq (g2 := F0 m 19 ls [.int 2]) rfl ?_
  refine lv_bipush (v := 7) hx hb dR_kind_19 (by decide) ?_
  refine lv_iand hx hb dR_kind_21 ?_
  refine W.eq (g2 := F0 m 22 ls [.int 2]) rfl ?_
  refine lv_goto (tgt := 26) hx hb dR_kind_22 (by decide) ?_
  obtain ⟨hP9, hD9⟩ := xsub (wc := [(a0, .inr (2, [.ref a1, .int 1, v2])), (a1, .inl (cT 2, 4096, .inr (.inl f3)))]) hP hD [0, 1] rfl rfl (by decide)
  refine W.widen (k := 0) (n := 0) (Nat.le_of_ble_eq_true rfl) (Nat.le_of_ble_eq_true rfl) ?_
  exact W.iret (v := 2) hx hb hr (fun t ht hW => ⟨⟨2, (), rfl, rfl, by rw [ht]; exact hP9, va_K.moved hW.alike hK, hD9⟩, hS.F ht⟩) hS.2.2 dR_kind_26
set_option maxHeartbeats 400000000 in
set_option maxRecDepth 100000 in
theorem cJS_coder_1 (l : Launch) (hl9 : l.stackTraces = false) (D : va_G) (cT : Nat → ClassId) (aK aV : Nat → Nat) (sz : Nat) : xMet l yJS_coder wyJS_coder 0 0 0 0 D cT aK aV sz [.ref (aK 12)] [] (fun A => va_Qi (fun (r : Int32) (_ : Unit) => r = 0) (fun _ t => xB D xcl cT A [] t) A) := by
  refine Met.ofW (cc := prog_23_method_152_code) (maxL := 1) (ret := (some .byte)) (by decide) rfl ?_
  intro p e s m args below meth c s₁ B hml hv
  obtain ⟨rfl, hsz, hZ, hP, hK, hD0⟩ := hv
  have hx := B.exec
  have hb := B.bytes
  have hr := B.returns
  have hts := atoms_spec (ws := wyJS_coder) B.pre
  have htx := fun w h => hts w (List.mem_cons_of_mem _ h)
  have hown : s.vm.findClass "java/lang/String" = some m.cls := findClass_of_methodNamed B.named
  have hlocks := B.notSynchronized
  subst hsz
  have hD := hD0.self (sz := s.heap.size)
  generalize hAe : va_A [] s.heap.size = A at hD hZ ⊢
  have hA : ∀ q : Nat, s.heap.size ≤ q → A q := fun q h => by rw [← hAe]; exact Or.inr h
  have hS : va_S A s.heap s.heap [] := va_S.rf
  have hP : va_P D xcl [] s.heap := hP
  have hl := lv_entry ([.ref (aK 12)]) (n := 1) (Nat.le_of_ble_eq_true rfl)
  rw [lg_entry_eq]
  generalize (lg_sl ([.ref (aK 12)]) ++ List.replicate (1 - (lg_sl ([.ref (aK 12)])).length) Slot.unset).toArray = ls at hl ⊢
  have hl : lv_has ls 1 [(0, .ref (aK 12))] := hl
  refine va_gets hx hb hZ.2.2.2.2.2.2.2.2.2.2.1 hS hown (htx _ kw_2_75) (fun _ h9 => h9) dJS_coder_0 ?_
  refine lv_if_eq (tgt := 13) hx hb dJS_coder_3 (by decide) (fun h => ((by revert h; decide : False)).elim) (fun _ => ?_)
  refine lv_aload_n hx hb dJS_coder_6 rfl (lv_at hl 0 rfl) ?_
  refine vk_getf (o := "java/lang/String") (n := "coder") (d := "B") (v := .int 0) hx hb (hZ.2.2.2.2.2.2.2.2.2.1.1 12 (by decide)).2.1 hS hown (htx _ kw_7_133) (fun _ h9 => h9) dJS_coder_7 ?_
  refine lv_goto (tgt := 14) hx hb dJS_coder_10 (by decide) ?_
  obtain ⟨hP9, hD9⟩ := xsub (wc := []) hP hD [] rfl rfl (by decide)
  refine W.widen (k := 0) (n := 0) (Nat.le_of_ble_eq_true rfl) (Nat.le_of_ble_eq_true rfl) ?_
  exact W.zret (v := 0) hx hb hr rfl (fun t ht hW => ⟨⟨0, (), rfl, rfl, by rw [ht]; exact hP9, va_K.moved hW.alike hK, hD9⟩, hS.F ht⟩) hS.2.2 dJS_coder_14
set_option maxHeartbeats 400000000 in
set_option maxRecDepth 100000 in
theorem cJS_length_1 (l : Launch) (hl9 : l.stackTraces = false) (D : va_G) (cT : Nat → ClassId) (aK aV : Nat → Nat) (sz : Nat) : xMet l yJS_length wyJS_length 1 0 0 20 D cT aK aV sz [.ref (aK 12)] [] (fun A => va_Qi (fun (r : Int32) (_ : Unit) => r = 4) (fun _ t => xB D xcl cT A [] t) A) := by
  refine Met.ofW (cc := prog_23_method_54_code) (maxL := 1) (ret := (some .int)) (by decide) rfl ?_
  intro p e s m args below meth c s₁ B hml hv
  obtain ⟨rfl, hsz, hZ, hP, hK, hD0⟩ := hv
  have hx := B.exec
  have hb := B.bytes
  have hr := B.returns
  have hts := atoms_spec (ws := wyJS_length) B.pre
  have htx := fun w h => hts w (List.mem_cons_of_mem _ h)
  have hown : s.vm.findClass "java/lang/String" = some m.cls := findClass_of_methodNamed B.named
  have hlocks := B.notSynchronized
  subst hsz
  have hD := hD0.self (sz := s.heap.size)
  generalize hAe : va_A [] s.heap.size = A at hD hZ ⊢
  have hA : ∀ q : Nat, s.heap.size ≤ q → A q := fun q h => by rw [← hAe]; exact Or.inr h
  have hS : va_S A s.heap s.heap [] := va_S.rf
  have hP : va_P D xcl [] s.heap := hP
  have hl := lv_entry ([.ref (aK 12)]) (n := 1) (Nat.le_of_ble_eq_true rfl)
  rw [lg_entry_eq]
  generalize (lg_sl ([.ref (aK 12)]) ++ List.replicate (1 - (lg_sl ([.ref (aK 12)])).length) Slot.unset).toArray = ls at hl ⊢
  have hl : lv_has ls 1 [(0, .ref (aK 12))] := hl
  refine lv_aload_n hx hb dJS_length_0 rfl (lv_at hl 0 rfl) ?_
  refine vk_getf (o := "java/lang/String") (n := "value") (d := "[B") (v := .ref (aV 12)) hx hb (hZ.2.2.2.2.2.2.2.2.2.1.1 12 (by decide)).2.2.1 hS hown (htx _ kw_7_134) (fun _ h9 => h9) dJS_length_1 ?_
  refine va_tlen (v := 4) hx hb (hZ.2.2.2.2.2.2.2.2.2.1.1 12 (by decide)).2.2.2 hS rfl dJS_length_4 ?_
  refine lv_aload_n hx hb dJS_length_5 rfl (lv_at hl 0 rfl) ?_
  obtain ⟨hPc, hDc, hFc⟩ := xcut (wc := []) hP hD hS hA [] rfl rfl (by decide)
  refine va_calli (va_runV (C := "java/lang/String") (As := []) (rest := [.int 4]) ⟨hx, hb, hml, hown, htx⟩ (cJS_coder_1 l hl9 D cT aK aV s.heap.size) ⟨callB_of 0 htx (xw_goodC kw_2_74) rfl rfl rfl (htx _ kw_1_6) (htx _ kw_2_71) ⟨by decide, by decide, by decide +kernel⟩ ⟨Nat.le_of_ble_eq_true rfl, Nat.le_of_ble_eq_true rfl⟩, (htx _ kw_2_72), (htx _ kw_2_73)⟩ ⟨xPre_blind, vk_recv hZ.2.2.2.2.2.2.2.2.2.1 (i := 12) (by decide) hS, (fun U hU hW => ⟨rfl, xPre_of hZ hS hFc hPc hDc hK U hU hW⟩)⟩ rfl rfl hl.1 rfl (lv_room (Nat.le_of_ble_eq_true rfl)) dJS_length_6 ⟨Nat.le_of_ble_eq_true rfl, Nat.le_of_ble_eq_true rfl⟩) hS (fun q _ h => hFc q h) hFc (fun r1 u9 t H1 locs ht hvm hr9 hB hz1 hk1 hS => ?_)
  obtain ⟨hP1, hK1, hD1⟩ := hB
  rw [ht] at hP1
  obtain ⟨hP, hD⟩ := xjoin (W := []) hP hD [] [] 0 rfl rfl (by decide) (by decide) hk1 hFc hP1 hD1
  generalize H1 = H at hP hS ⊢
  rw [hr9]
  refine W.eq (g2 := F0 m 9 ls [.int 0, .int 4]) rfl ?_
  refine lv_ishr hx hb dJS_length_9 ?_
  refine W.eq (g2 := F0 m 10 ls [.int 4]) rfl ?_
  obtain ⟨hP9, hD9⟩ := xsub (wc := []) hP hD [] rfl rfl (by decide)
  refine W.widen (k := 0) (n := 0) (Nat.le_of_ble_eq_true rfl) (Nat.le_of_ble_eq_true rfl) ?_
  exact W.iret (v := 4) hx hb hr (fun t ht hW => ⟨⟨4, (), rfl, rfl, by rw [ht]; exact hP9, va_K.moved hW.alike hK, hD9⟩, hS.F ht⟩) hS.2.2 dJS_length_10
set_option maxHeartbeats 400000000 in
set_option maxRecDepth 100000 in
theorem cJS_isLatin1_1 (l : Launch) (hl9 : l.stackTraces = false) (D : va_G) (cT : Nat → ClassId) (aK aV : Nat → Nat) (sz : Nat) : xMet l yJS_isLatin1 wyJS_isLatin1 0 0 0 0 D cT aK aV sz [.ref (aK 12)] [] (fun A => va_Qi (fun (r : Int32) (_ : Unit) => r = 1) (fun _ t => xB D xcl cT A [] t) A) := by
  refine Met.ofW (cc := prog_23_method_154_code) (maxL := 1) (ret := (some .boolean)) (by decide) rfl ?_
  intro p e s m args below meth c s₁ B hml hv
  obtain ⟨rfl, hsz, hZ, hP, hK, hD0⟩ := hv
  have hx := B.exec
  have hb := B.bytes
  have hr := B.returns
  have hts := atoms_spec (ws := wyJS_isLatin1) B.pre
  have htx := fun w h => hts w (List.mem_cons_of_mem _ h)
  have hown : s.vm.findClass "java/lang/String" = some m.cls := findClass_of_methodNamed B.named
  have hlocks := B.notSynchronized
  subst hsz
  have hD := hD0.self (sz := s.heap.size)
  generalize hAe : va_A [] s.heap.size = A at hD hZ ⊢
  have hA : ∀ q : Nat, s.heap.size ≤ q → A q := fun q h => by rw [← hAe]; exact Or.inr h
  have hS : va_S A s.heap s.heap [] := va_S.rf
  have hP : va_P D xcl [] s.heap := hP
  have hl := lv_entry ([.ref (aK 12)]) (n := 1) (Nat.le_of_ble_eq_true rfl)
  rw [lg_entry_eq]
  generalize (lg_sl ([.ref (aK 12)]) ++ List.replicate (1 - (lg_sl ([.ref (aK 12)])).length) Slot.unset).toArray = ls at hl ⊢
  have hl : lv_has ls 1 [(0, .ref (aK 12))] := hl
  refine va_gets hx hb hZ.2.2.2.2.2.2.2.2.2.2.1 hS hown (htx _ kw_2_75) (fun _ h9 => h9) dJS_isLatin1_0 ?_
  refine lv_if_eq (tgt := 17) hx hb dJS_isLatin1_3 (by decide) (fun h => ((by revert h; decide : False)).elim) (fun _ => ?_)
  refine lv_aload_n hx hb dJS_isLatin1_6 rfl (lv_at hl 0 rfl) ?_
  refine vk_getf (o := "java/lang/String") (n := "coder") (d := "B") (v := .int 0) hx hb (hZ.2.2.2.2.2.2.2.2.2.1.1 12 (by decide)).2.1 hS hown (htx _ kw_7_133) (fun _ h9 => h9) dJS_isLatin1_7 ?_
  refine lv_if_ne (tgt := 17) hx hb dJS_isLatin1_10 (by decide) (fun h => ((by revert h; decide : False)).elim) (fun _ => ?_)
  refine lv_iconst (v := 1) hx hb dJS_isLatin1_13 (by decide) ?_
  refine lv_goto (tgt := 18) hx hb dJS_isLatin1_14 (by decide) ?_
  obtain ⟨hP9, hD9⟩ := xsub (wc := []) hP hD [] rfl rfl (by decide)
  refine W.widen (k := 0) (n := 0) (Nat.le_of_ble_eq_true rfl) (Nat.le_of_ble_eq_true rfl) ?_
  exact W.zret (v := 1) hx hb hr rfl (fun t ht hW => ⟨⟨1, (), rfl, rfl, by rw [ht]; exact hP9, va_K.moved hW.alike hK, hD9⟩, hS.F ht⟩) hS.2.2 dJS_isLatin1_18
set_option maxHeartbeats 400000000 in
set_option maxRecDepth 100000 in
theorem cJT_charAt_4 (l : Launch) (hl9 : l.stackTraces = false) (D : va_G) (cT : Nat → ClassId) (aK aV : Nat → Nat) (sz : Nat) : xMet l yJT_charAt wyJT_charAt 2 0 0 43 D cT aK aV sz [.ref (aV 12), .int 0] [] (fun A => va_Qi (fun (r : Int32) (_ : Unit) => r = 116) (fun _ t => xB D xcl cT A [] t) A) := by
  refine Met.ofW (cc := prog_24_method_2_code) (maxL := 2) (ret := (some .char)) (by decide) rfl ?_
  intro p e s m args below meth c s₁ B hml hv
  obtain ⟨rfl, hsz, hZ, hP, hK, hD0⟩ := hv
  have hx := B.exec
  have hb := B.bytes
  have hr := B.returns
  have hts := atoms_spec (ws := wyJT_charAt) B.pre
  have htx := fun w h => hts w (List.mem_cons_of_mem _ h)
  have hown : s.vm.findClass "java/lang/StringLatin1" = some m.cls := findClass_of_methodNamed B.named
  have hlocks := B.notSynchronized
  subst hsz
  have hD := hD0.self (sz := s.heap.size)
  generalize hAe : va_A [] s.heap.size = A at hD hZ ⊢
  have hA : ∀ q : Nat, s.heap.size ≤ q → A q := fun q h => by rw [← hAe]; exact Or.inr h
  have hS : va_S A s.heap s.heap [] := va_S.rf
  have hP : va_P D xcl [] s.heap := hP
  have hl := lv_entry ([.ref (aV 12), .int 0]) (n := 2) (Nat.le_of_ble_eq_true rfl)
  rw [lg_entry_eq]
  generalize (lg_sl ([.ref (aV 12), .int 0]) ++ List.replicate (2 - (lg_sl ([.ref (aV 12), .int 0])).length) Slot.unset).toArray = ls at hl ⊢
  have hl : lv_has ls 2 [(0, .ref (aV 12)), (1, .int 0)] := hl
  refine lv_iload_n hx hb dJT_charAt_0 rfl (lv_at hl 1 rfl) ?_
  refine lv_aload_n hx hb dJT_charAt_1 rfl (lv_at hl 0 rfl) ?_
  refine va_tlen (v := 4) hx hb (hZ.2.2.2.2.2.2.2.2.2.1.1 12 (by decide)).2.2.2 hS rfl dJT_charAt_2 ?_
  obtain ⟨hPc, hDc, hFc⟩ := xcut (wc := []) hP hD hS hA [] rfl rfl (by decide)
  refine va_callv (va_runS (As := [.int 0, .int 4]) (rest := []) ⟨hx, hb, hml, hown, htx⟩ (cJS_checkIndex_0 l hl9 D cT aK aV s.heap.size) ⟨callB_of 2 htx (xw_goodC kw_2_90) rfl rfl rfl (htx _ kw_1_6) (htx _ kw_2_88) ⟨by decide, by decide, by decide +kernel⟩ ⟨Nat.le_of_ble_eq_true rfl, Nat.le_of_ble_eq_true rfl⟩, htx _ kw_2_89⟩ ⟨xPre_blind, (fun U hU hW => ⟨rfl, xPre_of hZ hS hFc hPc hDc hK U hU hW⟩)⟩ rfl rfl hl.1 rfl (lv_room (Nat.le_of_ble_eq_true rfl)) dJT_charAt_3 ⟨Nat.le_of_ble_eq_true rfl, Nat.le_of_ble_eq_true rfl⟩) hS (fun q _ h => hFc q h) hFc (fun u9 t H1 locs ht hvm hr9 hB hz1 hk1 hS => ?_)
  obtain ⟨hP1, hK1, hD1⟩ := hB
  rw [ht] at hP1
  obtain ⟨hP, hD⟩ := xjoin (W := []) hP hD [] [] 0 rfl rfl (by decide) (by decide) hk1 hFc hP1 hD1
  generalize H1 = H at hP hS ⊢
  refine lv_aload_n hx hb dJT_charAt_6 rfl (lv_at hl 0 rfl) ?_
  refine lv_iload_n hx hb dJT_charAt_7 rfl (lv_at hl 1 rfl) ?_
  refine va_tb (v := .int 116) hx hb (hZ.2.2.2.2.2.2.2.2.2.1.1 12 (by decide)).2.2.2 hS (show ¬ ((0 : Int32) < 0 ∨ 4 ≤ (0 : Int32).toNatClampNeg) by decide) rfl dJT_charAt_8 ?_
  refine lv_sipush (v := 255) hx hb dJT_charAt_9 (by decide) ?_
  refine lv_iand hx hb dJT_charAt_12 ?_
  refine W.eq (g2 := F0 m 13 ls [.int 116]) rfl ?_
  refine lv_i2c hx hb dJT_charAt_13 rfl ?_
  refine W.eq (g2 := F0 m 14 ls [.int 116]) rfl ?_
  obtain ⟨hP9, hD9⟩ := xsub (wc := []) hP hD [] rfl rfl (by decide)
  refine W.widen (k := 0) (n := 0) (Nat.le_of_ble_eq_true rfl) (Nat.le_of_ble_eq_true rfl) ?_
  exact W.zret (v := 116) hx hb hr rfl (fun t ht hW => ⟨⟨116, (), rfl, rfl, by rw [ht]; exact hP9, va_K.moved hW.alike hK, hD9⟩, hS.F ht⟩) hS.2.2 dJT_charAt_14
set_option maxHeartbeats 400000000 in
set_option maxRecDepth 100000 in
theorem cJS_charAt_4 (l : Launch) (hl9 : l.stackTraces = false) (D : va_G) (cT : Nat → ClassId) (aK aV : Nat → Nat) (sz : Nat) : xMet l yJS_charAt wyJS_charAt 3 0 0 64 D cT aK aV sz [.ref (aK 12), .int 0] [] (fun A => va_Qi (fun (r : Int32) (_ : Unit) => r = 116) (fun _ t => xB D xcl cT A [] t) A) := by
  refine Met.ofW (cc := prog_23_method_56_code) (maxL := 2) (ret := (some .char)) (by decide) rfl ?_
  intro p e s m args below meth c s₁ B hml hv
  obtain ⟨rfl, hsz, hZ, hP, hK, hD0⟩ := hv
  have hx := B.exec
  have hb := B.bytes
  have hr := B.returns
  have hts := atoms_spec (ws := wyJS_charAt) B.pre
  have htx := fun w h => hts w (List.mem_cons_of_mem _ h)
  have hown : s.vm.findClass "java/lang/String" = some m.cls := findClass_of_methodNamed B.named
  have hlocks := B.notSynchronized
  subst hsz
  have hD := hD0.self (sz := s.heap.size)
  generalize hAe : va_A [] s.heap.size = A at hD hZ ⊢
  have hA : ∀ q : Nat, s.heap.size ≤ q → A q := fun q h => by rw [← hAe]; exact Or.inr h
  have hS : va_S A s.heap s.heap [] := va_S.rf
  have hP : va_P D xcl [] s.heap := hP
  have hl := lv_entry ([.ref (aK 12), .int 0]) (n := 2) (Nat.le_of_ble_eq_true rfl)
  rw [lg_entry_eq]
  generalize (lg_sl ([.ref (aK 12), .int 0]) ++ List.replicate (2 - (lg_sl ([.ref (aK 12), .int 0])).length) Slot.unset).toArray = ls at hl ⊢
  have hl : lv_has ls 2 [(0, .ref (aK 12)), (1, .int 0)] := hl
  refine lv_aload_n hx hb dJS_charAt_0 rfl (lv_at hl 0 rfl) ?_
  obtain ⟨hPc, hDc, hFc⟩ := xcut (wc := []) hP hD hS hA [] rfl rfl (by decide)
  refine va_calli (va_runV (C := "java/lang/String") (As := []) (rest := []) ⟨hx, hb, hml, hown, htx⟩ (cJS_isLatin1_1 l hl9 D cT aK aV s.heap.size) ⟨callB_of 0 htx (xw_goodC kw_2_84) rfl rfl rfl (htx _ kw_1_6) (htx _ kw_2_81) ⟨by decide, by decide, by decide +kernel⟩ ⟨Nat.le_of_ble_eq_true rfl, Nat.le_of_ble_eq_true rfl⟩, (htx _ kw_2_82), (htx _ kw_2_83)⟩ ⟨xPre_blind, vk_recv hZ.2.2.2.2.2.2.2.2.2.1 (i := 12) (by decide) hS, (fun U hU hW => ⟨rfl, xPre_of hZ hS hFc hPc hDc hK U hU hW⟩)⟩ rfl rfl hl.1 rfl (lv_room (Nat.le_of_ble_eq_true rfl)) dJS_charAt_1 ⟨Nat.le_of_ble_eq_true rfl, Nat.le_of_ble_eq_true rfl⟩) hS (fun q _ h => hFc q h) hFc (fun r1 u9 t H1 locs ht hvm hr9 hB hz1 hk1 hS => ?_)
  obtain ⟨hP1, hK1, hD1⟩ := hB
  rw [ht] at hP1
  obtain ⟨hP, hD⟩ := xjoin (W := []) hP hD [] [] 0 rfl rfl (by decide) (by decide) hk1 hFc hP1 hD1
  generalize H1 = H at hP hS ⊢
  rw [hr9]
  refine W.eq (g2 := F0 m 4 ls [.int 1]) rfl ?_
  refine lv_if_eq (tgt := 16) hx hb dJS_charAt_4 (by decide) (fun h => ((by revert h; decide : False)).elim) (fun _ => ?_)
  refine lv_aload_n hx hb dJS_charAt_7 rfl (lv_at hl 0 rfl) ?_
  refine vk_getf (o := "java/lang/String") (n := "value") (d := "[B") (v := .ref (aV 12)) hx hb (hZ.2.2.2.2.2.2.2.2.2.1.1 12 (by decide)).2.2.1 hS hown (htx _ kw_7_134) (fun _ h9 => h9) dJS_charAt_8 ?_
  refine lv_iload_n hx hb dJS_charAt_11 rfl (lv_at hl 1 rfl) ?_
  obtain ⟨hPc, hDc, hFc⟩ := xcut (wc := []) hP hD hS hA [] rfl rfl (by decide)
  refine va_calli (va_runS (As := [.ref (aV 12), .int 0]) (rest := []) ⟨hx, hb, hml, hown, htx⟩ (cJT_charAt_4 l hl9 D cT aK aV H.size) ⟨callB_of 2 htx (xw_goodC kw_2_87) rfl rfl rfl (htx _ kw_1_7) (htx _ kw_2_85) ⟨by decide, by decide, by decide +kernel⟩ ⟨Nat.le_of_ble_eq_true rfl, Nat.le_of_ble_eq_true rfl⟩, htx _ kw_2_86⟩ ⟨xPre_blind, (fun U hU hW => ⟨rfl, xPre_of hZ hS hFc hPc hDc hK U hU hW⟩)⟩ rfl rfl hl.1 rfl (lv_room (Nat.le_of_ble_eq_true rfl)) dJS_charAt_12 ⟨Nat.le_of_ble_eq_true rfl, Nat.le_of_ble_eq_true rfl⟩) hS (fun q _ h => hFc q h) hFc (fun r2 u9 t H1 locs ht hvm hr9 hB hz1 hk1 hS => ?_)
  obtain ⟨hP1, hK1, hD1⟩ := hB
  rw [ht] at hP1
  obtain ⟨hP, hD⟩ := xjoin (W := []) hP hD [] [] 0 rfl rfl (by decide) (by decide) hk1 hFc hP1 hD1
  generalize H1 = H at hP hS ⊢
  rw [hr9]
  refine W.eq (g2 := F0 m 15 ls [.int 116]) rfl ?_
  obtain ⟨hP9, hD9⟩ := xsub (wc := []) hP hD [] rfl rfl (by decide)
  refine W.widen (k := 0) (n := 0) (Nat.le_of_ble_eq_true rfl) (Nat.le_of_ble_eq_true rfl) ?_
  exact W.zret (v := 116) hx hb hr rfl (fun t ht hW => ⟨⟨116, (), rfl, rfl, by rw [ht]; exact hP9, va_K.moved hW.alike hK, hD9⟩, hS.F ht⟩) hS.2.2 dJS_charAt_15
set_option maxHeartbeats 400000000 in
set_option maxRecDepth 100000 in
theorem cJT_charAt_5 (l : Launch) (hl9 : l.stackTraces = false) (D : va_G) (cT : Nat → ClassId) (aK aV : Nat → Nat) (sz : Nat) : xMet l yJT_charAt wyJT_charAt 2 0 0 43 D cT aK aV sz [.ref (aV 12), .int 1] [] (fun A => va_Qi (fun (r : Int32) (_ : Unit) => r = 114) (fun _ t => xB D xcl cT A [] t) A) := by
  refine Met.ofW (cc := prog_24_method_2_code) (maxL := 2) (ret := (some .char)) (by decide) rfl ?_
  intro p e s m args below meth c s₁ B hml hv
  obtain ⟨rfl, hsz, hZ, hP, hK, hD0⟩ := hv
  have hx := B.exec
  have hb := B.bytes
  have hr := B.returns
  have hts := atoms_spec (ws := wyJT_charAt) B.pre
  have htx := fun w h => hts w (List.mem_cons_of_mem _ h)
  have hown : s.vm.findClass "java/lang/StringLatin1" = some m.cls := findClass_of_methodNamed B.named
  have hlocks := B.notSynchronized
  subst hsz
  have hD := hD0.self (sz := s.heap.size)
  generalize hAe : va_A [] s.heap.size = A at hD hZ ⊢
  have hA : ∀ q : Nat, s.heap.size ≤ q → A q := fun q h => by rw [← hAe]; exact Or.inr h
  have hS : va_S A s.heap s.heap [] := va_S.rf
  have hP : va_P D xcl [] s.heap := hP
  have hl := lv_entry ([.ref (aV 12), .int 1]) (n := 2) (Nat.le_of_ble_eq_true rfl)
  rw [lg_entry_eq]
  generalize (lg_sl ([.ref (aV 12), .int 1]) ++ List.replicate (2 - (lg_sl ([.ref (aV 12), .int 1])).length) Slot.unset).toArray = ls at hl ⊢
  have hl : lv_has ls 2 [(0, .ref (aV 12)), (1, .int 1)] := hl
  refine lv_iload_n hx hb dJT_charAt_0 rfl (lv_at hl 1 rfl) ?_
  refine lv_aload_n hx hb dJT_charAt_1 rfl (lv_at hl 0 rfl) ?_
  refine va_tlen (v := 4) hx hb (hZ.2.2.2.2.2.2.2.2.2.1.1 12 (by decide)).2.2.2 hS rfl dJT_charAt_2 ?_
  obtain ⟨hPc, hDc, hFc⟩ := xcut (wc := []) hP hD hS hA [] rfl rfl (by decide)
  refine va_callv (va_runS (As := [.int 1, .int 4]) (rest := []) ⟨hx, hb, hml, hown, htx⟩ (cJS_checkIndex_1 l hl9 D cT aK aV s.heap.size) ⟨callB_of 2 htx (xw_goodC kw_2_90) rfl rfl rfl (htx _ kw_1_6) (htx _ kw_2_88) ⟨by decide, by decide, by decide +kernel⟩ ⟨Nat.le_of_ble_eq_true rfl, Nat.le_of_ble_eq_true rfl⟩, htx _ kw_2_89⟩ ⟨xPre_blind, (fun U hU hW => ⟨rfl, xPre_of hZ hS hFc hPc hDc hK U hU hW⟩)⟩ rfl rfl hl.1 rfl (lv_room (Nat.le_of_ble_eq_true rfl)) dJT_charAt_3 ⟨Nat.le_of_ble_eq_true rfl, Nat.le_of_ble_eq_true rfl⟩) hS (fun q _ h => hFc q h) hFc (fun u9 t H1 locs ht hvm hr9 hB hz1 hk1 hS => ?_)
  obtain ⟨hP1, hK1, hD1⟩ := hB
  rw [ht] at hP1
  obtain ⟨hP, hD⟩ := xjoin (W := []) hP hD [] [] 0 rfl rfl (by decide) (by decide) hk1 hFc hP1 hD1
  generalize H1 = H at hP hS ⊢
  refine lv_aload_n hx hb dJT_charAt_6 rfl (lv_at hl 0 rfl) ?_
  refine lv_iload_n hx hb dJT_charAt_7 rfl (lv_at hl 1 rfl) ?_
  refine va_tb (v := .int 114) hx hb (hZ.2.2.2.2.2.2.2.2.2.1.1 12 (by decide)).2.2.2 hS (show ¬ ((1 : Int32) < 0 ∨ 4 ≤ (1 : Int32).toNatClampNeg) by decide) rfl dJT_charAt_8 ?_
  refine lv_sipush (v := 255) hx hb dJT_charAt_9 (by decide) ?_
  refine lv_iand hx hb dJT_charAt_12 ?_
  refine W.eq (g2 := F0 m 13 ls [.int 114]) rfl ?_
  refine lv_i2c hx hb dJT_charAt_13 rfl ?_
  refine W.eq (g2 := F0 m 14 ls [.int 114]) rfl ?_
  obtain ⟨hP9, hD9⟩ := xsub (wc := []) hP hD [] rfl rfl (by decide)
  refine W.widen (k := 0) (n := 0) (Nat.le_of_ble_eq_true rfl) (Nat.le_of_ble_eq_true rfl) ?_
  exact W.zret (v := 114) hx hb hr rfl (fun t ht hW => ⟨⟨114, (), rfl, rfl, by rw [ht]; exact hP9, va_K.moved hW.alike hK, hD9⟩, hS.F ht⟩) hS.2.2 dJT_charAt_14
set_option maxHeartbeats 400000000 in
set_option maxRecDepth 100000 in
theorem cJS_charAt_5 (l : Launch) (hl9 : l.stackTraces = false) (D : va_G) (cT : Nat → ClassId) (aK aV : Nat → Nat) (sz : Nat) : xMet l yJS_charAt wyJS_charAt 3 0 0 64 D cT aK aV sz [.ref (aK 12), .int 1] [] (fun A => va_Qi (fun (r : Int32) (_ : Unit) => r = 114) (fun _ t => xB D xcl cT A [] t) A) := by
  refine Met.ofW (cc := prog_23_method_56_code) (maxL := 2) (ret := (some .char)) (by decide) rfl ?_
  intro p e s m args below meth c s₁ B hml hv
  obtain ⟨rfl, hsz, hZ, hP, hK, hD0⟩ := hv
  have hx := B.exec
  have hb := B.bytes
  have hr := B.returns
  have hts := atoms_spec (ws := wyJS_charAt) B.pre
  have htx := fun w h => hts w (List.mem_cons_of_mem _ h)
  have hown : s.vm.findClass "java/lang/String" = some m.cls := findClass_of_methodNamed B.named
  have hlocks := B.notSynchronized
  subst hsz
  have hD := hD0.self (sz := s.heap.size)
  generalize hAe : va_A [] s.heap.size = A at hD hZ ⊢
  have hA : ∀ q : Nat, s.heap.size ≤ q → A q := fun q h => by rw [← hAe]; exact Or.inr h
  have hS : va_S A s.heap s.heap [] := va_S.rf
  have hP : va_P D xcl [] s.heap := hP
  have hl := lv_entry ([.ref (aK 12), .int 1]) (n := 2) (Nat.le_of_ble_eq_true rfl)
  rw [lg_entry_eq]
  generalize (lg_sl ([.ref (aK 12), .int 1]) ++ List.replicate (2 - (lg_sl ([.ref (aK 12), .int 1])).length) Slot.unset).toArray = ls at hl ⊢
  have hl : lv_has ls 2 [(0, .ref (aK 12)), (1, .int 1)] := hl
  refine lv_aload_n hx hb dJS_charAt_0 rfl (lv_at hl 0 rfl) ?_
  obtain ⟨hPc, hDc, hFc⟩ := xcut (wc := []) hP hD hS hA [] rfl rfl (by decide)
  refine va_calli (va_runV (C := "java/lang/String") (As := []) (rest := []) ⟨hx, hb, hml, hown, htx⟩ (cJS_isLatin1_1 l hl9 D cT aK aV s.heap.size) ⟨callB_of 0 htx (xw_goodC kw_2_84) rfl rfl rfl (htx _ kw_1_6) (htx _ kw_2_81) ⟨by decide, by decide, by decide +kernel⟩ ⟨Nat.le_of_ble_eq_true rfl, Nat.le_of_ble_eq_true rfl⟩, (htx _ kw_2_82), (htx _ kw_2_83)⟩ ⟨xPre_blind, vk_recv hZ.2.2.2.2.2.2.2.2.2.1 (i := 12) (by decide) hS, (fun U hU hW => ⟨rfl, xPre_of hZ hS hFc hPc hDc hK U hU hW⟩)⟩ rfl rfl hl.1 rfl (lv_room (Nat.le_of_ble_eq_true rfl)) dJS_charAt_1 ⟨Nat.le_of_ble_eq_true rfl, Nat.le_of_ble_eq_true rfl⟩) hS (fun q _ h => hFc q h) hFc (fun r1 u9 t H1 locs ht hvm hr9 hB hz1 hk1 hS => ?_)
  obtain ⟨hP1, hK1, hD1⟩ := hB
  rw [ht] at hP1
  obtain ⟨hP, hD⟩ := xjoin (W := []) hP hD [] [] 0 rfl rfl (by decide) (by decide) hk1 hFc hP1 hD1
  generalize H1 = H at hP hS ⊢
  rw [hr9]
  refine W.eq (g2 := F0 m 4 ls [.int 1]) rfl ?_
  refine lv_if_eq (tgt := 16) hx hb dJS_charAt_4 (by decide) (fun h => ((by revert h; decide : False)).elim) (fun _ => ?_)
  refine lv_aload_n hx hb dJS_charAt_7 rfl (lv_at hl 0 rfl) ?_
  refine vk_getf (o := "java/lang/String") (n := "value") (d := "[B") (v := .ref (aV 12)) hx hb (hZ.2.2.2.2.2.2.2.2.2.1.1 12 (by decide)).2.2.1 hS hown (htx _ kw_7_134) (fun _ h9 => h9) dJS_charAt_8 ?_
  refine lv_iload_n hx hb dJS_charAt_11 rfl (lv_at hl 1 rfl) ?_
  obtain ⟨hPc, hDc, hFc⟩ := xcut (wc := []) hP hD hS hA [] rfl rfl (by decide)
  refine va_calli (va_runS (As := [.ref (aV 12), .int 1]) (rest := []) ⟨hx, hb, hml, hown, htx⟩ (cJT_charAt_5 l hl9 D cT aK aV H.size) ⟨callB_of 2 htx (xw_goodC kw_2_87) rfl rfl rfl (htx _ kw_1_7) (htx _ kw_2_85) ⟨by decide, by decide, by decide +kernel⟩ ⟨Nat.le_of_ble_eq_true rfl, Nat.le_of_ble_eq_true rfl⟩, htx _ kw_2_86⟩ ⟨xPre_blind, (fun U hU hW => ⟨rfl, xPre_of hZ hS hFc hPc hDc hK U hU hW⟩)⟩ rfl rfl hl.1 rfl (lv_room (Nat.le_of_ble_eq_true rfl)) dJS_charAt_12 ⟨Nat.le_of_ble_eq_true rfl, Nat.le_of_ble_eq_true rfl⟩) hS (fun q _ h => hFc q h) hFc (fun r2 u9 t H1 locs ht hvm hr9 hB hz1 hk1 hS => ?_)
  obtain ⟨hP1, hK1, hD1⟩ := hB
  rw [ht] at hP1
  obtain ⟨hP, hD⟩ := xjoin (W := []) hP hD [] [] 0 rfl rfl (by decide) (by decide) hk1 hFc hP1 hD1
  generalize H1 = H at hP hS ⊢
  rw [hr9]
  refine W.eq (g2 := F0 m 15 ls [.int 114]) rfl ?_
  obtain ⟨hP9, hD9⟩ := xsub (wc := []) hP hD [] rfl rfl (by decide)
  refine W.widen (k := 0) (n := 0) (Nat.le_of_ble_eq_true rfl) (Nat.le_of_ble_eq_true rfl) ?_
  exact W.zret (v := 114) hx hb hr rfl (fun t ht hW => ⟨⟨114, (), rfl, rfl, by rw [ht]; exact hP9, va_K.moved hW.alike hK, hD9⟩, hS.F ht⟩) hS.2.2 dJS_charAt_15
set_option maxHeartbeats 400000000 in
set_option maxRecDepth 100000 in
theorem cJT_charAt_6 (l : Launch) (hl9 : l.stackTraces = false) (D : va_G) (cT : Nat → ClassId) (aK aV : Nat → Nat) (sz : Nat) : xMet l yJT_charAt wyJT_charAt 2 0 0 43 D cT aK aV sz [.ref (aV 12), .int 2] [] (fun A => va_Qi (fun (r : Int32) (_ : Unit) => r = 117) (fun _ t => xB D xcl cT A [] t) A) := by
  refine Met.ofW (cc := prog_24_method_2_code) (maxL := 2) (ret := (some .char)) (by decide) rfl ?_
  intro p e s m args below meth c s₁ B hml hv
  obtain ⟨rfl, hsz, hZ, hP, hK, hD0⟩ := hv
  have hx := B.exec
  have hb := B.bytes
  have hr := B.returns
  have hts := atoms_spec (ws := wyJT_charAt) B.pre
  have htx := fun w h => hts w (List.mem_cons_of_mem _ h)
  have hown : s.vm.findClass "java/lang/StringLatin1" = some m.cls := findClass_of_methodNamed B.named
  have hlocks := B.notSynchronized
  subst hsz
  have hD := hD0.self (sz := s.heap.size)
  generalize hAe : va_A [] s.heap.size = A at hD hZ ⊢
  have hA : ∀ q : Nat, s.heap.size ≤ q → A q := fun q h => by rw [← hAe]; exact Or.inr h
  have hS : va_S A s.heap s.heap [] := va_S.rf
  have hP : va_P D xcl [] s.heap := hP
  have hl := lv_entry ([.ref (aV 12), .int 2]) (n := 2) (Nat.le_of_ble_eq_true rfl)
  rw [lg_entry_eq]
  generalize (lg_sl ([.ref (aV 12), .int 2]) ++ List.replicate (2 - (lg_sl ([.ref (aV 12), .int 2])).length) Slot.unset).toArray = ls at hl ⊢
  have hl : lv_has ls 2 [(0, .ref (aV 12)), (1, .int 2)] := hl
  refine lv_iload_n hx hb dJT_charAt_0 rfl (lv_at hl 1 rfl) ?_
  refine lv_aload_n hx hb dJT_charAt_1 rfl (lv_at hl 0 rfl) ?_
  refine va_tlen (v := 4) hx hb (hZ.2.2.2.2.2.2.2.2.2.1.1 12 (by decide)).2.2.2 hS rfl dJT_charAt_2 ?_
  obtain ⟨hPc, hDc, hFc⟩ := xcut (wc := []) hP hD hS hA [] rfl rfl (by decide)
  refine va_callv (va_runS (As := [.int 2, .int 4]) (rest := []) ⟨hx, hb, hml, hown, htx⟩ (cJS_checkIndex_2 l hl9 D cT aK aV s.heap.size) ⟨callB_of 2 htx (xw_goodC kw_2_90) rfl rfl rfl (htx _ kw_1_6) (htx _ kw_2_88) ⟨by decide, by decide, by decide +kernel⟩ ⟨Nat.le_of_ble_eq_true rfl, Nat.le_of_ble_eq_true rfl⟩, htx _ kw_2_89⟩ ⟨xPre_blind, (fun U hU hW => ⟨rfl, xPre_of hZ hS hFc hPc hDc hK U hU hW⟩)⟩ rfl rfl hl.1 rfl (lv_room (Nat.le_of_ble_eq_true rfl)) dJT_charAt_3 ⟨Nat.le_of_ble_eq_true rfl, Nat.le_of_ble_eq_true rfl⟩) hS (fun q _ h => hFc q h) hFc (fun u9 t H1 locs ht hvm hr9 hB hz1 hk1 hS => ?_)
  obtain ⟨hP1, hK1, hD1⟩ := hB
  rw [ht] at hP1
  obtain ⟨hP, hD⟩ := xjoin (W := []) hP hD [] [] 0 rfl rfl (by decide) (by decide) hk1 hFc hP1 hD1
  generalize H1 = H at hP hS ⊢
  refine lv_aload_n hx hb dJT_charAt_6 rfl (lv_at hl 0 rfl) ?_
  refine lv_iload_n hx hb dJT_charAt_7 rfl (lv_at hl 1 rfl) ?_
  refine va_tb (v := .int 117) hx hb (hZ.2.2.2.2.2.2.2.2.2.1.1 12 (by decide)).2.2.2 hS (show ¬ ((2 : Int32) < 0 ∨ 4 ≤ (2 : Int32).toNatClampNeg) by decide) rfl dJT_charAt_8 ?_
  refine lv_sipush (v := 255) hx hb dJT_charAt_9 (by decide) ?_
  refine lv_iand hx hb dJT_charAt_12 ?_
  refine W.eq (g2 := F0 m 13 ls [.int 117]) rfl ?_
  refine lv_i2c hx hb dJT_charAt_13 rfl ?_
  refine W.eq (g2 := F0 m 14 ls [.int 117]) rfl ?_
  obtain ⟨hP9, hD9⟩ := xsub (wc := []) hP hD [] rfl rfl (by decide)
  refine W.widen (k := 0) (n := 0) (Nat.le_of_ble_eq_true rfl) (Nat.le_of_ble_eq_true rfl) ?_
  exact W.zret (v := 117) hx hb hr rfl (fun t ht hW => ⟨⟨117, (), rfl, rfl, by rw [ht]; exact hP9, va_K.moved hW.alike hK, hD9⟩, hS.F ht⟩) hS.2.2 dJT_charAt_14
set_option maxHeartbeats 400000000 in
set_option maxRecDepth 100000 in
theorem cJS_charAt_6 (l : Launch) (hl9 : l.stackTraces = false) (D : va_G) (cT : Nat → ClassId) (aK aV : Nat → Nat) (sz : Nat) : xMet l yJS_charAt wyJS_charAt 3 0 0 64 D cT aK aV sz [.ref (aK 12), .int 2] [] (fun A => va_Qi (fun (r : Int32) (_ : Unit) => r = 117) (fun _ t => xB D xcl cT A [] t) A) := by
  refine Met.ofW (cc := prog_23_method_56_code) (maxL := 2) (ret := (some .char)) (by decide) rfl ?_
  intro p e s m args below meth c s₁ B hml hv
  obtain ⟨rfl, hsz, hZ, hP, hK, hD0⟩ := hv
  have hx := B.exec
  have hb := B.bytes
  have hr := B.returns
  have hts := atoms_spec (ws := wyJS_charAt) B.pre
  have htx := fun w h => hts w (List.mem_cons_of_mem _ h)
  have hown : s.vm.findClass "java/lang/String" = some m.cls := findClass_of_methodNamed B.named
  have hlocks := B.notSynchronized
  subst hsz
  have hD := hD0.self (sz := s.heap.size)
  generalize hAe : va_A [] s.heap.size = A at hD hZ ⊢
  have hA : ∀ q : Nat, s.heap.size ≤ q → A q := fun q h => by rw [← hAe]; exact Or.inr h
  have hS : va_S A s.heap s.heap [] := va_S.rf
  have hP : va_P D xcl [] s.heap := hP
  have hl := lv_entry ([.ref (aK 12), .int 2]) (n := 2) (Nat.le_of_ble_eq_true rfl)
  rw [lg_entry_eq]
  generalize (lg_sl ([.ref (aK 12), .int 2]) ++ List.replicate (2 - (lg_sl ([.ref (aK 12), .int 2])).length) Slot.unset).toArray = ls at hl ⊢
  have hl : lv_has ls 2 [(0, .ref (aK 12)), (1, .int 2)] := hl
  refine lv_aload_n hx hb dJS_charAt_0 rfl (lv_at hl 0 rfl) ?_
  obtain ⟨hPc, hDc, hFc⟩ := xcut (wc := []) hP hD hS hA [] rfl rfl (by decide)
  refine va_calli (va_runV (C := "java/lang/String") (As := []) (rest := []) ⟨hx, hb, hml, hown, htx⟩ (cJS_isLatin1_1 l hl9 D cT aK aV s.heap.size) ⟨callB_of 0 htx (xw_goodC kw_2_84) rfl rfl rfl (htx _ kw_1_6) (htx _ kw_2_81) ⟨by decide, by decide, by decide +kernel⟩ ⟨Nat.le_of_ble_eq_true rfl, Nat.le_of_ble_eq_true rfl⟩, (htx _ kw_2_82), (htx _ kw_2_83)⟩ ⟨xPre_blind, vk_recv hZ.2.2.2.2.2.2.2.2.2.1 (i := 12) (by decide) hS, (fun U hU hW => ⟨rfl, xPre_of hZ hS hFc hPc hDc hK U hU hW⟩)⟩ rfl rfl hl.1 rfl (lv_room (Nat.le_of_ble_eq_true rfl)) dJS_charAt_1 ⟨Nat.le_of_ble_eq_true rfl, Nat.le_of_ble_eq_true rfl⟩) hS (fun q _ h => hFc q h) hFc (fun r1 u9 t H1 locs ht hvm hr9 hB hz1 hk1 hS => ?_)
  obtain ⟨hP1, hK1, hD1⟩ := hB
  rw [ht] at hP1
  obtain ⟨hP, hD⟩ := xjoin (W := []) hP hD [] [] 0 rfl rfl (by decide) (by decide) hk1 hFc hP1 hD1
  generalize H1 = H at hP hS ⊢
  rw [hr9]
  refine W.eq (g2 := F0 m 4 ls [.int 1]) rfl ?_
  refine lv_if_eq (tgt := 16) hx hb dJS_charAt_4 (by decide) (fun h => ((by revert h; decide : False)).elim) (fun _ => ?_)
  refine lv_aload_n hx hb dJS_charAt_7 rfl (lv_at hl 0 rfl) ?_
  refine vk_getf (o := "java/lang/String") (n := "value") (d := "[B") (v := .ref (aV 12)) hx hb (hZ.2.2.2.2.2.2.2.2.2.1.1 12 (by decide)).2.2.1 hS hown (htx _ kw_7_134) (fun _ h9 => h9) dJS_charAt_8 ?_
  refine lv_iload_n hx hb dJS_charAt_11 rfl (lv_at hl 1 rfl) ?_
  obtain ⟨hPc, hDc, hFc⟩ := xcut (wc := []) hP hD hS hA [] rfl rfl (by decide)
  refine va_calli (va_runS (As := [.ref (aV 12), .int 2]) (rest := []) ⟨hx, hb, hml, hown, htx⟩ (cJT_charAt_6 l hl9 D cT aK aV H.size) ⟨callB_of 2 htx (xw_goodC kw_2_87) rfl rfl rfl (htx _ kw_1_7) (htx _ kw_2_85) ⟨by decide, by decide, by decide +kernel⟩ ⟨Nat.le_of_ble_eq_true rfl, Nat.le_of_ble_eq_true rfl⟩, htx _ kw_2_86⟩ ⟨xPre_blind, (fun U hU hW => ⟨rfl, xPre_of hZ hS hFc hPc hDc hK U hU hW⟩)⟩ rfl rfl hl.1 rfl (lv_room (Nat.le_of_ble_eq_true rfl)) dJS_charAt_12 ⟨Nat.le_of_ble_eq_true rfl, Nat.le_of_ble_eq_true rfl⟩) hS (fun q _ h => hFc q h) hFc (fun r2 u9 t H1 locs ht hvm hr9 hB hz1 hk1 hS => ?_)
  obtain ⟨hP1, hK1, hD1⟩ := hB
  rw [ht] at hP1
  obtain ⟨hP, hD⟩ := xjoin (W := []) hP hD [] [] 0 rfl rfl (by decide) (by decide) hk1 hFc hP1 hD1
  generalize H1 = H at hP hS ⊢
  rw [hr9]
  refine W.eq (g2 := F0 m 15 ls [.int 117]) rfl ?_
  obtain ⟨hP9, hD9⟩ := xsub (wc := []) hP hD [] rfl rfl (by decide)
  refine W.widen (k := 0) (n := 0) (Nat.le_of_ble_eq_true rfl) (Nat.le_of_ble_eq_true rfl) ?_
  exact W.zret (v := 117) hx hb hr rfl (fun t ht hW => ⟨⟨117, (), rfl, rfl, by rw [ht]; exact hP9, va_K.moved hW.alike hK, hD9⟩, hS.F ht⟩) hS.2.2 dJS_charAt_15
set_option maxHeartbeats 400000000 in
set_option maxRecDepth 100000 in
theorem cJT_charAt_7 (l : Launch) (hl9 : l.stackTraces = false) (D : va_G) (cT : Nat → ClassId) (aK aV : Nat → Nat) (sz : Nat) : xMet l yJT_charAt wyJT_charAt 2 0 0 43 D cT aK aV sz [.ref (aV 12), .int 3] [] (fun A => va_Qi (fun (r : Int32) (_ : Unit) => r = 101) (fun _ t => xB D xcl cT A [] t) A) := by
  refine Met.ofW (cc := prog_24_method_2_code) (maxL := 2) (ret := (some .char)) (by decide) rfl ?_
  intro p e s m args below meth c s₁ B hml hv
  obtain ⟨rfl, hsz, hZ, hP, hK, hD0⟩ := hv
  have hx := B.exec
  have hb := B.bytes
  have hr := B.returns
  have hts := atoms_spec (ws := wyJT_charAt) B.pre
  have htx := fun w h => hts w (List.mem_cons_of_mem _ h)
  have hown : s.vm.findClass "java/lang/StringLatin1" = some m.cls := findClass_of_methodNamed B.named
  have hlocks := B.notSynchronized
  subst hsz
  have hD := hD0.self (sz := s.heap.size)
  generalize hAe : va_A [] s.heap.size = A at hD hZ ⊢
  have hA : ∀ q : Nat, s.heap.size ≤ q → A q := fun q h => by rw [← hAe]; exact Or.inr h
  have hS : va_S A s.heap s.heap [] := va_S.rf
  have hP : va_P D xcl [] s.heap := hP
  have hl := lv_entry ([.ref (aV 12), .int 3]) (n := 2) (Nat.le_of_ble_eq_true rfl)
  rw [lg_entry_eq]
  generalize (lg_sl ([.ref (aV 12), .int 3]) ++ List.replicate (2 - (lg_sl ([.ref (aV 12), .int 3])).length) Slot.unset).toArray = ls at hl ⊢
  have hl : lv_has ls 2 [(0, .ref (aV 12)), (1, .int 3)] := hl
  refine lv_iload_n hx hb dJT_charAt_0 rfl (lv_at hl 1 rfl) ?_
  refine lv_aload_n hx hb dJT_charAt_1 rfl (lv_at hl 0 rfl) ?_
  refine va_tlen (v := 4) hx hb (hZ.2.2.2.2.2.2.2.2.2.1.1 12 (by decide)).2.2.2 hS rfl dJT_charAt_2 ?_
  obtain ⟨hPc, hDc, hFc⟩ := xcut (wc := []) hP hD hS hA [] rfl rfl (by decide)
  refine va_callv (va_runS (As := [.int 3, .int 4]) (rest := []) ⟨hx, hb, hml, hown, htx⟩ (cJS_checkIndex_3 l hl9 D cT aK aV s.heap.size) ⟨callB_of 2 htx (xw_goodC kw_2_90) rfl rfl rfl (htx _ kw_1_6) (htx _ kw_2_88) ⟨by decide, by decide, by decide +kernel⟩ ⟨Nat.le_of_ble_eq_true rfl, Nat.le_of_ble_eq_true rfl⟩, htx _ kw_2_89⟩ ⟨xPre_blind, (fun U hU hW => ⟨rfl, xPre_of hZ hS hFc hPc hDc hK U hU hW⟩)⟩ rfl rfl hl.1 rfl (lv_room (Nat.le_of_ble_eq_true rfl)) dJT_charAt_3 ⟨Nat.le_of_ble_eq_true rfl, Nat.le_of_ble_eq_true rfl⟩) hS (fun q _ h => hFc q h) hFc (fun u9 t H1 locs ht hvm hr9 hB hz1 hk1 hS => ?_)
  obtain ⟨hP1, hK1, hD1⟩ := hB
  rw [ht] at hP1
  obtain ⟨hP, hD⟩ := xjoin (W := []) hP hD [] [] 0 rfl rfl (by decide) (by decide) hk1 hFc hP1 hD1
  generalize H1 = H at hP hS ⊢
  refine lv_aload_n hx hb dJT_charAt_6 rfl (lv_at hl 0 rfl) ?_
  refine lv_iload_n hx hb dJT_charAt_7 rfl (lv_at hl 1 rfl) ?_
  refine va_tb (v := .int 101) hx hb (hZ.2.2.2.2.2.2.2.2.2.1.1 12 (by decide)).2.2.2 hS (show ¬ ((3 : Int32) < 0 ∨ 4 ≤ (3 : Int32).toNatClampNeg) by decide) rfl dJT_charAt_8 ?_
  refine lv_sipush (v := 255) hx hb dJT_charAt_9 (by decide) ?_
  refine lv_iand hx hb dJT_charAt_12 ?_
  refine W.eq (g2 := F0 m 13 ls [.int 101]) rfl ?_
  refine lv_i2c hx hb dJT_charAt_13 rfl ?_
  refine W.eq (g2 := F0 m 14 ls [.int 101]) rfl ?_
  obtain ⟨hP9, hD9⟩ := xsub (wc := []) hP hD [] rfl rfl (by decide)
  refine W.widen (k := 0) (n := 0) (Nat.le_of_ble_eq_true rfl) (Nat.le_of_ble_eq_true rfl) ?_
  exact W.zret (v := 101) hx hb hr rfl (fun t ht hW => ⟨⟨101, (), rfl, rfl, by rw [ht]; exact hP9, va_K.moved hW.alike hK, hD9⟩, hS.F ht⟩) hS.2.2 dJT_charAt_14
set_option maxHeartbeats 400000000 in
set_option maxRecDepth 100000 in
theorem cJS_charAt_7 (l : Launch) (hl9 : l.stackTraces = false) (D : va_G) (cT : Nat → ClassId) (aK aV : Nat → Nat) (sz : Nat) : xMet l yJS_charAt wyJS_charAt 3 0 0 64 D cT aK aV sz [.ref (aK 12), .int 3] [] (fun A => va_Qi (fun (r : Int32) (_ : Unit) => r = 101) (fun _ t => xB D xcl cT A [] t) A) := by
  refine Met.ofW (cc := prog_23_method_56_code) (maxL := 2) (ret := (some .char)) (by decide) rfl ?_
  intro p e s m args below meth c s₁ B hml hv
  obtain ⟨rfl, hsz, hZ, hP, hK, hD0⟩ := hv
  have hx := B.exec
  have hb := B.bytes
  have hr := B.returns
  have hts := atoms_spec (ws := wyJS_charAt) B.pre
  have htx := fun w h => hts w (List.mem_cons_of_mem _ h)
  have hown : s.vm.findClass "java/lang/String" = some m.cls := findClass_of_methodNamed B.named
  have hlocks := B.notSynchronized
  subst hsz
  have hD := hD0.self (sz := s.heap.size)
  generalize hAe : va_A [] s.heap.size = A at hD hZ ⊢
  have hA : ∀ q : Nat, s.heap.size ≤ q → A q := fun q h => by rw [← hAe]; exact Or.inr h
  have hS : va_S A s.heap s.heap [] := va_S.rf
  have hP : va_P D xcl [] s.heap := hP
  have hl := lv_entry ([.ref (aK 12), .int 3]) (n := 2) (Nat.le_of_ble_eq_true rfl)
  rw [lg_entry_eq]
  generalize (lg_sl ([.ref (aK 12), .int 3]) ++ List.replicate (2 - (lg_sl ([.ref (aK 12), .int 3])).length) Slot.unset).toArray = ls at hl ⊢
  have hl : lv_has ls 2 [(0, .ref (aK 12)), (1, .int 3)] := hl
  refine lv_aload_n hx hb dJS_charAt_0 rfl (lv_at hl 0 rfl) ?_
  obtain ⟨hPc, hDc, hFc⟩ := xcut (wc := []) hP hD hS hA [] rfl rfl (by decide)
  refine va_calli (va_runV (C := "java/lang/String") (As := []) (rest := []) ⟨hx, hb, hml, hown, htx⟩ (cJS_isLatin1_1 l hl9 D cT aK aV s.heap.size) ⟨callB_of 0 htx (xw_goodC kw_2_84) rfl rfl rfl (htx _ kw_1_6) (htx _ kw_2_81) ⟨by decide, by decide, by decide +kernel⟩ ⟨Nat.le_of_ble_eq_true rfl, Nat.le_of_ble_eq_true rfl⟩, (htx _ kw_2_82), (htx _ kw_2_83)⟩ ⟨xPre_blind, vk_recv hZ.2.2.2.2.2.2.2.2.2.1 (i := 12) (by decide) hS, (fun U hU hW => ⟨rfl, xPre_of hZ hS hFc hPc hDc hK U hU hW⟩)⟩ rfl rfl hl.1 rfl (lv_room (Nat.le_of_ble_eq_true rfl)) dJS_charAt_1 ⟨Nat.le_of_ble_eq_true rfl, Nat.le_of_ble_eq_true rfl⟩) hS (fun q _ h => hFc q h) hFc (fun r1 u9 t H1 locs ht hvm hr9 hB hz1 hk1 hS => ?_)
  obtain ⟨hP1, hK1, hD1⟩ := hB
  rw [ht] at hP1
  obtain ⟨hP, hD⟩ := xjoin (W := []) hP hD [] [] 0 rfl rfl (by decide) (by decide) hk1 hFc hP1 hD1
  generalize H1 = H at hP hS ⊢
  rw [hr9]
  refine W.eq (g2 := F0 m 4 ls [.int 1]) rfl ?_
  refine lv_if_eq (tgt := 16) hx hb dJS_charAt_4 (by decide) (fun h => ((by revert h; decide : False)).elim) (fun _ => ?_)
  refine lv_aload_n hx hb dJS_charAt_7 rfl (lv_at hl 0 rfl) ?_
  refine vk_getf (o := "java/lang/String") (n := "value") (d := "[B") (v := .ref (aV 12)) hx hb (hZ.2.2.2.2.2.2.2.2.2.1.1 12 (by decide)).2.2.1 hS hown (htx _ kw_7_134) (fun _ h9 => h9) dJS_charAt_8 ?_
  refine lv_iload_n hx hb dJS_charAt_11 rfl (lv_at hl 1 rfl) ?_
  obtain ⟨hPc, hDc, hFc⟩ := xcut (wc := []) hP hD hS hA [] rfl rfl (by decide)
  refine va_calli (va_runS (As := [.ref (aV 12), .int 3]) (rest := []) ⟨hx, hb, hml, hown, htx⟩ (cJT_charAt_7 l hl9 D cT aK aV H.size) ⟨callB_of 2 htx (xw_goodC kw_2_87) rfl rfl rfl (htx _ kw_1_7) (htx _ kw_2_85) ⟨by decide, by decide, by decide +kernel⟩ ⟨Nat.le_of_ble_eq_true rfl, Nat.le_of_ble_eq_true rfl⟩, htx _ kw_2_86⟩ ⟨xPre_blind, (fun U hU hW => ⟨rfl, xPre_of hZ hS hFc hPc hDc hK U hU hW⟩)⟩ rfl rfl hl.1 rfl (lv_room (Nat.le_of_ble_eq_true rfl)) dJS_charAt_12 ⟨Nat.le_of_ble_eq_true rfl, Nat.le_of_ble_eq_true rfl⟩) hS (fun q _ h => hFc q h) hFc (fun r2 u9 t H1 locs ht hvm hr9 hB hz1 hk1 hS => ?_)
  obtain ⟨hP1, hK1, hD1⟩ := hB
  rw [ht] at hP1
  obtain ⟨hP, hD⟩ := xjoin (W := []) hP hD [] [] 0 rfl rfl (by decide) (by decide) hk1 hFc hP1 hD1
  generalize H1 = H at hP hS ⊢
  rw [hr9]
  refine W.eq (g2 := F0 m 15 ls [.int 101]) rfl ?_
  obtain ⟨hP9, hD9⟩ := xsub (wc := []) hP hD [] rfl rfl (by decide)
  refine W.widen (k := 0) (n := 0) (Nat.le_of_ble_eq_true rfl) (Nat.le_of_ble_eq_true rfl) ?_
  exact W.zret (v := 101) hx hb hr rfl (fun t ht hW => ⟨⟨101, (), rfl, rfl, by rw [ht]; exact hP9, va_K.moved hW.alike hK, hD9⟩, hS.F ht⟩) hS.2.2 dJS_charAt_15
set_option maxHeartbeats 400000000 in
set_option maxRecDepth 100000 in
theorem cT_addWord_2 (l : Launch) (hl9 : l.stackTraces = false) (D : va_G) (cT : Nat → ClassId) (aK aV : Nat → Nat) (sz : Nat) (a0 : Nat) (a1 : Nat) (v2 : Value) (f3 : Nat → Int32) : xMet l yT_addWord wyT_addWord 4 0 0 85 D cT aK aV sz [.ref a0, .ref (aK 12)] [(a0, .inr (1, [.ref a1, .int 0, v2])), (a1, .inl (cT 0, 4096, .inl f3))] (fun A => va_Qv (fun _ : Unit => True) (fun _ t => ∃ (y3 : Int32) (y6 : Int32) (y9 : Int32) (y12 : Int32), xB D xcl cT A [(a0, .inr (1, [.ref a1, .int 4, v2])), (a1, .inl (cT 0, 4096, .inl (upd (upd (upd (upd f3 0 (vp_nar .byte y3)) 1 (vp_nar .byte y6)) 2 (vp_nar .byte y9)) 3 (vp_nar .byte y12))))] t) A) := by
  refine Met.ofW (cc := prog_11_method_10_code) (maxL := 3) (ret := none) (by decide) rfl ?_
  intro p e s m args below meth c s₁ B hml hv
  obtain ⟨rfl, hsz, hZ, hP, hK, hD0⟩ := hv
  have hx := B.exec
  have hb := B.bytes
  have hr := B.returns
  have hts := atoms_spec (ws := wyT_addWord) B.pre
  have htx := fun w h => hts w (List.mem_cons_of_mem _ h)
  have hown : s.vm.findClass "ValueBench$Text" = some m.cls := findClass_of_methodNamed B.named
  have hlocks := B.notSynchronized
  subst hsz
  have hD := hD0.self (sz := s.heap.size)
  generalize hAe : va_A [(a0, .inr (1, [.ref a1, .int 0, v2])), (a1, .inl (cT 0, 4096, .inl f3))] s.heap.size = A at hD hZ ⊢
  have hA : ∀ q : Nat, s.heap.size ≤ q → A q := fun q h => by rw [← hAe]; exact Or.inr h
  have hS : va_S A s.heap s.heap [] := va_S.rf
  have hP : va_P D xcl [(a0, .inr (1, [.ref a1, .int 0, v2])), (a1, .inl (cT 0, 4096, .inl f3))] s.heap := hP
  have hl := lv_entry ([.ref a0, .ref (aK 12)]) (n := 3) (Nat.le_of_ble_eq_true rfl)
  rw [lg_entry_eq]
  generalize (lg_sl ([.ref a0, .ref (aK 12)]) ++ List.replicate (3 - (lg_sl ([.ref a0, .ref (aK 12)])).length) Slot.unset).toArray = ls at hl ⊢
  have hl : lv_has ls 3 [(0, .ref a0), (1, .ref (aK 12))] := hl
  refine lv_iconst (v := 0) hx hb dT_addWord_0 (by decide) ?_
  refine lv_istore_n (lv' := [(2, .int 0), (0, .ref a0), (1, .ref (aK 12))]) hx hb dT_addWord_1 rfl hl (by decide) rfl (fun ls hl => ?_)
  refine lv_iload_n hx hb dT_addWord_2 rfl (lv_at hl 0 rfl) ?_
  refine lv_aload_n hx hb dT_addWord_3 rfl (lv_at hl 2 rfl) ?_
  obtain ⟨hPc, hDc, hFc⟩ := xcut (wc := []) hP hD hS hA [] rfl rfl (by decide)
  refine va_calli (va_runV (C := "java/lang/String") (As := []) (rest := [.int 0]) ⟨hx, hb, hml, hown, htx⟩ (cJS_length_1 l hl9 D cT aK aV s.heap.size) ⟨callB_of 0 htx (xw_goodC kw_2_70) rfl rfl rfl (htx _ kw_1_6) (htx _ kw_3_30) ⟨by decide, by decide, by decide +kernel⟩ ⟨Nat.le_of_ble_eq_true rfl, Nat.le_of_ble_eq_true rfl⟩, (htx _ kw_2_68), (htx _ kw_2_69)⟩ ⟨xPre_blind, vk_recv hZ.2.2.2.2.2.2.2.2.2.1 (i := 12) (by decide) hS, (fun U hU hW => ⟨rfl, xPre_of hZ hS hFc hPc hDc hK U hU hW⟩)⟩ rfl rfl hl.1 rfl (lv_room (Nat.le_of_ble_eq_true rfl)) dT_addWord_4 ⟨Nat.le_of_ble_eq_true rfl, Nat.le_of_ble_eq_true rfl⟩) hS (fun q _ h => hFc q h) hFc (fun r1 u9 t H1 locs ht hvm hr9 hB hz1 hk1 hS => ?_)
  obtain ⟨hP1, hK1, hD1⟩ := hB
  rw [ht] at hP1
  obtain ⟨hP, hD⟩ := xjoin (W := [(a0, .inr (1, [.ref a1, .int 0, v2])), (a1, .inl (cT 0, 4096, .inl f3))]) hP hD [] [0, 1] 2 rfl rfl (by decide) (by decide) hk1 hFc hP1 hD1
  generalize H1 = H at hP hS ⊢
  rw [hr9]
  refine W.eq (g2 := F0 m 7 ls [.int 4, .int 0]) rfl ?_
  refine lv_icmp_ge (tgt := 25) hx hb dT_addWord_7 (by decide) (fun h => ((by revert h; decide : False)).elim) (fun _ => ?_)
  refine lv_aload_n hx hb dT_addWord_10 rfl (lv_at hl 1 rfl) ?_
  refine lv_aload_n hx hb dT_addWord_11 rfl (lv_at hl 2 rfl) ?_
  refine lv_iload_n hx hb dT_addWord_12 rfl (lv_at hl 0 rfl) ?_
  obtain ⟨hPc, hDc, hFc⟩ := xcut (wc := []) hP hD hS hA [] rfl rfl (by decide)
  refine va_calli (va_runV (C := "java/lang/String") (As := [.int 0]) (rest := [.ref a0]) ⟨hx, hb, hml, hown, htx⟩ (cJS_charAt_4 l hl9 D cT aK aV H.size) ⟨callB_of 1 htx (xw_goodC kw_2_80) rfl rfl rfl (htx _ kw_1_6) (htx _ kw_3_31) ⟨by decide, by decide, by decide +kernel⟩ ⟨Nat.le_of_ble_eq_true rfl, Nat.le_of_ble_eq_true rfl⟩, (htx _ kw_2_78), (htx _ kw_2_79)⟩ ⟨xPre_blind, vk_recv hZ.2.2.2.2.2.2.2.2.2.1 (i := 12) (by decide) hS, (fun U hU hW => ⟨rfl, xPre_of hZ hS hFc hPc hDc hK U hU hW⟩)⟩ rfl rfl hl.1 rfl (lv_room (Nat.le_of_ble_eq_true rfl)) dT_addWord_13 ⟨Nat.le_of_ble_eq_true rfl, Nat.le_of_ble_eq_true rfl⟩) hS (fun q _ h => hFc q h) hFc (fun r2 u9 t H1 locs ht hvm hr9 hB hz1 hk1 hS => ?_)
  obtain ⟨hP1, hK1, hD1⟩ := hB
  rw [ht] at hP1
  obtain ⟨hP, hD⟩ := xjoin (W := [(a0, .inr (1, [.ref a1, .int 0, v2])), (a1, .inl (cT 0, 4096, .inl f3))]) hP hD [] [0, 1] 2 rfl rfl (by decide) (by decide) hk1 hFc hP1 hD1
  generalize H1 = H at hP hS ⊢
  rw [hr9]
  refine W.eq (g2 := F0 m 16 ls [.int 116, .ref a0]) rfl ?_
  obtain ⟨hPc, hDc, hFc⟩ := xcut (wc := [(a0, .inr (1, [.ref a1, .int 0, v2])), (a1, .inl (cT 0, 4096, .inl f3))]) hP hD hS hA [0, 1] rfl rfl (by decide)
  refine va_callv (va_runV (C := "ValueBench$Text") (As := [.int 116]) (rest := []) ⟨hx, hb, hml, hown, htx⟩ (cT_add_0 l hl9 D cT aK aV H.size a0 a1 116 v2 f3) ⟨callB_of 1 htx (xw_goodC kw_1_207) rfl rfl rfl (htx _ kw_1_2) (htx _ kw_1_204) ⟨by decide, by decide, by decide +kernel⟩ ⟨Nat.le_of_ble_eq_true rfl, Nat.le_of_ble_eq_true rfl⟩, (htx _ kw_1_205), (htx _ kw_1_206)⟩ ⟨xPre_blind, va_recv hK hP (ci := 1) rfl (q0 := 0) rfl, (fun U hU hW => ⟨rfl, xPre_of hZ hS hFc hPc hDc hK U hU hW⟩)⟩ rfl rfl hl.1 rfl (lv_room (Nat.le_of_ble_eq_true rfl)) dT_addWord_16 ⟨Nat.le_of_ble_eq_true rfl, Nat.le_of_ble_eq_true rfl⟩) hS (fun q _ h => hFc q h) hFc (fun u9 t H1 locs ht hvm hr9 hB hz1 hk1 hS => ?_)
  obtain ⟨y3, hP1, hK1, hD1⟩ := hB
  rw [ht] at hP1
  obtain ⟨hP, hD⟩ := xjoin (W := [(a0, .inr (1, [.ref a1, .int 1, v2])), (a1, .inl (cT 0, 4096, .inl (upd f3 0 (vp_nar .byte y3))))]) hP hD [0, 1] [] 0 rfl rfl (by decide) (by decide) hk1 hFc hP1 hD1
  generalize H1 = H at hP hS ⊢
  refine lv_iinc (v := 1) (lv' := [(2, .int 1), (0, .ref a0), (1, .ref (aK 12))]) hx hb dT_addWord_19 hl (k := 0) rfl (by decide) (by decide) rfl (fun ls hl => ?_)
  refine lv_goto (tgt := 2) hx hb dT_addWord_22 (by decide) ?_
  refine lv_iload_n hx hb dT_addWord_2 rfl (lv_at hl 0 rfl) ?_
  refine lv_aload_n hx hb dT_addWord_3 rfl (lv_at hl 2 rfl) ?_
  obtain ⟨hPc, hDc, hFc⟩ := xcut (wc := []) hP hD hS hA [] rfl rfl (by decide)
  refine va_calli (va_runV (C := "java/lang/String") (As := []) (rest := [.int 1]) ⟨hx, hb, hml, hown, htx⟩ (cJS_length_1 l hl9 D cT aK aV H.size) ⟨callB_of 0 htx (xw_goodC kw_2_70) rfl rfl rfl (htx _ kw_1_6) (htx _ kw_3_30) ⟨by decide, by decide, by decide +kernel⟩ ⟨Nat.le_of_ble_eq_true rfl, Nat.le_of_ble_eq_true rfl⟩, (htx _ kw_2_68), (htx _ kw_2_69)⟩ ⟨xPre_blind, vk_recv hZ.2.2.2.2.2.2.2.2.2.1 (i := 12) (by decide) hS, (fun U hU hW => ⟨rfl, xPre_of hZ hS hFc hPc hDc hK U hU hW⟩)⟩ rfl rfl hl.1 rfl (lv_room (Nat.le_of_ble_eq_true rfl)) dT_addWord_4 ⟨Nat.le_of_ble_eq_true rfl, Nat.le_of_ble_eq_true rfl⟩) hS (fun q _ h => hFc q h) hFc (fun r4 u9 t H1 locs ht hvm hr9 hB hz1 hk1 hS => ?_)
  obtain ⟨hP1, hK1, hD1⟩ := hB
  rw [ht] at hP1
  obtain ⟨hP, hD⟩ := xjoin (W := [(a0, .inr (1, [.ref a1, .int 1, v2])), (a1, .inl (cT 0, 4096, .inl (upd f3 0 (vp_nar .byte y3))))]) hP hD [] [0, 1] 2 rfl rfl (by decide) (by decide) hk1 hFc hP1 hD1
  generalize H1 = H at hP hS ⊢
  rw [hr9]
  refine W.eq (g2 := F0 m 7 ls [.int 4, .int 1]) rfl ?_
  refine lv_icmp_ge (tgt := 25) hx hb dT_addWord_7 (by decide) (fun h => ((by revert h; decide : False)).elim) (fun _ => ?_)
  refine lv_aload_n hx hb dT_addWord_10 rfl (lv_at hl 1 rfl) ?_
  refine lv_aload_n hx hb dT_addWord_11 rfl (lv_at hl 2 rfl) ?_
  refine lv_iload_n hx hb dT_addWord_12 rfl (lv_at hl 0 rfl) ?_
  obtain ⟨hPc, hDc, hFc⟩ := xcut (wc := []) hP hD hS hA [] rfl rfl (by decide)
  refine va_calli (va_runV (C := "java/lang/String") (As := [.int 1]) (rest := [.ref a0]) ⟨hx, hb, hml, hown, htx⟩ (cJS_charAt_5 l hl9 D cT aK aV H.size) ⟨callB_of 1 htx (xw_goodC kw_2_80) rfl rfl rfl (htx _ kw_1_6) (htx _ kw_3_31) ⟨by decide, by decide, by decide +kernel⟩ ⟨Nat.le_of_ble_eq_true rfl, Nat.le_of_ble_eq_true rfl⟩, (htx _ kw_2_78), (htx _ kw_2_79)⟩ ⟨xPre_blind, vk_recv hZ.2.2.2.2.2.2.2.2.2.1 (i := 12) (by decide) hS, (fun U hU hW => ⟨rfl, xPre_of hZ hS hFc hPc hDc hK U hU hW⟩)⟩ rfl rfl hl.1 rfl (lv_room (Nat.le_of_ble_eq_true rfl)) dT_addWord_13 ⟨Nat.le_of_ble_eq_true rfl, Nat.le_of_ble_eq_true rfl⟩) hS (fun q _ h => hFc q h) hFc (fun r5 u9 t H1 locs ht hvm hr9 hB hz1 hk1 hS => ?_)
  obtain ⟨hP1, hK1, hD1⟩ := hB
  rw [ht] at hP1
  obtain ⟨hP, hD⟩ := xjoin (W := [(a0, .inr (1, [.ref a1, .int 1, v2])), (a1, .inl (cT 0, 4096, .inl (upd f3 0 (vp_nar .byte y3))))]) hP hD [] [0, 1] 2 rfl rfl (by decide) (by decide) hk1 hFc hP1 hD1
  generalize H1 = H at hP hS ⊢
  rw [hr9]
  refine W.eq (g2 := F0 m 16 ls [.int 114, .ref a0]) rfl ?_
  obtain ⟨hPc, hDc, hFc⟩ := xcut (wc := [(a0, .inr (1, [.ref a1, .int 1, v2])), (a1, .inl (cT 0, 4096, .inl (upd f3 0 (vp_nar .byte y3))))]) hP hD hS hA [0, 1] rfl rfl (by decide)
  refine va_callv (va_runV (C := "ValueBench$Text") (As := [.int 114]) (rest := []) ⟨hx, hb, hml, hown, htx⟩ (cT_add_1 l hl9 D cT aK aV H.size a0 a1 114 v2 (upd f3 0 (vp_nar .byte y3))) ⟨callB_of 1 htx (xw_goodC kw_1_207) rfl rfl rfl (htx _ kw_1_2) (htx _ kw_1_204) ⟨by decide, by decide, by decide +kernel⟩ ⟨Nat.le_of_ble_eq_true rfl, Nat.le_of_ble_eq_true rfl⟩, (htx _ kw_1_205), (htx _ kw_1_206)⟩ ⟨xPre_blind, va_recv hK hP (ci := 1) rfl (q0 := 0) rfl, (fun U hU hW => ⟨rfl, xPre_of hZ hS hFc hPc hDc hK U hU hW⟩)⟩ rfl rfl hl.1 rfl (lv_room (Nat.le_of_ble_eq_true rfl)) dT_addWord_16 ⟨Nat.le_of_ble_eq_true rfl, Nat.le_of_ble_eq_true rfl⟩) hS (fun q _ h => hFc q h) hFc (fun u9 t H1 locs ht hvm hr9 hB hz1 hk1 hS => ?_)
  obtain ⟨y6, hP1, hK1, hD1⟩ := hB
  rw [ht] at hP1
  obtain ⟨hP, hD⟩ := xjoin (W := [(a0, .inr (1, [.ref a1, .int 2, v2])), (a1, .inl (cT 0, 4096, .inl (upd (upd f3 0 (vp_nar .byte y3)) 1 (vp_nar .byte y6))))]) hP hD [0, 1] [] 0 rfl rfl (by decide) (by decide) hk1 hFc hP1 hD1
  generalize H1 = H at hP hS ⊢
  refine lv_iinc (v := 2) (lv' := [(2, .int 2), (0, .ref a0), (1, .ref (aK 12))]) hx hb dT_addWord_19 hl (k := 0) rfl (by decide) (by decide) rfl (fun ls hl => ?_)
  refine lv_goto (tgt := 2) hx hb dT_addWord_22 (by decide) ?_
  refine lv_iload_n hx hb dT_addWord_2 rfl (lv_at hl 0 rfl) ?_
  refine lv_aload_n hx hb dT_addWord_3 rfl (lv_at hl 2 rfl) ?_
  obtain ⟨hPc, hDc, hFc⟩ := xcut (wc := []) hP hD hS hA [] rfl rfl (by decide)
  refine va_calli (va_runV (C := "java/lang/String") (As := []) (rest := [.int 2]) ⟨hx, hb, hml, hown, htx⟩ (cJS_length_1 l hl9 D cT aK aV H.size) ⟨callB_of 0 htx (xw_goodC kw_2_70) rfl rfl rfl (htx _ kw_1_6) (htx _ kw_3_30) ⟨by decide, by decide, by decide +kernel⟩ ⟨Nat.le_of_ble_eq_true rfl, Nat.le_of_ble_eq_true rfl⟩, (htx _ kw_2_68), (htx _ kw_2_69)⟩ ⟨xPre_blind, vk_recv hZ.2.2.2.2.2.2.2.2.2.1 (i := 12) (by decide) hS, (fun U hU hW => ⟨rfl, xPre_of hZ hS hFc hPc hDc hK U hU hW⟩)⟩ rfl rfl hl.1 rfl (lv_room (Nat.le_of_ble_eq_true rfl)) dT_addWord_4 ⟨Nat.le_of_ble_eq_true rfl, Nat.le_of_ble_eq_true rfl⟩) hS (fun q _ h => hFc q h) hFc (fun r7 u9 t H1 locs ht hvm hr9 hB hz1 hk1 hS => ?_)
  obtain ⟨hP1, hK1, hD1⟩ := hB
  rw [ht] at hP1
  obtain ⟨hP, hD⟩ := xjoin (W := [(a0, .inr (1, [.ref a1, .int 2, v2])), (a1, .inl (cT 0, 4096, .inl (upd (upd f3 0 (vp_nar .byte y3)) 1 (vp_nar .byte y6))))]) hP hD [] [0, 1] 2 rfl rfl (by decide) (by decide) hk1 hFc hP1 hD1
  generalize H1 = H at hP hS ⊢
  rw [hr9]
  refine W.eq (g2 := F0 m 7 ls [.int 4, .int 2]) rfl ?_
  refine lv_icmp_ge (tgt := 25) hx hb dT_addWord_7 (by decide) (fun h => ((by revert h; decide : False)).elim) (fun _ => ?_)
  refine lv_aload_n hx hb dT_addWord_10 rfl (lv_at hl 1 rfl) ?_
  refine lv_aload_n hx hb dT_addWord_11 rfl (lv_at hl 2 rfl) ?_
  refine lv_iload_n hx hb dT_addWord_12 rfl (lv_at hl 0 rfl) ?_
  obtain ⟨hPc, hDc, hFc⟩ := xcut (wc := []) hP hD hS hA [] rfl rfl (by decide)
  refine va_calli (va_runV (C := "java/lang/String") (As := [.int 2]) (rest := [.ref a0]) ⟨hx, hb, hml, hown, htx⟩ (cJS_charAt_6 l hl9 D cT aK aV H.size) ⟨callB_of 1 htx (xw_goodC kw_2_80) rfl rfl rfl (htx _ kw_1_6) (htx _ kw_3_31) ⟨by decide, by decide, by decide +kernel⟩ ⟨Nat.le_of_ble_eq_true rfl, Nat.le_of_ble_eq_true rfl⟩, (htx _ kw_2_78), (htx _ kw_2_79)⟩ ⟨xPre_blind, vk_recv hZ.2.2.2.2.2.2.2.2.2.1 (i := 12) (by decide) hS, (fun U hU hW => ⟨rfl, xPre_of hZ hS hFc hPc hDc hK U hU hW⟩)⟩ rfl rfl hl.1 rfl (lv_room (Nat.le_of_ble_eq_true rfl)) dT_addWord_13 ⟨Nat.le_of_ble_eq_true rfl, Nat.le_of_ble_eq_true rfl⟩) hS (fun q _ h => hFc q h) hFc (fun r8 u9 t H1 locs ht hvm hr9 hB hz1 hk1 hS => ?_)
  obtain ⟨hP1, hK1, hD1⟩ := hB
  rw [ht] at hP1
  obtain ⟨hP, hD⟩ := xjoin (W := [(a0, .inr (1, [.ref a1, .int 2, v2])), (a1, .inl (cT 0, 4096, .inl (upd (upd f3 0 (vp_nar .byte y3)) 1 (vp_nar .byte y6))))]) hP hD [] [0, 1] 2 rfl rfl (by decide) (by decide) hk1 hFc hP1 hD1
  generalize H1 = H at hP hS ⊢
  rw [hr9]
  refine W.eq (g2 := F0 m 16 ls [.int 117, .ref a0]) rfl ?_
  obtain ⟨hPc, hDc, hFc⟩ := xcut (wc := [(a0, .inr (1, [.ref a1, .int 2, v2])), (a1, .inl (cT 0, 4096, .inl (upd (upd f3 0 (vp_nar .byte y3)) 1 (vp_nar .byte y6))))]) hP hD hS hA [0, 1] rfl rfl (by decide)
  refine va_callv (va_runV (C := "ValueBench$Text") (As := [.int 117]) (rest := []) ⟨hx, hb, hml, hown, htx⟩ (cT_add_2 l hl9 D cT aK aV H.size a0 a1 117 v2 (upd (upd f3 0 (vp_nar .byte y3)) 1 (vp_nar .byte y6))) ⟨callB_of 1 htx (xw_goodC kw_1_207) rfl rfl rfl (htx _ kw_1_2) (htx _ kw_1_204) ⟨by decide, by decide, by decide +kernel⟩ ⟨Nat.le_of_ble_eq_true rfl, Nat.le_of_ble_eq_true rfl⟩, (htx _ kw_1_205), (htx _ kw_1_206)⟩ ⟨xPre_blind, va_recv hK hP (ci := 1) rfl (q0 := 0) rfl, (fun U hU hW => ⟨rfl, xPre_of hZ hS hFc hPc hDc hK U hU hW⟩)⟩ rfl rfl hl.1 rfl (lv_room (Nat.le_of_ble_eq_true rfl)) dT_addWord_16 ⟨Nat.le_of_ble_eq_true rfl, Nat.le_of_ble_eq_true rfl⟩) hS (fun q _ h => hFc q h) hFc (fun u9 t H1 locs ht hvm hr9 hB hz1 hk1 hS => ?_)
  obtain ⟨y9, hP1, hK1, hD1⟩ := hB
  rw [ht] at hP1
  obtain ⟨hP, hD⟩ := xjoin (W := [(a0, .inr (1, [.ref a1, .int 3, v2])), (a1, .inl (cT 0, 4096, .inl (upd (upd (upd f3 0 (vp_nar .byte y3)) 1 (vp_nar .byte y6)) 2 (vp_nar .byte y9))))]) hP hD [0, 1] [] 0 rfl rfl (by decide) (by decide) hk1 hFc hP1 hD1
  generalize H1 = H at hP hS ⊢
  refine lv_iinc (v := 3) (lv' := [(2, .int 3), (0, .ref a0), (1, .ref (aK 12))]) hx hb dT_addWord_19 hl (k := 0) rfl (by decide) (by decide) rfl (fun ls hl => ?_)
  refine lv_goto (tgt := 2) hx hb dT_addWord_22 (by decide) ?_
  refine lv_iload_n hx hb dT_addWord_2 rfl (lv_at hl 0 rfl) ?_
  refine lv_aload_n hx hb dT_addWord_3 rfl (lv_at hl 2 rfl) ?_
  obtain ⟨hPc, hDc, hFc⟩ := xcut (wc := []) hP hD hS hA [] rfl rfl (by decide)
  refine va_calli (va_runV (C := "java/lang/String") (As := []) (rest := [.int 3]) ⟨hx, hb, hml, hown, htx⟩ (cJS_length_1 l hl9 D cT aK aV H.size) ⟨callB_of 0 htx (xw_goodC kw_2_70) rfl rfl rfl (htx _ kw_1_6) (htx _ kw_3_30) ⟨by decide, by decide, by decide +kernel⟩ ⟨Nat.le_of_ble_eq_true rfl, Nat.le_of_ble_eq_true rfl⟩, (htx _ kw_2_68), (htx _ kw_2_69)⟩ ⟨xPre_blind, vk_recv hZ.2.2.2.2.2.2.2.2.2.1 (i := 12) (by decide) hS, (fun U hU hW => ⟨rfl, xPre_of hZ hS hFc hPc hDc hK U hU hW⟩)⟩ rfl rfl hl.1 rfl (lv_room (Nat.le_of_ble_eq_true rfl)) dT_addWord_4 ⟨Nat.le_of_ble_eq_true rfl, Nat.le_of_ble_eq_true rfl⟩) hS (fun q _ h => hFc q h) hFc (fun r10 u9 t H1 locs ht hvm hr9 hB hz1 hk1 hS => ?_)
  obtain ⟨hP1, hK1, hD1⟩ := hB
  rw [ht] at hP1
  obtain ⟨hP, hD⟩ := xjoin (W := [(a0, .inr (1, [.ref a1, .int 3, v2])), (a1, .inl (cT 0, 4096, .inl (upd (upd (upd f3 0 (vp_nar .byte y3)) 1 (vp_nar .byte y6)) 2 (vp_nar .byte y9))))]) hP hD [] [0, 1] 2 rfl rfl (by decide) (by decide) hk1 hFc hP1 hD1
  generalize H1 = H at hP hS ⊢
  rw [hr9]
  refine W.eq (g2 := F0 m 7 ls [.int 4, .int 3]) rfl ?_
  refine lv_icmp_ge (tgt := 25) hx hb dT_addWord_7 (by decide) (fun h => ((by revert h; decide : False)).elim) (fun _ => ?_)
  refine lv_aload_n hx hb dT_addWord_10 rfl (lv_at hl 1 rfl) ?_
  refine lv_aload_n hx hb dT_addWord_11 rfl (lv_at hl 2 rfl) ?_
  refine lv_iload_n hx hb dT_addWord_12 rfl (lv_at hl 0 rfl) ?_
  obtain ⟨hPc, hDc, hFc⟩ := xcut (wc := []) hP hD hS hA [] rfl rfl (by decide)
  refine va_calli (va_runV (C := "java/lang/String") (As := [.int 3]) (rest := [.ref a0]) ⟨hx, hb, hml, hown, htx⟩ (cJS_charAt_7 l hl9 D cT aK aV H.size) ⟨callB_of 1 htx (xw_goodC kw_2_80) rfl rfl rfl (htx _ kw_1_6) (htx _ kw_3_31) ⟨by decide, by decide, by decide +kernel⟩ ⟨Nat.le_of_ble_eq_true rfl, Nat.le_of_ble_eq_true rfl⟩, (htx _ kw_2_78), (htx _ kw_2_79)⟩ ⟨xPre_blind, vk_recv hZ.2.2.2.2.2.2.2.2.2.1 (i := 12) (by decide) hS, (fun U hU hW => ⟨rfl, xPre_of hZ hS hFc hPc hDc hK U hU hW⟩)⟩ rfl rfl hl.1 rfl (lv_room (Nat.le_of_ble_eq_true rfl)) dT_addWord_13 ⟨Nat.le_of_ble_eq_true rfl, Nat.le_of_ble_eq_true rfl⟩) hS (fun q _ h => hFc q h) hFc (fun r11 u9 t H1 locs ht hvm hr9 hB hz1 hk1 hS => ?_)
  obtain ⟨hP1, hK1, hD1⟩ := hB
  rw [ht] at hP1
  obtain ⟨hP, hD⟩ := xjoin (W := [(a0, .inr (1, [.ref a1, .int 3, v2])), (a1, .inl (cT 0, 4096, .inl (upd (upd (upd f3 0 (vp_nar .byte y3)) 1 (vp_nar .byte y6)) 2 (vp_nar .byte y9))))]) hP hD [] [0, 1] 2 rfl rfl (by decide) (by decide) hk1 hFc hP1 hD1
  generalize H1 = H at hP hS ⊢
  rw [hr9]
  refine W.eq (g2 := F0 m 16 ls [.int 101, .ref a0]) rfl ?_
  obtain ⟨hPc, hDc, hFc⟩ := xcut (wc := [(a0, .inr (1, [.ref a1, .int 3, v2])), (a1, .inl (cT 0, 4096, .inl (upd (upd (upd f3 0 (vp_nar .byte y3)) 1 (vp_nar .byte y6)) 2 (vp_nar .byte y9))))]) hP hD hS hA [0, 1] rfl rfl (by decide)
  refine va_callv (va_runV (C := "ValueBench$Text") (As := [.int 101]) (rest := []) ⟨hx, hb, hml, hown, htx⟩ (cT_add_20 l hl9 D cT aK aV H.size a0 a1 101 v2 (upd (upd (upd f3 0 (vp_nar .byte y3)) 1 (vp_nar .byte y6)) 2 (vp_nar .byte y9))) ⟨callB_of 1 htx (xw_goodC kw_1_207) rfl rfl rfl (htx _ kw_1_2) (htx _ kw_1_204) ⟨by decide, by decide, by decide +kernel⟩ ⟨Nat.le_of_ble_eq_true rfl, Nat.le_of_ble_eq_true rfl⟩, (htx _ kw_1_205), (htx _ kw_1_206)⟩ ⟨xPre_blind, va_recv hK hP (ci := 1) rfl (q0 := 0) rfl, (fun U hU hW => ⟨rfl, xPre_of hZ hS hFc hPc hDc hK U hU hW⟩)⟩ rfl rfl hl.1 rfl (lv_room (Nat.le_of_ble_eq_true rfl)) dT_addWord_16 ⟨Nat.le_of_ble_eq_true rfl, Nat.le_of_ble_eq_true rfl⟩) hS (fun q _ h => hFc q h) hFc (fun u9 t H1 locs ht hvm hr9 hB hz1 hk1 hS => ?_)
  obtain ⟨y12, hP1, hK1, hD1⟩ := hB
  rw [ht] at hP1
  obtain ⟨hP, hD⟩ := xjoin (W := [(a0, .inr (1, [.ref a1, .int 4, v2])), (a1, .inl (cT 0, 4096, .inl (upd (upd (upd (upd f3 0 (vp_nar .byte y3)) 1 (vp_nar .byte y6)) 2 (vp_nar .byte y9)) 3 (vp_nar .byte y12))))]) hP hD [0, 1] [] 0 rfl rfl (by decide) (by decide) hk1 hFc hP1 hD1
  generalize H1 = H at hP hS ⊢
  refine lv_iinc (v := 4) (lv' := [(2, .int 4), (0, .ref a0), (1, .ref (aK 12))]) hx hb dT_addWord_19 hl (k := 0) rfl (by decide) (by decide) rfl (fun ls hl => ?_)
  refine lv_goto (tgt := 2) hx hb dT_addWord_22 (by decide) ?_
  refine lv_iload_n hx hb dT_addWord_2 rfl (lv_at hl 0 rfl) ?_
  refine lv_aload_n hx hb dT_addWord_3 rfl (lv_at hl 2 rfl) ?_
  obtain ⟨hPc, hDc, hFc⟩ := xcut (wc := []) hP hD hS hA [] rfl rfl (by decide)
  refine va_calli (va_runV (C := "java/lang/String") (As := []) (rest := [.int 4]) ⟨hx, hb, hml, hown, htx⟩ (cJS_length_1 l hl9 D cT aK aV H.size) ⟨callB_of 0 htx (xw_goodC kw_2_70) rfl rfl rfl (htx _ kw_1_6) (htx _ kw_3_30) ⟨by decide, by decide, by decide +kernel⟩ ⟨Nat.le_of_ble_eq_true rfl, Nat.le_of_ble_eq_true rfl⟩, (htx _ kw_2_68), (htx _ kw_2_69)⟩ ⟨xPre_blind, vk_recv hZ.2.2.2.2.2.2.2.2.2.1 (i := 12) (by decide) hS, (fun U hU hW => ⟨rfl, xPre_of hZ hS hFc hPc hDc hK U hU hW⟩)⟩ rfl rfl hl.1 rfl (lv_room (Nat.le_of_ble_eq_true rfl)) dT_addWord_4 ⟨Nat.le_of_ble_eq_true rfl, Nat.le_of_ble_eq_true rfl⟩) hS (fun q _ h => hFc q h) hFc (fun r13 u9 t H1 locs ht hvm hr9 hB hz1 hk1 hS => ?_)
  obtain ⟨hP1, hK1, hD1⟩ := hB
  rw [ht] at hP1
  obtain ⟨hP, hD⟩ := xjoin (W := [(a0, .inr (1, [.ref a1, .int 4, v2])), (a1, .inl (cT 0, 4096, .inl (upd (upd (upd (upd f3 0 (vp_nar .byte y3)) 1 (vp_nar .byte y6)) 2 (vp_nar .byte y9)) 3 (vp_nar .byte y12))))]) hP hD [] [0, 1] 2 rfl rfl (by decide) (by decide) hk1 hFc hP1 hD1
  generalize H1 = H at hP hS ⊢
  rw [hr9]
  refine W.eq (g2 := F0 m 7 ls [.int 4, .int 4]) rfl ?_
  refine lv_icmp_ge (tgt := 25) hx hb dT_addWord_7 (by decide) (fun _ => ?_) (fun h => ((by revert h; decide : False)).elim)
  obtain ⟨hP9, hD9⟩ := xsub (wc := [(a0, .inr (1, [.ref a1, .int 4, v2])), (a1, .inl (cT 0, 4096, .inl (upd (upd (upd (upd f3 0 (vp_nar .byte y3)) 1 (vp_nar .byte y6)) 2 (vp_nar .byte y9)) 3 (vp_nar .byte y12))))]) hP hD [0, 1] rfl rfl (by decide)
  refine W.widen (k := 0) (n := 0) (Nat.le_of_ble_eq_true rfl) (Nat.le_of_ble_eq_true rfl) ?_
  exact W.vret hx hb hr (fun t ht hW => ⟨⟨(), rfl, trivial, y3, y6, y9, y12, by rw [ht]; exact hP9, va_K.moved hW.alike hK, hD9⟩, hS.F ht⟩) hS.2.2 dT_addWord_25
