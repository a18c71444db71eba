set_option maxHeartbeats 400000000 in
set_option maxRecDepth 100000 in
theorem cL_binary_5 (l : Launch) (hl9 : l.stackTraces = false) (D : va_G) (cT : Nat → ClassId) (aK aV : Nat → Nat) (sz : Nat) (a0 : Nat) (x1 : Int32) (x6 : Int32) (x10 : Int32) (x14 : Int32) (v15 : Value) (v16 : Value) (v17 : Value) (v18 : Value) (v19 : Value) (v20 : Value) (v21 : Value) (v22 : Value) (h2 : ¬ x1 < 0) (h3 : ¬ 7 < x1) (h4 : x1 ≤ 7) (h5 : vp_in x1 8) (h7 : ¬ x6 < 0) (h8 : ¬ 4 < x6) (h9 : x6 ≤ 4) (h11 : ¬ x10 < 0) (h12 : 7 < x10) (h13 : ¬ x10 ≤ 7) : xMet l yL_binary wyL_binary 8 1 6 144 D cT aK aV sz [.ref a0, .int x1, .int x6, .int x10, .int x14] [(a0, .inr (0, [v15, v16, v17, v18, v19, v20, v21, v22]))] (fun A => va_Qi (fun (r : Int32) (_ : Unit) => r = 1) (fun _ t => xB D xcl cT A [(a0, .inr (0, [v15, v16, v17, v18, v19, v20, v21, v22]))] t) A) := by
  refine va_MetW (cc := method_7_code) (maxL := 6) (ret := (some .int)) (hh := [(0, 9, 12, 19), (0, 9, 16, 33), (0, 9, 20, 13)]) (by decide) rfl ?_
  intro p e s m args below meth c s₁ B hml hv
  obtain ⟨rfl, hsz, hZ, hP, hK, hD0⟩ := hv
  have hx := B.exec
  have hb := B.bytes
  have hr := B.returns
  have hts := atoms_spec (ws := wyL_binary) B.pre
  have htx := fun w h => hts w (List.mem_cons_of_mem _ h)
  have hown : s.vm.findClass "ValueBenchLaw" = some m.cls := findClass_of_methodNamed B.named
  have hlocks := B.notSynchronized
  subst hsz
  have hD := hD0.self (sz := s.heap.size)
  generalize hAe : va_A [(a0, .inr (0, [v15, v16, v17, v18, v19, v20, v21, v22]))] s.heap.size = A at hD hZ ⊢
  have hA : ∀ q : Nat, s.heap.size ≤ q → A q := fun q h => by rw [← hAe]; exact Or.inr h
  have hS : va_S A s.heap s.heap [] := va_S.rf
  have hP : va_P D xcl [(a0, .inr (0, [v15, v16, v17, v18, v19, v20, v21, v22]))] s.heap := hP
  have hl := lv_entry ([.ref a0, .int x1, .int x6, .int x10, .int x14]) (n := 6) (Nat.le_of_ble_eq_true rfl)
  rw [lg_entry_eq]
  generalize (lg_sl ([.ref a0, .int x1, .int x6, .int x10, .int x14]) ++ List.replicate (6 - (lg_sl ([.ref a0, .int x1, .int x6, .int x10, .int x14])).length) Slot.unset).toArray = ls at hl ⊢
  have hl : lv_has ls 6 [(0, .ref a0), (1, .int x1), (2, .int x6), (3, .int x10), (4, .int x14)] := hl
  have htab := vx_table (x := yL_binary) B (hts _ List.mem_cons_self)
  refine lv_aload_n hx hb dL_binary_0 rfl (lv_at hl 0 rfl) ?_
  refine lv_iload_n hx hb dL_binary_1 rfl (lv_at hl 1 rfl) ?_
  refine lv_iload_n hx hb dL_binary_2 rfl (lv_at hl 2 rfl) ?_
  refine lv_iload_n hx hb dL_binary_3 rfl (lv_at hl 3 rfl) ?_
  refine lv_iload hx hb dL_binary_4 (lv_at hl 4 rfl) ?_
  obtain ⟨hPc, hDc, hFc⟩ := xcut (wc := []) hP hD hS hA [] rfl rfl (by decide)
  refine xx_thr (vx_runV (C := "ValueBench") (As := [.int x1, .int x6, .int x10, .int x14]) (rest := []) ⟨hx, hb, hml, hown, htx⟩ (cB_binary_5 l hl9 D cT aK aV s.heap.size a0 x1 x6 x10 x14 h2 h3 h4 h5 h7 h8 h9 h11 h12 h13) ⟨callB_of 4 htx (xw_goodC kw_3_102) rfl rfl rfl (htx _ kw_1_1) (htx _ kw_3_99) ⟨by decide, by decide, by decide +kernel⟩ ⟨Nat.le_of_ble_eq_true rfl, Nat.le_of_ble_eq_true rfl⟩, (htx _ kw_3_100), (htx _ kw_3_101)⟩ ⟨xPre_blind, va_recv hK hP (ci := 0) rfl (q0 := 0) rfl, (fun U hU hW => ⟨rfl, xPre_of hZ hS hFc hPc hDc hK U hU hW⟩)⟩ rfl rfl hl.1 rfl (lv_room (Nat.le_of_ble_eq_true rfl)) dL_binary_6 ⟨Nat.le_of_ble_eq_true rfl, Nat.le_of_ble_eq_true rfl⟩) hS hFc (fun q _ h => hFc q h) (fun E ce q9 u9 t H1 locs ht hvm _ hB hz1 hk1 hS hce hcv hcl => ?_)
  obtain ⟨rfl, hP1, hK1, hD1⟩ := hB
  rw [ht] at hP1
  obtain ⟨hP, hD⟩ := xjoin (W := [(a0, .inr (0, [v15, v16, v17, v18, v19, v20, v21, v22]))]) hP hD [] [0] 1 rfl rfl (by decide) (by decide) hk1 hFc hP1 hD1
  generalize H1 = H at hP hS hce ⊢
  refine vx_catch (own := "ValueBenchLaw") (name := "java/lang/IllegalArgumentException") (E := "java/lang/IllegalArgumentException") hown [] ⟨0, 9, 12, 19⟩ [⟨0, 9, 16, 33⟩, ⟨0, 9, 20, 13⟩] (by rw [htab]; rfl) (fun z hz => nomatch hz) (by decide) (by decide) (htx _ kw_1_211) ((hZ.2.2.2.2.2.1 "java/lang/IllegalArgumentException" (List.mem_of_getElem? (i := 1) rfl)).use rfl) hce hcv hcl ?_
  refine lv_astore (lv' := [(5, .ref q9), (0, .ref a0), (1, .int x1), (2, .int x6), (3, .int x10), (4, .int x14)]) hx hb dL_binary_12 hl (by decide) rfl (fun ls hl => ?_)
  refine lv_iconst (v := 1) hx hb dL_binary_14 (by decide) ?_
  obtain ⟨hP9, hD9⟩ := xsub (wc := [(a0, .inr (0, [v15, v16, v17, v18, v19, v20, v21, v22]))]) hP hD [0] rfl rfl (by decide)
  refine W.widen (k := 1) (n := 6) (Nat.le_of_ble_eq_true rfl) (Nat.le_of_ble_eq_true rfl) ?_
  exact W.iret (v := 1) hx hb hr (fun t ht hW => ⟨⟨1, (), rfl, rfl, by rw [ht]; exact hP9, va_K.moved hW.alike hK, hD9⟩, hS.F ht⟩) hS.2.2 dL_binary_15
set_option maxHeartbeats 400000000 in
set_option maxRecDepth 100000 in
theorem cM_binary0_5 (l : Launch) (hl9 : l.stackTraces = false) (D : va_G) (cT : Nat → ClassId) (aK aV : Nat → Nat) (sz : Nat) (a0 : Nat) (x1 : Int32) (x6 : Int32) (x10 : Int32) (x14 : Int32) (v15 : Value) (v16 : Value) (v17 : Value) (v18 : Value) (v19 : Value) (v20 : Value) (v21 : Value) (v22 : Value) (v23 : Value) (v24 : Value) (v25 : Value) (v26 : Value) (v27 : Value) (v28 : Value) (v29 : Value) (v30 : Value) (v31 : Value) (v32 : Value) (v33 : Value) (v34 : Value) (v35 : Value) (v36 : Value) (v37 : Value) (v38 : Value) (v39 : Value) (v40 : Value) (v41 : Value) (v42 : Value) (v43 : Value) (v44 : Value) (v45 : Value) (v46 : Value) (h2 : ¬ x1 < 0) (h3 : ¬ 7 < x1) (h4 : x1 ≤ 7) (h5 : vp_in x1 8) (h7 : ¬ x6 < 0) (h8 : ¬ 4 < x6) (h9 : x6 ≤ 4) (h11 : ¬ x10 < 0) (h12 : 7 < x10) (h13 : ¬ x10 ≤ 7) : xMet l yM_binary0 wyM_binary0 2 0 0 40 D cT aK aV sz [.ref a0, .int x1, .int x6, .int x10, .int x14] [(a0, .inr (5, [v15, v16, v17, v18, v19, v20, v21, v22, v23, v24, v25, v26, v27, v28, v29, v30, v31, v32, v33, v34, v35, v36, v37, v38, v39, v40, v41, v42, v43, v44, v45, v46]))] (fun A => va_Qv (fun _ : Unit => True) (fun _ t => xB D xcl cT A [(a0, .inr (5, [.int 1, v16, .int 0, v18, .int 0, v20, v21, .int 0, v23, .int 0, v25, v26, .int 0, v28, v29, v30, v31, v32, v33, v34, v35, v36, .int 0, .int 1000000000, v39, v40, v41, v42, v43, v44, v45, v46]))] t) A) := by
  refine Met.ofW (cc := prog_13_method_89_code) (maxL := 5) (ret := none) (by decide) rfl ?_
  intro p e s m args below meth c s₁ B hml hv
  obtain ⟨rfl, hsz, hZ, hP, hK, hD0⟩ := hv
  have hx := B.exec
  have hb := B.bytes
  have hr := B.returns
  have hts := atoms_spec (ws := wyM_binary0) B.pre
  have htx := fun w h => hts w (List.mem_cons_of_mem _ h)
  have hown : s.vm.findClass "ValueBenchModel" = some m.cls := findClass_of_methodNamed B.named
  have hlocks := B.notSynchronized
  subst hsz
  have hD := hD0.self (sz := s.heap.size)
  generalize hAe : va_A [(a0, .inr (5, [v15, v16, v17, v18, v19, v20, v21, v22, v23, v24, v25, v26, v27, v28, v29, v30, v31, v32, v33, v34, v35, v36, v37, v38, v39, v40, v41, v42, v43, v44, v45, v46]))] s.heap.size = A at hD hZ ⊢
  have hA : ∀ q : Nat, s.heap.size ≤ q → A q := fun q h => by rw [← hAe]; exact Or.inr h
  have hS : va_S A s.heap s.heap [] := va_S.rf
  have hP : va_P D xcl [(a0, .inr (5, [v15, v16, v17, v18, v19, v20, v21, v22, v23, v24, v25, v26, v27, v28, v29, v30, v31, v32, v33, v34, v35, v36, v37, v38, v39, v40, v41, v42, v43, v44, v45, v46]))] s.heap := hP
  have hl := lv_entry ([.ref a0, .int x1, .int x6, .int x10, .int x14]) (n := 5) (Nat.le_of_ble_eq_true rfl)
  rw [lg_entry_eq]
  generalize (lg_sl ([.ref a0, .int x1, .int x6, .int x10, .int x14]) ++ List.replicate (5 - (lg_sl ([.ref a0, .int x1, .int x6, .int x10, .int x14])).length) Slot.unset).toArray = ls at hl ⊢
  have hl : lv_has ls 5 [(0, .ref a0), (1, .int x1), (2, .int x6), (3, .int x10), (4, .int x14)] := hl
  refine lv_aload_n hx hb dM_binary0_0 rfl (lv_at hl 0 rfl) ?_
  obtain ⟨hPc, hDc, hFc⟩ := xcut (wc := [(a0, .inr (5, [v15, v16, v17, v18, v19, v20, v21, v22, v23, v24, v25, v26, v27, v28, v29, v30, v31, v32, v33, v34, v35, v36, v37, v38, v39, v40, v41, v42, v43, v44, v45, v46]))]) hP hD hS hA [0] rfl rfl (by decide)
  refine va_callv (va_runV (C := "ValueBenchModel") (As := []) (rest := []) ⟨hx, hb, hml, hown, htx⟩ (cM_begin_0 l hl9 D cT aK aV s.heap.size a0 v15 v16 v17 v18 v19 v20 v21 v22 v23 v24 v25 v26 v27 v28 v29 v30 v31 v32 v33 v34 v35 v36 v37 v38 v39 v40 v41 v42 v43 v44 v45 v46) ⟨callB_of 0 htx (xw_goodC kw_5_209) rfl rfl rfl (htx _ kw_1_5) (htx _ kw_5_206) ⟨by decide, by decide, by decide +kernel⟩ ⟨Nat.le_of_ble_eq_true rfl, Nat.le_of_ble_eq_true rfl⟩, (htx _ kw_5_208), (htx _ kp_M_begin)⟩ ⟨xPre_blind, va_recv hK hP (ci := 5) rfl (q0 := 0) rfl, (fun U hU hW => ⟨rfl, xPre_of hZ hS hFc hPc hDc hK U hU hW⟩)⟩ rfl rfl hl.1 rfl (lv_room (Nat.le_of_ble_eq_true rfl)) dM_binary0_1 ⟨Nat.le_of_ble_eq_true rfl, Nat.le_of_ble_eq_true rfl⟩) hS (fun q _ h => hFc q h) hFc (fun u9 t H1 locs ht hvm hr9 hB hz1 hk1 hS => ?_)
  obtain ⟨hP1, hK1, hD1⟩ := hB
  rw [ht] at hP1
  obtain ⟨hP, hD⟩ := xjoin (W := [(a0, .inr (5, [.int 0, v16, .int 0, v18, .int 0, v20, v21, .int 0, v23, .int 0, v25, v26, .int 0, v28, v29, v30, v31, v32, v33, v34, v35, v36, .int 0, .int 1000000000, v39, v40, v41, v42, v43, v44, v45, v46]))]) hP hD [0] [] 0 rfl rfl (by decide) (by decide) hk1 hFc hP1 hD1
  generalize H1 = H at hP hS ⊢
  refine lv_aload_n hx hb dM_binary0_4 rfl (lv_at hl 0 rfl) ?_
  refine lv_iload_n hx hb dM_binary0_5 rfl (lv_at hl 1 rfl) ?_
  obtain ⟨hPc, hDc, hFc⟩ := xcut (wc := []) hP hD hS hA [] rfl rfl (by decide)
  refine va_calli (va_runV (C := "ValueBenchModel") (As := [.int x1]) (rest := []) ⟨hx, hb, hml, hown, htx⟩ (cM_out_2 l hl9 D cT aK aV H.size a0 x1 h2 h3 h4 h5) ⟨callB_of 1 htx (xw_goodC kw_5_217) rfl rfl rfl (htx _ kw_1_5) (htx _ kw_5_214) ⟨by decide, by decide, by decide +kernel⟩ ⟨Nat.le_of_ble_eq_true rfl, Nat.le_of_ble_eq_true rfl⟩, (htx _ kw_5_216), (htx _ kp_M_out)⟩ ⟨xPre_blind, va_recv hK hP (ci := 5) rfl (q0 := 0) rfl, (fun U hU hW => ⟨rfl, xPre_of hZ hS hFc hPc hDc hK U hU hW⟩)⟩ rfl rfl hl.1 rfl (lv_room (Nat.le_of_ble_eq_true rfl)) dM_binary0_6 ⟨Nat.le_of_ble_eq_true rfl, Nat.le_of_ble_eq_true rfl⟩) hS (fun q _ h => hFc q h) hFc (fun r1 u9 t H1 locs ht hvm hr9 hB hz1 hk1 hS => ?_)
  obtain ⟨hP1, hK1, hD1⟩ := hB
  rw [ht] at hP1
  obtain ⟨hP, hD⟩ := xjoin (W := [(a0, .inr (5, [.int 0, v16, .int 0, v18, .int 0, v20, v21, .int 0, v23, .int 0, v25, v26, .int 0, v28, v29, v30, v31, v32, v33, v34, v35, v36, .int 0, .int 1000000000, v39, v40, v41, v42, v43, v44, v45, v46]))]) hP hD [] [0] 1 rfl rfl (by decide) (by decide) hk1 hFc hP1 hD1
  generalize H1 = H at hP hS ⊢
  rw [hr9]
  refine W.eq (g2 := F0 m 9 ls [.int 0]) rfl ?_
  refine lv_if_ne (tgt := 38) hx hb dM_binary0_9 (by decide) (fun h => ((by revert h; decide : False)).elim) (fun _ => ?_)
  refine lv_iload_n hx hb dM_binary0_12 rfl (lv_at hl 2 rfl) ?_
  refine lv_if_lt (tgt := 38) hx hb dM_binary0_13 (by decide) (fun h => by first | exact absurd h h7 | exact absurd h h8 | exact absurd h h9 | exact absurd h7 h | exact absurd h8 h | exact absurd h9 h) (fun _ => ?_)
  refine lv_iload_n hx hb dM_binary0_16 rfl (lv_at hl 2 rfl) ?_
  refine lv_iconst (v := 4) hx hb dM_binary0_17 (by decide) ?_
  refine lv_icmp_gt (tgt := 38) hx hb dM_binary0_18 (by decide) (fun h => by first | exact absurd h h7 | exact absurd h h8 | exact absurd h h9 | exact absurd h7 h | exact absurd h8 h | exact absurd h9 h) (fun _ => ?_)
  refine lv_aload_n hx hb dM_binary0_21 rfl (lv_at hl 0 rfl) ?_
  refine lv_iload_n hx hb dM_binary0_22 rfl (lv_at hl 3 rfl) ?_
  obtain ⟨hPc, hDc, hFc⟩ := xcut (wc := []) hP hD hS hA [] rfl rfl (by decide)
  refine va_calli (va_runV (C := "ValueBenchModel") (As := [.int x10]) (rest := []) ⟨hx, hb, hml, hown, htx⟩ (cM_out_1 l hl9 D cT aK aV H.size a0 x10 h11 h12 h13) ⟨callB_of 1 htx (xw_goodC kw_5_217) rfl rfl rfl (htx _ kw_1_5) (htx _ kw_5_214) ⟨by decide, by decide, by decide +kernel⟩ ⟨Nat.le_of_ble_eq_true rfl, Nat.le_of_ble_eq_true rfl⟩, (htx _ kw_5_216), (htx _ kp_M_out)⟩ ⟨xPre_blind, va_recv hK hP (ci := 5) rfl (q0 := 0) rfl, (fun U hU hW => ⟨rfl, xPre_of hZ hS hFc hPc hDc hK U hU hW⟩)⟩ rfl rfl hl.1 rfl (lv_room (Nat.le_of_ble_eq_true rfl)) dM_binary0_23 ⟨Nat.le_of_ble_eq_true rfl, Nat.le_of_ble_eq_true rfl⟩) hS (fun q _ h => hFc q h) hFc (fun r2 u9 t H1 locs ht hvm hr9 hB hz1 hk1 hS => ?_)
  obtain ⟨hP1, hK1, hD1⟩ := hB
  rw [ht] at hP1
  obtain ⟨hP, hD⟩ := xjoin (W := [(a0, .inr (5, [.int 0, v16, .int 0, v18, .int 0, v20, v21, .int 0, v23, .int 0, v25, v26, .int 0, v28, v29, v30, v31, v32, v33, v34, v35, v36, .int 0, .int 1000000000, v39, v40, v41, v42, v43, v44, v45, v46]))]) hP hD [] [0] 1 rfl rfl (by decide) (by decide) hk1 hFc hP1 hD1
  generalize H1 = H at hP hS ⊢
  rw [hr9]
  refine W.eq (g2 := F0 m 26 ls [.int 1]) rfl ?_
  refine lv_if_ne (tgt := 38) hx hb dM_binary0_26 (by decide) (fun _ => ?_) (fun h => ((by revert h; decide : False)).elim)
  refine lv_aload_n hx hb dM_binary0_38 rfl (lv_at hl 0 rfl) ?_
  refine lv_iconst (v := 1) hx hb dM_binary0_39 (by decide) ?_
  refine va_put (D := D) (ci := 5) (v := .int 1) (ty := .int) (C := "ValueBenchModel") (T := TM) (N := 32) hx hb htx inM tyM tyM_ok nmM hown hK hP hD hS 0 rfl rfl 0 (by decide) (htx _ kw_5_87) (fun _ h9 => h9) rfl (by decide +kernel) rfl rfl (Nat.le_of_ble_eq_true rfl) dM_binary0_40 (fun H locs hP hD hS => ?_)
  obtain ⟨hP, hD⟩ : xPD D xcl A [(a0, .inr (5, [.int 1, v16, .int 0, v18, .int 0, v20, v21, .int 0, v23, .int 0, v25, v26, .int 0, v28, v29, v30, v31, v32, v33, v34, v35, v36, .int 0, .int 1000000000, v39, v40, v41, v42, v43, v44, v45, v46]))] H := ⟨hP, hD⟩
  refine lv_goto (tgt := 56) hx hb dM_binary0_43 (by decide) ?_
  obtain ⟨hP9, hD9⟩ := xsub (wc := [(a0, .inr (5, [.int 1, v16, .int 0, v18, .int 0, v20, v21, .int 0, v23, .int 0, v25, v26, .int 0, v28, v29, v30, v31, v32, v33, v34, v35, v36, .int 0, .int 1000000000, v39, v40, v41, v42, v43, v44, v45, v46]))]) hP hD [0] rfl rfl (by decide)
  refine W.widen (k := 0) (n := 0) (Nat.le_of_ble_eq_true rfl) (Nat.le_of_ble_eq_true rfl) ?_
  exact W.vret hx hb hr (fun t ht hW => ⟨⟨(), rfl, trivial, by rw [ht]; exact hP9, va_K.moved hW.alike hK, hD9⟩, hS.F ht⟩) hS.2.2 dM_binary0_56
set_option maxHeartbeats 400000000 in
set_option maxRecDepth 100000 in
theorem cB_binary_6 (l : Launch) (hl9 : l.stackTraces = false) (D : va_G) (cT : Nat → ClassId) (aK aV : Nat → Nat) (sz : Nat) (b0 : Nat) (x1 : Int32) (x6 : Int32) (x10 : Int32) (x15 : Int32) (h2 : ¬ x1 < 0) (h3 : ¬ 7 < x1) (h4 : x1 ≤ 7) (h5 : vp_in x1 8) (h7 : ¬ x6 < 0) (h8 : ¬ 4 < x6) (h9 : x6 ≤ 4) (h11 : ¬ x10 < 0) (h12 : ¬ 7 < x10) (h13 : x10 ≤ 7) (h14 : vp_in x10 8) (h16 : x15 < 0) : xMetX l yB_binary wyB_binary 7 1 6 120 D cT aK aV sz [.ref b0, .int x1, .int x6, .int x10, .int x15] [] "java/lang/IllegalArgumentException" (fun A t => xB D xcl cT A [] t) := by
  refine vx_ofW (cc := prog_1_method_6_code) (maxL := 5) (ret := none) (by decide) rfl ?_
  intro p e s m args below meth c s₁ B hml hne hv
  obtain ⟨rfl, hsz, hZ, hP, hK, hD0⟩ := hv
  have hx := B.exec
  have hb := B.bytes
  have hr := B.returns
  have hts := atoms_spec (ws := wyB_binary) B.pre
  have htx := fun w h => hts w (List.mem_cons_of_mem _ h)
  have hown : s.vm.findClass "ValueBench" = some m.cls := findClass_of_methodNamed B.named
  have hlocks := B.notSynchronized
  subst hsz
  have hD := hD0.self (sz := s.heap.size)
  generalize hAe : va_A [] s.heap.size = A at hD hZ ⊢
  have hA : ∀ q : Nat, s.heap.size ≤ q → A q := fun q h => by rw [← hAe]; exact Or.inr h
  have hS : va_S A s.heap s.heap [] := va_S.rf
  have hP : va_P D xcl [] s.heap := hP
  have hl := lv_entry ([.ref b0, .int x1, .int x6, .int x10, .int x15]) (n := 5) (Nat.le_of_ble_eq_true rfl)
  rw [lg_entry_eq]
  generalize (lg_sl ([.ref b0, .int x1, .int x6, .int x10, .int x15]) ++ List.replicate (5 - (lg_sl ([.ref b0, .int x1, .int x6, .int x10, .int x15])).length) Slot.unset).toArray = ls at hl ⊢
  have hl : lv_has ls 5 [(0, .ref b0), (1, .int x1), (2, .int x6), (3, .int x10), (4, .int x15)] := hl
  refine lv_iload_n hx hb dB_binary_0 rfl (lv_at hl 1 rfl) ?_
  obtain ⟨hPc, hDc, hFc⟩ := xcut (wc := []) hP hD hS hA [] rfl rfl (by decide)
  refine va_calli (va_runS (As := [.int x1]) (rest := []) ⟨hx, hb, hml, hown, htx⟩ (cB_isRegister_2 l hl9 D cT aK aV s.heap.size x1 h2 h3 h4 h5) ⟨callB_of 1 htx (xw_goodC kw_2_18) rfl rfl rfl (htx _ kw_1_1) (htx _ kw_2_16) ⟨by decide, by decide, by decide +kernel⟩ ⟨Nat.le_of_ble_eq_true rfl, Nat.le_of_ble_eq_true rfl⟩, htx _ kw_2_17⟩ ⟨xPre_blind, (fun U hU hW => ⟨rfl, xPre_of hZ hS hFc hPc hDc hK U hU hW⟩)⟩ rfl rfl hl.1 rfl (lv_room (Nat.le_of_ble_eq_true rfl)) dB_binary_1 ⟨Nat.le_of_ble_eq_true rfl, Nat.le_of_ble_eq_true rfl⟩) hS (fun q _ h => hFc q h) hFc (fun r1 u9 t H1 locs ht hvm hr9 hB hz1 hk1 hS => ?_)
  obtain ⟨hP1, hK1, hD1⟩ := hB
  rw [ht] at hP1
  obtain ⟨hP, hD⟩ := xjoin (W := []) hP hD [] [] 0 rfl rfl (by decide) (by decide) hk1 hFc hP1 hD1
  generalize H1 = H at hP hS ⊢
  rw [hr9]
  refine W.eq (g2 := F0 m 4 ls [.int 1]) rfl ?_
  refine lv_if_eq (tgt := 34) hx hb dB_binary_4 (by decide) (fun h => ((by revert h; decide : False)).elim) (fun _ => ?_)
  refine lv_iload_n hx hb dB_binary_7 rfl (lv_at hl 2 rfl) ?_
  refine lv_iconst (v := 4) hx hb dB_binary_8 (by decide) ?_
  obtain ⟨hPc, hDc, hFc⟩ := xcut (wc := []) hP hD hS hA [] rfl rfl (by decide)
  refine va_calli (va_runS (As := [.int x6, .int 4]) (rest := []) ⟨hx, hb, hml, hown, htx⟩ (cB_isWithin_6 l hl9 D cT aK aV H.size x6 h7 h8 h9) ⟨callB_of 2 htx (xw_goodC kw_1_218) rfl rfl rfl (htx _ kw_1_1) (htx _ kw_1_216) ⟨by decide, by decide, by decide +kernel⟩ ⟨Nat.le_of_ble_eq_true rfl, Nat.le_of_ble_eq_true rfl⟩, htx _ kw_1_217⟩ ⟨xPre_blind, (fun U hU hW => ⟨rfl, xPre_of hZ hS hFc hPc hDc hK U hU hW⟩)⟩ rfl rfl hl.1 rfl (lv_room (Nat.le_of_ble_eq_true rfl)) dB_binary_9 ⟨Nat.le_of_ble_eq_true rfl, Nat.le_of_ble_eq_true rfl⟩) hS (fun q _ h => hFc q h) hFc (fun r2 u9 t H1 locs ht hvm hr9 hB hz1 hk1 hS => ?_)
  obtain ⟨hP1, hK1, hD1⟩ := hB
  rw [ht] at hP1
  obtain ⟨hP, hD⟩ := xjoin (W := []) hP hD [] [] 0 rfl rfl (by decide) (by decide) hk1 hFc hP1 hD1
  generalize H1 = H at hP hS ⊢
  rw [hr9]
  refine W.eq (g2 := F0 m 12 ls [.int 1]) rfl ?_
  refine lv_if_eq (tgt := 34) hx hb dB_binary_12 (by decide) (fun h => ((by revert h; decide : False)).elim) (fun _ => ?_)
  refine lv_iload_n hx hb dB_binary_15 rfl (lv_at hl 3 rfl) ?_
  obtain ⟨hPc, hDc, hFc⟩ := xcut (wc := []) hP hD hS hA [] rfl rfl (by decide)
  refine va_calli (va_runS (As := [.int x10]) (rest := []) ⟨hx, hb, hml, hown, htx⟩ (cB_isRegister_2 l hl9 D cT aK aV H.size x10 h11 h12 h13 h14) ⟨callB_of 1 htx (xw_goodC kw_2_18) rfl rfl rfl (htx _ kw_1_1) (htx _ kw_2_16) ⟨by decide, by decide, by decide +kernel⟩ ⟨Nat.le_of_ble_eq_true rfl, Nat.le_of_ble_eq_true rfl⟩, htx _ kw_2_17⟩ ⟨xPre_blind, (fun U hU hW => ⟨rfl, xPre_of hZ hS hFc hPc hDc hK U hU hW⟩)⟩ rfl rfl hl.1 rfl (lv_room (Nat.le_of_ble_eq_true rfl)) dB_binary_16 ⟨Nat.le_of_ble_eq_true rfl, Nat.le_of_ble_eq_true rfl⟩) hS (fun q _ h => hFc q h) hFc (fun r3 u9 t H1 locs ht hvm hr9 hB hz1 hk1 hS => ?_)
  obtain ⟨hP1, hK1, hD1⟩ := hB
  rw [ht] at hP1
  obtain ⟨hP, hD⟩ := xjoin (W := []) hP hD [] [] 0 rfl rfl (by decide) (by decide) hk1 hFc hP1 hD1
  generalize H1 = H at hP hS ⊢
  rw [hr9]
  refine W.eq (g2 := F0 m 19 ls [.int 1]) rfl ?_
  refine lv_if_eq (tgt := 34) hx hb dB_binary_19 (by decide) (fun h => ((by revert h; decide : False)).elim) (fun _ => ?_)
  refine lv_iload hx hb dB_binary_22 (lv_at hl 4 rfl) ?_
  obtain ⟨hPc, hDc, hFc⟩ := xcut (wc := []) hP hD hS hA [] rfl rfl (by decide)
  refine va_calli (va_runS (As := [.int x15]) (rest := []) ⟨hx, hb, hml, hown, htx⟩ (cB_isRegister_0 l hl9 D cT aK aV H.size x15 h16) ⟨callB_of 1 htx (xw_goodC kw_2_18) rfl rfl rfl (htx _ kw_1_1) (htx _ kw_2_16) ⟨by decide, by decide, by decide +kernel⟩ ⟨Nat.le_of_ble_eq_true rfl, Nat.le_of_ble_eq_true rfl⟩, htx _ kw_2_17⟩ ⟨xPre_blind, (fun U hU hW => ⟨rfl, xPre_of hZ hS hFc hPc hDc hK U hU hW⟩)⟩ rfl rfl hl.1 rfl (lv_room (Nat.le_of_ble_eq_true rfl)) dB_binary_24 ⟨Nat.le_of_ble_eq_true rfl, Nat.le_of_ble_eq_true rfl⟩) hS (fun q _ h => hFc q h) hFc (fun r4 u9 t H1 locs ht hvm hr9 hB hz1 hk1 hS => ?_)
  obtain ⟨hP1, hK1, hD1⟩ := hB
  rw [ht] at hP1
  obtain ⟨hP, hD⟩ := xjoin (W := []) hP hD [] [] 0 rfl rfl (by decide) (by decide) hk1 hFc hP1 hD1
  generalize H1 = H at hP hS ⊢
  rw [hr9]
  refine W.eq (g2 := F0 m 27 ls [.int 0]) rfl ?_
  refine lv_if_eq (tgt := 34) hx hb dB_binary_27 (by decide) (fun _ => ?_) (fun h => ((by revert h; decide : False)).elim)
  refine lv_iconst (v := 0) hx hb dB_binary_34 (by decide) ?_
  obtain ⟨hPc, hDc, hFc⟩ := xcut (wc := []) hP hD hS hA [] rfl rfl (by decide)
  refine xx_thr (vx_runS (As := [.int 0]) (rest := []) ⟨hx, hb, hml, hown, htx⟩ (cB_demand_0 l hl9 D cT aK aV H.size) ⟨callB_of 1 htx (xw_goodC kw_1_221) rfl rfl rfl (htx _ kw_1_1) (htx _ kw_1_219) ⟨by decide, by decide, by decide +kernel⟩ ⟨Nat.le_of_ble_eq_true rfl, Nat.le_of_ble_eq_true rfl⟩, htx _ kw_1_220⟩ ⟨xPre_blind, (fun U hU hW => ⟨rfl, xPre_of hZ hS hFc hPc hDc hK U hU hW⟩)⟩ rfl rfl hl.1 rfl (lv_room (Nat.le_of_ble_eq_true rfl)) dB_binary_35 ⟨Nat.le_of_ble_eq_true rfl, Nat.le_of_ble_eq_true rfl⟩) hS hFc (fun q _ h => hFc q h) (fun E ce q9 u9 t H1 locs ht hvm _ hB hz1 hk1 hS hce hcv hcl => ?_)
  obtain ⟨rfl, hP1, hK1, hD1⟩ := hB
  rw [ht] at hP1
  obtain ⟨hP, hD⟩ := xjoin (W := []) hP hD [] [] 0 rfl rfl (by decide) (by decide) hk1 hFc hP1 hD1
  generalize H1 = H at hP hS hce ⊢
  obtain ⟨hP9, hD9⟩ := xsub (wc := []) hP hD [] rfl rfl (by decide)
  exact vx_out (E := "java/lang/IllegalArgumentException") (fun x h => (hne x h).elim) hlocks hce hcv hcl (fun t ht ha => ⟨(), trivial, ⟨rfl, by rw [ht]; exact hP9, va_K.moved ha hK, hD9⟩, hS.F ht⟩) hS.2.2 (Nat.le_of_ble_eq_true rfl) (Nat.le_of_ble_eq_true rfl)
set_option maxHeartbeats 400000000 in
set_option maxRecDepth 100000 in
theorem cL_binary_6 (l : Launch) (hl9 : l.stackTraces = false) (D : va_G) (cT : Nat → ClassId) (aK aV : Nat → Nat) (sz : Nat) (a0 : Nat) (x1 : Int32) (x6 : Int32) (x10 : Int32) (x15 : Int32) (v17 : Value) (v18 : Value) (v19 : Value) (v20 : Value) (v21 : Value) (v22 : Value) (v23 : Value) (v24 : Value) (h2 : ¬ x1 < 0) (h3 : ¬ 7 < x1) (h4 : x1 ≤ 7) (h5 : vp_in x1 8) (h7 : ¬ x6 < 0) (h8 : ¬ 4 < x6) (h9 : x6 ≤ 4) (h11 : ¬ x10 < 0) (h12 : ¬ 7 < x10) (h13 : x10 ≤ 7) (h14 : vp_in x10 8) (h16 : x15 < 0) : xMet l yL_binary wyL_binary 8 1 6 144 D cT aK aV sz [.ref a0, .int x1, .int x6, .int x10, .int x15] [(a0, .inr (0, [v17, v18, v19, v20, v21, v22, v23, v24]))] (fun A => va_Qi (fun (r : Int32) (_ : Unit) => r = 1) (fun _ t => xB D xcl cT A [(a0, .inr (0, [v17, v18, v19, v20, v21, v22, v23, v24]))] t) A) := by
  refine va_MetW (cc := method_7_code) (maxL := 6) (ret := (some .int)) (hh := [(0, 9, 12, 19), (0, 9, 16, 33), (0, 9, 20, 13)]) (by decide) rfl ?_
  intro p e s m args below meth c s₁ B hml hv
  obtain ⟨rfl, hsz, hZ, hP, hK, hD0⟩ := hv
  have hx := B.exec
  have hb := B.bytes
  have hr := B.returns
  have hts := atoms_spec (ws := wyL_binary) B.pre
  have htx := fun w h => hts w (List.mem_cons_of_mem _ h)
  have hown : s.vm.findClass "ValueBenchLaw" = some m.cls := findClass_of_methodNamed B.named
  have hlocks := B.notSynchronized
  subst hsz
  have hD := hD0.self (sz := s.heap.size)
  generalize hAe : va_A [(a0, .inr (0, [v17, v18, v19, v20, v21, v22, v23, v24]))] s.heap.size = A at hD hZ ⊢
  have hA : ∀ q : Nat, s.heap.size ≤ q → A q := fun q h => by rw [← hAe]; exact Or.inr h
  have hS : va_S A s.heap s.heap [] := va_S.rf
  have hP : va_P D xcl [(a0, .inr (0, [v17, v18, v19, v20, v21, v22, v23, v24]))] s.heap := hP
  have hl := lv_entry ([.ref a0, .int x1, .int x6, .int x10, .int x15]) (n := 6) (Nat.le_of_ble_eq_true rfl)
  rw [lg_entry_eq]
  generalize (lg_sl ([.ref a0, .int x1, .int x6, .int x10, .int x15]) ++ List.replicate (6 - (lg_sl ([.ref a0, .int x1, .int x6, .int x10, .int x15])).length) Slot.unset).toArray = ls at hl ⊢
  have hl : lv_has ls 6 [(0, .ref a0), (1, .int x1), (2, .int x6), (3, .int x10), (4, .int x15)] := hl
  have htab := vx_table (x := yL_binary) B (hts _ List.mem_cons_self)
  refine lv_aload_n hx hb dL_binary_0 rfl (lv_at hl 0 rfl) ?_
  refine lv_iload_n hx hb dL_binary_1 rfl (lv_at hl 1 rfl) ?_
  refine lv_iload_n hx hb dL_binary_2 rfl (lv_at hl 2 rfl) ?_
  refine lv_iload_n hx hb dL_binary_3 rfl (lv_at hl 3 rfl) ?_
  refine lv_iload hx hb dL_binary_4 (lv_at hl 4 rfl) ?_
  obtain ⟨hPc, hDc, hFc⟩ := xcut (wc := []) hP hD hS hA [] rfl rfl (by decide)
  refine xx_thr (vx_runV (C := "ValueBench") (As := [.int x1, .int x6, .int x10, .int x15]) (rest := []) ⟨hx, hb, hml, hown, htx⟩ (cB_binary_6 l hl9 D cT aK aV s.heap.size a0 x1 x6 x10 x15 h2 h3 h4 h5 h7 h8 h9 h11 h12 h13 h14 h16) ⟨callB_of 4 htx (xw_goodC kw_3_102) rfl rfl rfl (htx _ kw_1_1) (htx _ kw_3_99) ⟨by decide, by decide, by decide +kernel⟩ ⟨Nat.le_of_ble_eq_true rfl, Nat.le_of_ble_eq_true rfl⟩, (htx _ kw_3_100), (htx _ kw_3_101)⟩ ⟨xPre_blind, va_recv hK hP (ci := 0) rfl (q0 := 0) rfl, (fun U hU hW => ⟨rfl, xPre_of hZ hS hFc hPc hDc hK U hU hW⟩)⟩ rfl rfl hl.1 rfl (lv_room (Nat.le_of_ble_eq_true rfl)) dL_binary_6 ⟨Nat.le_of_ble_eq_true rfl, Nat.le_of_ble_eq_true rfl⟩) hS hFc (fun q _ h => hFc q h) (fun E ce q9 u9 t H1 locs ht hvm _ hB hz1 hk1 hS hce hcv hcl => ?_)
  obtain ⟨rfl, hP1, hK1, hD1⟩ := hB
  rw [ht] at hP1
  obtain ⟨hP, hD⟩ := xjoin (W := [(a0, .inr (0, [v17, v18, v19, v20, v21, v22, v23, v24]))]) hP hD [] [0] 1 rfl rfl (by decide) (by decide) hk1 hFc hP1 hD1
  generalize H1 = H at hP hS hce ⊢
  refine vx_catch (own := "ValueBenchLaw") (name := "java/lang/IllegalArgumentException") (E := "java/lang/IllegalArgumentException") hown [] ⟨0, 9, 12, 19⟩ [⟨0, 9, 16, 33⟩, ⟨0, 9, 20, 13⟩] (by rw [htab]; rfl) (fun z hz => nomatch hz) (by decide) (by decide) (htx _ kw_1_211) ((hZ.2.2.2.2.2.1 "java/lang/IllegalArgumentException" (List.mem_of_getElem? (i := 1) rfl)).use rfl) hce hcv hcl ?_
  refine lv_astore (lv' := [(5, .ref q9), (0, .ref a0), (1, .int x1), (2, .int x6), (3, .int x10), (4, .int x15)]) hx hb dL_binary_12 hl (by decide) rfl (fun ls hl => ?_)
  refine lv_iconst (v := 1) hx hb dL_binary_14 (by decide) ?_
  obtain ⟨hP9, hD9⟩ := xsub (wc := [(a0, .inr (0, [v17, v18, v19, v20, v21, v22, v23, v24]))]) hP hD [0] rfl rfl (by decide)
  refine W.widen (k := 1) (n := 6) (Nat.le_of_ble_eq_true rfl) (Nat.le_of_ble_eq_true rfl) ?_
  exact W.iret (v := 1) hx hb hr (fun t ht hW => ⟨⟨1, (), rfl, rfl, by rw [ht]; exact hP9, va_K.moved hW.alike hK, hD9⟩, hS.F ht⟩) hS.2.2 dL_binary_15
set_option maxHeartbeats 400000000 in
set_option maxRecDepth 100000 in
theorem cM_binary0_6 (l : Launch) (hl9 : l.stackTraces = false) (D : va_G) (cT : Nat → ClassId) (aK aV : Nat → Nat) (sz : Nat) (a0 : Nat) (x1 : Int32) (x6 : Int32) (x10 : Int32) (x15 : Int32) (v17 : Value) (v18 : Value) (v19 : Value) (v20 : Value) (v21 : Value) (v22 : Value) (v23 : Value) (v24 : Value) (v25 : Value) (v26 : Value) (v27 : Value) (v28 : Value) (v29 : Value) (v30 : Value) (v31 : Value) (v32 : Value) (v33 : Value) (v34 : Value) (v35 : Value) (v36 : Value) (v37 : Value) (v38 : Value) (v39 : Value) (v40 : Value) (v41 : Value) (v42 : Value) (v43 : Value) (v44 : Value) (v45 : Value) (v46 : Value) (v47 : Value) (v48 : Value) (h2 : ¬ x1 < 0) (h3 : ¬ 7 < x1) (h4 : x1 ≤ 7) (h5 : vp_in x1 8) (h7 : ¬ x6 < 0) (h8 : ¬ 4 < x6) (h9 : x6 ≤ 4) (h11 : ¬ x10 < 0) (h12 : ¬ 7 < x10) (h13 : x10 ≤ 7) (h14 : vp_in x10 8) (h16 : x15 < 0) : xMet l yM_binary0 wyM_binary0 2 0 0 40 D cT aK aV sz [.ref a0, .int x1, .int x6, .int x10, .int x15] [(a0, .inr (5, [v17, v18, v19, v20, v21, v22, v23, v24, v25, v26, v27, v28, v29, v30, v31, v32, v33, v34, v35, v36, v37, v38, v39, v40, v41, v42, v43, v44, v45, v46, v47, v48]))] (fun A => va_Qv (fun _ : Unit => True) (fun _ t => xB D xcl cT A [(a0, .inr (5, [.int 1, v18, .int 0, v20, .int 0, v22, v23, .int 0, v25, .int 0, v27, v28, .int 0, v30, v31, v32, v33, v34, v35, v36, v37, v38, .int 0, .int 1000000000, v41, v42, v43, v44, v45, v46, v47, v48]))] t) A) := by
  refine Met.ofW (cc := prog_13_method_89_code) (maxL := 5) (ret := none) (by decide) rfl ?_
  intro p e s m args below meth c s₁ B hml hv
  obtain ⟨rfl, hsz, hZ, hP, hK, hD0⟩ := hv
  have hx := B.exec
  have hb := B.bytes
  have hr := B.returns
  have hts := atoms_spec (ws := wyM_binary0) B.pre
  have htx := fun w h => hts w (List.mem_cons_of_mem _ h)
  have hown : s.vm.findClass "ValueBenchModel" = some m.cls := findClass_of_methodNamed B.named
  have hlocks := B.notSynchronized
  subst hsz
  have hD := hD0.self (sz := s.heap.size)
  generalize hAe : va_A [(a0, .inr (5, [v17, v18, v19, v20, v21, v22, v23, v24, v25, v26, v27, v28, v29, v30, v31, v32, v33, v34, v35, v36, v37, v38, v39, v40, v41, v42, v43, v44, v45, v46, v47, v48]))] s.heap.size = A at hD hZ ⊢
  have hA : ∀ q : Nat, s.heap.size ≤ q → A q := fun q h => by rw [← hAe]; exact Or.inr h
  have hS : va_S A s.heap s.heap [] := va_S.rf
  have hP : va_P D xcl [(a0, .inr (5, [v17, v18, v19, v20, v21, v22, v23, v24, v25, v26, v27, v28, v29, v30, v31, v32, v33, v34, v35, v36, v37, v38, v39, v40, v41, v42, v43, v44, v45, v46, v47, v48]))] s.heap := hP
  have hl := lv_entry ([.ref a0, .int x1, .int x6, .int x10, .int x15]) (n := 5) (Nat.le_of_ble_eq_true rfl)
  rw [lg_entry_eq]
  generalize (lg_sl ([.ref a0, .int x1, .int x6, .int x10, .int x15]) ++ List.replicate (5 - (lg_sl ([.ref a0, .int x1, .int x6, .int x10, .int x15])).length) Slot.unset).toArray = ls at hl ⊢
  have hl : lv_has ls 5 [(0, .ref a0), (1, .int x1), (2, .int x6), (3, .int x10), (4, .int x15)] := hl
  refine lv_aload_n hx hb dM_binary0_0 rfl (lv_at hl 0 rfl) ?_
  obtain ⟨hPc, hDc, hFc⟩ := xcut (wc := [(a0, .inr (5, [v17, v18, v19, v20, v21, v22, v23, v24, v25, v26, v27, v28, v29, v30, v31, v32, v33, v34, v35, v36, v37, v38, v39, v40, v41, v42, v43, v44, v45, v46, v47, v48]))]) hP hD hS hA [0] rfl rfl (by decide)
  refine va_callv (va_runV (C := "ValueBenchModel") (As := []) (rest := []) ⟨hx, hb, hml, hown, htx⟩ (cM_begin_0 l hl9 D cT aK aV s.heap.size a0 v17 v18 v19 v20 v21 v22 v23 v24 v25 v26 v27 v28 v29 v30 v31 v32 v33 v34 v35 v36 v37 v38 v39 v40 v41 v42 v43 v44 v45 v46 v47 v48) ⟨callB_of 0 htx (xw_goodC kw_5_209) rfl rfl rfl (htx _ kw_1_5) (htx _ kw_5_206) ⟨by decide, by decide, by decide +kernel⟩ ⟨Nat.le_of_ble_eq_true rfl, Nat.le_of_ble_eq_true rfl⟩, (htx _ kw_5_208), (htx _ kp_M_begin)⟩ ⟨xPre_blind, va_recv hK hP (ci := 5) rfl (q0 := 0) rfl, (fun U hU hW => ⟨rfl, xPre_of hZ hS hFc hPc hDc hK U hU hW⟩)⟩ rfl rfl hl.1 rfl (lv_room (Nat.le_of_ble_eq_true rfl)) dM_binary0_1 ⟨Nat.le_of_ble_eq_true rfl, Nat.le_of_ble_eq_true rfl⟩) hS (fun q _ h => hFc q h) hFc (fun u9 t H1 locs ht hvm hr9 hB hz1 hk1 hS => ?_)
  obtain ⟨hP1, hK1, hD1⟩ := hB
  rw [ht] at hP1
  obtain ⟨hP, hD⟩ := xjoin (W := [(a0, .inr (5, [.int 0, v18, .int 0, v20, .int 0, v22, v23, .int 0, v25, .int 0, v27, v28, .int 0, v30, v31, v32, v33, v34, v35, v36, v37, v38, .int 0, .int 1000000000, v41, v42, v43, v44, v45, v46, v47, v48]))]) hP hD [0] [] 0 rfl rfl (by decide) (by decide) hk1 hFc hP1 hD1
  generalize H1 = H at hP hS ⊢
  refine lv_aload_n hx hb dM_binary0_4 rfl (lv_at hl 0 rfl) ?_
  refine lv_iload_n hx hb dM_binary0_5 rfl (lv_at hl 1 rfl) ?_
  obtain ⟨hPc, hDc, hFc⟩ := xcut (wc := []) hP hD hS hA [] rfl rfl (by decide)
  refine va_calli (va_runV (C := "ValueBenchModel") (As := [.int x1]) (rest := []) ⟨hx, hb, hml, hown, htx⟩ (cM_out_2 l hl9 D cT aK aV H.size a0 x1 h2 h3 h4 h5) ⟨callB_of 1 htx (xw_goodC kw_5_217) rfl rfl rfl (htx _ kw_1_5) (htx _ kw_5_214) ⟨by decide, by decide, by decide +kernel⟩ ⟨Nat.le_of_ble_eq_true rfl, Nat.le_of_ble_eq_true rfl⟩, (htx _ kw_5_216), (htx _ kp_M_out)⟩ ⟨xPre_blind, va_recv hK hP (ci := 5) rfl (q0 := 0) rfl, (fun U hU hW => ⟨rfl, xPre_of hZ hS hFc hPc hDc hK U hU hW⟩)⟩ rfl rfl hl.1 rfl (lv_room (Nat.le_of_ble_eq_true rfl)) dM_binary0_6 ⟨Nat.le_of_ble_eq_true rfl, Nat.le_of_ble_eq_true rfl⟩) hS (fun q _ h => hFc q h) hFc (fun r1 u9 t H1 locs ht hvm hr9 hB hz1 hk1 hS => ?_)
  obtain ⟨hP1, hK1, hD1⟩ := hB
  rw [ht] at hP1
  obtain ⟨hP, hD⟩ := xjoin (W := [(a0, .inr (5, [.int 0, v18, .int 0, v20, .int 0, v22, v23, .int 0, v25, .int 0, v27, v28, .int 0, v30, v31, v32, v33, v34, v35, v36, v37, v38, .int 0, .int 1000000000, v41, v42, v43, v44, v45, v46, v47, v48]))]) hP hD [] [0] 1 rfl rfl (by decide) (by decide) hk1 hFc hP1 hD1
  generalize H1 = H at hP hS ⊢
  rw [hr9]
  refine W.eq (g2 := F0 m 9 ls [.int 0]) rfl ?_
  refine lv_if_ne (tgt := 38) hx hb dM_binary0_9 (by decide) (fun h => ((by revert h; decide : False)).elim) (fun _ => ?_)
  refine lv_iload_n hx hb dM_binary0_12 rfl (lv_at hl 2 rfl) ?_
  refine lv_if_lt (tgt := 38) hx hb dM_binary0_13 (by decide) (fun h => by first | exact absurd h h7 | exact absurd h h8 | exact absurd h h9 | exact absurd h7 h | exact absurd h8 h | exact absurd h9 h) (fun _ => ?_)
  refine lv_iload_n hx hb dM_binary0_16 rfl (lv_at hl 2 rfl) ?_
  refine lv_iconst (v := 4) hx hb dM_binary0_17 (by decide) ?_
  refine lv_icmp_gt (tgt := 38) hx hb dM_binary0_18 (by decide) (fun h => by first | exact absurd h h7 | exact absurd h h8 | exact absurd h h9 | exact absurd h7 h | exact absurd h8 h | exact absurd h9 h) (fun _ => ?_)
  refine lv_aload_n hx hb dM_binary0_21 rfl (lv_at hl 0 rfl) ?_
  refine lv_iload_n hx hb dM_binary0_22 rfl (lv_at hl 3 rfl) ?_
  obtain ⟨hPc, hDc, hFc⟩ := xcut (wc := []) hP hD hS hA [] rfl rfl (by decide)
  refine va_calli (va_runV (C := "ValueBenchModel") (As := [.int x10]) (rest := []) ⟨hx, hb, hml, hown, htx⟩ (cM_out_2 l hl9 D cT aK aV H.size a0 x10 h11 h12 h13 h14) ⟨callB_of 1 htx (xw_goodC kw_5_217) rfl rfl rfl (htx _ kw_1_5) (htx _ kw_5_214) ⟨by decide, by decide, by decide +kernel⟩ ⟨Nat.le_of_ble_eq_true rfl, Nat.le_of_ble_eq_true rfl⟩, (htx _ kw_5_216), (htx _ kp_M_out)⟩ ⟨xPre_blind, va_recv hK hP (ci := 5) rfl (q0 := 0) rfl, (fun U hU hW => ⟨rfl, xPre_of hZ hS hFc hPc hDc hK U hU hW⟩)⟩ rfl rfl hl.1 rfl (lv_room (Nat.le_of_ble_eq_true rfl)) dM_binary0_23 ⟨Nat.le_of_ble_eq_true rfl, Nat.le_of_ble_eq_true rfl⟩) hS (fun q _ h => hFc q h) hFc (fun r2 u9 t H1 locs ht hvm hr9 hB hz1 hk1 hS => ?_)
  obtain ⟨hP1, hK1, hD1⟩ := hB
  rw [ht] at hP1
  obtain ⟨hP, hD⟩ := xjoin (W := [(a0, .inr (5, [.int 0, v18, .int 0, v20, .int 0, v22, v23, .int 0, v25, .int 0, v27, v28, .int 0, v30, v31, v32, v33, v34, v35, v36, v37, v38, .int 0, .int 1000000000, v41, v42, v43, v44, v45, v46, v47, v48]))]) hP hD [] [0] 1 rfl rfl (by decide) (by decide) hk1 hFc hP1 hD1
  generalize H1 = H at hP hS ⊢
  rw [hr9]
  refine W.eq (g2 := F0 m 26 ls [.int 0]) rfl ?_
  refine lv_if_ne (tgt := 38) hx hb dM_binary0_26 (by decide) (fun h => ((by revert h; decide : False)).elim) (fun _ => ?_)
  refine lv_aload_n hx hb dM_binary0_29 rfl (lv_at hl 0 rfl) ?_
  refine lv_iload hx hb dM_binary0_30 (lv_at hl 4 rfl) ?_
  obtain ⟨hPc, hDc, hFc⟩ := xcut (wc := []) hP hD hS hA [] rfl rfl (by decide)
  refine va_calli (va_runV (C := "ValueBenchModel") (As := [.int x15]) (rest := []) ⟨hx, hb, hml, hown, htx⟩ (cM_out_0 l hl9 D cT aK aV H.size a0 x15 h16) ⟨callB_of 1 htx (xw_goodC kw_5_217) rfl rfl rfl (htx _ kw_1_5) (htx _ kw_5_214) ⟨by decide, by decide, by decide +kernel⟩ ⟨Nat.le_of_ble_eq_true rfl, Nat.le_of_ble_eq_true rfl⟩, (htx _ kw_5_216), (htx _ kp_M_out)⟩ ⟨xPre_blind, va_recv hK hP (ci := 5) rfl (q0 := 0) rfl, (fun U hU hW => ⟨rfl, xPre_of hZ hS hFc hPc hDc hK U hU hW⟩)⟩ rfl rfl hl.1 rfl (lv_room (Nat.le_of_ble_eq_true rfl)) dM_binary0_32 ⟨Nat.le_of_ble_eq_true rfl, Nat.le_of_ble_eq_true rfl⟩) hS (fun q _ h => hFc q h) hFc (fun r3 u9 t H1 locs ht hvm hr9 hB hz1 hk1 hS => ?_)
  obtain ⟨hP1, hK1, hD1⟩ := hB
  rw [ht] at hP1
  obtain ⟨hP, hD⟩ := xjoin (W := [(a0, .inr (5, [.int 0, v18, .int 0, v20, .int 0, v22, v23, .int 0, v25, .int 0, v27, v28, .int 0, v30, v31, v32, v33, v34, v35, v36, v37, v38, .int 0, .int 1000000000, v41, v42, v43, v44, v45, v46, v47, v48]))]) hP hD [] [0] 1 rfl rfl (by decide) (by decide) hk1 hFc hP1 hD1
  generalize H1 = H at hP hS ⊢
  rw [hr9]
  refine W.eq (g2 := F0 m 35 ls [.int 1]) rfl ?_
  refine lv_if_eq (tgt := 46) hx hb dM_binary0_35 (by decide) (fun h => ((by revert h; decide : False)).elim) (fun _ => ?_)
  refine lv_aload_n hx hb dM_binary0_38 rfl (lv_at hl 0 rfl) ?_
  refine lv_iconst (v := 1) hx hb dM_binary0_39 (by decide) ?_
  refine va_put (D := D) (ci := 5) (v := .int 1) (ty := .int) (C := "ValueBenchModel") (T := TM) (N := 32) hx hb htx inM tyM tyM_ok nmM hown hK hP hD hS 0 rfl rfl 0 (by decide) (htx _ kw_5_87) (fun _ h9 => h9) rfl (by decide +kernel) rfl rfl (Nat.le_of_ble_eq_true rfl) dM_binary0_40 (fun H locs hP hD hS => ?_)
  obtain ⟨hP, hD⟩ : xPD D xcl A [(a0, .inr (5, [.int 1, v18, .int 0, v20, .int 0, v22, v23, .int 0, v25, .int 0, v27, v28, .int 0, v30, v31, v32, v33, v34, v35, v36, v37, v38, .int 0, .int 1000000000, v41, v42, v43, v44, v45, v46, v47, v48]))] H := ⟨hP, hD⟩
  refine lv_goto (tgt := 56) hx hb dM_binary0_43 (by decide) ?_
  obtain ⟨hP9, hD9⟩ := xsub (wc := [(a0, .inr (5, [.int 1, v18, .int 0, v20, .int 0, v22, v23, .int 0, v25, .int 0, v27, v28, .int 0, v30, v31, v32, v33, v34, v35, v36, v37, v38, .int 0, .int 1000000000, v41, v42, v43, v44, v45, v46, v47, v48]))]) hP hD [0] rfl rfl (by decide)
  refine W.widen (k := 0) (n := 0) (Nat.le_of_ble_eq_true rfl) (Nat.le_of_ble_eq_true rfl) ?_
  exact W.vret hx hb hr (fun t ht hW => ⟨⟨(), rfl, trivial, by rw [ht]; exact hP9, va_K.moved hW.alike hK, hD9⟩, hS.F ht⟩) hS.2.2 dM_binary0_56
set_option maxHeartbeats 400000000 in
set_option maxRecDepth 100000 in
theorem cB_binary_7 (l : Launch) (hl9 : l.stackTraces = false) (D : va_G) (cT : Nat → ClassId) (aK aV : Nat → Nat) (sz : Nat) (b0 : Nat) (x1 : Int32) (x6 : Int32) (x10 : Int32) (x15 : Int32) (h2 : ¬ x1 < 0) (h3 : ¬ 7 < x1) (h4 : x1 ≤ 7) (h5 : vp_in x1 8) (h7 : ¬ x6 < 0) (h8 : ¬ 4 < x6) (h9 : x6 ≤ 4) (h11 : ¬ x10 < 0) (h12 : ¬ 7 < x10) (h13 : x10 ≤ 7) (h14 : vp_in x10 8) (h16 : ¬ x15 < 0) (h17 : 7 < x15) (h18 : ¬ x15 ≤ 7) : xMetX l yB_binary wyB_binary 7 1 6 120 D cT aK aV sz [.ref b0, .int x1, .int x6, .int x10, .int x15] [] "java/lang/IllegalArgumentException" (fun A t => xB D xcl cT A [] t) := by
  refine vx_ofW (cc := prog_1_method_6_code) (maxL := 5) (ret := none) (by decide) rfl ?_
  intro p e s m args below meth c s₁ B hml hne hv
  obtain ⟨rfl, hsz, hZ, hP, hK, hD0⟩ := hv
  have hx := B.exec
  have hb := B.bytes
  have hr := B.returns
  have hts := atoms_spec (ws := wyB_binary) B.pre
  have htx := fun w h => hts w (List.mem_cons_of_mem _ h)
  have hown : s.vm.findClass "ValueBench" = some m.cls := findClass_of_methodNamed B.named
  have hlocks := B.notSynchronized
  subst hsz
  have hD := hD0.self (sz := s.heap.size)
  generalize hAe : va_A [] s.heap.size = A at hD hZ ⊢
  have hA : ∀ q : Nat, s.heap.size ≤ q → A q := fun q h => by rw [← hAe]; exact Or.inr h
  have hS : va_S A s.heap s.heap [] := va_S.rf
  have hP : va_P D xcl [] s.heap := hP
  have hl := lv_entry ([.ref b0, .int x1, .int x6, .int x10, .int x15]) (n := 5) (Nat.le_of_ble_eq_true rfl)
  rw [lg_entry_eq]
  generalize (lg_sl ([.ref b0, .int x1, .int x6, .int x10, .int x15]) ++ List.replicate (5 - (lg_sl ([.ref b0, .int x1, .int x6, .int x10, .int x15])).length) Slot.unset).toArray = ls at hl ⊢
  have hl : lv_has ls 5 [(0, .ref b0), (1, .int x1), (2, .int x6), (3, .int x10), (4, .int x15)] := hl
  refine lv_iload_n hx hb dB_binary_0 rfl (lv_at hl 1 rfl) ?_
  obtain ⟨hPc, hDc, hFc⟩ := xcut (wc := []) hP hD hS hA [] rfl rfl (by decide)
  refine va_calli (va_runS (As := [.int x1]) (rest := []) ⟨hx, hb, hml, hown, htx⟩ (cB_isRegister_2 l hl9 D cT aK aV s.heap.size x1 h2 h3 h4 h5) ⟨callB_of 1 htx (xw_goodC kw_2_18) rfl rfl rfl (htx _ kw_1_1) (htx _ kw_2_16) ⟨by decide, by decide, by decide +kernel⟩ ⟨Nat.le_of_ble_eq_true rfl, Nat.le_of_ble_eq_true rfl⟩, htx _ kw_2_17⟩ ⟨xPre_blind, (fun U hU hW => ⟨rfl, xPre_of hZ hS hFc hPc hDc hK U hU hW⟩)⟩ rfl rfl hl.1 rfl (lv_room (Nat.le_of_ble_eq_true rfl)) dB_binary_1 ⟨Nat.le_of_ble_eq_true rfl, Nat.le_of_ble_eq_true rfl⟩) hS (fun q _ h => hFc q h) hFc (fun r1 u9 t H1 locs ht hvm hr9 hB hz1 hk1 hS => ?_)
  obtain ⟨hP1, hK1, hD1⟩ := hB
  rw [ht] at hP1
  obtain ⟨hP, hD⟩ := xjoin (W := []) hP hD [] [] 0 rfl rfl (by decide) (by decide) hk1 hFc hP1 hD1
  generalize H1 = H at hP hS ⊢
  rw [hr9]
  refine W.eq (g2 := F0 m 4 ls [.int 1]) rfl ?_
  refine lv_if_eq (tgt := 34) hx hb dB_binary_4 (by decide) (fun h => ((by revert h; decide : False)).elim) (fun _ => ?_)
  refine lv_iload_n hx hb dB_binary_7 rfl (lv_at hl 2 rfl) ?_
  refine lv_iconst (v := 4) hx hb dB_binary_8 (by decide) ?_
  obtain ⟨hPc, hDc, hFc⟩ := xcut (wc := []) hP hD hS hA [] rfl rfl (by decide)
  refine va_calli (va_runS (As := [.int x6, .int 4]) (rest := []) ⟨hx, hb, hml, hown, htx⟩ (cB_isWithin_6 l hl9 D cT aK aV H.size x6 h7 h8 h9) ⟨callB_of 2 htx (xw_goodC kw_1_218) rfl rfl rfl (htx _ kw_1_1) (htx _ kw_1_216) ⟨by decide, by decide, by decide +kernel⟩ ⟨Nat.le_of_ble_eq_true rfl, Nat.le_of_ble_eq_true rfl⟩, htx _ kw_1_217⟩ ⟨xPre_blind, (fun U hU hW => ⟨rfl, xPre_of hZ hS hFc hPc hDc hK U hU hW⟩)⟩ rfl rfl hl.1 rfl (lv_room (Nat.le_of_ble_eq_true rfl)) dB_binary_9 ⟨Nat.le_of_ble_eq_true rfl, Nat.le_of_ble_eq_true rfl⟩) hS (fun q _ h => hFc q h) hFc (fun r2 u9 t H1 locs ht hvm hr9 hB hz1 hk1 hS => ?_)
  obtain ⟨hP1, hK1, hD1⟩ := hB
  rw [ht] at hP1
  obtain ⟨hP, hD⟩ := xjoin (W := []) hP hD [] [] 0 rfl rfl (by decide) (by decide) hk1 hFc hP1 hD1
  generalize H1 = H at hP hS ⊢
  rw [hr9]
  refine W.eq (g2 := F0 m 12 ls [.int 1]) rfl ?_
  refine lv_if_eq (tgt := 34) hx hb dB_binary_12 (by decide) (fun h => ((by revert h; decide : False)).elim) (fun _ => ?_)
  refine lv_iload_n hx hb dB_binary_15 rfl (lv_at hl 3 rfl) ?_
  obtain ⟨hPc, hDc, hFc⟩ := xcut (wc := []) hP hD hS hA [] rfl rfl (by decide)
  refine va_calli (va_runS (As := [.int x10]) (rest := []) ⟨hx, hb, hml, hown, htx⟩ (cB_isRegister_2 l hl9 D cT aK aV H.size x10 h11 h12 h13 h14) ⟨callB_of 1 htx (xw_goodC kw_2_18) rfl rfl rfl (htx _ kw_1_1) (htx _ kw_2_16) ⟨by decide, by decide, by decide +kernel⟩ ⟨Nat.le_of_ble_eq_true rfl, Nat.le_of_ble_eq_true rfl⟩, htx _ kw_2_17⟩ ⟨xPre_blind, (fun U hU hW => ⟨rfl, xPre_of hZ hS hFc hPc hDc hK U hU hW⟩)⟩ rfl rfl hl.1 rfl (lv_room (Nat.le_of_ble_eq_true rfl)) dB_binary_16 ⟨Nat.le_of_ble_eq_true rfl, Nat.le_of_ble_eq_true rfl⟩) hS (fun q _ h => hFc q h) hFc (fun r3 u9 t H1 locs ht hvm hr9 hB hz1 hk1 hS => ?_)
  obtain ⟨hP1, hK1, hD1⟩ := hB
  rw [ht] at hP1
  obtain ⟨hP, hD⟩ := xjoin (W := []) hP hD [] [] 0 rfl rfl (by decide) (by decide) hk1 hFc hP1 hD1
  generalize H1 = H at hP hS ⊢
  rw [hr9]
  refine W.eq (g2 := F0 m 19 ls [.int 1]) rfl ?_
  refine lv_if_eq (tgt := 34) hx hb dB_binary_19 (by decide) (fun h => ((by revert h; decide : False)).elim) (fun _ => ?_)
  refine lv_iload hx hb dB_binary_22 (lv_at hl 4 rfl) ?_
  obtain ⟨hPc, hDc, hFc⟩ := xcut (wc := []) hP hD hS hA [] rfl rfl (by decide)
  refine va_calli (va_runS (As := [.int x15]) (rest := []) ⟨hx, hb, hml, hown, htx⟩ (cB_isRegister_1 l hl9 D cT aK aV H.size x15 h16 h17 h18) ⟨callB_of 1 htx (xw_goodC kw_2_18) rfl rfl rfl (htx _ kw_1_1) (htx _ kw_2_16) ⟨by decide, by decide, by decide +kernel⟩ ⟨Nat.le_of_ble_eq_true rfl, Nat.le_of_ble_eq_true rfl⟩, htx _ kw_2_17⟩ ⟨xPre_blind, (fun U hU hW => ⟨rfl, xPre_of hZ hS hFc hPc hDc hK U hU hW⟩)⟩ rfl rfl hl.1 rfl (lv_room (Nat.le_of_ble_eq_true rfl)) dB_binary_24 ⟨Nat.le_of_ble_eq_true rfl, Nat.le_of_ble_eq_true rfl⟩) hS (fun q _ h => hFc q h) hFc (fun r4 u9 t H1 locs ht hvm hr9 hB hz1 hk1 hS => ?_)
  obtain ⟨hP1, hK1, hD1⟩ := hB
  rw [ht] at hP1
  obtain ⟨hP, hD⟩ := xjoin (W := []) hP hD [] [] 0 rfl rfl (by decide) (by decide) hk1 hFc hP1 hD1
  generalize H1 = H at hP hS ⊢
  rw [hr9]
  refine W.eq (g2 := F0 m 27 ls [.int 0]) rfl ?_
  refine lv_if_eq (tgt := 34) hx hb dB_binary_27 (by decide) (fun _ => ?_) (fun h => ((by revert h; decide : False)).elim)
  refine lv_iconst (v := 0) hx hb dB_binary_34 (by decide) ?_
  obtain ⟨hPc, hDc, hFc⟩ := xcut (wc := []) hP hD hS hA [] rfl rfl (by decide)
  refine xx_thr (vx_runS (As := [.int 0]) (rest := []) ⟨hx, hb, hml, hown, htx⟩ (cB_demand_0 l hl9 D cT aK aV H.size) ⟨callB_of 1 htx (xw_goodC kw_1_221) rfl rfl rfl (htx _ kw_1_1) (htx _ kw_1_219) ⟨by decide, by decide, by decide +kernel⟩ ⟨Nat.le_of_ble_eq_true rfl, Nat.le_of_ble_eq_true rfl⟩, htx _ kw_1_220⟩ ⟨xPre_blind, (fun U hU hW => ⟨rfl, xPre_of hZ hS hFc hPc hDc hK U hU hW⟩)⟩ rfl rfl hl.1 rfl (lv_room (Nat.le_of_ble_eq_true rfl)) dB_binary_35 ⟨Nat.le_of_ble_eq_true rfl, Nat.le_of_ble_eq_true rfl⟩) hS hFc (fun q _ h => hFc q h) (fun E ce q9 u9 t H1 locs ht hvm _ hB hz1 hk1 hS hce hcv hcl => ?_)
  obtain ⟨rfl, hP1, hK1, hD1⟩ := hB
  rw [ht] at hP1
  obtain ⟨hP, hD⟩ := xjoin (W := []) hP hD [] [] 0 rfl rfl (by decide) (by decide) hk1 hFc hP1 hD1
  generalize H1 = H at hP hS hce ⊢
  obtain ⟨hP9, hD9⟩ := xsub (wc := []) hP hD [] rfl rfl (by decide)
  exact vx_out (E := "java/lang/IllegalArgumentException") (fun x h => (hne x h).elim) hlocks hce hcv hcl (fun t ht ha => ⟨(), trivial, ⟨rfl, by rw [ht]; exact hP9, va_K.moved ha hK, hD9⟩, hS.F ht⟩) hS.2.2 (Nat.le_of_ble_eq_true rfl) (Nat.le_of_ble_eq_true rfl)
set_option maxHeartbeats 400000000 in
set_option maxRecDepth 100000 in
theorem cL_binary_7 (l : Launch) (hl9 : l.stackTraces = false) (D : va_G) (cT : Nat → ClassId) (aK aV : Nat → Nat) (sz : Nat) (a0 : Nat) (x1 : Int32) (x6 : Int32) (x10 : Int32) (x15 : Int32) (v19 : Value) (v20 : Value) (v21 : Value) (v22 : Value) (v23 : Value) (v24 : Value) (v25 : Value) (v26 : Value) (h2 : ¬ x1 < 0) (h3 : ¬ 7 < x1) (h4 : x1 ≤ 7) (h5 : vp_in x1 8) (h7 : ¬ x6 < 0) (h8 : ¬ 4 < x6) (h9 : x6 ≤ 4) (h11 : ¬ x10 < 0) (h12 : ¬ 7 < x10) (h13 : x10 ≤ 7) (h14 : vp_in x10 8) (h16 : ¬ x15 < 0) (h17 : 7 < x15) (h18 : ¬ x15 ≤ 7) : xMet l yL_binary wyL_binary 8 1 6 144 D cT aK aV sz [.ref a0, .int x1, .int x6, .int x10, .int x15] [(a0, .inr (0, [v19, v20, v21, v22, v23, v24, v25, v26]))] (fun A => va_Qi (fun (r : Int32) (_ : Unit) => r = 1) (fun _ t => xB D xcl cT A [(a0, .inr (0, [v19, v20, v21, v22, v23, v24, v25, v26]))] t) A) := by
  refine va_MetW (cc := method_7_code) (maxL := 6) (ret := (some .int)) (hh := [(0, 9, 12, 19), (0, 9, 16, 33), (0, 9, 20, 13)]) (by decide) rfl ?_
  intro p e s m args below meth c s₁ B hml hv
  obtain ⟨rfl, hsz, hZ, hP, hK, hD0⟩ := hv
  have hx := B.exec
  have hb := B.bytes
  have hr := B.returns
  have hts := atoms_spec (ws := wyL_binary) B.pre
  have htx := fun w h => hts w (List.mem_cons_of_mem _ h)
  have hown : s.vm.findClass "ValueBenchLaw" = some m.cls := findClass_of_methodNamed B.named
  have hlocks := B.notSynchronized
  subst hsz
  have hD := hD0.self (sz := s.heap.size)
  generalize hAe : va_A [(a0, .inr (0, [v19, v20, v21, v22, v23, v24, v25, v26]))] s.heap.size = A at hD hZ ⊢
  have hA : ∀ q : Nat, s.heap.size ≤ q → A q := fun q h => by rw [← hAe]; exact Or.inr h
  have hS : va_S A s.heap s.heap [] := va_S.rf
  have hP : va_P D xcl [(a0, .inr (0, [v19, v20, v21, v22, v23, v24, v25, v26]))] s.heap := hP
  have hl := lv_entry ([.ref a0, .int x1, .int x6, .int x10, .int x15]) (n := 6) (Nat.le_of_ble_eq_true rfl)
  rw [lg_entry_eq]
  generalize (lg_sl ([.ref a0, .int x1, .int x6, .int x10, .int x15]) ++ List.replicate (6 - (lg_sl ([.ref a0, .int x1, .int x6, .int x10, .int x15])).length) Slot.unset).toArray = ls at hl ⊢
  have hl : lv_has ls 6 [(0, .ref a0), (1, .int x1), (2, .int x6), (3, .int x10), (4, .int x15)] := hl
  have htab := vx_table (x := yL_binary) B (hts _ List.mem_cons_self)
  refine lv_aload_n hx hb dL_binary_0 rfl (lv_at hl 0 rfl) ?_
  refine lv_iload_n hx hb dL_binary_1 rfl (lv_at hl 1 rfl) ?_
  refine lv_iload_n hx hb dL_binary_2 rfl (lv_at hl 2 rfl) ?_
  refine lv_iload_n hx hb dL_binary_3 rfl (lv_at hl 3 rfl) ?_
  refine lv_iload hx hb dL_binary_4 (lv_at hl 4 rfl) ?_
  obtain ⟨hPc, hDc, hFc⟩ := xcut (wc := []) hP hD hS hA [] rfl rfl (by decide)
  refine xx_thr (vx_runV (C := "ValueBench") (As := [.int x1, .int x6, .int x10, .int x15]) (rest := []) ⟨hx, hb, hml, hown, htx⟩ (cB_binary_7 l hl9 D cT aK aV s.heap.size a0 x1 x6 x10 x15 h2 h3 h4 h5 h7 h8 h9 h11 h12 h13 h14 h16 h17 h18) ⟨callB_of 4 htx (xw_goodC kw_3_102) rfl rfl rfl (htx _ kw_1_1) (htx _ kw_3_99) ⟨by decide, by decide, by decide +kernel⟩ ⟨Nat.le_of_ble_eq_true rfl, Nat.le_of_ble_eq_true rfl⟩, (htx _ kw_3_100), (htx _ kw_3_101)⟩ ⟨xPre_blind, va_recv hK hP (ci := 0) rfl (q0 := 0) rfl, (fun U hU hW => ⟨rfl, xPre_of hZ hS hFc hPc hDc hK U hU hW⟩)⟩ rfl rfl hl.1 rfl (lv_room (Nat.le_of_ble_eq_true rfl)) dL_binary_6 ⟨Nat.le_of_ble_eq_true rfl, Nat.le_of_ble_eq_true rfl⟩) hS hFc (fun q _ h => hFc q h) (fun E ce q9 u9 t H1 locs ht hvm _ hB hz1 hk1 hS hce hcv hcl => ?_)
  obtain ⟨rfl, hP1, hK1, hD1⟩ := hB
  rw [ht] at hP1
  obtain ⟨hP, hD⟩ := xjoin (W := [(a0, .inr (0, [v19, v20, v21, v22, v23, v24, v25, v26]))]) hP hD [] [0] 1 rfl rfl (by decide) (by decide) hk1 hFc hP1 hD1
  generalize H1 = H at hP hS hce ⊢
  refine vx_catch (own := "ValueBenchLaw") (name := "java/lang/IllegalArgumentException") (E := "java/lang/IllegalArgumentException") hown [] ⟨0, 9, 12, 19⟩ [⟨0, 9, 16, 33⟩, ⟨0, 9, 20, 13⟩] (by rw [htab]; rfl) (fun z hz => nomatch hz) (by decide) (by decide) (htx _ kw_1_211) ((hZ.2.2.2.2.2.1 "java/lang/IllegalArgumentException" (List.mem_of_getElem? (i := 1) rfl)).use rfl) hce hcv hcl ?_
  refine lv_astore (lv' := [(5, .ref q9), (0, .ref a0), (1, .int x1), (2, .int x6), (3, .int x10), (4, .int x15)]) hx hb dL_binary_12 hl (by decide) rfl (fun ls hl => ?_)
  refine lv_iconst (v := 1) hx hb dL_binary_14 (by decide) ?_
  obtain ⟨hP9, hD9⟩ := xsub (wc := [(a0, .inr (0, [v19, v20, v21, v22, v23, v24, v25, v26]))]) hP hD [0] rfl rfl (by decide)
  refine W.widen (k := 1) (n := 6) (Nat.le_of_ble_eq_true rfl) (Nat.le_of_ble_eq_true rfl) ?_
  exact W.iret (v := 1) hx hb hr (fun t ht hW => ⟨⟨1, (), rfl, rfl, by rw [ht]; exact hP9, va_K.moved hW.alike hK, hD9⟩, hS.F ht⟩) hS.2.2 dL_binary_15
set_option maxHeartbeats 400000000 in
set_option maxRecDepth 100000 in
theorem cM_binary0_7 (l : Launch) (hl9 : l.stackTraces = false) (D : va_G) (cT : Nat → ClassId) (aK aV : Nat → Nat) (sz : Nat) (a0 : Nat) (x1 : Int32) (x6 : Int32) (x10 : Int32) (x15 : Int32) (v19 : Value) (v20 : Value) (v21 : Value) (v22 : Value) (v23 : Value) (v24 : Value) (v25 : Value) (v26 : Value) (v27 : Value) (v28 : Value) (v29 : Value) (v30 : Value) (v31 : Value) (v32 : Value) (v33 : Value) (v34 : Value) (v35 : Value) (v36 : Value) (v37 : Value) (v38 : Value) (v39 : Value) (v40 : Value) (v41 : Value) (v42 : Value) (v43 : Value) (v44 : Value) (v45 : Value) (v46 : Value) (v47 : Value) (v48 : Value) (v49 : Value) (v50 : Value) (h2 : ¬ x1 < 0) (h3 : ¬ 7 < x1) (h4 : x1 ≤ 7) (h5 : vp_in x1 8) (h7 : ¬ x6 < 0) (h8 : ¬ 4 < x6) (h9 : x6 ≤ 4) (h11 : ¬ x10 < 0) (h12 : ¬ 7 < x10) (h13 : x10 ≤ 7) (h14 : vp_in x10 8) (h16 : ¬ x15 < 0) (h17 : 7 < x15) (h18 : ¬ x15 ≤ 7) : xMet l yM_binary0 wyM_binary0 2 0 0 40 D cT aK aV sz [.ref a0, .int x1, .int x6, .int x10, .int x15] [(a0, .inr (5, [v19, v20, v21, v22, v23, v24, v25, v26, v27, v28, v29, v30, v31, v32, v33, v34, v35, v36, v37, v38, v39, v40, v41, v42, v43, v44, v45, v46, v47, v48, v49, v50]))] (fun A => va_Qv (fun _ : Unit => True) (fun _ t => xB D xcl cT A [(a0, .inr (5, [.int 1, v20, .int 0, v22, .int 0, v24, v25, .int 0, v27, .int 0, v29, v30, .int 0, v32, v33, v34, v35, v36, v37, v38, v39, v40, .int 0, .int 1000000000, v43, v44, v45, v46, v47, v48, v49, v50]))] t) A) := by
  refine Met.ofW (cc := prog_13_method_89_code) (maxL := 5) (ret := none) (by decide) rfl ?_
  intro p e s m args below meth c s₁ B hml hv
  obtain ⟨rfl, hsz, hZ, hP, hK, hD0⟩ := hv
  have hx := B.exec
  have hb := B.bytes
  have hr := B.returns
  have hts := atoms_spec (ws := wyM_binary0) B.pre
  have htx := fun w h => hts w (List.mem_cons_of_mem _ h)
  have hown : s.vm.findClass "ValueBenchModel" = some m.cls := findClass_of_methodNamed B.named
  have hlocks := B.notSynchronized
  subst hsz
  have hD := hD0.self (sz := s.heap.size)
  generalize hAe : va_A [(a0, .inr (5, [v19, v20, v21, v22, v23, v24, v25, v26, v27, v28, v29, v30, v31, v32, v33, v34, v35, v36, v37, v38, v39, v40, v41, v42, v43, v44, v45, v46, v47, v48, v49, v50]))] s.heap.size = A at hD hZ ⊢
  have hA : ∀ q : Nat, s.heap.size ≤ q → A q := fun q h => by rw [← hAe]; exact Or.inr h
  have hS : va_S A s.heap s.heap [] := va_S.rf
  have hP : va_P D xcl [(a0, .inr (5, [v19, v20, v21, v22, v23, v24, v25, v26, v27, v28, v29, v30, v31, v32, v33, v34, v35, v36, v37, v38, v39, v40, v41, v42, v43, v44, v45, v46, v47, v48, v49, v50]))] s.heap := hP
  have hl := lv_entry ([.ref a0, .int x1, .int x6, .int x10, .int x15]) (n := 5) (Nat.le_of_ble_eq_true rfl)
  rw [lg_entry_eq]
  generalize (lg_sl ([.ref a0, .int x1, .int x6, .int x10, .int x15]) ++ List.replicate (5 - (lg_sl ([.ref a0, .int x1, .int x6, .int x10, .int x15])).length) Slot.unset).toArray = ls at hl ⊢
  have hl : lv_has ls 5 [(0, .ref a0), (1, .int x1), (2, .int x6), (3, .int x10), (4, .int x15)] := hl
  refine lv_aload_n hx hb dM_binary0_0 rfl (lv_at hl 0 rfl) ?_
  obtain ⟨hPc, hDc, hFc⟩ := xcut (wc := [(a0, .inr (5, [v19, v20, v21, v22, v23, v24, v25, v26, v27, v28, v29, v30, v31, v32, v33, v34, v35, v36, v37, v38, v39, v40, v41, v42, v43, v44, v45, v46, v47, v48, v49, v50]))]) hP hD hS hA [0] rfl rfl (by decide)
  refine va_callv (va_runV (C := "ValueBenchModel") (As := []) (rest := []) ⟨hx, hb, hml, hown, htx⟩ (cM_begin_0 l hl9 D cT aK aV s.heap.size a0 v19 v20 v21 v22 v23 v24 v25 v26 v27 v28 v29 v30 v31 v32 v33 v34 v35 v36 v37 v38 v39 v40 v41 v42 v43 v44 v45 v46 v47 v48 v49 v50) ⟨callB_of 0 htx (xw_goodC kw_5_209) rfl rfl rfl (htx _ kw_1_5) (htx _ kw_5_206) ⟨by decide, by decide, by decide +kernel⟩ ⟨Nat.le_of_ble_eq_true rfl, Nat.le_of_ble_eq_true rfl⟩, (htx _ kw_5_208), (htx _ kp_M_begin)⟩ ⟨xPre_blind, va_recv hK hP (ci := 5) rfl (q0 := 0) rfl, (fun U hU hW => ⟨rfl, xPre_of hZ hS hFc hPc hDc hK U hU hW⟩)⟩ rfl rfl hl.1 rfl (lv_room (Nat.le_of_ble_eq_true rfl)) dM_binary0_1 ⟨Nat.le_of_ble_eq_true rfl, Nat.le_of_ble_eq_true rfl⟩) hS (fun q _ h => hFc q h) hFc (fun u9 t H1 locs ht hvm hr9 hB hz1 hk1 hS => ?_)
  obtain ⟨hP1, hK1, hD1⟩ := hB
  rw [ht] at hP1
  obtain ⟨hP, hD⟩ := xjoin (W := [(a0, .inr (5, [.int 0, v20, .int 0, v22, .int 0, v24, v25, .int 0, v27, .int 0, v29, v30, .int 0, v32, v33, v34, v35, v36, v37, v38, v39, v40, .int 0, .int 1000000000, v43, v44, v45, v46, v47, v48, v49, v50]))]) hP hD [0] [] 0 rfl rfl (by decide) (by decide) hk1 hFc hP1 hD1
  generalize H1 = H at hP hS ⊢
  refine lv_aload_n hx hb dM_binary0_4 rfl (lv_at hl 0 rfl) ?_
  refine lv_iload_n hx hb dM_binary0_5 rfl (lv_at hl 1 rfl) ?_
  obtain ⟨hPc, hDc, hFc⟩ := xcut (wc := []) hP hD hS hA [] rfl rfl (by decide)
  refine va_calli (va_runV (C := "ValueBenchModel") (As := [.int x1]) (rest := []) ⟨hx, hb, hml, hown, htx⟩ (cM_out_2 l hl9 D cT aK aV H.size a0 x1 h2 h3 h4 h5) ⟨callB_of 1 htx (xw_goodC kw_5_217) rfl rfl rfl (htx _ kw_1_5) (htx _ kw_5_214) ⟨by decide, by decide, by decide +kernel⟩ ⟨Nat.le_of_ble_eq_true rfl, Nat.le_of_ble_eq_true rfl⟩, (htx _ kw_5_216), (htx _ kp_M_out)⟩ ⟨xPre_blind, va_recv hK hP (ci := 5) rfl (q0 := 0) rfl, (fun U hU hW => ⟨rfl, xPre_of hZ hS hFc hPc hDc hK U hU hW⟩)⟩ rfl rfl hl.1 rfl (lv_room (Nat.le_of_ble_eq_true rfl)) dM_binary0_6 ⟨Nat.le_of_ble_eq_true rfl, Nat.le_of_ble_eq_true rfl⟩) hS (fun q _ h => hFc q h) hFc (fun r1 u9 t H1 locs ht hvm hr9 hB hz1 hk1 hS => ?_)
  obtain ⟨hP1, hK1, hD1⟩ := hB
  rw [ht] at hP1
  obtain ⟨hP, hD⟩ := xjoin (W := [(a0, .inr (5, [.int 0, v20, .int 0, v22, .int 0, v24, v25, .int 0, v27, .int 0, v29, v30, .int 0, v32, v33, v34, v35, v36, v37, v38, v39, v40, .int 0, .int 1000000000, v43, v44, v45, v46, v47, v48, v49, v50]))]) hP hD [] [0] 1 rfl rfl (by decide) (by decide) hk1 hFc hP1 hD1
  generalize H1 = H at hP hS ⊢
  rw [hr9]
  refine W.eq (g2 := F0 m 9 ls [.int 0]) rfl ?_
  refine lv_if_ne (tgt := 38) hx hb dM_binary0_9 (by decide) (fun h => ((by revert h; decide : False)).elim) (fun _ => ?_)
  refine lv_iload_n hx hb dM_binary0_12 rfl (lv_at hl 2 rfl) ?_
  refine lv_if_lt (tgt := 38) hx hb dM_binary0_13 (by decide) (fun h => by first | exact absurd h h7 | exact absurd h h8 | exact absurd h h9 | exact absurd h7 h | exact absurd h8 h | exact absurd h9 h) (fun _ => ?_)
  refine lv_iload_n hx hb dM_binary0_16 rfl (lv_at hl 2 rfl) ?_
  refine lv_iconst (v := 4) hx hb dM_binary0_17 (by decide) ?_
  refine lv_icmp_gt (tgt := 38) hx hb dM_binary0_18 (by decide) (fun h => by first | exact absurd h h7 | exact absurd h h8 | exact absurd h h9 | exact absurd h7 h | exact absurd h8 h | exact absurd h9 h) (fun _ => ?_)
  refine lv_aload_n hx hb dM_binary0_21 rfl (lv_at hl 0 rfl) ?_
  refine lv_iload_n hx hb dM_binary0_22 rfl (lv_at hl 3 rfl) ?_
  obtain ⟨hPc, hDc, hFc⟩ := xcut (wc := []) hP hD hS hA [] rfl rfl (by decide)
  refine va_calli (va_runV (C := "ValueBenchModel") (As := [.int x10]) (rest := []) ⟨hx, hb, hml, hown, htx⟩ (cM_out_2 l hl9 D cT aK aV H.size a0 x10 h11 h12 h13 h14) ⟨callB_of 1 htx (xw_goodC kw_5_217) rfl rfl rfl (htx _ kw_1_5) (htx _ kw_5_214) ⟨by decide, by decide, by decide +kernel⟩ ⟨Nat.le_of_ble_eq_true rfl, Nat.le_of_ble_eq_true rfl⟩, (htx _ kw_5_216), (htx _ kp_M_out)⟩ ⟨xPre_blind, va_recv hK hP (ci := 5) rfl (q0 := 0) rfl, (fun U hU hW => ⟨rfl, xPre_of hZ hS hFc hPc hDc hK U hU hW⟩)⟩ rfl rfl hl.1 rfl (lv_room (Nat.le_of_ble_eq_true rfl)) dM_binary0_23 ⟨Nat.le_of_ble_eq_true rfl, Nat.le_of_ble_eq_true rfl⟩) hS (fun q _ h => hFc q h) hFc (fun r2 u9 t H1 locs ht hvm hr9 hB hz1 hk1 hS => ?_)
  obtain ⟨hP1, hK1, hD1⟩ := hB
  rw [ht] at hP1
  obtain ⟨hP, hD⟩ := xjoin (W := [(a0, .inr (5, [.int 0, v20, .int 0, v22, .int 0, v24, v25, .int 0, v27, .int 0, v29, v30, .int 0, v32, v33, v34, v35, v36, v37, v38, v39, v40, .int 0, .int 1000000000, v43, v44, v45, v46, v47, v48, v49, v50]))]) hP hD [] [0] 1 rfl rfl (by decide) (by decide) hk1 hFc hP1 hD1
  generalize H1 = H at hP hS ⊢
  rw [hr9]
  refine W.eq (g2 := F0 m 26 ls [.int 0]) rfl ?_
  refine lv_if_ne (tgt := 38) hx hb dM_binary0_26 (by decide) (fun h => ((by revert h; decide : False)).elim) (fun _ => ?_)
  refine lv_aload_n hx hb dM_binary0_29 rfl (lv_at hl 0 rfl) ?_
  refine lv_iload hx hb dM_binary0_30 (lv_at hl 4 rfl) ?_
  obtain ⟨hPc, hDc, hFc⟩ := xcut (wc := []) hP hD hS hA [] rfl rfl (by decide)
  refine va_calli (va_runV (C := "ValueBenchModel") (As := [.int x15]) (rest := []) ⟨hx, hb, hml, hown, htx⟩ (cM_out_1 l hl9 D cT aK aV H.size a0 x15 h16 h17 h18) ⟨callB_of 1 htx (xw_goodC kw_5_217) rfl rfl rfl (htx _ kw_1_5) (htx _ kw_5_214) ⟨by decide, by decide, by decide +kernel⟩ ⟨Nat.le_of_ble_eq_true rfl, Nat.le_of_ble_eq_true rfl⟩, (htx _ kw_5_216), (htx _ kp_M_out)⟩ ⟨xPre_blind, va_recv hK hP (ci := 5) rfl (q0 := 0) rfl, (fun U hU hW => ⟨rfl, xPre_of hZ hS hFc hPc hDc hK U hU hW⟩)⟩ rfl rfl hl.1 rfl (lv_room (Nat.le_of_ble_eq_true rfl)) dM_binary0_32 ⟨Nat.le_of_ble_eq_true rfl, Nat.le_of_ble_eq_true rfl⟩) hS (fun q _ h => hFc q h) hFc (fun r3 u9 t H1 locs ht hvm hr9 hB hz1 hk1 hS => ?_)
  obtain ⟨hP1, hK1, hD1⟩ := hB
  rw [ht] at hP1
  obtain ⟨hP, hD⟩ := xjoin (W := [(a0, .inr (5, [.int 0, v20, .int 0, v22, .int 0, v24, v25, .int 0, v27, .int 0, v29, v30, .int 0, v32, v33, v34, v35, v36, v37, v38, v39, v40, .int 0, .int 1000000000, v43, v44, v45, v46, v47, v48, v49, v50]))]) hP hD [] [0] 1 rfl rfl (by decide) (by decide) hk1 hFc hP1 hD1
  generalize H1 = H at hP hS ⊢
  rw [hr9]
  refine W.eq (g2 := F0 m 35 ls [.int 1]) rfl ?_
  refine lv_if_eq (tgt := 46) hx hb dM_binary0_35 (by decide) (fun h => ((by revert h; decide : False)).elim) (fun _ => ?_)
  refine lv_aload_n hx hb dM_binary0_38 rfl (lv_at hl 0 rfl) ?_
  refine lv_iconst (v := 1) hx hb dM_binary0_39 (by decide) ?_
  refine va_put (D := D) (ci := 5) (v := .int 1) (ty := .int) (C := "ValueBenchModel") (T := TM) (N := 32) hx hb htx inM tyM tyM_ok nmM hown hK hP hD hS 0 rfl rfl 0 (by decide) (htx _ kw_5_87) (fun _ h9 => h9) rfl (by decide +kernel) rfl rfl (Nat.le_of_ble_eq_true rfl) dM_binary0_40 (fun H locs hP hD hS => ?_)
  obtain ⟨hP, hD⟩ : xPD D xcl A [(a0, .inr (5, [.int 1, v20, .int 0, v22, .int 0, v24, v25, .int 0, v27, .int 0, v29, v30, .int 0, v32, v33, v34, v35, v36, v37, v38, v39, v40, .int 0, .int 1000000000, v43, v44, v45, v46, v47, v48, v49, v50]))] H := ⟨hP, hD⟩
  refine lv_goto (tgt := 56) hx hb dM_binary0_43 (by decide) ?_
  obtain ⟨hP9, hD9⟩ := xsub (wc := [(a0, .inr (5, [.int 1, v20, .int 0, v22, .int 0, v24, v25, .int 0, v27, .int 0, v29, v30, .int 0, v32, v33, v34, v35, v36, v37, v38, v39, v40, .int 0, .int 1000000000, v43, v44, v45, v46, v47, v48, v49, v50]))]) hP hD [0] rfl rfl (by decide)
  refine W.widen (k := 0) (n := 0) (Nat.le_of_ble_eq_true rfl) (Nat.le_of_ble_eq_true rfl) ?_
  exact W.vret hx hb hr (fun t ht hW => ⟨⟨(), rfl, trivial, by rw [ht]; exact hP9, va_K.moved hW.alike hK, hD9⟩, hS.F ht⟩) hS.2.2 dM_binary0_56
set_option maxHeartbeats 400000000 in
set_option maxRecDepth 100000 in
theorem cB_isWithin_7 (l : Launch) (hl9 : l.stackTraces = false) (D : va_G) (cT : Nat → ClassId) (aK aV : Nat → Nat) (sz : Nat) : xMet l yB_isWithin wyB_isWithin 0 0 0 0 D cT aK aV sz [.int 0, .int 4] [] (fun A => va_Qi (fun (r : Int32) (_ : Unit) => r = 1) (fun _ t => xB D xcl cT A [] t) A) := by
  refine Met.ofW (cc := prog_1_method_15_code) (maxL := 2) (ret := (some .boolean)) (by decide) rfl ?_
  intro p e s m args below meth c s₁ B hml hv
  obtain ⟨rfl, hsz, hZ, hP, hK, hD0⟩ := hv
  have hx := B.exec
  have hb := B.bytes
  have hr := B.returns
  have hts := atoms_spec (ws := wyB_isWithin) B.pre
  have htx := fun w h => hts w (List.mem_cons_of_mem _ h)
  have hown : s.vm.findClass "ValueBench" = some m.cls := findClass_of_methodNamed B.named
  have hlocks := B.notSynchronized
  subst hsz
  have hD := hD0.self (sz := s.heap.size)
  generalize hAe : va_A [] s.heap.size = A at hD hZ ⊢
  have hA : ∀ q : Nat, s.heap.size ≤ q → A q := fun q h => by rw [← hAe]; exact Or.inr h
  have hS : va_S A s.heap s.heap [] := va_S.rf
  have hP : va_P D xcl [] s.heap := hP
  have hl := lv_entry ([.int 0, .int 4]) (n := 2) (Nat.le_of_ble_eq_true rfl)
  rw [lg_entry_eq]
  generalize (lg_sl ([.int 0, .int 4]) ++ List.replicate (2 - (lg_sl ([.int 0, .int 4])).length) Slot.unset).toArray = ls at hl ⊢
  have hl : lv_has ls 2 [(0, .int 0), (1, .int 4)] := hl
  refine lv_iload_n hx hb dB_isWithin_0 rfl (lv_at hl 0 rfl) ?_
  refine lv_if_lt (tgt := 13) hx hb dB_isWithin_1 (by decide) (fun h => ((by revert h; decide : False)).elim) (fun _ => ?_)
  refine lv_iload_n hx hb dB_isWithin_4 rfl (lv_at hl 0 rfl) ?_
  refine lv_iload_n hx hb dB_isWithin_5 rfl (lv_at hl 1 rfl) ?_
  refine lv_icmp_gt (tgt := 13) hx hb dB_isWithin_6 (by decide) (fun h => ((by revert h; decide : False)).elim) (fun _ => ?_)
  refine lv_iconst (v := 1) hx hb dB_isWithin_9 (by decide) ?_
  refine lv_goto (tgt := 14) hx hb dB_isWithin_10 (by decide) ?_
  obtain ⟨hP9, hD9⟩ := xsub (wc := []) hP hD [] rfl rfl (by decide)
  refine W.widen (k := 0) (n := 0) (Nat.le_of_ble_eq_true rfl) (Nat.le_of_ble_eq_true rfl) ?_
  exact W.zret (v := 1) hx hb hr rfl (fun t ht hW => ⟨⟨1, (), rfl, rfl, by rw [ht]; exact hP9, va_K.moved hW.alike hK, hD9⟩, hS.F ht⟩) hS.2.2 dB_isWithin_14
set_option maxHeartbeats 400000000 in
set_option maxRecDepth 100000 in
theorem cR_is_0 (l : Launch) (hl9 : l.stackTraces = false) (D : va_G) (cT : Nat → ClassId) (aK aV : Nat → Nat) (sz : Nat) (a0 : Nat) (a1 : Nat) (v2 : Value) (f3 : Nat → Int64) (h4 : f3 0 = 0) : xMet l yR_is wyR_is 1 0 0 21 D cT aK aV sz [.ref a0, .int 0, .int 3] [(a0, .inr (2, [.ref a1, .int 1, v2])), (a1, .inl (cT 2, 4096, .inr (.inl f3)))] (fun A => va_Qi (fun (r : Int32) (_ : Unit) => r = 0) (fun _ t => xB D xcl cT A [(a0, .inr (2, [.ref a1, .int 1, v2])), (a1, .inl (cT 2, 4096, .inr (.inl f3)))] t) A) := by
  refine Met.ofW (cc := prog_8_method_7_code) (maxL := 3) (ret := (some .boolean)) (by decide) rfl ?_
  intro p e s m args below meth c s₁ B hml hv
  obtain ⟨rfl, hsz, hZ, hP, hK, hD0⟩ := hv
  have hx := B.exec
  have hb := B.bytes
  have hr := B.returns
  have hts := atoms_spec (ws := wyR_is) B.pre
  have htx := fun w h => hts w (List.mem_cons_of_mem _ h)
  have hown : s.vm.findClass "ValueBench$Row" = some m.cls := findClass_of_methodNamed B.named
  have hlocks := B.notSynchronized
  subst hsz
  have hD := hD0.self (sz := s.heap.size)
  generalize hAe : va_A [(a0, .inr (2, [.ref a1, .int 1, v2])), (a1, .inl (cT 2, 4096, .inr (.inl f3)))] s.heap.size = A at hD hZ ⊢
  have hA : ∀ q : Nat, s.heap.size ≤ q → A q := fun q h => by rw [← hAe]; exact Or.inr h
  have hS : va_S A s.heap s.heap [] := va_S.rf
  have hP : va_P D xcl [(a0, .inr (2, [.ref a1, .int 1, v2])), (a1, .inl (cT 2, 4096, .inr (.inl f3)))] s.heap := hP
  have hl := lv_entry ([.ref a0, .int 0, .int 3]) (n := 3) (Nat.le_of_ble_eq_true rfl)
  rw [lg_entry_eq]
  generalize (lg_sl ([.ref a0, .int 0, .int 3]) ++ List.replicate (3 - (lg_sl ([.ref a0, .int 0, .int 3])).length) Slot.unset).toArray = ls at hl ⊢
  have hl : lv_has ls 3 [(0, .ref a0), (1, .int 0), (2, .int 3)] := hl
  refine lv_aload_n hx hb dR_is_0 rfl (lv_at hl 0 rfl) ?_
  refine lv_iload_n hx hb dR_is_1 rfl (lv_at hl 1 rfl) ?_
  obtain ⟨hPc, hDc, hFc⟩ := xcut (wc := [(a0, .inr (2, [.ref a1, .int 1, v2])), (a1, .inl (cT 2, 4096, .inr (.inl f3)))]) hP hD hS hA [0, 1] rfl rfl (by decide)
  refine va_calli (va_runV (C := "ValueBench$Row") (As := [.int 0]) (rest := []) ⟨hx, hb, hml, hown, htx⟩ (cR_kind_0 l hl9 D cT aK aV s.heap.size a0 a1 v2 f3 (by first | rfl | exact h4)) ⟨callB_of 1 htx (xw_goodC kw_3_24) rfl rfl rfl (htx _ kw_1_4) (htx _ kw_3_76) ⟨by decide, by decide, by decide +kernel⟩ ⟨Nat.le_of_ble_eq_true rfl, Nat.le_of_ble_eq_true rfl⟩, (htx _ kw_3_22), (htx _ kw_3_23)⟩ ⟨xPre_blind, va_recv hK hP (ci := 2) rfl (q0 := 0) rfl, (fun U hU hW => ⟨rfl, xPre_of hZ hS hFc hPc hDc hK U hU hW⟩)⟩ rfl rfl hl.1 rfl (lv_room (Nat.le_of_ble_eq_true rfl)) dR_is_2 ⟨Nat.le_of_ble_eq_true rfl, Nat.le_of_ble_eq_true rfl⟩) hS (fun q _ h => hFc q h) hFc (fun r1 u9 t H1 locs ht hvm hr9 hB hz1 hk1 hS => ?_)
  obtain ⟨hP1, hK1, hD1⟩ := hB
  rw [ht] at hP1
  obtain ⟨hP, hD⟩ := xjoin (W := [(a0, .inr (2, [.ref a1, .int 1, v2])), (a1, .inl (cT 2, 4096, .inr (.inl f3)))]) hP hD [0, 1] [] 0 rfl rfl (by decide) (by decide) hk1 hFc hP1 hD1
  generalize H1 = H at hP hS ⊢
  rw [hr9]
  refine W.eq (g2 := F0 m 5 ls [.int 0]) rfl ?_
  refine lv_iload_n hx hb dR_is_5 rfl (lv_at hl 2 rfl) ?_
  refine lv_icmp_ne (tgt := 13) hx hb dR_is_6 (by decide) (fun _ => ?_) (fun h => ((by revert h; decide : False)).elim)
  refine lv_iconst (v := 0) hx hb dR_is_13 (by decide) ?_
  obtain ⟨hP9, hD9⟩ := xsub (wc := [(a0, .inr (2, [.ref a1, .int 1, v2])), (a1, .inl (cT 2, 4096, .inr (.inl f3)))]) hP hD [0, 1] rfl rfl (by decide)
  refine W.widen (k := 0) (n := 0) (Nat.le_of_ble_eq_true rfl) (Nat.le_of_ble_eq_true rfl) ?_
  exact W.zret (v := 0) hx hb hr rfl (fun t ht hW => ⟨⟨0, (), rfl, rfl, by rw [ht]; exact hP9, va_K.moved hW.alike hK, hD9⟩, hS.F ht⟩) hS.2.2 dR_is_14
set_option maxHeartbeats 400000000 in
set_option maxRecDepth 100000 in
theorem cR_is_1 (l : Launch) (hl9 : l.stackTraces = false) (D : va_G) (cT : Nat → ClassId) (aK aV : Nat → Nat) (sz : Nat) (a0 : Nat) (a1 : Nat) (v2 : Value) (f3 : Nat → Int64) (h4 : f3 0 = 0) : xMet l yR_is wyR_is 1 0 0 21 D cT aK aV sz [.ref a0, .int 0, .int 0] [(a0, .inr (2, [.ref a1, .int 1, v2])), (a1, .inl (cT 2, 4096, .inr (.inl f3)))] (fun A => va_Qi (fun (r : Int32) (_ : Unit) => r = 1) (fun _ t => xB D xcl cT A [(a0, .inr (2, [.ref a1, .int 1, v2])), (a1, .inl (cT 2, 4096, .inr (.inl f3)))] t) A) := by
  refine Met.ofW (cc := prog_8_method_7_code) (maxL := 3) (ret := (some .boolean)) (by decide) rfl ?_
  intro p e s m args below meth c s₁ B hml hv
  obtain ⟨rfl, hsz, hZ, hP, hK, hD0⟩ := hv
  have hx := B.exec
  have hb := B.bytes
  have hr := B.returns
  have hts := atoms_spec (ws := wyR_is) B.pre
  have htx := fun w h => hts w (List.mem_cons_of_mem _ h)
  have hown : s.vm.findClass "ValueBench$Row" = some m.cls := findClass_of_methodNamed B.named
  have hlocks := B.notSynchronized
  subst hsz
  have hD := hD0.self (sz := s.heap.size)
  generalize hAe : va_A [(a0, .inr (2, [.ref a1, .int 1, v2])), (a1, .inl (cT 2, 4096, .inr (.inl f3)))] s.heap.size = A at hD hZ ⊢
  have hA : ∀ q : Nat, s.heap.size ≤ q → A q := fun q h => by rw [← hAe]; exact Or.inr h
  have hS : va_S A s.heap s.heap [] := va_S.rf
  have hP : va_P D xcl [(a0, .inr (2, [.ref a1, .int 1, v2])), (a1, .inl (cT 2, 4096, .inr (.inl f3)))] s.heap := hP
  have hl := lv_entry ([.ref a0, .int 0, .int 0]) (n := 3) (Nat.le_of_ble_eq_true rfl)
  rw [lg_entry_eq]
  generalize (lg_sl ([.ref a0, .int 0, .int 0]) ++ List.replicate (3 - (lg_sl ([.ref a0, .int 0, .int 0])).length) Slot.unset).toArray = ls at hl ⊢
  have hl : lv_has ls 3 [(0, .ref a0), (1, .int 0), (2, .int 0)] := hl
  refine lv_aload_n hx hb dR_is_0 rfl (lv_at hl 0 rfl) ?_
  refine lv_iload_n hx hb dR_is_1 rfl (lv_at hl 1 rfl) ?_
  obtain ⟨hPc, hDc, hFc⟩ := xcut (wc := [(a0, .inr (2, [.ref a1, .int 1, v2])), (a1, .inl (cT 2, 4096, .inr (.inl f3)))]) hP hD hS hA [0, 1] rfl rfl (by decide)
  refine va_calli (va_runV (C := "ValueBench$Row") (As := [.int 0]) (rest := []) ⟨hx, hb, hml, hown, htx⟩ (cR_kind_0 l hl9 D cT aK aV s.heap.size a0 a1 v2 f3 (by first | rfl | exact h4)) ⟨callB_of 1 htx (xw_goodC kw_3_24) rfl rfl rfl (htx _ kw_1_4) (htx _ kw_3_76) ⟨by decide, by decide, by decide +kernel⟩ ⟨Nat.le_of_ble_eq_true rfl, Nat.le_of_ble_eq_true rfl⟩, (htx _ kw_3_22), (htx _ kw_3_23)⟩ ⟨xPre_blind, va_recv hK hP (ci := 2) rfl (q0 := 0) rfl, (fun U hU hW => ⟨rfl, xPre_of hZ hS hFc hPc hDc hK U hU hW⟩)⟩ rfl rfl hl.1 rfl (lv_room (Nat.le_of_ble_eq_true rfl)) dR_is_2 ⟨Nat.le_of_ble_eq_true rfl, Nat.le_of_ble_eq_true rfl⟩) hS (fun q _ h => hFc q h) hFc (fun r1 u9 t H1 locs ht hvm hr9 hB hz1 hk1 hS => ?_)
  obtain ⟨hP1, hK1, hD1⟩ := hB
  rw [ht] at hP1
  obtain ⟨hP, hD⟩ := xjoin (W := [(a0, .inr (2, [.ref a1, .int 1, v2])), (a1, .inl (cT 2, 4096, .inr (.inl f3)))]) hP hD [0, 1] [] 0 rfl rfl (by decide) (by decide) hk1 hFc hP1 hD1
  generalize H1 = H at hP hS ⊢
  rw [hr9]
  refine W.eq (g2 := F0 m 5 ls [.int 0]) rfl ?_
  refine lv_iload_n hx hb dR_is_5 rfl (lv_at hl 2 rfl) ?_
  refine lv_icmp_ne (tgt := 13) hx hb dR_is_6 (by decide) (fun h => ((by revert h; decide : False)).elim) (fun _ => ?_)
  refine lv_iconst (v := 1) hx hb dR_is_9 (by decide) ?_
  refine lv_goto (tgt := 14) hx hb dR_is_10 (by decide) ?_
  obtain ⟨hP9, hD9⟩ := xsub (wc := [(a0, .inr (2, [.ref a1, .int 1, v2])), (a1, .inl (cT 2, 4096, .inr (.inl f3)))]) hP hD [0, 1] rfl rfl (by decide)
  refine W.widen (k := 0) (n := 0) (Nat.le_of_ble_eq_true rfl) (Nat.le_of_ble_eq_true rfl) ?_
  exact W.zret (v := 1) hx hb hr rfl (fun t ht hW => ⟨⟨1, (), rfl, rfl, by rw [ht]; exact hP9, va_K.moved hW.alike hK, hD9⟩, hS.F ht⟩) hS.2.2 dR_is_14
set_option maxHeartbeats 400000000 in
set_option maxRecDepth 100000 in
theorem cR_after_0 (l : Launch) (hl9 : l.stackTraces = false) (D : va_G) (cT : Nat → ClassId) (aK aV : Nat → Nat) (sz : Nat) (a0 : Nat) (a1 : Nat) (v2 : Value) (f3 : Nat → Int64) (h4 : f3 0 = 0) : xMet l yR_after wyR_after 0 0 0 0 D cT aK aV sz [.ref a0, .int 0] [(a0, .inr (2, [.ref a1, .int 1, v2])), (a1, .inl (cT 2, 4096, .inr (.inl f3)))] (fun A => va_Qi (fun (r : Int32) (_ : Unit) => r = 1) (fun _ t => xB D xcl cT A [(a0, .inr (2, [.ref a1, .int 1, v2])), (a1, .inl (cT 2, 4096, .inr (.inl f3)))] t) A) := by
  refine Met.ofW (cc := prog_8_method_11_code) (maxL := 2) (ret := (some .int)) (by decide) rfl ?_
  intro p e s m args below meth c s₁ B hml hv
  obtain ⟨rfl, hsz, hZ, hP, hK, hD0⟩ := hv
  have hx := B.exec
  have hb := B.bytes
  have hr := B.returns
  have hts := atoms_spec (ws := wyR_after) B.pre
  have htx := fun w h => hts w (List.mem_cons_of_mem _ h)
  have hown : s.vm.findClass "ValueBench$Row" = some m.cls := findClass_of_methodNamed B.named
  have hlocks := B.notSynchronized
  subst hsz
  have hD := hD0.self (sz := s.heap.size)
  generalize hAe : va_A [(a0, .inr (2, [.ref a1, .int 1, v2])), (a1, .inl (cT 2, 4096, .inr (.inl f3)))] s.heap.size = A at hD hZ ⊢
  have hA : ∀ q : Nat, s.heap.size ≤ q → A q := fun q h => by rw [← hAe]; exact Or.inr h
  have hS : va_S A s.heap s.heap [] := va_S.rf
  have hP : va_P D xcl [(a0, .inr (2, [.ref a1, .int 1, v2])), (a1, .inl (cT 2, 4096, .inr (.inl f3)))] s.heap := hP
  have hl := lv_entry ([.ref a0, .int 0]) (n := 2) (Nat.le_of_ble_eq_true rfl)
  rw [lg_entry_eq]
  generalize (lg_sl ([.ref a0, .int 0]) ++ List.replicate (2 - (lg_sl ([.ref a0, .int 0])).length) Slot.unset).toArray = ls at hl ⊢
  have hl : lv_has ls 2 [(0, .ref a0), (1, .int 0)] := hl
  refine lv_iload_n hx hb dR_after_0 rfl (lv_at hl 1 rfl) ?_
  refine lv_if_lt (tgt := 29) hx hb dR_after_1 (by decide) (fun h => ((by revert h; decide : False)).elim) (fun _ => ?_)
  refine lv_iload_n hx hb dR_after_4 rfl (lv_at hl 1 rfl) ?_
  refine lv_aload_n hx hb dR_after_5 rfl (lv_at hl 0 rfl) ?_
  refine va_get (D := D) (ci := 2) (v := .int 1) (C := "ValueBench$Row") (T := TR) (N := 3) hx hb htx inR hown hK hP 0 rfl rfl 1 (by decide) (htx _ kw_1_85) (fun _ h9 => h9) rfl dR_after_6 ?_
  refine lv_icmp_ge (tgt := 29) hx hb dR_after_9 (by decide) (fun h => ((by revert h; decide : False)).elim) (fun _ => ?_)
  refine lv_aload_n hx hb dR_after_12 rfl (lv_at hl 0 rfl) ?_
  refine va_get (D := D) (ci := 2) (v := .ref a1) (C := "ValueBench$Row") (T := TR) (N := 3) hx hb htx inR hown hK hP 0 rfl rfl 0 (by decide) (htx _ kw_1_84) (fun _ h9 => h9) rfl dR_after_13 ?_
  refine lv_iload_n hx hb dR_after_16 rfl (lv_at hl 1 rfl) ?_
  refine va_lald hx hb hK hP 1 2 rfl rfl (show ¬ ((0 : Int32) < 0 ∨ 4096 ≤ (0 : Int32).toNatClampNeg) by decide) dR_after_17 ?_
  refine W.eq (g2 := F0 m 18 ls [.long (f3 0)]) rfl ?_
  rw [h4]
  refine W.eq (g2 := F0 m 18 ls [.long 0]) rfl ?_
  refine lv_ldc2 hx hb hown (htx _ kw_2_197) dR_after_18 ?_
  refine lv_land hx hb dR_after_21 ?_
  refine W.eq (g2 := F0 m 22 ls [.long 0]) rfl ?_
  refine lv_ldc2 hx hb hown (htx _ kw_2_198) dR_after_22 ?_
  refine W.lcmp hx hb dR_after_25 ?_
  refine W.eq (g2 := F0 m 26 ls [.int (-1)]) rfl ?_
  refine lv_if_ge (tgt := 33) hx hb dR_after_26 (by decide) (fun h => ((by revert h; decide : False)).elim) (fun _ => ?_)
  refine lv_iload_n hx hb dR_after_29 rfl (lv_at hl 1 rfl) ?_
  refine lv_iconst (v := 1) hx hb dR_after_30 (by decide) ?_
  refine lv_iadd hx hb dR_after_31 ?_
  refine W.eq (g2 := F0 m 32 ls [.int 1]) rfl ?_
  obtain ⟨hP9, hD9⟩ := xsub (wc := [(a0, .inr (2, [.ref a1, .int 1, v2])), (a1, .inl (cT 2, 4096, .inr (.inl f3)))]) hP hD [0, 1] rfl rfl (by decide)
  refine W.widen (k := 0) (n := 0) (Nat.le_of_ble_eq_true rfl) (Nat.le_of_ble_eq_true rfl) ?_
  exact W.iret (v := 1) hx hb hr (fun t ht hW => ⟨⟨1, (), rfl, rfl, by rw [ht]; exact hP9, va_K.moved hW.alike hK, hD9⟩, hS.F ht⟩) hS.2.2 dR_after_32
set_option maxHeartbeats 400000000 in
set_option maxRecDepth 100000 in
theorem cR_putCells_0 (l : Launch) (hl9 : l.stackTraces = false) (D : va_G) (cT : Nat → ClassId) (aK aV : Nat → Nat) (sz : Nat) (a0 : Nat) (a1 : Nat) (a2 : Nat) (a3 : Nat) (v4 : Value) (f5 : Nat → Int64) (f7 : Nat → Int64) (h6 : f5 0 = 0) : xMet l yR_putCells wyR_putCells 1 0 0 60 D cT aK aV sz [.ref a0, .ref a1, .int 0, .int 1] [(a0, .inr (2, [.ref a3, .int 0, .int 0])), (a1, .inr (2, [.ref a2, .int 1, v4])), (a2, .inl (cT 2, 4096, .inr (.inl f5))), (a3, .inl (cT 2, 4096, .inr (.inl f7)))] (fun A => va_Qv (fun _ : Unit => True) (fun _ t => xB D xcl cT A [(a0, .inr (2, [.ref a3, .int 1, .int 0])), (a1, .inr (2, [.ref a2, .int 1, v4])), (a2, .inl (cT 2, 4096, .inr (.inl f5))), (a3, .inl (cT 2, 4096, .inr (.inl (vp_updL f7 0 0))))] t) A) := by
  refine Met.ofW (cc := prog_8_method_24_code) (maxL := 4) (ret := none) (by decide) rfl ?_
  intro p e s m args below meth c s₁ B hml hv
  obtain ⟨rfl, hsz, hZ, hP, hK, hD0⟩ := hv
  have hx := B.exec
  have hb := B.bytes
  have hr := B.returns
  have hts := atoms_spec (ws := wyR_putCells) B.pre
  have htx := fun w h => hts w (List.mem_cons_of_mem _ h)
  have hown : s.vm.findClass "ValueBench$Row" = some m.cls := findClass_of_methodNamed B.named
  have hlocks := B.notSynchronized
  subst hsz
  have hD := hD0.self (sz := s.heap.size)
  generalize hAe : va_A [(a0, .inr (2, [.ref a3, .int 0, .int 0])), (a1, .inr (2, [.ref a2, .int 1, v4])), (a2, .inl (cT 2, 4096, .inr (.inl f5))), (a3, .inl (cT 2, 4096, .inr (.inl f7)))] s.heap.size = A at hD hZ ⊢
  have hA : ∀ q : Nat, s.heap.size ≤ q → A q := fun q h => by rw [← hAe]; exact Or.inr h
  have hS : va_S A s.heap s.heap [] := va_S.rf
  have hP : va_P D xcl [(a0, .inr (2, [.ref a3, .int 0, .int 0])), (a1, .inr (2, [.ref a2, .int 1, v4])), (a2, .inl (cT 2, 4096, .inr (.inl f5))), (a3, .inl (cT 2, 4096, .inr (.inl f7)))] s.heap := hP
  have hl := lv_entry ([.ref a0, .ref a1, .int 0, .int 1]) (n := 4) (Nat.le_of_ble_eq_true rfl)
  rw [lg_entry_eq]
  generalize (lg_sl ([.ref a0, .ref a1, .int 0, .int 1]) ++ List.replicate (4 - (lg_sl ([.ref a0, .ref a1, .int 0, .int 1])).length) Slot.unset).toArray = ls at hl ⊢
  have hl : lv_has ls 4 [(0, .ref a0), (1, .ref a1), (2, .int 0), (3, .int 1)] := hl
  refine lv_aload_n hx hb dR_putCells_0 rfl (lv_at hl 0 rfl) ?_
  refine va_get (D := D) (ci := 2) (v := .int 0) (C := "ValueBench$Row") (T := TR) (N := 3) hx hb htx inR hown hK hP 0 rfl rfl 2 (by decide) (htx _ kw_1_86) (fun _ h9 => h9) rfl dR_putCells_1 ?_
  refine lv_if_ne (tgt := 37) hx hb dR_putCells_4 (by decide) (fun h => ((by revert h; decide : False)).elim) (fun _ => ?_)
  refine lv_iload_n hx hb dR_putCells_7 rfl (lv_at hl 2 rfl) ?_
  refine lv_if_lt (tgt := 37) hx hb dR_putCells_8 (by decide) (fun h => ((by revert h; decide : False)).elim) (fun _ => ?_)
  refine lv_iload_n hx hb dR_putCells_11 rfl (lv_at hl 3 rfl) ?_
  refine lv_if_lt (tgt := 37) hx hb dR_putCells_12 (by decide) (fun h => ((by revert h; decide : False)).elim) (fun _ => ?_)
  refine lv_iload_n hx hb dR_putCells_15 rfl (lv_at hl 2 rfl) ?_
  refine lv_iload_n hx hb dR_putCells_16 rfl (lv_at hl 3 rfl) ?_
  refine lv_iadd hx hb dR_putCells_17 ?_
  refine W.eq (g2 := F0 m 18 ls [.int 1]) rfl ?_
  refine lv_aload_n hx hb dR_putCells_18 rfl (lv_at hl 1 rfl) ?_
  refine va_get (D := D) (ci := 2) (v := .int 1) (C := "ValueBench$Row") (T := TR) (N := 3) hx hb htx inR hown hK hP 1 rfl rfl 1 (by decide) (htx _ kw_1_85) (fun _ h9 => h9) rfl dR_putCells_19 ?_
  refine lv_icmp_gt (tgt := 37) hx hb dR_putCells_22 (by decide) (fun h => ((by revert h; decide : False)).elim) (fun _ => ?_)
  refine lv_aload_n hx hb dR_putCells_25 rfl (lv_at hl 0 rfl) ?_
  refine va_get (D := D) (ci := 2) (v := .int 0) (C := "ValueBench$Row") (T := TR) (N := 3) hx hb htx inR hown hK hP 0 rfl rfl 1 (by decide) (htx _ kw_1_85) (fun _ h9 => h9) rfl dR_putCells_26 ?_
  refine lv_iload_n hx hb dR_putCells_29 rfl (lv_at hl 3 rfl) ?_
  refine lv_iadd hx hb dR_putCells_30 ?_
  refine W.eq (g2 := F0 m 31 ls [.int 1]) rfl ?_
  refine lv_sipush (v := 4096) hx hb dR_putCells_31 (by decide) ?_
  refine lv_icmp_le (tgt := 43) hx hb dR_putCells_34 (by decide) (fun _ => ?_) (fun h => ((by revert h; decide : False)).elim)
  refine lv_aload_n hx hb dR_putCells_43 rfl (lv_at hl 1 rfl) ?_
  refine va_get (D := D) (ci := 2) (v := .ref a2) (C := "ValueBench$Row") (T := TR) (N := 3) hx hb htx inR hown hK hP 1 rfl rfl 0 (by decide) (htx _ kw_1_84) (fun _ h9 => h9) rfl dR_putCells_44 ?_
  refine lv_iload_n hx hb dR_putCells_47 rfl (lv_at hl 2 rfl) ?_
  refine lv_aload_n hx hb dR_putCells_48 rfl (lv_at hl 0 rfl) ?_
  refine va_get (D := D) (ci := 2) (v := .ref a3) (C := "ValueBench$Row") (T := TR) (N := 3) hx hb htx inR hown hK hP 0 rfl rfl 0 (by decide) (htx _ kw_1_84) (fun _ h9 => h9) rfl dR_putCells_49 ?_
  refine lv_aload_n hx hb dR_putCells_52 rfl (lv_at hl 0 rfl) ?_
  refine va_get (D := D) (ci := 2) (v := .int 0) (C := "ValueBench$Row") (T := TR) (N := 3) hx hb htx inR hown hK hP 0 rfl rfl 1 (by decide) (htx _ kw_1_85) (fun _ h9 => h9) rfl dR_putCells_53 ?_
  refine lv_iload_n hx hb dR_putCells_56 rfl (lv_at hl 3 rfl) ?_
  refine va_copyl (ty := .long) hx hb (hml.trans hl.1.symm) hown (htx _ kw_3_131) (htx _ kw_3_133) (htx _ kw_3_132) (htx _ kw_1_22) hK hP hD hS 2 3 2 2 rfl rfl rfl rfl rfl (by decide) (by decide) (by decide) (by decide) (by decide) (fun _ _ => rfl) (Nat.le_of_ble_eq_true rfl) (Nat.le_of_ble_eq_true rfl) dR_putCells_57 (fun H locs hP hD hS => ?_)
  have ecp : va_cpy f5 f7 0 0 1 = vp_updL f7 0 0 := by funext j; simp only [va_cpy, vp_updL]; split <;> split <;> first | (simp_all; done) | omega | (rename_i u1 u2; obtain rfl : j = 0 := by omega; first | rfl | assumption | simp_all)
  try simp only [show (0 : Int32).toNatClampNeg = 0 from rfl, show (1 : Int32).toNatClampNeg = 1 from rfl, ecp] at hP hD
  obtain ⟨hP, hD⟩ : xPD D xcl A [(a0, .inr (2, [.ref a3, .int 0, .int 0])), (a1, .inr (2, [.ref a2, .int 1, v4])), (a2, .inl (cT 2, 4096, .inr (.inl f5))), (a3, .inl (cT 2, 4096, .inr (.inl (vp_updL f7 0 0))))] H := ⟨hP, hD⟩
  refine lv_aload_n hx hb dR_putCells_60 rfl (lv_at hl 0 rfl) ?_
  refine lv_dup hx hb dR_putCells_61 rfl ?_
  refine va_get (D := D) (ci := 2) (v := .int 0) (C := "ValueBench$Row") (T := TR) (N := 3) hx hb htx inR hown hK hP 0 rfl rfl 1 (by decide) (htx _ kw_1_85) (fun _ h9 => h9) rfl dR_putCells_62 ?_
  refine lv_iload_n hx hb dR_putCells_65 rfl (lv_at hl 3 rfl) ?_
  refine lv_iadd hx hb dR_putCells_66 ?_
  refine W.eq (g2 := F0 m 67 ls [.int 1, .ref a0]) rfl ?_
  refine va_put (D := D) (ci := 2) (v := .int 1) (ty := .int) (C := "ValueBench$Row") (T := TR) (N := 3) hx hb htx inR tyR tyR_ok nmR hown hK hP hD hS 0 rfl rfl 1 (by decide) (htx _ kw_1_85) (fun _ h9 => h9) rfl (by decide +kernel) rfl rfl (Nat.le_of_ble_eq_true rfl) dR_putCells_67 (fun H locs hP hD hS => ?_)
  obtain ⟨hP, hD⟩ : xPD D xcl A [(a0, .inr (2, [.ref a3, .int 1, .int 0])), (a1, .inr (2, [.ref a2, .int 1, v4])), (a2, .inl (cT 2, 4096, .inr (.inl f5))), (a3, .inl (cT 2, 4096, .inr (.inl (vp_updL f7 0 0))))] H := ⟨hP, hD⟩
  obtain ⟨hP9, hD9⟩ := xsub (wc := [(a0, .inr (2, [.ref a3, .int 1, .int 0])), (a1, .inr (2, [.ref a2, .int 1, v4])), (a2, .inl (cT 2, 4096, .inr (.inl f5))), (a3, .inl (cT 2, 4096, .inr (.inl (vp_updL f7 0 0))))]) hP hD [0, 1, 2, 3] rfl rfl (by decide)
  refine W.widen (k := 0) (n := 0) (Nat.le_of_ble_eq_true rfl) (Nat.le_of_ble_eq_true rfl) ?_
  exact W.vret hx hb hr (fun t ht hW => ⟨⟨(), rfl, trivial, by rw [ht]; exact hP9, va_K.moved hW.alike hK, hD9⟩, hS.F ht⟩) hS.2.2 dR_putCells_70
set_option maxHeartbeats 400000000 in
set_option maxRecDepth 100000 in
theorem cR_putCopy_0 (l : Launch) (hl9 : l.stackTraces = false) (D : va_G) (cT : Nat → ClassId) (aK aV : Nat → Nat) (sz : Nat) (a0 : Nat) (a1 : Nat) (a2 : Nat) (a3 : Nat) (v4 : Value) (f5 : Nat → Int64) (f7 : Nat → Int64) (h6 : f5 0 = 0) : xMet l yR_putCopy wyR_putCopy 2 0 0 83 D cT aK aV sz [.ref a2, .ref a0, .int 0] [(a0, .inr (2, [.ref a1, .int 1, v4])), (a1, .inl (cT 2, 4096, .inr (.inl f5))), (a2, .inr (2, [.ref a3, .int 0, .int 0])), (a3, .inl (cT 2, 4096, .inr (.inl f7)))] (fun A => va_Qv (fun _ : Unit => True) (fun _ t => xB D xcl cT A [(a0, .inr (2, [.ref a1, .int 1, v4])), (a1, .inl (cT 2, 4096, .inr (.inl f5))), (a2, .inr (2, [.ref a3, .int 1, .int 0])), (a3, .inl (cT 2, 4096, .inr (.inl (vp_updL f7 0 0))))] t) A) := by
  refine Met.ofW (cc := prog_8_method_22_code) (maxL := 3) (ret := none) (by decide) rfl ?_
  intro p e s m args below meth c s₁ B hml hv
  obtain ⟨rfl, hsz, hZ, hP, hK, hD0⟩ := hv
  have hx := B.exec
  have hb := B.bytes
  have hr := B.returns
  have hts := atoms_spec (ws := wyR_putCopy) B.pre
  have htx := fun w h => hts w (List.mem_cons_of_mem _ h)
  have hown : s.vm.findClass "ValueBench$Row" = some m.cls := findClass_of_methodNamed B.named
  have hlocks := B.notSynchronized
  subst hsz
  have hD := hD0.self (sz := s.heap.size)
  generalize hAe : va_A [(a0, .inr (2, [.ref a1, .int 1, v4])), (a1, .inl (cT 2, 4096, .inr (.inl f5))), (a2, .inr (2, [.ref a3, .int 0, .int 0])), (a3, .inl (cT 2, 4096, .inr (.inl f7)))] s.heap.size = A at hD hZ ⊢
  have hA : ∀ q : Nat, s.heap.size ≤ q → A q := fun q h => by rw [← hAe]; exact Or.inr h
  have hS : va_S A s.heap s.heap [] := va_S.rf
  have hP : va_P D xcl [(a0, .inr (2, [.ref a1, .int 1, v4])), (a1, .inl (cT 2, 4096, .inr (.inl f5))), (a2, .inr (2, [.ref a3, .int 0, .int 0])), (a3, .inl (cT 2, 4096, .inr (.inl f7)))] s.heap := hP
  have hl := lv_entry ([.ref a2, .ref a0, .int 0]) (n := 3) (Nat.le_of_ble_eq_true rfl)
  rw [lg_entry_eq]
  generalize (lg_sl ([.ref a2, .ref a0, .int 0]) ++ List.replicate (3 - (lg_sl ([.ref a2, .ref a0, .int 0])).length) Slot.unset).toArray = ls at hl ⊢
  have hl : lv_has ls 3 [(0, .ref a2), (1, .ref a0), (2, .int 0)] := hl
  refine lv_aload_n hx hb dR_putCopy_0 rfl (lv_at hl 0 rfl) ?_
  refine lv_aload_n hx hb dR_putCopy_1 rfl (lv_at hl 1 rfl) ?_
  refine lv_iload_n hx hb dR_putCopy_2 rfl (lv_at hl 2 rfl) ?_
  refine lv_aload_n hx hb dR_putCopy_3 rfl (lv_at hl 1 rfl) ?_
  refine lv_iload_n hx hb dR_putCopy_4 rfl (lv_at hl 2 rfl) ?_
  obtain ⟨hPc, hDc, hFc⟩ := xcut (wc := [(a0, .inr (2, [.ref a1, .int 1, v4])), (a1, .inl (cT 2, 4096, .inr (.inl f5)))]) hP hD hS hA [0, 1] rfl rfl (by decide)
  refine va_calli (va_runV (C := "ValueBench$Row") (As := [.int 0]) (rest := [.int 0, .ref a0, .ref a2]) ⟨hx, hb, hml, hown, htx⟩ (cR_after_0 l hl9 D cT aK aV s.heap.size a0 a1 v4 f5 (by first | rfl | exact h6)) ⟨callB_of 1 htx (xw_goodC kw_2_196) rfl rfl rfl (htx _ kw_1_4) (htx _ kw_2_193) ⟨by decide, by decide, by decide +kernel⟩ ⟨Nat.le_of_ble_eq_true rfl, Nat.le_of_ble_eq_true rfl⟩, (htx _ kw_2_194), (htx _ kw_2_195)⟩ ⟨xPre_blind, va_recv hK hP (ci := 2) rfl (q0 := 0) rfl, (fun U hU hW => ⟨rfl, xPre_of hZ hS hFc hPc hDc hK U hU hW⟩)⟩ rfl rfl hl.1 rfl (lv_room (Nat.le_of_ble_eq_true rfl)) dR_putCopy_5 ⟨Nat.le_of_ble_eq_true rfl, Nat.le_of_ble_eq_true rfl⟩) hS (fun q _ h => hFc q h) hFc (fun r1 u9 t H1 locs ht hvm hr9 hB hz1 hk1 hS => ?_)
  obtain ⟨hP1, hK1, hD1⟩ := hB
  rw [ht] at hP1
  obtain ⟨hP, hD⟩ := xjoin (W := [(a2, .inr (2, [.ref a3, .int 0, .int 0])), (a3, .inl (cT 2, 4096, .inr (.inl f7))), (a0, .inr (2, [.ref a1, .int 1, v4])), (a1, .inl (cT 2, 4096, .inr (.inl f5)))]) hP hD [0, 1] [2, 3] 2 rfl rfl (by decide) (by decide) hk1 hFc hP1 hD1
  generalize H1 = H at hP hS ⊢
  rw [hr9]
  refine W.eq (g2 := F0 m 8 ls [.int 1, .int 0, .ref a0, .ref a2]) rfl ?_
  refine lv_iload_n hx hb dR_putCopy_8 rfl (lv_at hl 2 rfl) ?_
  refine lv_isub hx hb dR_putCopy_9 ?_
  refine W.eq (g2 := F0 m 10 ls [.int 1, .int 0, .ref a0, .ref a2]) rfl ?_
  obtain ⟨hPc, hDc, hFc⟩ := xcut (wc := [(a2, .inr (2, [.ref a3, .int 0, .int 0])), (a0, .inr (2, [.ref a1, .int 1, v4])), (a1, .inl (cT 2, 4096, .inr (.inl f5))), (a3, .inl (cT 2, 4096, .inr (.inl f7)))]) hP hD hS hA [0, 2, 3, 1] rfl rfl (by decide)
  refine va_callv (va_runV (C := "ValueBench$Row") (As := [.ref a0, .int 0, .int 1]) (rest := []) ⟨hx, hb, hml, hown, htx⟩ (cR_putCells_0 l hl9 D cT aK aV H.size a2 a0 a1 a3 v4 f5 f7 (by first | rfl | exact h6)) ⟨callB_of 3 htx (xw_goodC kw_3_130) rfl rfl rfl (htx _ kw_1_4) (htx _ kw_3_127) ⟨by decide, by decide, by decide +kernel⟩ ⟨Nat.le_of_ble_eq_true rfl, Nat.le_of_ble_eq_true rfl⟩, (htx _ kw_3_129), (htx _ kp_R_putCells)⟩ ⟨xPre_blind, va_recv hK hP (ci := 2) rfl (q0 := 0) rfl, (fun U hU hW => ⟨rfl, xPre_of hZ hS hFc hPc hDc hK U hU hW⟩)⟩ rfl rfl hl.1 rfl (lv_room (Nat.le_of_ble_eq_true rfl)) dR_putCopy_10 ⟨Nat.le_of_ble_eq_true rfl, Nat.le_of_ble_eq_true rfl⟩) hS (fun q _ h => hFc q h) hFc (fun u9 t H1 locs ht hvm hr9 hB hz1 hk1 hS => ?_)
  obtain ⟨hP1, hK1, hD1⟩ := hB
  rw [ht] at hP1
  obtain ⟨hP, hD⟩ := xjoin (W := [(a2, .inr (2, [.ref a3, .int 1, .int 0])), (a0, .inr (2, [.ref a1, .int 1, v4])), (a1, .inl (cT 2, 4096, .inr (.inl f5))), (a3, .inl (cT 2, 4096, .inr (.inl (vp_updL f7 0 0))))]) hP hD [0, 2, 3, 1] [] 0 rfl rfl (by decide) (by decide) hk1 hFc hP1 hD1
  generalize H1 = H at hP hS ⊢
  obtain ⟨hP9, hD9⟩ := xsub (wc := [(a0, .inr (2, [.ref a1, .int 1, v4])), (a1, .inl (cT 2, 4096, .inr (.inl f5))), (a2, .inr (2, [.ref a3, .int 1, .int 0])), (a3, .inl (cT 2, 4096, .inr (.inl (vp_updL f7 0 0))))]) hP hD [1, 2, 0, 3] rfl rfl (by decide)
  refine W.widen (k := 0) (n := 0) (Nat.le_of_ble_eq_true rfl) (Nat.le_of_ble_eq_true rfl) ?_
  exact W.vret hx hb hr (fun t ht hW => ⟨⟨(), rfl, trivial, by rw [ht]; exact hP9, va_K.moved hW.alike hK, hD9⟩, hS.F ht⟩) hS.2.2 dR_putCopy_13
set_option maxHeartbeats 400000000 in
set_option maxRecDepth 100000 in
theorem cA_plus_0 (l : Launch) (hl9 : l.stackTraces = false) (D : va_G) (cT : Nat → ClassId) (aK aV : Nat → Nat) (sz : Nat) (a0 : Nat) (a1 : Nat) (a2 : Nat) (a3 : Nat) (v4 : Value) (f5 : Nat → Int64) (f7 : Nat → Int64) (h6 : f5 0 = 0) : xMet l yA_plus wyA_plus 3 0 0 105 D cT aK aV sz [.ref a0, .ref a0, .ref a2] [(a0, .inr (2, [.ref a1, .int 1, v4])), (a1, .inl (cT 2, 4096, .inr (.inl f5))), (a2, .inr (2, [.ref a3, .int 0, .int 0])), (a3, .inl (cT 2, 4096, .inr (.inl f7)))] (fun A => va_Qi (fun (r : Int32) (_ : Unit) => r = 0) (fun _ t => xB D xcl cT A [(a0, .inr (2, [.ref a1, .int 1, v4])), (a1, .inl (cT 2, 4096, .inr (.inl f5))), (a2, .inr (2, [.ref a3, .int 1, .int 0])), (a3, .inl (cT 2, 4096, .inr (.inl (vp_updL f7 0 0))))] t) A) := by
  refine Met.ofW (cc := prog_3_method_6_code) (maxL := 3) (ret := (some .int)) (by decide) rfl ?_
  intro p e s m args below meth c s₁ B hml hv
  obtain ⟨rfl, hsz, hZ, hP, hK, hD0⟩ := hv
  have hx := B.exec
  have hb := B.bytes
  have hr := B.returns
  have hts := atoms_spec (ws := wyA_plus) B.pre
  have htx := fun w h => hts w (List.mem_cons_of_mem _ h)
  have hown : s.vm.findClass "ValueBench$Operators" = some m.cls := findClass_of_methodNamed B.named
  have hlocks := B.notSynchronized
  subst hsz
  have hD := hD0.self (sz := s.heap.size)
  generalize hAe : va_A [(a0, .inr (2, [.ref a1, .int 1, v4])), (a1, .inl (cT 2, 4096, .inr (.inl f5))), (a2, .inr (2, [.ref a3, .int 0, .int 0])), (a3, .inl (cT 2, 4096, .inr (.inl f7)))] s.heap.size = A at hD hZ ⊢
  have hA : ∀ q : Nat, s.heap.size ≤ q → A q := fun q h => by rw [← hAe]; exact Or.inr h
  have hS : va_S A s.heap s.heap [] := va_S.rf
  have hP : va_P D xcl [(a0, .inr (2, [.ref a1, .int 1, v4])), (a1, .inl (cT 2, 4096, .inr (.inl f5))), (a2, .inr (2, [.ref a3, .int 0, .int 0])), (a3, .inl (cT 2, 4096, .inr (.inl f7)))] s.heap := hP
  have hl := lv_entry ([.ref a0, .ref a0, .ref a2]) (n := 3) (Nat.le_of_ble_eq_true rfl)
  rw [lg_entry_eq]
  generalize (lg_sl ([.ref a0, .ref a0, .ref a2]) ++ List.replicate (3 - (lg_sl ([.ref a0, .ref a0, .ref a2])).length) Slot.unset).toArray = ls at hl ⊢
  have hl : lv_has ls 3 [(0, .ref a0), (1, .ref a0), (2, .ref a2)] := hl
  refine lv_aload_n hx hb dA_plus_0 rfl (lv_at hl 0 rfl) ?_
  refine lv_iconst (v := 0) hx hb dA_plus_1 (by decide) ?_
  refine lv_iconst (v := 0) hx hb dA_plus_2 (by decide) ?_
  obtain ⟨hPc, hDc, hFc⟩ := xcut (wc := [(a0, .inr (2, [.ref a1, .int 1, v4])), (a1, .inl (cT 2, 4096, .inr (.inl f5)))]) hP hD hS hA [0, 1] rfl rfl (by decide)
  refine va_calli (va_runV (C := "ValueBench$Row") (As := [.int 0, .int 0]) (rest := []) ⟨hx, hb, hml, hown, htx⟩ (cR_is_1 l hl9 D cT aK aV s.heap.size a0 a1 v4 f5 (by first | rfl | exact h6)) ⟨callB_of 2 htx (xw_goodC kw_3_75) rfl rfl rfl (htx _ kw_1_4) (htx _ kw_3_106) ⟨by decide, by decide, by decide +kernel⟩ ⟨Nat.le_of_ble_eq_true rfl, Nat.le_of_ble_eq_true rfl⟩, (htx _ kw_3_73), (htx _ kw_3_74)⟩ ⟨xPre_blind, va_recv hK hP (ci := 2) rfl (q0 := 0) rfl, (fun U hU hW => ⟨rfl, xPre_of hZ hS hFc hPc hDc hK U hU hW⟩)⟩ rfl rfl hl.1 rfl (lv_room (Nat.le_of_ble_eq_true rfl)) dA_plus_3 ⟨Nat.le_of_ble_eq_true rfl, Nat.le_of_ble_eq_true rfl⟩) hS (fun q _ h => hFc q h) hFc (fun r1 u9 t H1 locs ht hvm hr9 hB hz1 hk1 hS => ?_)
  obtain ⟨hP1, hK1, hD1⟩ := hB
  rw [ht] at hP1
  obtain ⟨hP, hD⟩ := xjoin (W := [(a2, .inr (2, [.ref a3, .int 0, .int 0])), (a3, .inl (cT 2, 4096, .inr (.inl f7))), (a0, .inr (2, [.ref a1, .int 1, v4])), (a1, .inl (cT 2, 4096, .inr (.inl f5)))]) hP hD [0, 1] [2, 3] 2 rfl rfl (by decide) (by decide) hk1 hFc hP1 hD1
  generalize H1 = H at hP hS ⊢
  rw [hr9]
  refine W.eq (g2 := F0 m 6 ls [.int 1]) rfl ?_
  refine lv_if_ne (tgt := 18) hx hb dA_plus_6 (by decide) (fun _ => ?_) (fun h => ((by revert h; decide : False)).elim)
  refine lv_aload_n hx hb dA_plus_18 rfl (lv_at hl 2 rfl) ?_
  refine lv_aload_n hx hb dA_plus_19 rfl (lv_at hl 0 rfl) ?_
  refine lv_iconst (v := 0) hx hb dA_plus_20 (by decide) ?_
  refine lv_iconst (v := 0) hx hb dA_plus_21 (by decide) ?_
  obtain ⟨hPc, hDc, hFc⟩ := xcut (wc := [(a0, .inr (2, [.ref a1, .int 1, v4])), (a1, .inl (cT 2, 4096, .inr (.inl f5)))]) hP hD hS hA [2, 3] rfl rfl (by decide)
  refine va_calli (va_runV (C := "ValueBench$Row") (As := [.int 0, .int 0]) (rest := [.ref a2]) ⟨hx, hb, hml, hown, htx⟩ (cR_is_1 l hl9 D cT aK aV H.size a0 a1 v4 f5 (by first | rfl | exact h6)) ⟨callB_of 2 htx (xw_goodC kw_3_75) rfl rfl rfl (htx _ kw_1_4) (htx _ kw_3_106) ⟨by decide, by decide, by decide +kernel⟩ ⟨Nat.le_of_ble_eq_true rfl, Nat.le_of_ble_eq_true rfl⟩, (htx _ kw_3_73), (htx _ kw_3_74)⟩ ⟨xPre_blind, va_recv hK hP (ci := 2) rfl (q0 := 2) rfl, (fun U hU hW => ⟨rfl, xPre_of hZ hS hFc hPc hDc hK U hU hW⟩)⟩ rfl rfl hl.1 rfl (lv_room (Nat.le_of_ble_eq_true rfl)) dA_plus_22 ⟨Nat.le_of_ble_eq_true rfl, Nat.le_of_ble_eq_true rfl⟩) hS (fun q _ h => hFc q h) hFc (fun r2 u9 t H1 locs ht hvm hr9 hB hz1 hk1 hS => ?_)
  obtain ⟨hP1, hK1, hD1⟩ := hB
  rw [ht] at hP1
  obtain ⟨hP, hD⟩ := xjoin (W := [(a2, .inr (2, [.ref a3, .int 0, .int 0])), (a3, .inl (cT 2, 4096, .inr (.inl f7))), (a0, .inr (2, [.ref a1, .int 1, v4])), (a1, .inl (cT 2, 4096, .inr (.inl f5)))]) hP hD [2, 3] [0, 1] 2 rfl rfl (by decide) (by decide) hk1 hFc hP1 hD1
  generalize H1 = H at hP hS ⊢
  rw [hr9]
  refine W.eq (g2 := F0 m 25 ls [.int 1, .ref a2]) rfl ?_
  refine lv_if_eq (tgt := 32) hx hb dA_plus_25 (by decide) (fun h => ((by revert h; decide : False)).elim) (fun _ => ?_)
  refine lv_aload_n hx hb dA_plus_28 rfl (lv_at hl 1 rfl) ?_
  refine lv_goto (tgt := 33) hx hb dA_plus_29 (by decide) ?_
  refine lv_iconst (v := 0) hx hb dA_plus_33 (by decide) ?_
  obtain ⟨hPc, hDc, hFc⟩ := xcut (wc := [(a0, .inr (2, [.ref a1, .int 1, v4])), (a1, .inl (cT 2, 4096, .inr (.inl f5))), (a2, .inr (2, [.ref a3, .int 0, .int 0])), (a3, .inl (cT 2, 4096, .inr (.inl f7)))]) hP hD hS hA [2, 3, 0, 1] rfl rfl (by decide)
  refine va_callv (va_runV (C := "ValueBench$Row") (As := [.ref a0, .int 0]) (rest := []) ⟨hx, hb, hml, hown, htx⟩ (cR_putCopy_0 l hl9 D cT aK aV H.size a0 a1 a2 a3 v4 f5 f7 (by first | rfl | exact h6)) ⟨callB_of 2 htx (xw_goodC kw_3_126) rfl rfl rfl (htx _ kw_1_4) (htx _ kw_3_123) ⟨by decide, by decide, by decide +kernel⟩ ⟨Nat.le_of_ble_eq_true rfl, Nat.le_of_ble_eq_true rfl⟩, (htx _ kw_3_124), (htx _ kw_3_125)⟩ ⟨xPre_blind, va_recv hK hP (ci := 2) rfl (q0 := 0) rfl, (fun U hU hW => ⟨rfl, xPre_of hZ hS hFc hPc hDc hK U hU hW⟩)⟩ rfl rfl hl.1 rfl (lv_room (Nat.le_of_ble_eq_true rfl)) dA_plus_34 ⟨Nat.le_of_ble_eq_true rfl, Nat.le_of_ble_eq_true rfl⟩) hS (fun q _ h => hFc q h) hFc (fun u9 t H1 locs ht hvm hr9 hB hz1 hk1 hS => ?_)
  obtain ⟨hP1, hK1, hD1⟩ := hB
  rw [ht] at hP1
  obtain ⟨hP, hD⟩ := xjoin (W := [(a0, .inr (2, [.ref a1, .int 1, v4])), (a1, .inl (cT 2, 4096, .inr (.inl f5))), (a2, .inr (2, [.ref a3, .int 1, .int 0])), (a3, .inl (cT 2, 4096, .inr (.inl (vp_updL f7 0 0))))]) hP hD [2, 3, 0, 1] [] 0 rfl rfl (by decide) (by decide) hk1 hFc hP1 hD1
  generalize H1 = H at hP hS ⊢
  refine lv_iconst (v := 0) hx hb dA_plus_37 (by decide) ?_
  obtain ⟨hP9, hD9⟩ := xsub (wc := [(a0, .inr (2, [.ref a1, .int 1, v4])), (a1, .inl (cT 2, 4096, .inr (.inl f5))), (a2, .inr (2, [.ref a3, .int 1, .int 0])), (a3, .inl (cT 2, 4096, .inr (.inl (vp_updL f7 0 0))))]) hP hD [0, 1, 2, 3] rfl rfl (by decide)
  refine W.widen (k := 0) (n := 0) (Nat.le_of_ble_eq_true rfl) (Nat.le_of_ble_eq_true rfl) ?_
  exact W.iret (v := 0) hx hb hr (fun t ht hW => ⟨⟨0, (), rfl, rfl, by rw [ht]; exact hP9, va_K.moved hW.alike hK, hD9⟩, hS.F ht⟩) hS.2.2 dA_plus_38
set_option maxHeartbeats 400000000 in
set_option maxRecDepth 100000 in
theorem cA_apply_0 (l : Launch) (hl9 : l.stackTraces = false) (D : va_G) (cT : Nat → ClassId) (aK aV : Nat → Nat) (sz : Nat) (a0 : Nat) (a1 : Nat) (a2 : Nat) (a3 : Nat) (v4 : Value) (f5 : Nat → Int64) (f7 : Nat → Int64) (h6 : f5 0 = 0) : xMet l yA_apply wyA_apply 4 0 0 127 D cT aK aV sz [.int 0, .ref a0, .ref a0, .ref a2] [(a0, .inr (2, [.ref a1, .int 1, v4])), (a1, .inl (cT 2, 4096, .inr (.inl f5))), (a2, .inr (2, [.ref a3, .int 0, .int 0])), (a3, .inl (cT 2, 4096, .inr (.inl f7)))] (fun A => va_Qi (fun (r : Int32) (_ : Unit) => r = 0) (fun _ t => xB D xcl cT A [(a0, .inr (2, [.ref a1, .int 1, v4])), (a1, .inl (cT 2, 4096, .inr (.inl f5))), (a2, .inr (2, [.ref a3, .int 1, .int 0])), (a3, .inl (cT 2, 4096, .inr (.inl (vp_updL f7 0 0))))] t) A) := by
  refine Met.ofW (cc := prog_3_method_2_code) (maxL := 4) (ret := (some .int)) (by decide) rfl ?_
  intro p e s m args below meth c s₁ B hml hv
  obtain ⟨rfl, hsz, hZ, hP, hK, hD0⟩ := hv
  have hx := B.exec
  have hb := B.bytes
  have hr := B.returns
  have hts := atoms_spec (ws := wyA_apply) B.pre
  have htx := fun w h => hts w (List.mem_cons_of_mem _ h)
  have hown : s.vm.findClass "ValueBench$Operators" = some m.cls := findClass_of_methodNamed B.named
  have hlocks := B.notSynchronized
  subst hsz
  have hD := hD0.self (sz := s.heap.size)
  generalize hAe : va_A [(a0, .inr (2, [.ref a1, .int 1, v4])), (a1, .inl (cT 2, 4096, .inr (.inl f5))), (a2, .inr (2, [.ref a3, .int 0, .int 0])), (a3, .inl (cT 2, 4096, .inr (.inl f7)))] s.heap.size = A at hD hZ ⊢
  have hA : ∀ q : Nat, s.heap.size ≤ q → A q := fun q h => by rw [← hAe]; exact Or.inr h
  have hS : va_S A s.heap s.heap [] := va_S.rf
  have hP : va_P D xcl [(a0, .inr (2, [.ref a1, .int 1, v4])), (a1, .inl (cT 2, 4096, .inr (.inl f5))), (a2, .inr (2, [.ref a3, .int 0, .int 0])), (a3, .inl (cT 2, 4096, .inr (.inl f7)))] s.heap := hP
  have hl := lv_entry ([.int 0, .ref a0, .ref a0, .ref a2]) (n := 4) (Nat.le_of_ble_eq_true rfl)
  rw [lg_entry_eq]
  generalize (lg_sl ([.int 0, .ref a0, .ref a0, .ref a2]) ++ List.replicate (4 - (lg_sl ([.int 0, .ref a0, .ref a0, .ref a2])).length) Slot.unset).toArray = ls at hl ⊢
  have hl : lv_has ls 4 [(0, .int 0), (1, .ref a0), (2, .ref a0), (3, .ref a2)] := hl
  refine lv_aload_n hx hb dA_apply_0 rfl (lv_at hl 1 rfl) ?_
  refine lv_iconst (v := 0) hx hb dA_apply_1 (by decide) ?_
  refine lv_iconst (v := 3) hx hb dA_apply_2 (by decide) ?_
  obtain ⟨hPc, hDc, hFc⟩ := xcut (wc := [(a0, .inr (2, [.ref a1, .int 1, v4])), (a1, .inl (cT 2, 4096, .inr (.inl f5)))]) hP hD hS hA [0, 1] rfl rfl (by decide)
  refine va_calli (va_runV (C := "ValueBench$Row") (As := [.int 0, .int 3]) (rest := []) ⟨hx, hb, hml, hown, htx⟩ (cR_is_0 l hl9 D cT aK aV s.heap.size a0 a1 v4 f5 (by first | rfl | exact h6)) ⟨callB_of 2 htx (xw_goodC kw_3_75) rfl rfl rfl (htx _ kw_1_4) (htx _ kw_3_106) ⟨by decide, by decide, by decide +kernel⟩ ⟨Nat.le_of_ble_eq_true rfl, Nat.le_of_ble_eq_true rfl⟩, (htx _ kw_3_73), (htx _ kw_3_74)⟩ ⟨xPre_blind, va_recv hK hP (ci := 2) rfl (q0 := 0) rfl, (fun U hU hW => ⟨rfl, xPre_of hZ hS hFc hPc hDc hK U hU hW⟩)⟩ rfl rfl hl.1 rfl (lv_room (Nat.le_of_ble_eq_true rfl)) dA_apply_3 ⟨Nat.le_of_ble_eq_true rfl, Nat.le_of_ble_eq_true rfl⟩) hS (fun q _ h => hFc q h) hFc (fun r1 u9 t H1 locs ht hvm hr9 hB hz1 hk1 hS => ?_)
  obtain ⟨hP1, hK1, hD1⟩ := hB
  rw [ht] at hP1
  obtain ⟨hP, hD⟩ := xjoin (W := [(a2, .inr (2, [.ref a3, .int 0, .int 0])), (a3, .inl (cT 2, 4096, .inr (.inl f7))), (a0, .inr (2, [.ref a1, .int 1, v4])), (a1, .inl (cT 2, 4096, .inr (.inl f5)))]) hP hD [0, 1] [2, 3] 2 rfl rfl (by decide) (by decide) hk1 hFc hP1 hD1
  generalize H1 = H at hP hS ⊢
  rw [hr9]
  refine W.eq (g2 := F0 m 6 ls [.int 0]) rfl ?_
  refine lv_if_eq (tgt := 34) hx hb dA_apply_6 (by decide) (fun _ => ?_) (fun h => ((by revert h; decide : False)).elim)
  refine lv_iload_n hx hb dA_apply_34 rfl (lv_at hl 0 rfl) ?_
  refine lv_tableIn (off := 29) (tgt := 64) hx hb dA_apply_35 (by decide) (by decide) (by decide) (by decide) ?_
  refine lv_aload_n hx hb dA_apply_64 rfl (lv_at hl 1 rfl) ?_
  refine lv_aload_n hx hb dA_apply_65 rfl (lv_at hl 2 rfl) ?_
  refine lv_aload_n hx hb dA_apply_66 rfl (lv_at hl 3 rfl) ?_
  obtain ⟨hPc, hDc, hFc⟩ := xcut (wc := [(a0, .inr (2, [.ref a1, .int 1, v4])), (a1, .inl (cT 2, 4096, .inr (.inl f5))), (a2, .inr (2, [.ref a3, .int 0, .int 0])), (a3, .inl (cT 2, 4096, .inr (.inl f7)))]) hP hD hS hA [2, 3, 0, 1] rfl rfl (by decide)
  refine va_calli (va_runS (As := [.ref a0, .ref a0, .ref a2]) (rest := []) ⟨hx, hb, hml, hown, htx⟩ (cA_plus_0 l hl9 D cT aK aV H.size a0 a1 a2 a3 v4 f5 f7 (by first | rfl | exact h6)) ⟨callB_of 3 htx (xw_goodC kw_3_122) rfl rfl rfl (htx _ kw_1_21) (htx _ kw_3_120) ⟨by decide, by decide, by decide +kernel⟩ ⟨Nat.le_of_ble_eq_true rfl, Nat.le_of_ble_eq_true rfl⟩, htx _ kw_3_121⟩ ⟨xPre_blind, (fun U hU hW => ⟨rfl, xPre_of hZ hS hFc hPc hDc hK U hU hW⟩)⟩ rfl rfl hl.1 rfl (lv_room (Nat.le_of_ble_eq_true rfl)) dA_apply_67 ⟨Nat.le_of_ble_eq_true rfl, Nat.le_of_ble_eq_true rfl⟩) hS (fun q _ h => hFc q h) hFc (fun r2 u9 t H1 locs ht hvm hr9 hB hz1 hk1 hS => ?_)
  obtain ⟨hP1, hK1, hD1⟩ := hB
  rw [ht] at hP1
  obtain ⟨hP, hD⟩ := xjoin (W := [(a0, .inr (2, [.ref a1, .int 1, v4])), (a1, .inl (cT 2, 4096, .inr (.inl f5))), (a2, .inr (2, [.ref a3, .int 1, .int 0])), (a3, .inl (cT 2, 4096, .inr (.inl (vp_updL f7 0 0))))]) hP hD [2, 3, 0, 1] [] 0 rfl rfl (by decide) (by decide) hk1 hFc hP1 hD1
  generalize H1 = H at hP hS ⊢
  rw [hr9]
  refine W.eq (g2 := F0 m 70 ls [.int 0]) rfl ?_
  obtain ⟨hP9, hD9⟩ := xsub (wc := [(a0, .inr (2, [.ref a1, .int 1, v4])), (a1, .inl (cT 2, 4096, .inr (.inl f5))), (a2, .inr (2, [.ref a3, .int 1, .int 0])), (a3, .inl (cT 2, 4096, .inr (.inl (vp_updL f7 0 0))))]) hP hD [0, 1, 2, 3] rfl rfl (by decide)
  refine W.widen (k := 0) (n := 0) (Nat.le_of_ble_eq_true rfl) (Nat.le_of_ble_eq_true rfl) ?_
  exact W.iret (v := 0) hx hb hr (fun t ht hW => ⟨⟨0, (), rfl, rfl, by rw [ht]; exact hP9, va_K.moved hW.alike hK, hD9⟩, hS.F ht⟩) hS.2.2 dA_apply_70
set_option maxHeartbeats 400000000 in
set_option maxRecDepth 100000 in
theorem cB_demandDone_0 (l : Launch) (hl9 : l.stackTraces = false) (D : va_G) (cT : Nat → ClassId) (aK aV : Nat → Nat) (sz : Nat) (b0 : Nat) : xMet l yB_demandDone wyB_demandDone 0 0 0 0 D cT aK aV sz [.ref b0, .int 0] [] (fun A => va_Qv (fun _ : Unit => True) (fun _ t => xB D xcl cT A [] t) A) := by
  refine Met.ofW (cc := prog_1_method_17_code) (maxL := 2) (ret := none) (by decide) rfl ?_
  intro p e s m args below meth c s₁ B hml hv
  obtain ⟨rfl, hsz, hZ, hP, hK, hD0⟩ := hv
  have hx := B.exec
  have hb := B.bytes
  have hr := B.returns
  have hts := atoms_spec (ws := wyB_demandDone) B.pre
  have htx := fun w h => hts w (List.mem_cons_of_mem _ h)
  have hown : s.vm.findClass "ValueBench" = some m.cls := findClass_of_methodNamed B.named
  have hlocks := B.notSynchronized
  subst hsz
  have hD := hD0.self (sz := s.heap.size)
  generalize hAe : va_A [] s.heap.size = A at hD hZ ⊢
  have hA : ∀ q : Nat, s.heap.size ≤ q → A q := fun q h => by rw [← hAe]; exact Or.inr h
  have hS : va_S A s.heap s.heap [] := va_S.rf
  have hP : va_P D xcl [] s.heap := hP
  have hl := lv_entry ([.ref b0, .int 0]) (n := 2) (Nat.le_of_ble_eq_true rfl)
  rw [lg_entry_eq]
  generalize (lg_sl ([.ref b0, .int 0]) ++ List.replicate (2 - (lg_sl ([.ref b0, .int 0])).length) Slot.unset).toArray = ls at hl ⊢
  have hl : lv_has ls 2 [(0, .ref b0), (1, .int 0)] := hl
  refine lv_iload_n hx hb dB_demandDone_0 rfl (lv_at hl 1 rfl) ?_
  refine lv_if_ne (tgt := 5) hx hb dB_demandDone_1 (by decide) (fun h => ((by revert h; decide : False)).elim) (fun _ => ?_)
  obtain ⟨hP9, hD9⟩ := xsub (wc := []) hP hD [] rfl rfl (by decide)
  refine W.widen (k := 0) (n := 0) (Nat.le_of_ble_eq_true rfl) (Nat.le_of_ble_eq_true rfl) ?_
  exact W.vret hx hb hr (fun t ht hW => ⟨⟨(), rfl, trivial, by rw [ht]; exact hP9, va_K.moved hW.alike hK, hD9⟩, hS.F ht⟩) hS.2.2 dB_demandDone_4
set_option maxHeartbeats 400000000 in
set_option maxRecDepth 100000 in
theorem cT_add_20 (l : Launch) (hl9 : l.stackTraces = false) (D : va_G) (cT : Nat → ClassId) (aK aV : Nat → Nat) (sz : Nat) (a0 : Nat) (a1 : Nat) (x2 : Int32) (v3 : Value) (f4 : Nat → Int32) : xMet l yT_add wyT_add 0 0 0 0 D cT aK aV sz [.ref a0, .int x2] [(a0, .inr (1, [.ref a1, .int 3, v3])), (a1, .inl (cT 0, 4096, .inl f4))] (fun A => va_Qv (fun _ : Unit => True) (fun _ t => ∃ (y1 : Int32), xB D xcl cT A [(a0, .inr (1, [.ref a1, .int 4, v3])), (a1, .inl (cT 0, 4096, .inl (upd f4 3 (vp_nar .byte y1))))] t) A) := by
  refine Met.ofW (cc := prog_11_method_8_code) (maxL := 2) (ret := none) (by decide) rfl ?_
  intro p e s m args below meth c s₁ B hml hv
  obtain ⟨rfl, hsz, hZ, hP, hK, hD0⟩ := hv
  have hx := B.exec
  have hb := B.bytes
  have hr := B.returns
  have hts := atoms_spec (ws := wyT_add) B.pre
  have htx := fun w h => hts w (List.mem_cons_of_mem _ h)
  have hown : s.vm.findClass "ValueBench$Text" = some m.cls := findClass_of_methodNamed B.named
  have hlocks := B.notSynchronized
  subst hsz
  have hD := hD0.self (sz := s.heap.size)
  generalize hAe : va_A [(a0, .inr (1, [.ref a1, .int 3, v3])), (a1, .inl (cT 0, 4096, .inl f4))] s.heap.size = A at hD hZ ⊢
  have hA : ∀ q : Nat, s.heap.size ≤ q → A q := fun q h => by rw [← hAe]; exact Or.inr h
  have hS : va_S A s.heap s.heap [] := va_S.rf
  have hP : va_P D xcl [(a0, .inr (1, [.ref a1, .int 3, v3])), (a1, .inl (cT 0, 4096, .inl f4))] s.heap := hP
  have hl := lv_entry ([.ref a0, .int x2]) (n := 2) (Nat.le_of_ble_eq_true rfl)
  rw [lg_entry_eq]
  generalize (lg_sl ([.ref a0, .int x2]) ++ List.replicate (2 - (lg_sl ([.ref a0, .int x2])).length) Slot.unset).toArray = ls at hl ⊢
  have hl : lv_has ls 2 [(0, .ref a0), (1, .int x2)] := hl
  refine lv_aload_n hx hb dT_add_0 rfl (lv_at hl 0 rfl) ?_
  refine va_get (D := D) (ci := 1) (v := .int 3) (C := "ValueBench$Text") (T := TT) (N := 3) hx hb htx inT hown hK hP 0 rfl rfl 1 (by decide) (htx _ kw_1_44) (fun _ h9 => h9) rfl dT_add_1 ?_
  refine lv_sipush (v := 4096) hx hb dT_add_4 (by decide) ?_
  refine lv_icmp_lt (tgt := 16) hx hb dT_add_7 (by decide) (fun _ => ?_) (fun h => ((by revert h; decide : False)).elim)
  refine lv_aload_n hx hb dT_add_16 rfl (lv_at hl 0 rfl) ?_
  refine va_get (D := D) (ci := 1) (v := .ref a1) (C := "ValueBench$Text") (T := TT) (N := 3) hx hb htx inT hown hK hP 0 rfl rfl 0 (by decide) (htx _ kw_1_43) (fun _ h9 => h9) rfl dT_add_17 ?_
  refine lv_aload_n hx hb dT_add_20 rfl (lv_at hl 0 rfl) ?_
  refine va_get (D := D) (ci := 1) (v := .int 3) (C := "ValueBench$Text") (T := TT) (N := 3) hx hb htx inT hown hK hP 0 rfl rfl 1 (by decide) (htx _ kw_1_44) (fun _ h9 => h9) rfl dT_add_21 ?_
  refine lv_iload_n hx hb dT_add_24 rfl (lv_at hl 1 rfl) ?_
  refine lv_i2b hx hb dT_add_25 rfl ?_
  refine lv_topi (fun y1 ey1 => ?_)
  refine va_bast hx hb hK hP hD hS 1 0 rfl rfl (show ¬ ((3 : Int32) < 0 ∨ 4096 ≤ (3 : Int32).toNatClampNeg) by decide) dT_add_26 (fun H locs hP hD hS => ?_)
  obtain ⟨hP, hD⟩ : xPD D xcl A [(a0, .inr (1, [.ref a1, .int 3, v3])), (a1, .inl (cT 0, 4096, .inl (upd f4 3 (vp_nar .byte y1))))] H := ⟨hP, hD⟩
  refine lv_aload_n hx hb dT_add_27 rfl (lv_at hl 0 rfl) ?_
  refine lv_dup hx hb dT_add_28 rfl ?_
  refine va_get (D := D) (ci := 1) (v := .int 3) (C := "ValueBench$Text") (T := TT) (N := 3) hx hb htx inT hown hK hP 0 rfl rfl 1 (by decide) (htx _ kw_1_44) (fun _ h9 => h9) rfl dT_add_29 ?_
  refine lv_iconst (v := 1) hx hb dT_add_32 (by decide) ?_
  refine lv_iadd hx hb dT_add_33 ?_
  refine W.eq (g2 := F0 m 34 ls [.int 4, .ref a0]) rfl ?_
  refine va_put (D := D) (ci := 1) (v := .int 4) (ty := .int) (C := "ValueBench$Text") (T := TT) (N := 3) hx hb htx inT tyT tyT_ok nmT hown hK hP hD hS 0 rfl rfl 1 (by decide) (htx _ kw_1_44) (fun _ h9 => h9) rfl (by decide +kernel) rfl rfl (Nat.le_of_ble_eq_true rfl) dT_add_34 (fun H locs hP hD hS => ?_)
  obtain ⟨hP, hD⟩ : xPD D xcl A [(a0, .inr (1, [.ref a1, .int 4, v3])), (a1, .inl (cT 0, 4096, .inl (upd f4 3 (vp_nar .byte y1))))] H := ⟨hP, hD⟩
  obtain ⟨hP9, hD9⟩ := xsub (wc := [(a0, .inr (1, [.ref a1, .int 4, v3])), (a1, .inl (cT 0, 4096, .inl (upd f4 3 (vp_nar .byte y1))))]) hP hD [0, 1] rfl rfl (by decide)
  refine W.widen (k := 0) (n := 0) (Nat.le_of_ble_eq_true rfl) (Nat.le_of_ble_eq_true rfl) ?_
  exact W.vret hx hb hr (fun t ht hW => ⟨⟨(), rfl, trivial, y1, by rw [ht]; exact hP9, va_K.moved hW.alike hK, hD9⟩, hS.F ht⟩) hS.2.2 dT_add_37
set_option maxHeartbeats 400000000 in
set_option maxRecDepth 100000 in
theorem cT_addWord_1 (l : Launch) (hl9 : l.stackTraces = false) (D : va_G) (cT : Nat → ClassId) (aK aV : Nat → Nat) (sz : Nat) (a0 : Nat) (a1 : Nat) (v2 : Value) (f3 : Nat → Int32) : xMet l yT_addWord wyT_addWord 4 0 0 85 D cT aK aV sz [.ref a0, .ref (aK 10)] [(a0, .inr (1, [.ref a1, .int 0, v2])), (a1, .inl (cT 0, 4096, .inl f3))] (fun A => va_Qv (fun _ : Unit => True) (fun _ t => ∃ (y3 : Int32) (y6 : Int32) (y9 : Int32) (y12 : Int32), xB D xcl cT A [(a0, .inr (1, [.ref a1, .int 4, v2])), (a1, .inl (cT 0, 4096, .inl (upd (upd (upd (upd f3 0 (vp_nar .byte y3)) 1 (vp_nar .byte y6)) 2 (vp_nar .byte y9)) 3 (vp_nar .byte y12))))] t) A) := by
  refine Met.ofW (cc := prog_11_method_10_code) (maxL := 3) (ret := none) (by decide) rfl ?_
  intro p e s m args below meth c s₁ B hml hv
  obtain ⟨rfl, hsz, hZ, hP, hK, hD0⟩ := hv
  have hx := B.exec
  have hb := B.bytes
  have hr := B.returns
  have hts := atoms_spec (ws := wyT_addWord) B.pre
  have htx := fun w h => hts w (List.mem_cons_of_mem _ h)
  have hown : s.vm.findClass "ValueBench$Text" = some m.cls := findClass_of_methodNamed B.named
  have hlocks := B.notSynchronized
  subst hsz
  have hD := hD0.self (sz := s.heap.size)
  generalize hAe : va_A [(a0, .inr (1, [.ref a1, .int 0, v2])), (a1, .inl (cT 0, 4096, .inl f3))] s.heap.size = A at hD hZ ⊢
  have hA : ∀ q : Nat, s.heap.size ≤ q → A q := fun q h => by rw [← hAe]; exact Or.inr h
  have hS : va_S A s.heap s.heap [] := va_S.rf
  have hP : va_P D xcl [(a0, .inr (1, [.ref a1, .int 0, v2])), (a1, .inl (cT 0, 4096, .inl f3))] s.heap := hP
  have hl := lv_entry ([.ref a0, .ref (aK 10)]) (n := 3) (Nat.le_of_ble_eq_true rfl)
  rw [lg_entry_eq]
  generalize (lg_sl ([.ref a0, .ref (aK 10)]) ++ List.replicate (3 - (lg_sl ([.ref a0, .ref (aK 10)])).length) Slot.unset).toArray = ls at hl ⊢
  have hl : lv_has ls 3 [(0, .ref a0), (1, .ref (aK 10))] := hl
  refine lv_iconst (v := 0) hx hb dT_addWord_0 (by decide) ?_
  refine lv_istore_n (lv' := [(2, .int 0), (0, .ref a0), (1, .ref (aK 10))]) hx hb dT_addWord_1 rfl hl (by decide) rfl (fun ls hl => ?_)
  refine lv_iload_n hx hb dT_addWord_2 rfl (lv_at hl 0 rfl) ?_
  refine lv_aload_n hx hb dT_addWord_3 rfl (lv_at hl 2 rfl) ?_
  obtain ⟨hPc, hDc, hFc⟩ := xcut (wc := []) hP hD hS hA [] rfl rfl (by decide)
  refine va_calli (va_runV (C := "java/lang/String") (As := []) (rest := [.int 0]) ⟨hx, hb, hml, hown, htx⟩ (cJS_length_0 l hl9 D cT aK aV s.heap.size) ⟨callB_of 0 htx (xw_goodC kw_2_70) rfl rfl rfl (htx _ kw_1_6) (htx _ kw_3_30) ⟨by decide, by decide, by decide +kernel⟩ ⟨Nat.le_of_ble_eq_true rfl, Nat.le_of_ble_eq_true rfl⟩, (htx _ kw_2_68), (htx _ kw_2_69)⟩ ⟨xPre_blind, vk_recv hZ.2.2.2.2.2.2.2.2.2.1 (i := 10) (by decide) hS, (fun U hU hW => ⟨rfl, xPre_of hZ hS hFc hPc hDc hK U hU hW⟩)⟩ rfl rfl hl.1 rfl (lv_room (Nat.le_of_ble_eq_true rfl)) dT_addWord_4 ⟨Nat.le_of_ble_eq_true rfl, Nat.le_of_ble_eq_true rfl⟩) hS (fun q _ h => hFc q h) hFc (fun r1 u9 t H1 locs ht hvm hr9 hB hz1 hk1 hS => ?_)
  obtain ⟨hP1, hK1, hD1⟩ := hB
  rw [ht] at hP1
  obtain ⟨hP, hD⟩ := xjoin (W := [(a0, .inr (1, [.ref a1, .int 0, v2])), (a1, .inl (cT 0, 4096, .inl f3))]) hP hD [] [0, 1] 2 rfl rfl (by decide) (by decide) hk1 hFc hP1 hD1
  generalize H1 = H at hP hS ⊢
  rw [hr9]
  refine W.eq (g2 := F0 m 7 ls [.int 4, .int 0]) rfl ?_
  refine lv_icmp_ge (tgt := 25) hx hb dT_addWord_7 (by decide) (fun h => ((by revert h; decide : False)).elim) (fun _ => ?_)
  refine lv_aload_n hx hb dT_addWord_10 rfl (lv_at hl 1 rfl) ?_
  refine lv_aload_n hx hb dT_addWord_11 rfl (lv_at hl 2 rfl) ?_
  refine lv_iload_n hx hb dT_addWord_12 rfl (lv_at hl 0 rfl) ?_
  obtain ⟨hPc, hDc, hFc⟩ := xcut (wc := []) hP hD hS hA [] rfl rfl (by decide)
  refine va_calli (va_runV (C := "java/lang/String") (As := [.int 0]) (rest := [.ref a0]) ⟨hx, hb, hml, hown, htx⟩ (cJS_charAt_0 l hl9 D cT aK aV H.size) ⟨callB_of 1 htx (xw_goodC kw_2_80) rfl rfl rfl (htx _ kw_1_6) (htx _ kw_3_31) ⟨by decide, by decide, by decide +kernel⟩ ⟨Nat.le_of_ble_eq_true rfl, Nat.le_of_ble_eq_true rfl⟩, (htx _ kw_2_78), (htx _ kw_2_79)⟩ ⟨xPre_blind, vk_recv hZ.2.2.2.2.2.2.2.2.2.1 (i := 10) (by decide) hS, (fun U hU hW => ⟨rfl, xPre_of hZ hS hFc hPc hDc hK U hU hW⟩)⟩ rfl rfl hl.1 rfl (lv_room (Nat.le_of_ble_eq_true rfl)) dT_addWord_13 ⟨Nat.le_of_ble_eq_true rfl, Nat.le_of_ble_eq_true rfl⟩) hS (fun q _ h => hFc q h) hFc (fun r2 u9 t H1 locs ht hvm hr9 hB hz1 hk1 hS => ?_)
  obtain ⟨hP1, hK1, hD1⟩ := hB
  rw [ht] at hP1
  obtain ⟨hP, hD⟩ := xjoin (W := [(a0, .inr (1, [.ref a1, .int 0, v2])), (a1, .inl (cT 0, 4096, .inl f3))]) hP hD [] [0, 1] 2 rfl rfl (by decide) (by decide) hk1 hFc hP1 hD1
  generalize H1 = H at hP hS ⊢
  rw [hr9]
  refine W.eq (g2 := F0 m 16 ls [.int 110, .ref a0]) rfl ?_
  obtain ⟨hPc, hDc, hFc⟩ := xcut (wc := [(a0, .inr (1, [.ref a1, .int 0, v2])), (a1, .inl (cT 0, 4096, .inl f3))]) hP hD hS hA [0, 1] rfl rfl (by decide)
  refine va_callv (va_runV (C := "ValueBench$Text") (As := [.int 110]) (rest := []) ⟨hx, hb, hml, hown, htx⟩ (cT_add_0 l hl9 D cT aK aV H.size a0 a1 110 v2 f3) ⟨callB_of 1 htx (xw_goodC kw_1_207) rfl rfl rfl (htx _ kw_1_2) (htx _ kw_1_204) ⟨by decide, by decide, by decide +kernel⟩ ⟨Nat.le_of_ble_eq_true rfl, Nat.le_of_ble_eq_true rfl⟩, (htx _ kw_1_205), (htx _ kw_1_206)⟩ ⟨xPre_blind, va_recv hK hP (ci := 1) rfl (q0 := 0) rfl, (fun U hU hW => ⟨rfl, xPre_of hZ hS hFc hPc hDc hK U hU hW⟩)⟩ rfl rfl hl.1 rfl (lv_room (Nat.le_of_ble_eq_true rfl)) dT_addWord_16 ⟨Nat.le_of_ble_eq_true rfl, Nat.le_of_ble_eq_true rfl⟩) hS (fun q _ h => hFc q h) hFc (fun u9 t H1 locs ht hvm hr9 hB hz1 hk1 hS => ?_)
  obtain ⟨y3, hP1, hK1, hD1⟩ := hB
  rw [ht] at hP1
  obtain ⟨hP, hD⟩ := xjoin (W := [(a0, .inr (1, [.ref a1, .int 1, v2])), (a1, .inl (cT 0, 4096, .inl (upd f3 0 (vp_nar .byte y3))))]) hP hD [0, 1] [] 0 rfl rfl (by decide) (by decide) hk1 hFc hP1 hD1
  generalize H1 = H at hP hS ⊢
  refine lv_iinc (v := 1) (lv' := [(2, .int 1), (0, .ref a0), (1, .ref (aK 10))]) hx hb dT_addWord_19 hl (k := 0) rfl (by decide) (by decide) rfl (fun ls hl => ?_)
  refine lv_goto (tgt := 2) hx hb dT_addWord_22 (by decide) ?_
  refine lv_iload_n hx hb dT_addWord_2 rfl (lv_at hl 0 rfl) ?_
  refine lv_aload_n hx hb dT_addWord_3 rfl (lv_at hl 2 rfl) ?_
  obtain ⟨hPc, hDc, hFc⟩ := xcut (wc := []) hP hD hS hA [] rfl rfl (by decide)
  refine va_calli (va_runV (C := "java/lang/String") (As := []) (rest := [.int 1]) ⟨hx, hb, hml, hown, htx⟩ (cJS_length_0 l hl9 D cT aK aV H.size) ⟨callB_of 0 htx (xw_goodC kw_2_70) rfl rfl rfl (htx _ kw_1_6) (htx _ kw_3_30) ⟨by decide, by decide, by decide +kernel⟩ ⟨Nat.le_of_ble_eq_true rfl, Nat.le_of_ble_eq_true rfl⟩, (htx _ kw_2_68), (htx _ kw_2_69)⟩ ⟨xPre_blind, vk_recv hZ.2.2.2.2.2.2.2.2.2.1 (i := 10) (by decide) hS, (fun U hU hW => ⟨rfl, xPre_of hZ hS hFc hPc hDc hK U hU hW⟩)⟩ rfl rfl hl.1 rfl (lv_room (Nat.le_of_ble_eq_true rfl)) dT_addWord_4 ⟨Nat.le_of_ble_eq_true rfl, Nat.le_of_ble_eq_true rfl⟩) hS (fun q _ h => hFc q h) hFc (fun r4 u9 t H1 locs ht hvm hr9 hB hz1 hk1 hS => ?_)
  obtain ⟨hP1, hK1, hD1⟩ := hB
  rw [ht] at hP1
  obtain ⟨hP, hD⟩ := xjoin (W := [(a0, .inr (1, [.ref a1, .int 1, v2])), (a1, .inl (cT 0, 4096, .inl (upd f3 0 (vp_nar .byte y3))))]) hP hD [] [0, 1] 2 rfl rfl (by decide) (by decide) hk1 hFc hP1 hD1
  generalize H1 = H at hP hS ⊢
  rw [hr9]
  refine W.eq (g2 := F0 m 7 ls [.int 4, .int 1]) rfl ?_
  refine lv_icmp_ge (tgt := 25) hx hb dT_addWord_7 (by decide) (fun h => ((by revert h; decide : False)).elim) (fun _ => ?_)
  refine lv_aload_n hx hb dT_addWord_10 rfl (lv_at hl 1 rfl) ?_
  refine lv_aload_n hx hb dT_addWord_11 rfl (lv_at hl 2 rfl) ?_
  refine lv_iload_n hx hb dT_addWord_12 rfl (lv_at hl 0 rfl) ?_
  obtain ⟨hPc, hDc, hFc⟩ := xcut (wc := []) hP hD hS hA [] rfl rfl (by decide)
  refine va_calli (va_runV (C := "java/lang/String") (As := [.int 1]) (rest := [.ref a0]) ⟨hx, hb, hml, hown, htx⟩ (cJS_charAt_1 l hl9 D cT aK aV H.size) ⟨callB_of 1 htx (xw_goodC kw_2_80) rfl rfl rfl (htx _ kw_1_6) (htx _ kw_3_31) ⟨by decide, by decide, by decide +kernel⟩ ⟨Nat.le_of_ble_eq_true rfl, Nat.le_of_ble_eq_true rfl⟩, (htx _ kw_2_78), (htx _ kw_2_79)⟩ ⟨xPre_blind, vk_recv hZ.2.2.2.2.2.2.2.2.2.1 (i := 10) (by decide) hS, (fun U hU hW => ⟨rfl, xPre_of hZ hS hFc hPc hDc hK U hU hW⟩)⟩ rfl rfl hl.1 rfl (lv_room (Nat.le_of_ble_eq_true rfl)) dT_addWord_13 ⟨Nat.le_of_ble_eq_true rfl, Nat.le_of_ble_eq_true rfl⟩) hS (fun q _ h => hFc q h) hFc (fun r5 u9 t H1 locs ht hvm hr9 hB hz1 hk1 hS => ?_)
  obtain ⟨hP1, hK1, hD1⟩ := hB
  rw [ht] at hP1
  obtain ⟨hP, hD⟩ := xjoin (W := [(a0, .inr (1, [.ref a1, .int 1, v2])), (a1, .inl (cT 0, 4096, .inl (upd f3 0 (vp_nar .byte y3))))]) hP hD [] [0, 1] 2 rfl rfl (by decide) (by decide) hk1 hFc hP1 hD1
  generalize H1 = H at hP hS ⊢
  rw [hr9]
  refine W.eq (g2 := F0 m 16 ls [.int 117, .ref a0]) rfl ?_
  obtain ⟨hPc, hDc, hFc⟩ := xcut (wc := [(a0, .inr (1, [.ref a1, .int 1, v2])), (a1, .inl (cT 0, 4096, .inl (upd f3 0 (vp_nar .byte y3))))]) hP hD hS hA [0, 1] rfl rfl (by decide)
  refine va_callv (va_runV (C := "ValueBench$Text") (As := [.int 117]) (rest := []) ⟨hx, hb, hml, hown, htx⟩ (cT_add_1 l hl9 D cT aK aV H.size a0 a1 117 v2 (upd f3 0 (vp_nar .byte y3))) ⟨callB_of 1 htx (xw_goodC kw_1_207) rfl rfl rfl (htx _ kw_1_2) (htx _ kw_1_204) ⟨by decide, by decide, by decide +kernel⟩ ⟨Nat.le_of_ble_eq_true rfl, Nat.le_of_ble_eq_true rfl⟩, (htx _ kw_1_205), (htx _ kw_1_206)⟩ ⟨xPre_blind, va_recv hK hP (ci := 1) rfl (q0 := 0) rfl, (fun U hU hW => ⟨rfl, xPre_of hZ hS hFc hPc hDc hK U hU hW⟩)⟩ rfl rfl hl.1 rfl (lv_room (Nat.le_of_ble_eq_true rfl)) dT_addWord_16 ⟨Nat.le_of_ble_eq_true rfl, Nat.le_of_ble_eq_true rfl⟩) hS (fun q _ h => hFc q h) hFc (fun u9 t H1 locs ht hvm hr9 hB hz1 hk1 hS => ?_)
  obtain ⟨y6, hP1, hK1, hD1⟩ := hB
  rw [ht] at hP1
  obtain ⟨hP, hD⟩ := xjoin (W := [(a0, .inr (1, [.ref a1, .int 2, v2])), (a1, .inl (cT 0, 4096, .inl (upd (upd f3 0 (vp_nar .byte y3)) 1 (vp_nar .byte y6))))]) hP hD [0, 1] [] 0 rfl rfl (by decide) (by decide) hk1 hFc hP1 hD1
  generalize H1 = H at hP hS ⊢
  refine lv_iinc (v := 2) (lv' := [(2, .int 2), (0, .ref a0), (1, .ref (aK 10))]) hx hb dT_addWord_19 hl (k := 0) rfl (by decide) (by decide) rfl (fun ls hl => ?_)
  refine lv_goto (tgt := 2) hx hb dT_addWord_22 (by decide) ?_
  refine lv_iload_n hx hb dT_addWord_2 rfl (lv_at hl 0 rfl) ?_
  refine lv_aload_n hx hb dT_addWord_3 rfl (lv_at hl 2 rfl) ?_
  obtain ⟨hPc, hDc, hFc⟩ := xcut (wc := []) hP hD hS hA [] rfl rfl (by decide)
  refine va_calli (va_runV (C := "java/lang/String") (As := []) (rest := [.int 2]) ⟨hx, hb, hml, hown, htx⟩ (cJS_length_0 l hl9 D cT aK aV H.size) ⟨callB_of 0 htx (xw_goodC kw_2_70) rfl rfl rfl (htx _ kw_1_6) (htx _ kw_3_30) ⟨by decide, by decide, by decide +kernel⟩ ⟨Nat.le_of_ble_eq_true rfl, Nat.le_of_ble_eq_true rfl⟩, (htx _ kw_2_68), (htx _ kw_2_69)⟩ ⟨xPre_blind, vk_recv hZ.2.2.2.2.2.2.2.2.2.1 (i := 10) (by decide) hS, (fun U hU hW => ⟨rfl, xPre_of hZ hS hFc hPc hDc hK U hU hW⟩)⟩ rfl rfl hl.1 rfl (lv_room (Nat.le_of_ble_eq_true rfl)) dT_addWord_4 ⟨Nat.le_of_ble_eq_true rfl, Nat.le_of_ble_eq_true rfl⟩) hS (fun q _ h => hFc q h) hFc (fun r7 u9 t H1 locs ht hvm hr9 hB hz1 hk1 hS => ?_)
  obtain ⟨hP1, hK1, hD1⟩ := hB
  rw [ht] at hP1
  obtain ⟨hP, hD⟩ := xjoin (W := [(a0, .inr (1, [.ref a1, .int 2, v2])), (a1, .inl (cT 0, 4096, .inl (upd (upd f3 0 (vp_nar .byte y3)) 1 (vp_nar .byte y6))))]) hP hD [] [0, 1] 2 rfl rfl (by decide) (by decide) hk1 hFc hP1 hD1
  generalize H1 = H at hP hS ⊢
  rw [hr9]
  refine W.eq (g2 := F0 m 7 ls [.int 4, .int 2]) rfl ?_
  refine lv_icmp_ge (tgt := 25) hx hb dT_addWord_7 (by decide) (fun h => ((by revert h; decide : False)).elim) (fun _ => ?_)
  refine lv_aload_n hx hb dT_addWord_10 rfl (lv_at hl 1 rfl) ?_
  refine lv_aload_n hx hb dT_addWord_11 rfl (lv_at hl 2 rfl) ?_
  refine lv_iload_n hx hb dT_addWord_12 rfl (lv_at hl 0 rfl) ?_
  obtain ⟨hPc, hDc, hFc⟩ := xcut (wc := []) hP hD hS hA [] rfl rfl (by decide)
  refine va_calli (va_runV (C := "java/lang/String") (As := [.int 2]) (rest := [.ref a0]) ⟨hx, hb, hml, hown, htx⟩ (cJS_charAt_2 l hl9 D cT aK aV H.size) ⟨callB_of 1 htx (xw_goodC kw_2_80) rfl rfl rfl (htx _ kw_1_6) (htx _ kw_3_31) ⟨by decide, by decide, by decide +kernel⟩ ⟨Nat.le_of_ble_eq_true rfl, Nat.le_of_ble_eq_true rfl⟩, (htx _ kw_2_78), (htx _ kw_2_79)⟩ ⟨xPre_blind, vk_recv hZ.2.2.2.2.2.2.2.2.2.1 (i := 10) (by decide) hS, (fun U hU hW => ⟨rfl, xPre_of hZ hS hFc hPc hDc hK U hU hW⟩)⟩ rfl rfl hl.1 rfl (lv_room (Nat.le_of_ble_eq_true rfl)) dT_addWord_13 ⟨Nat.le_of_ble_eq_true rfl, Nat.le_of_ble_eq_true rfl⟩) hS (fun q _ h => hFc q h) hFc (fun r8 u9 t H1 locs ht hvm hr9 hB hz1 hk1 hS => ?_)
  obtain ⟨hP1, hK1, hD1⟩ := hB
  rw [ht] at hP1
  obtain ⟨hP, hD⟩ := xjoin (W := [(a0, .inr (1, [.ref a1, .int 2, v2])), (a1, .inl (cT 0, 4096, .inl (upd (upd f3 0 (vp_nar .byte y3)) 1 (vp_nar .byte y6))))]) hP hD [] [0, 1] 2 rfl rfl (by decide) (by decide) hk1 hFc hP1 hD1
  generalize H1 = H at hP hS ⊢
  rw [hr9]
  refine W.eq (g2 := F0 m 16 ls [.int 108, .ref a0]) rfl ?_
  obtain ⟨hPc, hDc, hFc⟩ := xcut (wc := [(a0, .inr (1, [.ref a1, .int 2, v2])), (a1, .inl (cT 0, 4096, .inl (upd (upd f3 0 (vp_nar .byte y3)) 1 (vp_nar .byte y6))))]) hP hD hS hA [0, 1] rfl rfl (by decide)
  refine va_callv (va_runV (C := "ValueBench$Text") (As := [.int 108]) (rest := []) ⟨hx, hb, hml, hown, htx⟩ (cT_add_2 l hl9 D cT aK aV H.size a0 a1 108 v2 (upd (upd f3 0 (vp_nar .byte y3)) 1 (vp_nar .byte y6))) ⟨callB_of 1 htx (xw_goodC kw_1_207) rfl rfl rfl (htx _ kw_1_2) (htx _ kw_1_204) ⟨by decide, by decide, by decide +kernel⟩ ⟨Nat.le_of_ble_eq_true rfl, Nat.le_of_ble_eq_true rfl⟩, (htx _ kw_1_205), (htx _ kw_1_206)⟩ ⟨xPre_blind, va_recv hK hP (ci := 1) rfl (q0 := 0) rfl, (fun U hU hW => ⟨rfl, xPre_of hZ hS hFc hPc hDc hK U hU hW⟩)⟩ rfl rfl hl.1 rfl (lv_room (Nat.le_of_ble_eq_true rfl)) dT_addWord_16 ⟨Nat.le_of_ble_eq_true rfl, Nat.le_of_ble_eq_true rfl⟩) hS (fun q _ h => hFc q h) hFc (fun u9 t H1 locs ht hvm hr9 hB hz1 hk1 hS => ?_)
  obtain ⟨y9, hP1, hK1, hD1⟩ := hB
  rw [ht] at hP1
  obtain ⟨hP, hD⟩ := xjoin (W := [(a0, .inr (1, [.ref a1, .int 3, v2])), (a1, .inl (cT 0, 4096, .inl (upd (upd (upd f3 0 (vp_nar .byte y3)) 1 (vp_nar .byte y6)) 2 (vp_nar .byte y9))))]) hP hD [0, 1] [] 0 rfl rfl (by decide) (by decide) hk1 hFc hP1 hD1
  generalize H1 = H at hP hS ⊢
  refine lv_iinc (v := 3) (lv' := [(2, .int 3), (0, .ref a0), (1, .ref (aK 10))]) hx hb dT_addWord_19 hl (k := 0) rfl (by decide) (by decide) rfl (fun ls hl => ?_)
  refine lv_goto (tgt := 2) hx hb dT_addWord_22 (by decide) ?_
  refine lv_iload_n hx hb dT_addWord_2 rfl (lv_at hl 0 rfl) ?_
  refine lv_aload_n hx hb dT_addWord_3 rfl (lv_at hl 2 rfl) ?_
  obtain ⟨hPc, hDc, hFc⟩ := xcut (wc := []) hP hD hS hA [] rfl rfl (by decide)
  refine va_calli (va_runV (C := "java/lang/String") (As := []) (rest := [.int 3]) ⟨hx, hb, hml, hown, htx⟩ (cJS_length_0 l hl9 D cT aK aV H.size) ⟨callB_of 0 htx (xw_goodC kw_2_70) rfl rfl rfl (htx _ kw_1_6) (htx _ kw_3_30) ⟨by decide, by decide, by decide +kernel⟩ ⟨Nat.le_of_ble_eq_true rfl, Nat.le_of_ble_eq_true rfl⟩, (htx _ kw_2_68), (htx _ kw_2_69)⟩ ⟨xPre_blind, vk_recv hZ.2.2.2.2.2.2.2.2.2.1 (i := 10) (by decide) hS, (fun U hU hW => ⟨rfl, xPre_of hZ hS hFc hPc hDc hK U hU hW⟩)⟩ rfl rfl hl.1 rfl (lv_room (Nat.le_of_ble_eq_true rfl)) dT_addWord_4 ⟨Nat.le_of_ble_eq_true rfl, Nat.le_of_ble_eq_true rfl⟩) hS (fun q _ h => hFc q h) hFc (fun r10 u9 t H1 locs ht hvm hr9 hB hz1 hk1 hS => ?_)
  obtain ⟨hP1, hK1, hD1⟩ := hB
  rw [ht] at hP1
  obtain ⟨hP, hD⟩ := xjoin (W := [(a0, .inr (1, [.ref a1, .int 3, v2])), (a1, .inl (cT 0, 4096, .inl (upd (upd (upd f3 0 (vp_nar .byte y3)) 1 (vp_nar .byte y6)) 2 (vp_nar .byte y9))))]) hP hD [] [0, 1] 2 rfl rfl (by decide) (by decide) hk1 hFc hP1 hD1
  generalize H1 = H at hP hS ⊢
  rw [hr9]
  refine W.eq (g2 := F0 m 7 ls [.int 4, .int 3]) rfl ?_
  refine lv_icmp_ge (tgt := 25) hx hb dT_addWord_7 (by decide) (fun h => ((by revert h; decide : False)).elim) (fun _ => ?_)
  refine lv_aload_n hx hb dT_addWord_10 rfl (lv_at hl 1 rfl) ?_
  refine lv_aload_n hx hb dT_addWord_11 rfl (lv_at hl 2 rfl) ?_
  refine lv_iload_n hx hb dT_addWord_12 rfl (lv_at hl 0 rfl) ?_
  obtain ⟨hPc, hDc, hFc⟩ := xcut (wc := []) hP hD hS hA [] rfl rfl (by decide)
  refine va_calli (va_runV (C := "java/lang/String") (As := [.int 3]) (rest := [.ref a0]) ⟨hx, hb, hml, hown, htx⟩ (cJS_charAt_3 l hl9 D cT aK aV H.size) ⟨callB_of 1 htx (xw_goodC kw_2_80) rfl rfl rfl (htx _ kw_1_6) (htx _ kw_3_31) ⟨by decide, by decide, by decide +kernel⟩ ⟨Nat.le_of_ble_eq_true rfl, Nat.le_of_ble_eq_true rfl⟩, (htx _ kw_2_78), (htx _ kw_2_79)⟩ ⟨xPre_blind, vk_recv hZ.2.2.2.2.2.2.2.2.2.1 (i := 10) (by decide) hS, (fun U hU hW => ⟨rfl, xPre_of hZ hS hFc hPc hDc hK U hU hW⟩)⟩ rfl rfl hl.1 rfl (lv_room (Nat.le_of_ble_eq_true rfl)) dT_addWord_13 ⟨Nat.le_of_ble_eq_true rfl, Nat.le_of_ble_eq_true rfl⟩) hS (fun q _ h => hFc q h) hFc (fun r11 u9 t H1 locs ht hvm hr9 hB hz1 hk1 hS => ?_)
  obtain ⟨hP1, hK1, hD1⟩ := hB
  rw [ht] at hP1
  obtain ⟨hP, hD⟩ := xjoin (W := [(a0, .inr (1, [.ref a1, .int 3, v2])), (a1, .inl (cT 0, 4096, .inl (upd (upd (upd f3 0 (vp_nar .byte y3)) 1 (vp_nar .byte y6)) 2 (vp_nar .byte y9))))]) hP hD [] [0, 1] 2 rfl rfl (by decide) (by decide) hk1 hFc hP1 hD1
  generalize H1 = H at hP hS ⊢
  rw [hr9]
  refine W.eq (g2 := F0 m 16 ls [.int 108, .ref a0]) rfl ?_
  obtain ⟨hPc, hDc, hFc⟩ := xcut (wc := [(a0, .inr (1, [.ref a1, .int 3, v2])), (a1, .inl (cT 0, 4096, .inl (upd (upd (upd f3 0 (vp_nar .byte y3)) 1 (vp_nar .byte y6)) 2 (vp_nar .byte y9))))]) hP hD hS hA [0, 1] rfl rfl (by decide)
  refine va_callv (va_runV (C := "ValueBench$Text") (As := [.int 108]) (rest := []) ⟨hx, hb, hml, hown, htx⟩ (cT_add_20 l hl9 D cT aK aV H.size a0 a1 108 v2 (upd (upd (upd f3 0 (vp_nar .byte y3)) 1 (vp_nar .byte y6)) 2 (vp_nar .byte y9))) ⟨callB_of 1 htx (xw_goodC kw_1_207) rfl rfl rfl (htx _ kw_1_2) (htx _ kw_1_204) ⟨by decide, by decide, by decide +kernel⟩ ⟨Nat.le_of_ble_eq_true rfl, Nat.le_of_ble_eq_true rfl⟩, (htx _ kw_1_205), (htx _ kw_1_206)⟩ ⟨xPre_blind, va_recv hK hP (ci := 1) rfl (q0 := 0) rfl, (fun U hU hW => ⟨rfl, xPre_of hZ hS hFc hPc hDc hK U hU hW⟩)⟩ rfl rfl hl.1 rfl (lv_room (Nat.le_of_ble_eq_true rfl)) dT_addWord_16 ⟨Nat.le_of_ble_eq_true rfl, Nat.le_of_ble_eq_true rfl⟩) hS (fun q _ h => hFc q h) hFc (fun u9 t H1 locs ht hvm hr9 hB hz1 hk1 hS => ?_)
  obtain ⟨y12, hP1, hK1, hD1⟩ := hB
  rw [ht] at hP1
  obtain ⟨hP, hD⟩ := xjoin (W := [(a0, .inr (1, [.ref a1, .int 4, v2])), (a1, .inl (cT 0, 4096, .inl (upd (upd (upd (upd f3 0 (vp_nar .byte y3)) 1 (vp_nar .byte y6)) 2 (vp_nar .byte y9)) 3 (vp_nar .byte y12))))]) hP hD [0, 1] [] 0 rfl rfl (by decide) (by decide) hk1 hFc hP1 hD1
  generalize H1 = H at hP hS ⊢
  refine lv_iinc (v := 4) (lv' := [(2, .int 4), (0, .ref a0), (1, .ref (aK 10))]) hx hb dT_addWord_19 hl (k := 0) rfl (by decide) (by decide) rfl (fun ls hl => ?_)
  refine lv_goto (tgt := 2) hx hb dT_addWord_22 (by decide) ?_
  refine lv_iload_n hx hb dT_addWord_2 rfl (lv_at hl 0 rfl) ?_
  refine lv_aload_n hx hb dT_addWord_3 rfl (lv_at hl 2 rfl) ?_
  obtain ⟨hPc, hDc, hFc⟩ := xcut (wc := []) hP hD hS hA [] rfl rfl (by decide)
  refine va_calli (va_runV (C := "java/lang/String") (As := []) (rest := [.int 4]) ⟨hx, hb, hml, hown, htx⟩ (cJS_length_0 l hl9 D cT aK aV H.size) ⟨callB_of 0 htx (xw_goodC kw_2_70) rfl rfl rfl (htx _ kw_1_6) (htx _ kw_3_30) ⟨by decide, by decide, by decide +kernel⟩ ⟨Nat.le_of_ble_eq_true rfl, Nat.le_of_ble_eq_true rfl⟩, (htx _ kw_2_68), (htx _ kw_2_69)⟩ ⟨xPre_blind, vk_recv hZ.2.2.2.2.2.2.2.2.2.1 (i := 10) (by decide) hS, (fun U hU hW => ⟨rfl, xPre_of hZ hS hFc hPc hDc hK U hU hW⟩)⟩ rfl rfl hl.1 rfl (lv_room (Nat.le_of_ble_eq_true rfl)) dT_addWord_4 ⟨Nat.le_of_ble_eq_true rfl, Nat.le_of_ble_eq_true rfl⟩) hS (fun q _ h => hFc q h) hFc (fun r13 u9 t H1 locs ht hvm hr9 hB hz1 hk1 hS => ?_)
  obtain ⟨hP1, hK1, hD1⟩ := hB
  rw [ht] at hP1
  obtain ⟨hP, hD⟩ := xjoin (W := [(a0, .inr (1, [.ref a1, .int 4, v2])), (a1, .inl (cT 0, 4096, .inl (upd (upd (upd (upd f3 0 (vp_nar .byte y3)) 1 (vp_nar .byte y6)) 2 (vp_nar .byte y9)) 3 (vp_nar .byte y12))))]) hP hD [] [0, 1] 2 rfl rfl (by decide) (by decide) hk1 hFc hP1 hD1
  generalize H1 = H at hP hS ⊢
  rw [hr9]
  refine W.eq (g2 := F0 m 7 ls [.int 4, .int 4]) rfl ?_
  refine lv_icmp_ge (tgt := 25) hx hb dT_addWord_7 (by decide) (fun _ => ?_) (fun h => ((by revert h; decide : False)).elim)
  obtain ⟨hP9, hD9⟩ := xsub (wc := [(a0, .inr (1, [.ref a1, .int 4, v2])), (a1, .inl (cT 0, 4096, .inl (upd (upd (upd (upd f3 0 (vp_nar .byte y3)) 1 (vp_nar .byte y6)) 2 (vp_nar .byte y9)) 3 (vp_nar .byte y12))))]) hP hD [0, 1] rfl rfl (by decide)
  refine W.widen (k := 0) (n := 0) (Nat.le_of_ble_eq_true rfl) (Nat.le_of_ble_eq_true rfl) ?_
  exact W.vret hx hb hr (fun t ht hW => ⟨⟨(), rfl, trivial, y3, y6, y9, y12, by rw [ht]; exact hP9, va_K.moved hW.alike hK, hD9⟩, hS.F ht⟩) hS.2.2 dT_addWord_25
set_option maxHeartbeats 400000000 in
set_option maxRecDepth 100000 in
theorem cP_write_1 (l : Launch) (hl9 : l.stackTraces = false) (D : va_G) (cT : Nat → ClassId) (aK aV : Nat → Nat) (sz : Nat) (a0 : Nat) (a1 : Nat) (a2 : Nat) (a3 : Nat) (x4 : Int32) (v5 : Value) (f6 : Nat → Int64) (v8 : Value) (f9 : Nat → Int32) (h7 : f6 0 = 0) : xMet l yP_write wyP_write 5 0 0 107 D cT aK aV sz [.ref a0, .int 0, .ref a2, .int x4] [(a0, .inr (2, [.ref a1, .int 1, v5])), (a1, .inl (cT 2, 4096, .inr (.inl f6))), (a2, .inr (1, [.ref a3, .int 0, v8])), (a3, .inl (cT 0, 4096, .inl f9))] (fun A => va_Qv (fun _ : Unit => True) (fun _ t => ∃ (y2 : Int32) (y3 : Int32) (y4 : Int32) (y5 : Int32), xB D xcl cT A [(a0, .inr (2, [.ref a1, .int 1, v5])), (a1, .inl (cT 2, 4096, .inr (.inl f6))), (a2, .inr (1, [.ref a3, .int 4, v8])), (a3, .inl (cT 0, 4096, .inl (upd (upd (upd (upd f9 0 (vp_nar .byte y2)) 1 (vp_nar .byte y3)) 2 (vp_nar .byte y4)) 3 (vp_nar .byte y5))))] t) A) := by
  refine Met.ofW (cc := prog_6_method_2_code) (maxL := 4) (ret := none) (by decide) rfl ?_
  intro p e s m args below meth c s₁ B hml hv
  obtain ⟨rfl, hsz, hZ, hP, hK, hD0⟩ := hv
  have hx := B.exec
  have hb := B.bytes
  have hr := B.returns
  have hts := atoms_spec (ws := wyP_write) B.pre
  have htx := fun w h => hts w (List.mem_cons_of_mem _ h)
  have hown : s.vm.findClass "ValueBench$Printer" = some m.cls := findClass_of_methodNamed B.named
  have hlocks := B.notSynchronized
  subst hsz
  have hD := hD0.self (sz := s.heap.size)
  generalize hAe : va_A [(a0, .inr (2, [.ref a1, .int 1, v5])), (a1, .inl (cT 2, 4096, .inr (.inl f6))), (a2, .inr (1, [.ref a3, .int 0, v8])), (a3, .inl (cT 0, 4096, .inl f9))] s.heap.size = A at hD hZ ⊢
  have hA : ∀ q : Nat, s.heap.size ≤ q → A q := fun q h => by rw [← hAe]; exact Or.inr h
  have hS : va_S A s.heap s.heap [] := va_S.rf
  have hP : va_P D xcl [(a0, .inr (2, [.ref a1, .int 1, v5])), (a1, .inl (cT 2, 4096, .inr (.inl f6))), (a2, .inr (1, [.ref a3, .int 0, v8])), (a3, .inl (cT 0, 4096, .inl f9))] s.heap := hP
  have hl := lv_entry ([.ref a0, .int 0, .ref a2, .int x4]) (n := 4) (Nat.le_of_ble_eq_true rfl)
  rw [lg_entry_eq]
  generalize (lg_sl ([.ref a0, .int 0, .ref a2, .int x4]) ++ List.replicate (4 - (lg_sl ([.ref a0, .int 0, .ref a2, .int x4])).length) Slot.unset).toArray = ls at hl ⊢
  have hl : lv_has ls 4 [(0, .ref a0), (1, .int 0), (2, .ref a2), (3, .int x4)] := hl
  refine lv_aload_n hx hb dP_write_0 rfl (lv_at hl 0 rfl) ?_
  refine lv_iload_n hx hb dP_write_1 rfl (lv_at hl 1 rfl) ?_
  obtain ⟨hPc, hDc, hFc⟩ := xcut (wc := [(a0, .inr (2, [.ref a1, .int 1, v5])), (a1, .inl (cT 2, 4096, .inr (.inl f6)))]) hP hD hS hA [0, 1] rfl rfl (by decide)
  refine va_calli (va_runV (C := "ValueBench$Row") (As := [.int 0]) (rest := []) ⟨hx, hb, hml, hown, htx⟩ (cR_kind_0 l hl9 D cT aK aV s.heap.size a0 a1 v5 f6 (by first | rfl | exact h7)) ⟨callB_of 1 htx (xw_goodC kw_3_24) rfl rfl rfl (htx _ kw_1_4) (htx _ kw_3_21) ⟨by decide, by decide, by decide +kernel⟩ ⟨Nat.le_of_ble_eq_true rfl, Nat.le_of_ble_eq_true rfl⟩, (htx _ kw_3_22), (htx _ kw_3_23)⟩ ⟨xPre_blind, va_recv hK hP (ci := 2) rfl (q0 := 0) rfl, (fun U hU hW => ⟨rfl, xPre_of hZ hS hFc hPc hDc hK U hU hW⟩)⟩ rfl rfl hl.1 rfl (lv_room (Nat.le_of_ble_eq_true rfl)) dP_write_2 ⟨Nat.le_of_ble_eq_true rfl, Nat.le_of_ble_eq_true rfl⟩) hS (fun q _ h => hFc q h) hFc (fun r1 u9 t H1 locs ht hvm hr9 hB hz1 hk1 hS => ?_)
  obtain ⟨hP1, hK1, hD1⟩ := hB
  rw [ht] at hP1
  obtain ⟨hP, hD⟩ := xjoin (W := [(a2, .inr (1, [.ref a3, .int 0, v8])), (a3, .inl (cT 0, 4096, .inl f9)), (a0, .inr (2, [.ref a1, .int 1, v5])), (a1, .inl (cT 2, 4096, .inr (.inl f6)))]) hP hD [0, 1] [2, 3] 2 rfl rfl (by decide) (by decide) hk1 hFc hP1 hD1
  generalize H1 = H at hP hS ⊢
  rw [hr9]
  refine W.eq (g2 := F0 m 5 ls [.int 0]) rfl ?_
  refine lv_tableIn (off := 35) (tgt := 40) hx hb dP_write_5 (by decide) (by decide) (by decide) (by decide) ?_
  refine lv_aload_n hx hb dP_write_40 rfl (lv_at hl 2 rfl) ?_
  refine va_ldcS (q := aK 10) hx hb hown (hZ.2.2.2.2.2.2.2.2.1 ("ValueBench$Printer", 15, "null", 10) (List.mem_of_getElem? (i := 10) rfl)) dP_write_41 ?_
  obtain ⟨hPc, hDc, hFc⟩ := xcut (wc := [(a2, .inr (1, [.ref a3, .int 0, v8])), (a3, .inl (cT 0, 4096, .inl f9))]) hP hD hS hA [0, 1] rfl rfl (by decide)
  refine va_callv (va_runV (C := "ValueBench$Text") (As := [.ref (aK 10)]) (rest := []) ⟨hx, hb, hml, hown, htx⟩ (cT_addWord_1 l hl9 D cT aK aV H.size a2 a3 v8 f9) ⟨callB_of 1 htx (xw_goodC kw_3_29) rfl rfl rfl (htx _ kw_1_2) (htx _ kw_3_26) ⟨by decide, by decide, by decide +kernel⟩ ⟨Nat.le_of_ble_eq_true rfl, Nat.le_of_ble_eq_true rfl⟩, (htx _ kw_3_27), (htx _ kw_3_28)⟩ ⟨xPre_blind, va_recv hK hP (ci := 1) rfl (q0 := 0) rfl, (fun U hU hW => ⟨rfl, xPre_of hZ hS hFc hPc hDc hK U hU hW⟩)⟩ rfl rfl hl.1 rfl (lv_room (Nat.le_of_ble_eq_true rfl)) dP_write_43 ⟨Nat.le_of_ble_eq_true rfl, Nat.le_of_ble_eq_true rfl⟩) hS (fun q _ h => hFc q h) hFc (fun u9 t H1 locs ht hvm hr9 hB hz1 hk1 hS => ?_)
  obtain ⟨y2, y3, y4, y5, hP1, hK1, hD1⟩ := hB
  rw [ht] at hP1
  obtain ⟨hP, hD⟩ := xjoin (W := [(a0, .inr (2, [.ref a1, .int 1, v5])), (a1, .inl (cT 2, 4096, .inr (.inl f6))), (a2, .inr (1, [.ref a3, .int 4, v8])), (a3, .inl (cT 0, 4096, .inl (upd (upd (upd (upd f9 0 (vp_nar .byte y2)) 1 (vp_nar .byte y3)) 2 (vp_nar .byte y4)) 3 (vp_nar .byte y5))))]) hP hD [0, 1] [2, 3] 2 rfl rfl (by decide) (by decide) hk1 hFc hP1 hD1
  generalize H1 = H at hP hS ⊢
  refine lv_goto (tgt := 95) hx hb dP_write_46 (by decide) ?_
  obtain ⟨hP9, hD9⟩ := xsub (wc := [(a0, .inr (2, [.ref a1, .int 1, v5])), (a1, .inl (cT 2, 4096, .inr (.inl f6))), (a2, .inr (1, [.ref a3, .int 4, v8])), (a3, .inl (cT 0, 4096, .inl (upd (upd (upd (upd f9 0 (vp_nar .byte y2)) 1 (vp_nar .byte y3)) 2 (vp_nar .byte y4)) 3 (vp_nar .byte y5))))]) hP hD [0, 1, 2, 3] rfl rfl (by decide)
  refine W.widen (k := 0) (n := 0) (Nat.le_of_ble_eq_true rfl) (Nat.le_of_ble_eq_true rfl) ?_
  exact W.vret hx hb hr (fun t ht hW => ⟨⟨(), rfl, trivial, y2, y3, y4, y5, by rw [ht]; exact hP9, va_K.moved hW.alike hK, hD9⟩, hS.F ht⟩) hS.2.2 dP_write_95
set_option maxHeartbeats 400000000 in
set_option maxRecDepth 100000 in
theorem cR_isOver_0 (l : Launch) (hl9 : l.stackTraces = false) (D : va_G) (cT : Nat → ClassId) (aK aV : Nat → Nat) (sz : Nat) (a0 : Nat) (v1 : Value) (v2 : Value) : xMet l yR_isOver wyR_isOver 0 0 0 0 D cT aK aV sz [.ref a0] [(a0, .inr (2, [v1, v2, .int 0]))] (fun A => va_Qi (fun (r : Int32) (_ : Unit) => r = 0) (fun _ t => xB D xcl cT A [(a0, .inr (2, [v1, v2, .int 0]))] t) A) := by
  refine Met.ofW (cc := prog_8_method_4_code) (maxL := 1) (ret := (some .boolean)) (by decide) rfl ?_
  intro p e s m args below meth c s₁ B hml hv
  obtain ⟨rfl, hsz, hZ, hP, hK, hD0⟩ := hv
  have hx := B.exec
  have hb := B.bytes
  have hr := B.returns
  have hts := atoms_spec (ws := wyR_isOver) B.pre
  have htx := fun w h => hts w (List.mem_cons_of_mem _ h)
  have hown : s.vm.findClass "ValueBench$Row" = some m.cls := findClass_of_methodNamed B.named
  have hlocks := B.notSynchronized
  subst hsz
  have hD := hD0.self (sz := s.heap.size)
  generalize hAe : va_A [(a0, .inr (2, [v1, v2, .int 0]))] s.heap.size = A at hD hZ ⊢
  have hA : ∀ q : Nat, s.heap.size ≤ q → A q := fun q h => by rw [← hAe]; exact Or.inr h
  have hS : va_S A s.heap s.heap [] := va_S.rf
  have hP : va_P D xcl [(a0, .inr (2, [v1, v2, .int 0]))] s.heap := hP
  have hl := lv_entry ([.ref a0]) (n := 1) (Nat.le_of_ble_eq_true rfl)
  rw [lg_entry_eq]
  generalize (lg_sl ([.ref a0]) ++ List.replicate (1 - (lg_sl ([.ref a0])).length) Slot.unset).toArray = ls at hl ⊢
  have hl : lv_has ls 1 [(0, .ref a0)] := hl
  refine lv_aload_n hx hb dR_isOver_0 rfl (lv_at hl 0 rfl) ?_
  refine va_get (D := D) (ci := 2) (v := .int 0) (C := "ValueBench$Row") (T := TR) (N := 3) hx hb htx inR hown hK hP 0 rfl rfl 2 (by decide) (htx _ kw_1_86) (fun _ h9 => h9) rfl dR_isOver_1 ?_
  obtain ⟨hP9, hD9⟩ := xsub (wc := [(a0, .inr (2, [v1, v2, .int 0]))]) hP hD [0] rfl rfl (by decide)
  refine W.widen (k := 0) (n := 0) (Nat.le_of_ble_eq_true rfl) (Nat.le_of_ble_eq_true rfl) ?_
  exact W.zret (v := 0) hx hb hr rfl (fun t ht hW => ⟨⟨0, (), rfl, rfl, by rw [ht]; exact hP9, va_K.moved hW.alike hK, hD9⟩, hS.F ht⟩) hS.2.2 dR_isOver_4
set_option maxHeartbeats 400000000 in
set_option maxRecDepth 100000 in
theorem cT_isOver_0 (l : Launch) (hl9 : l.stackTraces = false) (D : va_G) (cT : Nat → ClassId) (aK aV : Nat → Nat) (sz : Nat) (a0 : Nat) (v1 : Value) (v2 : Value) : xMet l yT_isOver wyT_isOver 0 0 0 0 D cT aK aV sz [.ref a0] [(a0, .inr (1, [v1, v2, .int 0]))] (fun A => va_Qi (fun (r : Int32) (_ : Unit) => r = 0) (fun _ t => xB D xcl cT A [(a0, .inr (1, [v1, v2, .int 0]))] t) A) := by
  refine Met.ofW (cc := prog_11_method_5_code) (maxL := 1) (ret := (some .boolean)) (by decide) rfl ?_
  intro p e s m args below meth c s₁ B hml hv
  obtain ⟨rfl, hsz, hZ, hP, hK, hD0⟩ := hv
  have hx := B.exec
  have hb := B.bytes
  have hr := B.returns
  have hts := atoms_spec (ws := wyT_isOver) B.pre
  have htx := fun w h => hts w (List.mem_cons_of_mem _ h)
  have hown : s.vm.findClass "ValueBench$Text" = some m.cls := findClass_of_methodNamed B.named
  have hlocks := B.notSynchronized
  subst hsz
  have hD := hD0.self (sz := s.heap.size)
  generalize hAe : va_A [(a0, .inr (1, [v1, v2, .int 0]))] s.heap.size = A at hD hZ ⊢
  have hA : ∀ q : Nat, s.heap.size ≤ q → A q := fun q h => by rw [← hAe]; exact Or.inr h
  have hS : va_S A s.heap s.heap [] := va_S.rf
  have hP : va_P D xcl [(a0, .inr (1, [v1, v2, .int 0]))] s.heap := hP
  have hl := lv_entry ([.ref a0]) (n := 1) (Nat.le_of_ble_eq_true rfl)
  rw [lg_entry_eq]
  generalize (lg_sl ([.ref a0]) ++ List.replicate (1 - (lg_sl ([.ref a0])).length) Slot.unset).toArray = ls at hl ⊢
  have hl : lv_has ls 1 [(0, .ref a0)] := hl
  refine lv_aload_n hx hb dT_isOver_0 rfl (lv_at hl 0 rfl) ?_
  refine va_get (D := D) (ci := 1) (v := .int 0) (C := "ValueBench$Text") (T := TT) (N := 3) hx hb htx inT hown hK hP 0 rfl rfl 2 (by decide) (htx _ kw_1_45) (fun _ h9 => h9) rfl dT_isOver_1 ?_
  obtain ⟨hP9, hD9⟩ := xsub (wc := [(a0, .inr (1, [v1, v2, .int 0]))]) hP hD [0] rfl rfl (by decide)
  refine W.widen (k := 0) (n := 0) (Nat.le_of_ble_eq_true rfl) (Nat.le_of_ble_eq_true rfl) ?_
  exact W.zret (v := 0) hx hb hr rfl (fun t ht hW => ⟨⟨0, (), rfl, rfl, by rw [ht]; exact hP9, va_K.moved hW.alike hK, hD9⟩, hS.F ht⟩) hS.2.2 dT_isOver_4
set_option maxHeartbeats 400000000 in
set_option maxRecDepth 100000 in
theorem cB_keepSpare_0 (l : Launch) (hl9 : l.stackTraces = false) (D : va_G) (cT : Nat → ClassId) (aK aV : Nat → Nat) (sz : Nat) (a0 : Nat) (a1 : Nat) (a2 : Nat) (a3 : Nat) (a4 : Nat) (a5 : Nat) (x6 : Int32) (v11 : Value) (v12 : Value) (v13 : Value) (v14 : Value) (v15 : Value) (v16 : Value) (v17 : Value) (f18 : Nat → Int64) (f20 : Nat → Int32) (f21 : Nat → Option Nat) (b22 : Nat) (h7 : ¬ x6 < 0) (h8 : ¬ 7 < x6) (h9 : x6 ≤ 7) (h10 : vp_in x6 8) (h19 : f18 0 = 0) (h23 : f21 x6.toNatClampNeg = some b22) : xMet l yB_keepSpare wyB_keepSpare 6 0 0 130 D cT aK aV sz [.ref a0, .int x6] [(a0, .inr (0, [v11, v12, .ref a1, .ref a5, v13, .ref a2, v14, v15])), (a1, .inr (1, [.ref a4, v16, v17])), (a2, .inr (2, [.ref a3, .int 1, .int 0])), (a3, .inl (cT 2, 4096, .inr (.inl f18))), (a4, .inl (cT 0, 4096, .inl f20)), (a5, .inl (cT 3, 8, .inr (.inr (.inr (.inr f21)))))] (fun A => va_Qi (fun (r : Int32) (_ : Unit) => r = 4) (fun _ t => ∃ (y1 : Int32) (y2 : Int32) (y3 : Int32) (y4 : Int32), xB D xcl cT A [(a0, .inr (0, [v11, v12, .ref a1, .ref a5, v13, .ref b22, v14, v15])), (a1, .inr (1, [.ref a4, .int 4, .int 0])), (a2, .inr (2, [.ref a3, .int 1, .int 0])), (a3, .inl (cT 2, 4096, .inr (.inl f18))), (a4, .inl (cT 0, 4096, .inl (upd (upd (upd (upd f20 0 (vp_nar .byte y1)) 1 (vp_nar .byte y2)) 2 (vp_nar .byte y3)) 3 (vp_nar .byte y4)))), (a5, .inl (cT 3, 8, .inr (.inr (.inr (.inr (va_up f21 x6.toNatClampNeg (some a2)))))))] t) A) := by
  refine Met.ofW (cc := prog_1_method_18_code) (maxL := 3) (ret := (some .int)) (by decide) rfl ?_
  intro p e s m args below meth c s₁ B hml hv
  obtain ⟨rfl, hsz, hZ, hP, hK, hD0⟩ := hv
  have hx := B.exec
  have hb := B.bytes
  have hr := B.returns
  have hts := atoms_spec (ws := wyB_keepSpare) B.pre
  have htx := fun w h => hts w (List.mem_cons_of_mem _ h)
  have hown : s.vm.findClass "ValueBench" = some m.cls := findClass_of_methodNamed B.named
  have hlocks := B.notSynchronized
  subst hsz
  have hD := hD0.self (sz := s.heap.size)
  generalize hAe : va_A [(a0, .inr (0, [v11, v12, .ref a1, .ref a5, v13, .ref a2, v14, v15])), (a1, .inr (1, [.ref a4, v16, v17])), (a2, .inr (2, [.ref a3, .int 1, .int 0])), (a3, .inl (cT 2, 4096, .inr (.inl f18))), (a4, .inl (cT 0, 4096, .inl f20)), (a5, .inl (cT 3, 8, .inr (.inr (.inr (.inr f21)))))] s.heap.size = A at hD hZ ⊢
  have hA : ∀ q : Nat, s.heap.size ≤ q → A q := fun q h => by rw [← hAe]; exact Or.inr h
  have hS : va_S A s.heap s.heap [] := va_S.rf
  have hP : va_P D xcl [(a0, .inr (0, [v11, v12, .ref a1, .ref a5, v13, .ref a2, v14, v15])), (a1, .inr (1, [.ref a4, v16, v17])), (a2, .inr (2, [.ref a3, .int 1, .int 0])), (a3, .inl (cT 2, 4096, .inr (.inl f18))), (a4, .inl (cT 0, 4096, .inl f20)), (a5, .inl (cT 3, 8, .inr (.inr (.inr (.inr f21)))))] s.heap := hP
  have hl := lv_entry ([.ref a0, .int x6]) (n := 3) (Nat.le_of_ble_eq_true rfl)
  rw [lg_entry_eq]
  generalize (lg_sl ([.ref a0, .int x6]) ++ List.replicate (3 - (lg_sl ([.ref a0, .int x6])).length) Slot.unset).toArray = ls at hl ⊢
  have hl : lv_has ls 3 [(0, .ref a0), (1, .int x6)] := hl
  refine lv_aload_n hx hb dB_keepSpare_0 rfl (lv_at hl 0 rfl) ?_
  refine va_get (D := D) (ci := 0) (v := .ref a1) (C := "ValueBench") (T := TB) (N := 8) hx hb htx inB hown hK hP 0 rfl rfl 2 (by decide) (htx _ kw_1_97) (fun _ h9 => h9) rfl dB_keepSpare_1 ?_
  obtain ⟨hPc, hDc, hFc⟩ := xcut (wc := [(a1, .inr (1, [.ref a4, v16, v17]))]) hP hD hS hA [1] rfl rfl (by decide)
  refine va_callv (va_runV (C := "ValueBench$Text") (As := []) (rest := []) ⟨hx, hb, hml, hown, htx⟩ (cT_clear_0 l hl9 D cT aK aV s.heap.size a1 (.ref a4) v16 v17) ⟨callB_of 0 htx (xw_goodC kw_2_237) rfl rfl rfl (htx _ kw_1_2) (htx _ kw_2_234) ⟨by decide, by decide, by decide +kernel⟩ ⟨Nat.le_of_ble_eq_true rfl, Nat.le_of_ble_eq_true rfl⟩, (htx _ kw_2_235), (htx _ kw_2_236)⟩ ⟨xPre_blind, va_recv hK hP (ci := 1) rfl (q0 := 1) rfl, (fun U hU hW => ⟨rfl, xPre_of hZ hS hFc hPc hDc hK U hU hW⟩)⟩ rfl rfl hl.1 rfl (lv_room (Nat.le_of_ble_eq_true rfl)) dB_keepSpare_4 ⟨Nat.le_of_ble_eq_true rfl, Nat.le_of_ble_eq_true rfl⟩) hS (fun q _ h => hFc q h) hFc (fun u9 t H1 locs ht hvm hr9 hB hz1 hk1 hS => ?_)
  obtain ⟨hP1, hK1, hD1⟩ := hB
  rw [ht] at hP1
  obtain ⟨hP, hD⟩ := xjoin (W := [(a0, .inr (0, [v11, v12, .ref a1, .ref a5, v13, .ref a2, v14, v15])), (a2, .inr (2, [.ref a3, .int 1, .int 0])), (a3, .inl (cT 2, 4096, .inr (.inl f18))), (a4, .inl (cT 0, 4096, .inl f20)), (a5, .inl (cT 3, 8, .inr (.inr (.inr (.inr f21))))), (a1, .inr (1, [.ref a4, .int 0, .int 0]))]) hP hD [1] [0, 2, 3, 4, 5] 5 rfl rfl (by decide) (by decide) hk1 hFc hP1 hD1
  generalize H1 = H at hP hS ⊢
  refine lv_aload_n hx hb dB_keepSpare_7 rfl (lv_at hl 0 rfl) ?_
  refine va_get (D := D) (ci := 0) (v := .ref a2) (C := "ValueBench") (T := TB) (N := 8) hx hb htx inB hown hK hP 0 rfl rfl 5 (by decide) (htx _ kw_1_100) (fun _ h9 => h9) rfl dB_keepSpare_8 ?_
  refine lv_iconst (v := 0) hx hb dB_keepSpare_11 (by decide) ?_
  refine lv_aload_n hx hb dB_keepSpare_12 rfl (lv_at hl 0 rfl) ?_
  refine va_get (D := D) (ci := 0) (v := .ref a1) (C := "ValueBench") (T := TB) (N := 8) hx hb htx inB hown hK hP 0 rfl rfl 2 (by decide) (htx _ kw_1_97) (fun _ h9 => h9) rfl dB_keepSpare_13 ?_
  refine lv_iconst (v := 0) hx hb dB_keepSpare_16 (by decide) ?_
  obtain ⟨hPc, hDc, hFc⟩ := xcut (wc := [(a2, .inr (2, [.ref a3, .int 1, .int 0])), (a3, .inl (cT 2, 4096, .inr (.inl f18))), (a1, .inr (1, [.ref a4, .int 0, .int 0])), (a4, .inl (cT 0, 4096, .inl f20))]) hP hD hS hA [1, 2, 5, 3] rfl rfl (by decide)
  refine va_callv (va_runS (As := [.ref a2, .int 0, .ref a1, .int 0]) (rest := []) ⟨hx, hb, hml, hown, htx⟩ (cP_write_1 l hl9 D cT aK aV H.size a2 a3 a1 a4 0 (.int 0) f18 (.int 0) f20 (by first | rfl | exact h19 | exact h23)) ⟨callB_of 4 htx (xw_goodC kw_3_20) rfl rfl rfl (htx _ kw_1_18) (htx _ kw_3_18) ⟨by decide, by decide, by decide +kernel⟩ ⟨Nat.le_of_ble_eq_true rfl, Nat.le_of_ble_eq_true rfl⟩, htx _ kw_3_19⟩ ⟨xPre_blind, (fun U hU hW => ⟨rfl, xPre_of hZ hS hFc hPc hDc hK U hU hW⟩)⟩ rfl rfl hl.1 rfl (lv_room (Nat.le_of_ble_eq_true rfl)) dB_keepSpare_17 ⟨Nat.le_of_ble_eq_true rfl, Nat.le_of_ble_eq_true rfl⟩) hS (fun q _ h => hFc q h) hFc (fun u9 t H1 locs ht hvm hr9 hB hz1 hk1 hS => ?_)
  obtain ⟨y1, y2, y3, y4, hP1, hK1, hD1⟩ := hB
  rw [ht] at hP1
  obtain ⟨hP, hD⟩ := xjoin (W := [(a0, .inr (0, [v11, v12, .ref a1, .ref a5, v13, .ref a2, v14, v15])), (a5, .inl (cT 3, 8, .inr (.inr (.inr (.inr f21))))), (a2, .inr (2, [.ref a3, .int 1, .int 0])), (a3, .inl (cT 2, 4096, .inr (.inl f18))), (a1, .inr (1, [.ref a4, .int 4, .int 0])), (a4, .inl (cT 0, 4096, .inl (upd (upd (upd (upd f20 0 (vp_nar .byte y1)) 1 (vp_nar .byte y2)) 2 (vp_nar .byte y3)) 3 (vp_nar .byte y4))))]) hP hD [1, 2, 5, 3] [0, 4] 2 rfl rfl (by decide) (by decide) hk1 hFc hP1 hD1
  generalize H1 = H at hP hS ⊢
  refine lv_aload_n hx hb dB_keepSpare_20 rfl (lv_at hl 0 rfl) ?_
  refine va_get (D := D) (ci := 0) (v := .ref a2) (C := "ValueBench") (T := TB) (N := 8) hx hb htx inB hown hK hP 0 rfl rfl 5 (by decide) (htx _ kw_1_100) (fun _ h9 => h9) rfl dB_keepSpare_21 ?_
  obtain ⟨hPc, hDc, hFc⟩ := xcut (wc := [(a2, .inr (2, [.ref a3, .int 1, .int 0]))]) hP hD hS hA [2] rfl rfl (by decide)
  refine va_calli (va_runV (C := "ValueBench$Row") (As := []) (rest := []) ⟨hx, hb, hml, hown, htx⟩ (cR_isOver_0 l hl9 D cT aK aV H.size a2 (.ref a3) (.int 1)) ⟨callB_of 0 htx (xw_goodC kw_3_82) rfl rfl rfl (htx _ kw_1_4) (htx _ kw_3_79) ⟨by decide, by decide, by decide +kernel⟩ ⟨Nat.le_of_ble_eq_true rfl, Nat.le_of_ble_eq_true rfl⟩, (htx _ kw_3_80), (htx _ kw_3_81)⟩ ⟨xPre_blind, va_recv hK hP (ci := 2) rfl (q0 := 2) rfl, (fun U hU hW => ⟨rfl, xPre_of hZ hS hFc hPc hDc hK U hU hW⟩)⟩ rfl rfl hl.1 rfl (lv_room (Nat.le_of_ble_eq_true rfl)) dB_keepSpare_24 ⟨Nat.le_of_ble_eq_true rfl, Nat.le_of_ble_eq_true rfl⟩) hS (fun q _ h => hFc q h) hFc (fun r5 u9 t H1 locs ht hvm hr9 hB hz1 hk1 hS => ?_)
  obtain ⟨hP1, hK1, hD1⟩ := hB
  rw [ht] at hP1
  obtain ⟨hP, hD⟩ := xjoin (W := [(a0, .inr (0, [v11, v12, .ref a1, .ref a5, v13, .ref a2, v14, v15])), (a5, .inl (cT 3, 8, .inr (.inr (.inr (.inr f21))))), (a3, .inl (cT 2, 4096, .inr (.inl f18))), (a1, .inr (1, [.ref a4, .int 4, .int 0])), (a4, .inl (cT 0, 4096, .inl (upd (upd (upd (upd f20 0 (vp_nar .byte y1)) 1 (vp_nar .byte y2)) 2 (vp_nar .byte y3)) 3 (vp_nar .byte y4)))), (a2, .inr (2, [.ref a3, .int 1, .int 0]))]) hP hD [2] [0, 1, 3, 4, 5] 5 rfl rfl (by decide) (by decide) hk1 hFc hP1 hD1
  generalize H1 = H at hP hS ⊢
  rw [hr9]
  refine W.eq (g2 := F0 m 27 ls [.int 0]) rfl ?_
  refine lv_if_ne (tgt := 40) hx hb dB_keepSpare_27 (by decide) (fun h => ((by revert h; decide : False)).elim) (fun _ => ?_)
  refine lv_aload_n hx hb dB_keepSpare_30 rfl (lv_at hl 0 rfl) ?_
  refine va_get (D := D) (ci := 0) (v := .ref a1) (C := "ValueBench") (T := TB) (N := 8) hx hb htx inB hown hK hP 0 rfl rfl 2 (by decide) (htx _ kw_1_97) (fun _ h9 => h9) rfl dB_keepSpare_31 ?_
  obtain ⟨hPc, hDc, hFc⟩ := xcut (wc := [(a1, .inr (1, [.ref a4, .int 4, .int 0]))]) hP hD hS hA [3] rfl rfl (by decide)
  refine va_calli (va_runV (C := "ValueBench$Text") (As := []) (rest := []) ⟨hx, hb, hml, hown, htx⟩ (cT_isOver_0 l hl9 D cT aK aV H.size a1 (.ref a4) (.int 4)) ⟨callB_of 0 htx (xw_goodC kw_3_86) rfl rfl rfl (htx _ kw_1_2) (htx _ kw_3_83) ⟨by decide, by decide, by decide +kernel⟩ ⟨Nat.le_of_ble_eq_true rfl, Nat.le_of_ble_eq_true rfl⟩, (htx _ kw_3_84), (htx _ kw_3_85)⟩ ⟨xPre_blind, va_recv hK hP (ci := 1) rfl (q0 := 3) rfl, (fun U hU hW => ⟨rfl, xPre_of hZ hS hFc hPc hDc hK U hU hW⟩)⟩ rfl rfl hl.1 rfl (lv_room (Nat.le_of_ble_eq_true rfl)) dB_keepSpare_34 ⟨Nat.le_of_ble_eq_true rfl, Nat.le_of_ble_eq_true rfl⟩) hS (fun q _ h => hFc q h) hFc (fun r6 u9 t H1 locs ht hvm hr9 hB hz1 hk1 hS => ?_)
  obtain ⟨hP1, hK1, hD1⟩ := hB
  rw [ht] at hP1
  obtain ⟨hP, hD⟩ := xjoin (W := [(a0, .inr (0, [v11, v12, .ref a1, .ref a5, v13, .ref a2, v14, v15])), (a5, .inl (cT 3, 8, .inr (.inr (.inr (.inr f21))))), (a3, .inl (cT 2, 4096, .inr (.inl f18))), (a4, .inl (cT 0, 4096, .inl (upd (upd (upd (upd f20 0 (vp_nar .byte y1)) 1 (vp_nar .byte y2)) 2 (vp_nar .byte y3)) 3 (vp_nar .byte y4)))), (a2, .inr (2, [.ref a3, .int 1, .int 0])), (a1, .inr (1, [.ref a4, .int 4, .int 0]))]) hP hD [3] [0, 1, 2, 4, 5] 5 rfl rfl (by decide) (by decide) hk1 hFc hP1 hD1
  generalize H1 = H at hP hS ⊢
  rw [hr9]
  refine W.eq (g2 := F0 m 37 ls [.int 0]) rfl ?_
  refine lv_if_eq (tgt := 50) hx hb dB_keepSpare_37 (by decide) (fun _ => ?_) (fun h => ((by revert h; decide : False)).elim)
  refine lv_aload_n hx hb dB_keepSpare_50 rfl (lv_at hl 0 rfl) ?_
  refine va_get (D := D) (ci := 0) (v := .ref a5) (C := "ValueBench") (T := TB) (N := 8) hx hb htx inB hown hK hP 0 rfl rfl 3 (by decide) (htx _ kw_1_98) (fun _ h9 => h9) rfl dB_keepSpare_51 ?_
  refine lv_iload_n hx hb dB_keepSpare_54 rfl (lv_at hl 1 rfl) ?_
  refine va_aldq hx hb hK hP 1 3 rfl rfl h10 dB_keepSpare_55 ?_
  refine W.eq (g2 := F0 m 56 ls [va_rf (f21 x6.toNatClampNeg)]) rfl ?_
  rw [h23]
  refine W.eq (g2 := F0 m 56 ls [.ref b22]) rfl ?_
  refine lv_astore_n (lv' := [(2, .ref b22), (0, .ref a0), (1, .int x6)]) hx hb dB_keepSpare_56 rfl hl (by decide) rfl (fun ls hl => ?_)
  refine lv_aload_n hx hb dB_keepSpare_57 rfl (lv_at hl 1 rfl) ?_
  refine va_get (D := D) (ci := 0) (v := .ref a5) (C := "ValueBench") (T := TB) (N := 8) hx hb htx inB hown hK hP 0 rfl rfl 3 (by decide) (htx _ kw_1_98) (fun _ h9 => h9) rfl dB_keepSpare_58 ?_
  refine lv_iload_n hx hb dB_keepSpare_61 rfl (lv_at hl 2 rfl) ?_
  refine lv_aload_n hx hb dB_keepSpare_62 rfl (lv_at hl 1 rfl) ?_
  refine va_get (D := D) (ci := 0) (v := .ref a2) (C := "ValueBench") (T := TB) (N := 8) hx hb htx inB hown hK hP 0 rfl rfl 5 (by decide) (htx _ kw_1_100) (fun _ h9 => h9) rfl dB_keepSpare_63 ?_
  refine va_astq (r := ("ValueBench$Row", TR, 3)) hx hb hK hP hD hS 1 3 4 2 rfl rfl rfl rfl h10 dB_keepSpare_66 (fun H locs hP hD hS => ?_)
  obtain ⟨hP, hD⟩ : xPD D xcl A [(a0, .inr (0, [v11, v12, .ref a1, .ref a5, v13, .ref a2, v14, v15])), (a5, .inl (cT 3, 8, .inr (.inr (.inr (.inr (va_up f21 x6.toNatClampNeg (some a2))))))), (a3, .inl (cT 2, 4096, .inr (.inl f18))), (a4, .inl (cT 0, 4096, .inl (upd (upd (upd (upd f20 0 (vp_nar .byte y1)) 1 (vp_nar .byte y2)) 2 (vp_nar .byte y3)) 3 (vp_nar .byte y4)))), (a2, .inr (2, [.ref a3, .int 1, .int 0])), (a1, .inr (1, [.ref a4, .int 4, .int 0]))] H := ⟨hP, hD⟩
  refine lv_aload_n hx hb dB_keepSpare_67 rfl (lv_at hl 1 rfl) ?_
  refine lv_aload_n hx hb dB_keepSpare_68 rfl (lv_at hl 0 rfl) ?_
  refine va_put (D := D) (ci := 0) (v := .ref b22) (ty := (.object "ValueBench$Row")) (C := "ValueBench") (T := TB) (N := 8) hx hb htx inB tyB tyB_ok nmB hown hK hP hD hS 0 rfl rfl 5 (by decide) (htx _ kw_1_100) (fun _ h9 => h9) rfl (by decide +kernel) rfl rfl (Nat.le_of_ble_eq_true rfl) dB_keepSpare_69 (fun H locs hP hD hS => ?_)
  obtain ⟨hP, hD⟩ : xPD D xcl A [(a0, .inr (0, [v11, v12, .ref a1, .ref a5, v13, .ref b22, v14, v15])), (a5, .inl (cT 3, 8, .inr (.inr (.inr (.inr (va_up f21 x6.toNatClampNeg (some a2))))))), (a3, .inl (cT 2, 4096, .inr (.inl f18))), (a4, .inl (cT 0, 4096, .inl (upd (upd (upd (upd f20 0 (vp_nar .byte y1)) 1 (vp_nar .byte y2)) 2 (vp_nar .byte y3)) 3 (vp_nar .byte y4)))), (a2, .inr (2, [.ref a3, .int 1, .int 0])), (a1, .inr (1, [.ref a4, .int 4, .int 0]))] H := ⟨hP, hD⟩
  refine lv_aload_n hx hb dB_keepSpare_72 rfl (lv_at hl 1 rfl) ?_
  refine va_get (D := D) (ci := 0) (v := .ref a1) (C := "ValueBench") (T := TB) (N := 8) hx hb htx inB hown hK hP 0 rfl rfl 2 (by decide) (htx _ kw_1_97) (fun _ h9 => h9) rfl dB_keepSpare_73 ?_
  obtain ⟨hPc, hDc, hFc⟩ := xcut (wc := [(a1, .inr (1, [.ref a4, .int 4, .int 0]))]) hP hD hS hA [5] rfl rfl (by decide)
  refine va_calli (va_runV (C := "ValueBench$Text") (As := []) (rest := []) ⟨hx, hb, hml, hown, htx⟩ (cT_size_2 l hl9 D cT aK aV H.size a1 (.ref a4) 4 (.int 0)) ⟨callB_of 0 htx (xw_goodC kw_1_131) rfl rfl rfl (htx _ kw_1_2) (htx _ kw_1_128) ⟨by decide, by decide, by decide +kernel⟩ ⟨Nat.le_of_ble_eq_true rfl, Nat.le_of_ble_eq_true rfl⟩, (htx _ kw_1_129), (htx _ kw_1_130)⟩ ⟨xPre_blind, va_recv hK hP (ci := 1) rfl (q0 := 5) rfl, (fun U hU hW => ⟨rfl, xPre_of hZ hS hFc hPc hDc hK U hU hW⟩)⟩ rfl rfl hl.1 rfl (lv_room (Nat.le_of_ble_eq_true rfl)) dB_keepSpare_76 ⟨Nat.le_of_ble_eq_true rfl, Nat.le_of_ble_eq_true rfl⟩) hS (fun q _ h => hFc q h) hFc (fun r7 u9 t H1 locs ht hvm hr9 hB hz1 hk1 hS => ?_)
  obtain ⟨hP1, hK1, hD1⟩ := hB
  rw [ht] at hP1
  obtain ⟨hP, hD⟩ := xjoin (W := [(a0, .inr (0, [v11, v12, .ref a1, .ref a5, v13, .ref b22, v14, v15])), (a5, .inl (cT 3, 8, .inr (.inr (.inr (.inr (va_up f21 x6.toNatClampNeg (some a2))))))), (a3, .inl (cT 2, 4096, .inr (.inl f18))), (a4, .inl (cT 0, 4096, .inl (upd (upd (upd (upd f20 0 (vp_nar .byte y1)) 1 (vp_nar .byte y2)) 2 (vp_nar .byte y3)) 3 (vp_nar .byte y4)))), (a2, .inr (2, [.ref a3, .int 1, .int 0])), (a1, .inr (1, [.ref a4, .int 4, .int 0]))]) hP hD [5] [0, 1, 2, 3, 4] 5 rfl rfl (by decide) (by decide) hk1 hFc hP1 hD1
  generalize H1 = H at hP hS ⊢
  rw [hr9]
  refine W.eq (g2 := F0 m 79 ls [.int 4]) rfl ?_
  obtain ⟨hP9, hD9⟩ := xsub (wc := [(a0, .inr (0, [v11, v12, .ref a1, .ref a5, v13, .ref b22, v14, v15])), (a1, .inr (1, [.ref a4, .int 4, .int 0])), (a2, .inr (2, [.ref a3, .int 1, .int 0])), (a3, .inl (cT 2, 4096, .inr (.inl f18))), (a4, .inl (cT 0, 4096, .inl (upd (upd (upd (upd f20 0 (vp_nar .byte y1)) 1 (vp_nar .byte y2)) 2 (vp_nar .byte y3)) 3 (vp_nar .byte y4)))), (a5, .inl (cT 3, 8, .inr (.inr (.inr (.inr (va_up f21 x6.toNatClampNeg (some a2)))))))]) hP hD [0, 5, 4, 2, 3, 1] rfl rfl (by decide)
  refine W.widen (k := 0) (n := 0) (Nat.le_of_ble_eq_true rfl) (Nat.le_of_ble_eq_true rfl) ?_
  exact W.iret (v := 4) hx hb hr (fun t ht hW => ⟨⟨4, (), rfl, rfl, y1, y2, y3, y4, by rw [ht]; exact hP9, va_K.moved hW.alike hK, hD9⟩, hS.F ht⟩) hS.2.2 dB_keepSpare_79
set_option maxHeartbeats 400000000 in
set_option maxRecDepth 100000 in
theorem cB_binary_8 (l : Launch) (hl9 : l.stackTraces = false) (D : va_G) (cT : Nat → ClassId) (aK aV : Nat → Nat) (sz : Nat) (a0 : Nat) (a1 : Nat) (a2 : Nat) (a3 : Nat) (a4 : Nat) (a5 : Nat) (a6 : Nat) (a7 : Nat) (x8 : Int32) (x13 : Int32) (x18 : Int32) (v23 : Value) (v24 : Value) (v25 : Value) (v26 : Value) (v27 : Value) (v28 : Value) (v29 : Value) (f30 : Nat → Option Nat) (b33 : Nat) (v35 : Value) (f36 : Nat → Int64) (f38 : Nat → Int64) (v39 : Value) (v40 : Value) (f41 : Nat → Int32) (h9 : ¬ x8 < 0) (h10 : ¬ 7 < x8) (h11 : x8 ≤ 7) (h12 : vp_in x8 8) (h14 : ¬ x13 < 0) (h15 : ¬ 7 < x13) (h16 : x13 ≤ 7) (h17 : vp_in x13 8) (h19 : ¬ x18 < 0) (h20 : ¬ 7 < x18) (h21 : x18 ≤ 7) (h22 : vp_in x18 8) (h31 : f30 x13.toNatClampNeg = some a3) (h32 : f30 x18.toNatClampNeg = some a3) (h34 : f30 x8.toNatClampNeg = some b33) (h37 : f36 0 = 0) : xMet l yB_binary wyB_binary 7 0 0 152 D cT aK aV sz [.ref a0, .int x8, .int 0, .int x13, .int x18] [(a0, .inr (0, [v23, v24, .ref a6, .ref a2, v25, .ref a1, v26, v27])), (a1, .inr (2, [.ref a5, v28, v29])), (a2, .inl (cT 3, 8, .inr (.inr (.inr (.inr f30))))), (a3, .inr (2, [.ref a4, .int 1, v35])), (a4, .inl (cT 2, 4096, .inr (.inl f36))), (a5, .inl (cT 2, 4096, .inr (.inl f38))), (a6, .inr (1, [.ref a7, v39, v40])), (a7, .inl (cT 0, 4096, .inl f41))] (fun A => va_Qv (fun _ : Unit => True) (fun _ t => ∃ (y7 : Int32) (y8 : Int32) (y9 : Int32) (y10 : Int32), xB D xcl cT A [(a0, .inr (0, [v23, v24, .ref a6, .ref a2, v25, .ref b33, v26, v27])), (a1, .inr (2, [.ref a5, .int 1, .int 0])), (a2, .inl (cT 3, 8, .inr (.inr (.inr (.inr (va_up f30 x8.toNatClampNeg (some a1))))))), (a3, .inr (2, [.ref a4, .int 1, v35])), (a4, .inl (cT 2, 4096, .inr (.inl f36))), (a5, .inl (cT 2, 4096, .inr (.inl (vp_updL f38 0 0)))), (a6, .inr (1, [.ref a7, .int 4, .int 0])), (a7, .inl (cT 0, 4096, .inl (upd (upd (upd (upd f41 0 (vp_nar .byte y7)) 1 (vp_nar .byte y8)) 2 (vp_nar .byte y9)) 3 (vp_nar .byte y10))))] t) A) := by
  refine Met.ofW (cc := prog_1_method_6_code) (maxL := 5) (ret := none) (by decide) rfl ?_
  intro p e s m args below meth c s₁ B hml hv
  obtain ⟨rfl, hsz, hZ, hP, hK, hD0⟩ := hv
  have hx := B.exec
  have hb := B.bytes
  have hr := B.returns
  have hts := atoms_spec (ws := wyB_binary) B.pre
  have htx := fun w h => hts w (List.mem_cons_of_mem _ h)
  have hown : s.vm.findClass "ValueBench" = some m.cls := findClass_of_methodNamed B.named
  have hlocks := B.notSynchronized
  subst hsz
  have hD := hD0.self (sz := s.heap.size)
  generalize hAe : va_A [(a0, .inr (0, [v23, v24, .ref a6, .ref a2, v25, .ref a1, v26, v27])), (a1, .inr (2, [.ref a5, v28, v29])), (a2, .inl (cT 3, 8, .inr (.inr (.inr (.inr f30))))), (a3, .inr (2, [.ref a4, .int 1, v35])), (a4, .inl (cT 2, 4096, .inr (.inl f36))), (a5, .inl (cT 2, 4096, .inr (.inl f38))), (a6, .inr (1, [.ref a7, v39, v40])), (a7, .inl (cT 0, 4096, .inl f41))] s.heap.size = A at hD hZ ⊢
  have hA : ∀ q : Nat, s.heap.size ≤ q → A q := fun q h => by rw [← hAe]; exact Or.inr h
  have hS : va_S A s.heap s.heap [] := va_S.rf
  have hP : va_P D xcl [(a0, .inr (0, [v23, v24, .ref a6, .ref a2, v25, .ref a1, v26, v27])), (a1, .inr (2, [.ref a5, v28, v29])), (a2, .inl (cT 3, 8, .inr (.inr (.inr (.inr f30))))), (a3, .inr (2, [.ref a4, .int 1, v35])), (a4, .inl (cT 2, 4096, .inr (.inl f36))), (a5, .inl (cT 2, 4096, .inr (.inl f38))), (a6, .inr (1, [.ref a7, v39, v40])), (a7, .inl (cT 0, 4096, .inl f41))] s.heap := hP
  have hl := lv_entry ([.ref a0, .int x8, .int 0, .int x13, .int x18]) (n := 5) (Nat.le_of_ble_eq_true rfl)
  rw [lg_entry_eq]
  generalize (lg_sl ([.ref a0, .int x8, .int 0, .int x13, .int x18]) ++ List.replicate (5 - (lg_sl ([.ref a0, .int x8, .int 0, .int x13, .int x18])).length) Slot.unset).toArray = ls at hl ⊢
  have hl : lv_has ls 5 [(0, .ref a0), (1, .int x8), (2, .int 0), (3, .int x13), (4, .int x18)] := hl
  refine lv_iload_n hx hb dB_binary_0 rfl (lv_at hl 1 rfl) ?_
  obtain ⟨hPc, hDc, hFc⟩ := xcut (wc := []) hP hD hS hA [] rfl rfl (by decide)
  refine va_calli (va_runS (As := [.int x8]) (rest := []) ⟨hx, hb, hml, hown, htx⟩ (cB_isRegister_2 l hl9 D cT aK aV s.heap.size x8 h9 h10 h11 h12) ⟨callB_of 1 htx (xw_goodC kw_2_18) rfl rfl rfl (htx _ kw_1_1) (htx _ kw_2_16) ⟨by decide, by decide, by decide +kernel⟩ ⟨Nat.le_of_ble_eq_true rfl, Nat.le_of_ble_eq_true rfl⟩, htx _ kw_2_17⟩ ⟨xPre_blind, (fun U hU hW => ⟨rfl, xPre_of hZ hS hFc hPc hDc hK U hU hW⟩)⟩ rfl rfl hl.1 rfl (lv_room (Nat.le_of_ble_eq_true rfl)) dB_binary_1 ⟨Nat.le_of_ble_eq_true rfl, Nat.le_of_ble_eq_true rfl⟩) hS (fun q _ h => hFc q h) hFc (fun r1 u9 t H1 locs ht hvm hr9 hB hz1 hk1 hS => ?_)
  obtain ⟨hP1, hK1, hD1⟩ := hB
  rw [ht] at hP1
  obtain ⟨hP, hD⟩ := xjoin (W := [(a0, .inr (0, [v23, v24, .ref a6, .ref a2, v25, .ref a1, v26, v27])), (a1, .inr (2, [.ref a5, v28, v29])), (a2, .inl (cT 3, 8, .inr (.inr (.inr (.inr f30))))), (a3, .inr (2, [.ref a4, .int 1, v35])), (a4, .inl (cT 2, 4096, .inr (.inl f36))), (a5, .inl (cT 2, 4096, .inr (.inl f38))), (a6, .inr (1, [.ref a7, v39, v40])), (a7, .inl (cT 0, 4096, .inl f41))]) hP hD [] [0, 1, 2, 3, 4, 5, 6, 7] 8 rfl rfl (by decide) (by decide) hk1 hFc hP1 hD1
  generalize H1 = H at hP hS ⊢
  rw [hr9]
  refine W.eq (g2 := F0 m 4 ls [.int 1]) rfl ?_
  refine lv_if_eq (tgt := 34) hx hb dB_binary_4 (by decide) (fun h => ((by revert h; decide : False)).elim) (fun _ => ?_)
  refine lv_iload_n hx hb dB_binary_7 rfl (lv_at hl 2 rfl) ?_
  refine lv_iconst (v := 4) hx hb dB_binary_8 (by decide) ?_
  obtain ⟨hPc, hDc, hFc⟩ := xcut (wc := []) hP hD hS hA [] rfl rfl (by decide)
  refine va_calli (va_runS (As := [.int 0, .int 4]) (rest := []) ⟨hx, hb, hml, hown, htx⟩ (cB_isWithin_7 l hl9 D cT aK aV H.size) ⟨callB_of 2 htx (xw_goodC kw_1_218) rfl rfl rfl (htx _ kw_1_1) (htx _ kw_1_216) ⟨by decide, by decide, by decide +kernel⟩ ⟨Nat.le_of_ble_eq_true rfl, Nat.le_of_ble_eq_true rfl⟩, htx _ kw_1_217⟩ ⟨xPre_blind, (fun U hU hW => ⟨rfl, xPre_of hZ hS hFc hPc hDc hK U hU hW⟩)⟩ rfl rfl hl.1 rfl (lv_room (Nat.le_of_ble_eq_true rfl)) dB_binary_9 ⟨Nat.le_of_ble_eq_true rfl, Nat.le_of_ble_eq_true rfl⟩) hS (fun q _ h => hFc q h) hFc (fun r2 u9 t H1 locs ht hvm hr9 hB hz1 hk1 hS => ?_)
  obtain ⟨hP1, hK1, hD1⟩ := hB
  rw [ht] at hP1
  obtain ⟨hP, hD⟩ := xjoin (W := [(a0, .inr (0, [v23, v24, .ref a6, .ref a2, v25, .ref a1, v26, v27])), (a1, .inr (2, [.ref a5, v28, v29])), (a2, .inl (cT 3, 8, .inr (.inr (.inr (.inr f30))))), (a3, .inr (2, [.ref a4, .int 1, v35])), (a4, .inl (cT 2, 4096, .inr (.inl f36))), (a5, .inl (cT 2, 4096, .inr (.inl f38))), (a6, .inr (1, [.ref a7, v39, v40])), (a7, .inl (cT 0, 4096, .inl f41))]) hP hD [] [0, 1, 2, 3, 4, 5, 6, 7] 8 rfl rfl (by decide) (by decide) hk1 hFc hP1 hD1
  generalize H1 = H at hP hS ⊢
  rw [hr9]
  refine W.eq (g2 := F0 m 12 ls [.int 1]) rfl ?_
  refine lv_if_eq (tgt := 34) hx hb dB_binary_12 (by decide) (fun h => ((by revert h; decide : False)).elim) (fun _ => ?_)
  refine lv_iload_n hx hb dB_binary_15 rfl (lv_at hl 3 rfl) ?_
  obtain ⟨hPc, hDc, hFc⟩ := xcut (wc := []) hP hD hS hA [] rfl rfl (by decide)
  refine va_calli (va_runS (As := [.int x13]) (rest := []) ⟨hx, hb, hml, hown, htx⟩ (cB_isRegister_2 l hl9 D cT aK aV H.size x13 h14 h15 h16 h17) ⟨callB_of 1 htx (xw_goodC kw_2_18) rfl rfl rfl (htx _ kw_1_1) (htx _ kw_2_16) ⟨by decide, by decide, by decide +kernel⟩ ⟨Nat.le_of_ble_eq_true rfl, Nat.le_of_ble_eq_true rfl⟩, htx _ kw_2_17⟩ ⟨xPre_blind, (fun U hU hW => ⟨rfl, xPre_of hZ hS hFc hPc hDc hK U hU hW⟩)⟩ rfl rfl hl.1 rfl (lv_room (Nat.le_of_ble_eq_true rfl)) dB_binary_16 ⟨Nat.le_of_ble_eq_true rfl, Nat.le_of_ble_eq_true rfl⟩) hS (fun q _ h => hFc q h) hFc (fun r3 u9 t H1 locs ht hvm hr9 hB hz1 hk1 hS => ?_)
  obtain ⟨hP1, hK1, hD1⟩ := hB
  rw [ht] at hP1
  obtain ⟨hP, hD⟩ := xjoin (W := [(a0, .inr (0, [v23, v24, .ref a6, .ref a2, v25, .ref a1, v26, v27])), (a1, .inr (2, [.ref a5, v28, v29])), (a2, .inl (cT 3, 8, .inr (.inr (.inr (.inr f30))))), (a3, .inr (2, [.ref a4, .int 1, v35])), (a4, .inl (cT 2, 4096, .inr (.inl f36))), (a5, .inl (cT 2, 4096, .inr (.inl f38))), (a6, .inr (1, [.ref a7, v39, v40])), (a7, .inl (cT 0, 4096, .inl f41))]) hP hD [] [0, 1, 2, 3, 4, 5, 6, 7] 8 rfl rfl (by decide) (by decide) hk1 hFc hP1 hD1
  generalize H1 = H at hP hS ⊢
  rw [hr9]
  refine W.eq (g2 := F0 m 19 ls [.int 1]) rfl ?_
  refine lv_if_eq (tgt := 34) hx hb dB_binary_19 (by decide) (fun h => ((by revert h; decide : False)).elim) (fun _ => ?_)
  refine lv_iload hx hb dB_binary_22 (lv_at hl 4 rfl) ?_
  obtain ⟨hPc, hDc, hFc⟩ := xcut (wc := []) hP hD hS hA [] rfl rfl (by decide)
  refine va_calli (va_runS (As := [.int x18]) (rest := []) ⟨hx, hb, hml, hown, htx⟩ (cB_isRegister_2 l hl9 D cT aK aV H.size x18 h19 h20 h21 h22) ⟨callB_of 1 htx (xw_goodC kw_2_18) rfl rfl rfl (htx _ kw_1_1) (htx _ kw_2_16) ⟨by decide, by decide, by decide +kernel⟩ ⟨Nat.le_of_ble_eq_true rfl, Nat.le_of_ble_eq_true rfl⟩, htx _ kw_2_17⟩ ⟨xPre_blind, (fun U hU hW => ⟨rfl, xPre_of hZ hS hFc hPc hDc hK U hU hW⟩)⟩ rfl rfl hl.1 rfl (lv_room (Nat.le_of_ble_eq_true rfl)) dB_binary_24 ⟨Nat.le_of_ble_eq_true rfl, Nat.le_of_ble_eq_true rfl⟩) hS (fun q _ h => hFc q h) hFc (fun r4 u9 t H1 locs ht hvm hr9 hB hz1 hk1 hS => ?_)
  obtain ⟨hP1, hK1, hD1⟩ := hB
  rw [ht] at hP1
  obtain ⟨hP, hD⟩ := xjoin (W := [(a0, .inr (0, [v23, v24, .ref a6, .ref a2, v25, .ref a1, v26, v27])), (a1, .inr (2, [.ref a5, v28, v29])), (a2, .inl (cT 3, 8, .inr (.inr (.inr (.inr f30))))), (a3, .inr (2, [.ref a4, .int 1, v35])), (a4, .inl (cT 2, 4096, .inr (.inl f36))), (a5, .inl (cT 2, 4096, .inr (.inl f38))), (a6, .inr (1, [.ref a7, v39, v40])), (a7, .inl (cT 0, 4096, .inl f41))]) hP hD [] [0, 1, 2, 3, 4, 5, 6, 7] 8 rfl rfl (by decide) (by decide) hk1 hFc hP1 hD1
  generalize H1 = H at hP hS ⊢
  rw [hr9]
  refine W.eq (g2 := F0 m 27 ls [.int 1]) rfl ?_
  refine lv_if_eq (tgt := 34) hx hb dB_binary_27 (by decide) (fun h => ((by revert h; decide : False)).elim) (fun _ => ?_)
  refine lv_iconst (v := 1) hx hb dB_binary_30 (by decide) ?_
  refine lv_goto (tgt := 35) hx hb dB_binary_31 (by decide) ?_
  obtain ⟨hPc, hDc, hFc⟩ := xcut (wc := []) hP hD hS hA [] rfl rfl (by decide)
  refine va_callv (va_runS (As := [.int 1]) (rest := []) ⟨hx, hb, hml, hown, htx⟩ (cB_demand_1 l hl9 D cT aK aV H.size) ⟨callB_of 1 htx (xw_goodC kw_1_221) rfl rfl rfl (htx _ kw_1_1) (htx _ kw_1_219) ⟨by decide, by decide, by decide +kernel⟩ ⟨Nat.le_of_ble_eq_true rfl, Nat.le_of_ble_eq_true rfl⟩, htx _ kw_1_220⟩ ⟨xPre_blind, (fun U hU hW => ⟨rfl, xPre_of hZ hS hFc hPc hDc hK U hU hW⟩)⟩ rfl rfl hl.1 rfl (lv_room (Nat.le_of_ble_eq_true rfl)) dB_binary_35 ⟨Nat.le_of_ble_eq_true rfl, Nat.le_of_ble_eq_true rfl⟩) hS (fun q _ h => hFc q h) hFc (fun u9 t H1 locs ht hvm hr9 hB hz1 hk1 hS => ?_)
  obtain ⟨hP1, hK1, hD1⟩ := hB
  rw [ht] at hP1
  obtain ⟨hP, hD⟩ := xjoin (W := [(a0, .inr (0, [v23, v24, .ref a6, .ref a2, v25, .ref a1, v26, v27])), (a1, .inr (2, [.ref a5, v28, v29])), (a2, .inl (cT 3, 8, .inr (.inr (.inr (.inr f30))))), (a3, .inr (2, [.ref a4, .int 1, v35])), (a4, .inl (cT 2, 4096, .inr (.inl f36))), (a5, .inl (cT 2, 4096, .inr (.inl f38))), (a6, .inr (1, [.ref a7, v39, v40])), (a7, .inl (cT 0, 4096, .inl f41))]) hP hD [] [0, 1, 2, 3, 4, 5, 6, 7] 8 rfl rfl (by decide) (by decide) hk1 hFc hP1 hD1
  generalize H1 = H at hP hS ⊢
  refine lv_aload_n hx hb dB_binary_38 rfl (lv_at hl 0 rfl) ?_
  refine va_get (D := D) (ci := 0) (v := .ref a1) (C := "ValueBench") (T := TB) (N := 8) hx hb htx inB hown hK hP 0 rfl rfl 5 (by decide) (htx _ kw_1_100) (fun _ h9 => h9) rfl dB_binary_39 ?_
  obtain ⟨hPc, hDc, hFc⟩ := xcut (wc := [(a1, .inr (2, [.ref a5, v28, v29]))]) hP hD hS hA [1] rfl rfl (by decide)
  refine va_callv (va_runV (C := "ValueBench$Row") (As := []) (rest := []) ⟨hx, hb, hml, hown, htx⟩ (cR_clear_0 l hl9 D cT aK aV H.size a1 (.ref a5) v28 v29) ⟨callB_of 0 htx (xw_goodC kw_2_22) rfl rfl rfl (htx _ kw_1_4) (htx _ kw_2_19) ⟨by decide, by decide, by decide +kernel⟩ ⟨Nat.le_of_ble_eq_true rfl, Nat.le_of_ble_eq_true rfl⟩, (htx _ kw_2_20), (htx _ kw_2_21)⟩ ⟨xPre_blind, va_recv hK hP (ci := 2) rfl (q0 := 1) rfl, (fun U hU hW => ⟨rfl, xPre_of hZ hS hFc hPc hDc hK U hU hW⟩)⟩ rfl rfl hl.1 rfl (lv_room (Nat.le_of_ble_eq_true rfl)) dB_binary_42 ⟨Nat.le_of_ble_eq_true rfl, Nat.le_of_ble_eq_true rfl⟩) hS (fun q _ h => hFc q h) hFc (fun u9 t H1 locs ht hvm hr9 hB hz1 hk1 hS => ?_)
  obtain ⟨hP1, hK1, hD1⟩ := hB
  rw [ht] at hP1
  obtain ⟨hP, hD⟩ := xjoin (W := [(a0, .inr (0, [v23, v24, .ref a6, .ref a2, v25, .ref a1, v26, v27])), (a2, .inl (cT 3, 8, .inr (.inr (.inr (.inr f30))))), (a3, .inr (2, [.ref a4, .int 1, v35])), (a4, .inl (cT 2, 4096, .inr (.inl f36))), (a5, .inl (cT 2, 4096, .inr (.inl f38))), (a6, .inr (1, [.ref a7, v39, v40])), (a7, .inl (cT 0, 4096, .inl f41)), (a1, .inr (2, [.ref a5, .int 0, .int 0]))]) hP hD [1] [0, 2, 3, 4, 5, 6, 7] 7 rfl rfl (by decide) (by decide) hk1 hFc hP1 hD1
  generalize H1 = H at hP hS ⊢
  refine lv_aload_n hx hb dB_binary_45 rfl (lv_at hl 0 rfl) ?_
  refine lv_iload_n hx hb dB_binary_46 rfl (lv_at hl 2 rfl) ?_
  refine lv_aload_n hx hb dB_binary_47 rfl (lv_at hl 0 rfl) ?_
  refine va_get (D := D) (ci := 0) (v := .ref a2) (C := "ValueBench") (T := TB) (N := 8) hx hb htx inB hown hK hP 0 rfl rfl 3 (by decide) (htx _ kw_1_98) (fun _ h9 => h9) rfl dB_binary_48 ?_
  refine lv_iload_n hx hb dB_binary_51 rfl (lv_at hl 3 rfl) ?_
  refine va_aldq hx hb hK hP 1 3 rfl rfl h17 dB_binary_52 ?_
  refine W.eq (g2 := F0 m 53 ls [va_rf (f30 x13.toNatClampNeg), .int 0, .ref a0]) rfl ?_
  rw [h31]
  refine W.eq (g2 := F0 m 53 ls [.ref a3, .int 0, .ref a0]) rfl ?_
  refine lv_aload_n hx hb dB_binary_53 rfl (lv_at hl 0 rfl) ?_
  refine va_get (D := D) (ci := 0) (v := .ref a2) (C := "ValueBench") (T := TB) (N := 8) hx hb htx inB hown hK hP 0 rfl rfl 3 (by decide) (htx _ kw_1_98) (fun _ h9 => h9) rfl dB_binary_54 ?_
  refine lv_iload hx hb dB_binary_57 (lv_at hl 4 rfl) ?_
  refine va_aldq hx hb hK hP 1 3 rfl rfl h22 dB_binary_59 ?_
  refine W.eq (g2 := F0 m 60 ls [va_rf (f30 x18.toNatClampNeg), .ref a3, .int 0, .ref a0]) rfl ?_
  rw [h32]
  refine W.eq (g2 := F0 m 60 ls [.ref a3, .ref a3, .int 0, .ref a0]) rfl ?_
  refine lv_aload_n hx hb dB_binary_60 rfl (lv_at hl 0 rfl) ?_
  refine va_get (D := D) (ci := 0) (v := .ref a1) (C := "ValueBench") (T := TB) (N := 8) hx hb htx inB hown hK hP 0 rfl rfl 5 (by decide) (htx _ kw_1_100) (fun _ h9 => h9) rfl dB_binary_61 ?_
  obtain ⟨hPc, hDc, hFc⟩ := xcut (wc := [(a3, .inr (2, [.ref a4, .int 1, v35])), (a4, .inl (cT 2, 4096, .inr (.inl f36))), (a1, .inr (2, [.ref a5, .int 0, .int 0])), (a5, .inl (cT 2, 4096, .inr (.inl f38)))]) hP hD hS hA [2, 3, 7, 4] rfl rfl (by decide)
  refine va_calli (va_runS (As := [.int 0, .ref a3, .ref a3, .ref a1]) (rest := [.ref a0]) ⟨hx, hb, hml, hown, htx⟩ (cA_apply_0 l hl9 D cT aK aV H.size a3 a4 a1 a5 v35 f36 f38 (by first | rfl | exact h31 | exact h32 | exact h34 | exact h37)) ⟨callB_of 4 htx (xw_goodC kw_3_105) rfl rfl rfl (htx _ kw_1_21) (htx _ kw_3_103) ⟨by decide, by decide, by decide +kernel⟩ ⟨Nat.le_of_ble_eq_true rfl, Nat.le_of_ble_eq_true rfl⟩, htx _ kw_3_104⟩ ⟨xPre_blind, (fun U hU hW => ⟨rfl, xPre_of hZ hS hFc hPc hDc hK U hU hW⟩)⟩ rfl rfl hl.1 rfl (lv_room (Nat.le_of_ble_eq_true rfl)) dB_binary_64 ⟨Nat.le_of_ble_eq_true rfl, Nat.le_of_ble_eq_true rfl⟩) hS (fun q _ h => hFc q h) hFc (fun r5 u9 t H1 locs ht hvm hr9 hB hz1 hk1 hS => ?_)
  obtain ⟨hP1, hK1, hD1⟩ := hB
  rw [ht] at hP1
  obtain ⟨hP, hD⟩ := xjoin (W := [(a0, .inr (0, [v23, v24, .ref a6, .ref a2, v25, .ref a1, v26, v27])), (a2, .inl (cT 3, 8, .inr (.inr (.inr (.inr f30))))), (a6, .inr (1, [.ref a7, v39, v40])), (a7, .inl (cT 0, 4096, .inl f41)), (a3, .inr (2, [.ref a4, .int 1, v35])), (a4, .inl (cT 2, 4096, .inr (.inl f36))), (a1, .inr (2, [.ref a5, .int 1, .int 0])), (a5, .inl (cT 2, 4096, .inr (.inl (vp_updL f38 0 0))))]) hP hD [2, 3, 7, 4] [0, 1, 5, 6] 4 rfl rfl (by decide) (by decide) hk1 hFc hP1 hD1
  generalize H1 = H at hP hS ⊢
  rw [hr9]
  refine W.eq (g2 := F0 m 67 ls [.int 0, .ref a0]) rfl ?_
  obtain ⟨hPc, hDc, hFc⟩ := xcut (wc := []) hP hD hS hA [] rfl rfl (by decide)
  refine va_callv (va_runV (C := "ValueBench") (As := [.int 0]) (rest := []) ⟨hx, hb, hml, hown, htx⟩ (cB_demandDone_0 l hl9 D cT aK aV H.size a0) ⟨callB_of 1 htx (xw_goodC kw_3_222) rfl rfl rfl (htx _ kw_1_1) (htx _ kw_3_219) ⟨by decide, by decide, by decide +kernel⟩ ⟨Nat.le_of_ble_eq_true rfl, Nat.le_of_ble_eq_true rfl⟩, (htx _ kw_3_221), (htx _ kp_B_demandDone)⟩ ⟨xPre_blind, va_recv hK hP (ci := 0) rfl (q0 := 0) rfl, (fun U hU hW => ⟨rfl, xPre_of hZ hS hFc hPc hDc hK U hU hW⟩)⟩ rfl rfl hl.1 rfl (lv_room (Nat.le_of_ble_eq_true rfl)) dB_binary_67 ⟨Nat.le_of_ble_eq_true rfl, Nat.le_of_ble_eq_true rfl⟩) hS (fun q _ h => hFc q h) hFc (fun u9 t H1 locs ht hvm hr9 hB hz1 hk1 hS => ?_)
  obtain ⟨hP1, hK1, hD1⟩ := hB
  rw [ht] at hP1
  obtain ⟨hP, hD⟩ := xjoin (W := [(a0, .inr (0, [v23, v24, .ref a6, .ref a2, v25, .ref a1, v26, v27])), (a2, .inl (cT 3, 8, .inr (.inr (.inr (.inr f30))))), (a6, .inr (1, [.ref a7, v39, v40])), (a7, .inl (cT 0, 4096, .inl f41)), (a3, .inr (2, [.ref a4, .int 1, v35])), (a4, .inl (cT 2, 4096, .inr (.inl f36))), (a1, .inr (2, [.ref a5, .int 1, .int 0])), (a5, .inl (cT 2, 4096, .inr (.inl (vp_updL f38 0 0))))]) hP hD [] [0, 1, 2, 3, 4, 5, 6, 7] 8 rfl rfl (by decide) (by decide) hk1 hFc hP1 hD1
  generalize H1 = H at hP hS ⊢
  refine lv_aload_n hx hb dB_binary_70 rfl (lv_at hl 0 rfl) ?_
  refine lv_iload_n hx hb dB_binary_71 rfl (lv_at hl 1 rfl) ?_
  obtain ⟨hPc, hDc, hFc⟩ := xcut (wc := [(a0, .inr (0, [v23, v24, .ref a6, .ref a2, v25, .ref a1, v26, v27])), (a6, .inr (1, [.ref a7, v39, v40])), (a1, .inr (2, [.ref a5, .int 1, .int 0])), (a5, .inl (cT 2, 4096, .inr (.inl (vp_updL f38 0 0)))), (a7, .inl (cT 0, 4096, .inl f41)), (a2, .inl (cT 3, 8, .inr (.inr (.inr (.inr f30)))))]) hP hD hS hA [0, 2, 6, 7, 3, 1] rfl rfl (by decide)
  refine va_calli (va_runV (C := "ValueBench") (As := [.int x8]) (rest := []) ⟨hx, hb, hml, hown, htx⟩ (cB_keepSpare_0 l hl9 D cT aK aV H.size a0 a6 a1 a5 a7 a2 x8 v23 v24 v25 v26 v27 v39 v40 (vp_updL f38 0 0) f41 f30 b33 h9 h10 h11 h12 (by first | rfl | exact h31 | exact h32 | exact h34 | exact h37) (by first | rfl | exact h31 | exact h32 | exact h34 | exact h37)) ⟨callB_of 1 htx (xw_goodC kw_3_17) rfl rfl rfl (htx _ kw_1_1) (htx _ kw_3_14) ⟨by decide, by decide, by decide +kernel⟩ ⟨Nat.le_of_ble_eq_true rfl, Nat.le_of_ble_eq_true rfl⟩, (htx _ kw_3_16), (htx _ kp_B_keepSpare)⟩ ⟨xPre_blind, va_recv hK hP (ci := 0) rfl (q0 := 0) rfl, (fun U hU hW => ⟨rfl, xPre_of hZ hS hFc hPc hDc hK U hU hW⟩)⟩ rfl rfl hl.1 rfl (lv_room (Nat.le_of_ble_eq_true rfl)) dB_binary_72 ⟨Nat.le_of_ble_eq_true rfl, Nat.le_of_ble_eq_true rfl⟩) hS (fun q _ h => hFc q h) hFc (fun r6 u9 t H1 locs ht hvm hr9 hB hz1 hk1 hS => ?_)
  obtain ⟨y7, y8, y9, y10, hP1, hK1, hD1⟩ := hB
  rw [ht] at hP1
  obtain ⟨hP, hD⟩ := xjoin (W := [(a3, .inr (2, [.ref a4, .int 1, v35])), (a4, .inl (cT 2, 4096, .inr (.inl f36))), (a0, .inr (0, [v23, v24, .ref a6, .ref a2, v25, .ref b33, v26, v27])), (a6, .inr (1, [.ref a7, .int 4, .int 0])), (a1, .inr (2, [.ref a5, .int 1, .int 0])), (a5, .inl (cT 2, 4096, .inr (.inl (vp_updL f38 0 0)))), (a7, .inl (cT 0, 4096, .inl (upd (upd (upd (upd f41 0 (vp_nar .byte y7)) 1 (vp_nar .byte y8)) 2 (vp_nar .byte y9)) 3 (vp_nar .byte y10)))), (a2, .inl (cT 3, 8, .inr (.inr (.inr (.inr (va_up f30 x8.toNatClampNeg (some a1)))))))]) hP hD [0, 2, 6, 7, 3, 1] [4, 5] 2 rfl rfl (by decide) (by decide) hk1 hFc hP1 hD1
  generalize H1 = H at hP hS ⊢
  rw [hr9]
  refine W.eq (g2 := F0 m 75 ls [.int 4]) rfl ?_
  refine lv_pop hx hb dB_binary_75 rfl ?_
  obtain ⟨hP9, hD9⟩ := xsub (wc := [(a0, .inr (0, [v23, v24, .ref a6, .ref a2, v25, .ref b33, v26, v27])), (a1, .inr (2, [.ref a5, .int 1, .int 0])), (a2, .inl (cT 3, 8, .inr (.inr (.inr (.inr (va_up f30 x8.toNatClampNeg (some a1))))))), (a3, .inr (2, [.ref a4, .int 1, v35])), (a4, .inl (cT 2, 4096, .inr (.inl f36))), (a5, .inl (cT 2, 4096, .inr (.inl (vp_updL f38 0 0)))), (a6, .inr (1, [.ref a7, .int 4, .int 0])), (a7, .inl (cT 0, 4096, .inl (upd (upd (upd (upd f41 0 (vp_nar .byte y7)) 1 (vp_nar .byte y8)) 2 (vp_nar .byte y9)) 3 (vp_nar .byte y10))))]) hP hD [2, 4, 7, 0, 1, 5, 3, 6] rfl rfl (by decide)
  refine W.widen (k := 0) (n := 0) (Nat.le_of_ble_eq_true rfl) (Nat.le_of_ble_eq_true rfl) ?_
  exact W.vret hx hb hr (fun t ht hW => ⟨⟨(), rfl, trivial, y7, y8, y9, y10, by rw [ht]; exact hP9, va_K.moved hW.alike hK, hD9⟩, hS.F ht⟩) hS.2.2 dB_binary_76
set_option maxHeartbeats 400000000 in
set_option maxRecDepth 100000 in
theorem cL_binary_8 (l : Launch) (hl9 : l.stackTraces = false) (D : va_G) (cT : Nat → ClassId) (aK aV : Nat → Nat) (sz : Nat) (a0 : Nat) (a1 : Nat) (a2 : Nat) (a3 : Nat) (a4 : Nat) (a5 : Nat) (a6 : Nat) (a7 : Nat) (x8 : Int32) (x13 : Int32) (x18 : Int32) (v23 : Value) (v24 : Value) (v25 : Value) (v26 : Value) (v27 : Value) (v28 : Value) (v29 : Value) (f30 : Nat → Option Nat) (b33 : Nat) (v35 : Value) (f36 : Nat → Int64) (f38 : Nat → Int64) (v39 : Value) (v40 : Value) (f41 : Nat → Int32) (h9 : ¬ x8 < 0) (h10 : ¬ 7 < x8) (h11 : x8 ≤ 7) (h12 : vp_in x8 8) (h14 : ¬ x13 < 0) (h15 : ¬ 7 < x13) (h16 : x13 ≤ 7) (h17 : vp_in x13 8) (h19 : ¬ x18 < 0) (h20 : ¬ 7 < x18) (h21 : x18 ≤ 7) (h22 : vp_in x18 8) (h31 : f30 x13.toNatClampNeg = some a3) (h32 : f30 x18.toNatClampNeg = some a3) (h34 : f30 x8.toNatClampNeg = some b33) (h37 : f36 0 = 0) : xMet l yL_binary wyL_binary 8 0 0 176 D cT aK aV sz [.ref a0, .int x8, .int 0, .int x13, .int x18] [(a0, .inr (0, [v23, v24, .ref a6, .ref a2, v25, .ref a1, v26, v27])), (a1, .inr (2, [.ref a5, v28, v29])), (a2, .inl (cT 3, 8, .inr (.inr (.inr (.inr f30))))), (a3, .inr (2, [.ref a4, .int 1, v35])), (a4, .inl (cT 2, 4096, .inr (.inl f36))), (a5, .inl (cT 2, 4096, .inr (.inl f38))), (a6, .inr (1, [.ref a7, v39, v40])), (a7, .inl (cT 0, 4096, .inl f41))] (fun A => va_Qi (fun (r : Int32) (_ : Unit) => r = 0) (fun _ t => ∃ (y1 : Int32) (y2 : Int32) (y3 : Int32) (y4 : Int32), xB D xcl cT A [(a0, .inr (0, [v23, v24, .ref a6, .ref a2, v25, .ref b33, v26, v27])), (a1, .inr (2, [.ref a5, .int 1, .int 0])), (a2, .inl (cT 3, 8, .inr (.inr (.inr (.inr (va_up f30 x8.toNatClampNeg (some a1))))))), (a3, .inr (2, [.ref a4, .int 1, v35])), (a4, .inl (cT 2, 4096, .inr (.inl f36))), (a5, .inl (cT 2, 4096, .inr (.inl (vp_updL f38 0 0)))), (a6, .inr (1, [.ref a7, .int 4, .int 0])), (a7, .inl (cT 0, 4096, .inl (upd (upd (upd (upd f41 0 (vp_nar .byte y1)) 1 (vp_nar .byte y2)) 2 (vp_nar .byte y3)) 3 (vp_nar .byte y4))))] t) A) := by
  refine va_MetW (cc := method_7_code) (maxL := 6) (ret := (some .int)) (hh := [(0, 9, 12, 19), (0, 9, 16, 33), (0, 9, 20, 13)]) (by decide) rfl ?_
  intro p e s m args below meth c s₁ B hml hv
  obtain ⟨rfl, hsz, hZ, hP, hK, hD0⟩ := hv
  have hx := B.exec
  have hb := B.bytes
  have hr := B.returns
  have hts := atoms_spec (ws := wyL_binary) B.pre
  have htx := fun w h => hts w (List.mem_cons_of_mem _ h)
  have hown : s.vm.findClass "ValueBenchLaw" = some m.cls := findClass_of_methodNamed B.named
  have hlocks := B.notSynchronized
  subst hsz
  have hD := hD0.self (sz := s.heap.size)
  generalize hAe : va_A [(a0, .inr (0, [v23, v24, .ref a6, .ref a2, v25, .ref a1, v26, v27])), (a1, .inr (2, [.ref a5, v28, v29])), (a2, .inl (cT 3, 8, .inr (.inr (.inr (.inr f30))))), (a3, .inr (2, [.ref a4, .int 1, v35])), (a4, .inl (cT 2, 4096, .inr (.inl f36))), (a5, .inl (cT 2, 4096, .inr (.inl f38))), (a6, .inr (1, [.ref a7, v39, v40])), (a7, .inl (cT 0, 4096, .inl f41))] s.heap.size = A at hD hZ ⊢
  have hA : ∀ q : Nat, s.heap.size ≤ q → A q := fun q h => by rw [← hAe]; exact Or.inr h
  have hS : va_S A s.heap s.heap [] := va_S.rf
  have hP : va_P D xcl [(a0, .inr (0, [v23, v24, .ref a6, .ref a2, v25, .ref a1, v26, v27])), (a1, .inr (2, [.ref a5, v28, v29])), (a2, .inl (cT 3, 8, .inr (.inr (.inr (.inr f30))))), (a3, .inr (2, [.ref a4, .int 1, v35])), (a4, .inl (cT 2, 4096, .inr (.inl f36))), (a5, .inl (cT 2, 4096, .inr (.inl f38))), (a6, .inr (1, [.ref a7, v39, v40])), (a7, .inl (cT 0, 4096, .inl f41))] s.heap := hP
  have hl := lv_entry ([.ref a0, .int x8, .int 0, .int x13, .int x18]) (n := 6) (Nat.le_of_ble_eq_true rfl)
  rw [lg_entry_eq]
  generalize (lg_sl ([.ref a0, .int x8, .int 0, .int x13, .int x18]) ++ List.replicate (6 - (lg_sl ([.ref a0, .int x8, .int 0, .int x13, .int x18])).length) Slot.unset).toArray = ls at hl ⊢
  have hl : lv_has ls 6 [(0, .ref a0), (1, .int x8), (2, .int 0), (3, .int x13), (4, .int x18)] := hl
  have htab := vx_table (x := yL_binary) B (hts _ List.mem_cons_self)
  refine lv_aload_n hx hb dL_binary_0 rfl (lv_at hl 0 rfl) ?_
  refine lv_iload_n hx hb dL_binary_1 rfl (lv_at hl 1 rfl) ?_
  refine lv_iload_n hx hb dL_binary_2 rfl (lv_at hl 2 rfl) ?_
  refine lv_iload_n hx hb dL_binary_3 rfl (lv_at hl 3 rfl) ?_
  refine lv_iload hx hb dL_binary_4 (lv_at hl 4 rfl) ?_
  obtain ⟨hPc, hDc, hFc⟩ := xcut (wc := [(a0, .inr (0, [v23, v24, .ref a6, .ref a2, v25, .ref a1, v26, v27])), (a1, .inr (2, [.ref a5, v28, v29])), (a2, .inl (cT 3, 8, .inr (.inr (.inr (.inr f30))))), (a3, .inr (2, [.ref a4, .int 1, v35])), (a4, .inl (cT 2, 4096, .inr (.inl f36))), (a5, .inl (cT 2, 4096, .inr (.inl f38))), (a6, .inr (1, [.ref a7, v39, v40])), (a7, .inl (cT 0, 4096, .inl f41))]) hP hD hS hA [0, 1, 2, 3, 4, 5, 6, 7] rfl rfl (by decide)
  refine va_callv (va_runV (C := "ValueBench") (As := [.int x8, .int 0, .int x13, .int x18]) (rest := []) ⟨hx, hb, hml, hown, htx⟩ (cB_binary_8 l hl9 D cT aK aV s.heap.size a0 a1 a2 a3 a4 a5 a6 a7 x8 x13 x18 v23 v24 v25 v26 v27 v28 v29 f30 b33 v35 f36 f38 v39 v40 f41 h9 h10 h11 h12 h14 h15 h16 h17 h19 h20 h21 h22 (by first | rfl | exact h31 | exact h32 | exact h34 | exact h37) (by first | rfl | exact h31 | exact h32 | exact h34 | exact h37) (by first | rfl | exact h31 | exact h32 | exact h34 | exact h37) (by first | rfl | exact h31 | exact h32 | exact h34 | exact h37)) ⟨callB_of 4 htx (xw_goodC kw_3_102) rfl rfl rfl (htx _ kw_1_1) (htx _ kw_3_99) ⟨by decide, by decide, by decide +kernel⟩ ⟨Nat.le_of_ble_eq_true rfl, Nat.le_of_ble_eq_true rfl⟩, (htx _ kw_3_100), (htx _ kw_3_101)⟩ ⟨xPre_blind, va_recv hK hP (ci := 0) rfl (q0 := 0) rfl, (fun U hU hW => ⟨rfl, xPre_of hZ hS hFc hPc hDc hK U hU hW⟩)⟩ rfl rfl hl.1 rfl (lv_room (Nat.le_of_ble_eq_true rfl)) dL_binary_6 ⟨Nat.le_of_ble_eq_true rfl, Nat.le_of_ble_eq_true rfl⟩) hS (fun q _ h => hFc q h) hFc (fun u9 t H1 locs ht hvm hr9 hB hz1 hk1 hS => ?_)
  obtain ⟨y1, y2, y3, y4, hP1, hK1, hD1⟩ := hB
  rw [ht] at hP1
  obtain ⟨hP, hD⟩ := xjoin (W := [(a0, .inr (0, [v23, v24, .ref a6, .ref a2, v25, .ref b33, v26, v27])), (a1, .inr (2, [.ref a5, .int 1, .int 0])), (a2, .inl (cT 3, 8, .inr (.inr (.inr (.inr (va_up f30 x8.toNatClampNeg (some a1))))))), (a3, .inr (2, [.ref a4, .int 1, v35])), (a4, .inl (cT 2, 4096, .inr (.inl f36))), (a5, .inl (cT 2, 4096, .inr (.inl (vp_updL f38 0 0)))), (a6, .inr (1, [.ref a7, .int 4, .int 0])), (a7, .inl (cT 0, 4096, .inl (upd (upd (upd (upd f41 0 (vp_nar .byte y1)) 1 (vp_nar .byte y2)) 2 (vp_nar .byte y3)) 3 (vp_nar .byte y4))))]) hP hD [0, 1, 2, 3, 4, 5, 6, 7] [] 0 rfl rfl (by decide) (by decide) hk1 hFc hP1 hD1
  generalize H1 = H at hP hS ⊢
  refine lv_goto (tgt := 24) hx hb dL_binary_9 (by decide) ?_
  refine lv_iconst (v := 0) hx hb dL_binary_24 (by decide) ?_
  obtain ⟨hP9, hD9⟩ := xsub (wc := [(a0, .inr (0, [v23, v24, .ref a6, .ref a2, v25, .ref b33, v26, v27])), (a1, .inr (2, [.ref a5, .int 1, .int 0])), (a2, .inl (cT 3, 8, .inr (.inr (.inr (.inr (va_up f30 x8.toNatClampNeg (some a1))))))), (a3, .inr (2, [.ref a4, .int 1, v35])), (a4, .inl (cT 2, 4096, .inr (.inl f36))), (a5, .inl (cT 2, 4096, .inr (.inl (vp_updL f38 0 0)))), (a6, .inr (1, [.ref a7, .int 4, .int 0])), (a7, .inl (cT 0, 4096, .inl (upd (upd (upd (upd f41 0 (vp_nar .byte y1)) 1 (vp_nar .byte y2)) 2 (vp_nar .byte y3)) 3 (vp_nar .byte y4))))]) hP hD [0, 1, 2, 3, 4, 5, 6, 7] rfl rfl (by decide)
  refine W.widen (k := 0) (n := 0) (Nat.le_of_ble_eq_true rfl) (Nat.le_of_ble_eq_true rfl) ?_
  exact W.iret (v := 0) hx hb hr (fun t ht hW => ⟨⟨0, (), rfl, rfl, y1, y2, y3, y4, by rw [ht]; exact hP9, va_K.moved hW.alike hK, hD9⟩, hS.F ht⟩) hS.2.2 dL_binary_25
set_option maxHeartbeats 400000000 in
set_option maxRecDepth 100000 in
theorem cM_peek_1 (l : Launch) (hl9 : l.stackTraces = false) (D : va_G) (cT : Nat → ClassId) (aK aV : Nat → Nat) (sz : Nat) (a0 : Nat) (a1 : Nat) (v2 : Value) (v3 : Value) (v4 : Value) (v5 : Value) (v6 : Value) (v7 : Value) (v8 : Value) (v9 : Value) (v10 : Value) (v11 : Value) (v12 : Value) (v13 : Value) (v14 : Value) (v15 : Value) (v16 : Value) (v17 : Value) (v18 : Value) (v19 : Value) (v20 : Value) (v21 : Value) (v22 : Value) (v23 : Value) (v24 : Value) (v25 : Value) (v26 : Value) (v27 : Value) (v28 : Value) (v29 : Value) (v30 : Value) (f31 : Nat → Int32) (h32 : f31 0 = 110) : xMet l yM_peek wyM_peek 0 0 0 0 D cT aK aV sz [.ref a0] [(a0, .inr (5, [v2, v3, v4, v5, v6, v7, v8, v9, v10, v11, v12, v13, v14, v15, v16, .ref a1, .int 0, .int 4, v17, v18, v19, v20, v21, v22, v23, v24, v25, v26, v27, v28, v29, v30])), (a1, .inl (cT 0, 4096, .inl f31))] (fun A => va_Qi (fun (r : Int32) (_ : Unit) => r = 110) (fun _ t => xB D xcl cT A [(a0, .inr (5, [v2, v3, v4, v5, v6, v7, v8, v9, v10, v11, v12, v13, v14, v15, v16, .ref a1, .int 0, .int 4, v17, v18, v19, v20, v21, v22, v23, v24, v25, v26, v27, v28, v29, v30])), (a1, .inl (cT 0, 4096, .inl f31))] t) A) := by
  refine Met.ofW (cc := prog_13_method_29_code) (maxL := 1) (ret := (some .int)) (by decide) rfl ?_
  intro p e s m args below meth c s₁ B hml hv
  obtain ⟨rfl, hsz, hZ, hP, hK, hD0⟩ := hv
  have hx := B.exec
  have hb := B.bytes
  have hr := B.returns
  have hts := atoms_spec (ws := wyM_peek) B.pre
  have htx := fun w h => hts w (List.mem_cons_of_mem _ h)
  have hown : s.vm.findClass "ValueBenchModel" = some m.cls := findClass_of_methodNamed B.named
  have hlocks := B.notSynchronized
  subst hsz
  have hD := hD0.self (sz := s.heap.size)
  generalize hAe : va_A [(a0, .inr (5, [v2, v3, v4, v5, v6, v7, v8, v9, v10, v11, v12, v13, v14, v15, v16, .ref a1, .int 0, .int 4, v17, v18, v19, v20, v21, v22, v23, v24, v25, v26, v27, v28, v29, v30])), (a1, .inl (cT 0, 4096, .inl f31))] s.heap.size = A at hD hZ ⊢
  have hA : ∀ q : Nat, s.heap.size ≤ q → A q := fun q h => by rw [← hAe]; exact Or.inr h
  have hS : va_S A s.heap s.heap [] := va_S.rf
  have hP : va_P D xcl [(a0, .inr (5, [v2, v3, v4, v5, v6, v7, v8, v9, v10, v11, v12, v13, v14, v15, v16, .ref a1, .int 0, .int 4, v17, v18, v19, v20, v21, v22, v23, v24, v25, v26, v27, v28, v29, v30])), (a1, .inl (cT 0, 4096, .inl f31))] s.heap := hP
  have hl := lv_entry ([.ref a0]) (n := 1) (Nat.le_of_ble_eq_true rfl)
  rw [lg_entry_eq]
  generalize (lg_sl ([.ref a0]) ++ List.replicate (1 - (lg_sl ([.ref a0])).length) Slot.unset).toArray = ls at hl ⊢
  have hl : lv_has ls 1 [(0, .ref a0)] := hl
  refine lv_aload_n hx hb dM_peek_0 rfl (lv_at hl 0 rfl) ?_
  refine va_get (D := D) (ci := 5) (v := .int 0) (C := "ValueBenchModel") (T := TM) (N := 32) hx hb htx inM hown hK hP 0 rfl rfl 16 (by decide) (htx _ kw_5_103) (fun _ h9 => h9) rfl dM_peek_1 ?_
  refine lv_aload_n hx hb dM_peek_4 rfl (lv_at hl 0 rfl) ?_
  refine va_get (D := D) (ci := 5) (v := .int 4) (C := "ValueBenchModel") (T := TM) (N := 32) hx hb htx inM hown hK hP 0 rfl rfl 17 (by decide) (htx _ kw_5_104) (fun _ h9 => h9) rfl dM_peek_5 ?_
  refine lv_icmp_ge (tgt := 27) hx hb dM_peek_8 (by decide) (fun h => ((by revert h; decide : False)).elim) (fun _ => ?_)
  refine lv_aload_n hx hb dM_peek_11 rfl (lv_at hl 0 rfl) ?_
  refine va_get (D := D) (ci := 5) (v := .ref a1) (C := "ValueBenchModel") (T := TM) (N := 32) hx hb htx inM hown hK hP 0 rfl rfl 15 (by decide) (htx _ kw_5_102) (fun _ h9 => h9) rfl dM_peek_12 ?_
  refine lv_aload_n hx hb dM_peek_15 rfl (lv_at hl 0 rfl) ?_
  refine va_get (D := D) (ci := 5) (v := .int 0) (C := "ValueBenchModel") (T := TM) (N := 32) hx hb htx inM hown hK hP 0 rfl rfl 16 (by decide) (htx _ kw_5_103) (fun _ h9 => h9) rfl dM_peek_16 ?_
  refine va_bald hx hb hK hP 1 0 rfl rfl (show ¬ ((0 : Int32) < 0 ∨ 4096 ≤ (0 : Int32).toNatClampNeg) by decide) dM_peek_19 ?_
  refine W.eq (g2 := F0 m 20 ls [.int (f31 0)]) rfl ?_
  rw [h32]
  refine W.eq (g2 := F0 m 20 ls [.int 110]) rfl ?_
  refine lv_sipush (v := 255) hx hb dM_peek_20 (by decide) ?_
  refine lv_iand hx hb dM_peek_23 ?_
  refine W.eq (g2 := F0 m 24 ls [.int 110]) rfl ?_
  refine lv_goto (tgt := 28) hx hb dM_peek_24 (by decide) ?_
  obtain ⟨hP9, hD9⟩ := xsub (wc := [(a0, .inr (5, [v2, v3, v4, v5, v6, v7, v8, v9, v10, v11, v12, v13, v14, v15, v16, .ref a1, .int 0, .int 4, v17, v18, v19, v20, v21, v22, v23, v24, v25, v26, v27, v28, v29, v30])), (a1, .inl (cT 0, 4096, .inl f31))]) hP hD [0, 1] rfl rfl (by decide)
  refine W.widen (k := 0) (n := 0) (Nat.le_of_ble_eq_true rfl) (Nat.le_of_ble_eq_true rfl) ?_
  exact W.iret (v := 110) hx hb hr (fun t ht hW => ⟨⟨110, (), rfl, rfl, by rw [ht]; exact hP9, va_K.moved hW.alike hK, hD9⟩, hS.F ht⟩) hS.2.2 dM_peek_28
set_option maxHeartbeats 400000000 in
set_option maxRecDepth 100000 in
theorem cM_blanks_1 (l : Launch) (hl9 : l.stackTraces = false) (D : va_G) (cT : Nat → ClassId) (aK aV : Nat → Nat) (sz : Nat) (a0 : Nat) (a1 : Nat) (v2 : Value) (v3 : Value) (v4 : Value) (v5 : Value) (v6 : Value) (v7 : Value) (v8 : Value) (v9 : Value) (v10 : Value) (v11 : Value) (v12 : Value) (v13 : Value) (v14 : Value) (v15 : Value) (v16 : Value) (v17 : Value) (v18 : Value) (v19 : Value) (v20 : Value) (v21 : Value) (v22 : Value) (v23 : Value) (v24 : Value) (v25 : Value) (v26 : Value) (v27 : Value) (v28 : Value) (v29 : Value) (v30 : Value) (f31 : Nat → Int32) (h32 : f31 0 = 110) : xMet l yM_blanks wyM_blanks 1 0 0 20 D cT aK aV sz [.ref a0] [(a0, .inr (5, [v2, v3, v4, v5, v6, v7, v8, v9, v10, v11, v12, v13, v14, v15, v16, .ref a1, .int 0, .int 4, v17, v18, v19, v20, v21, v22, v23, v24, v25, v26, v27, v28, v29, v30])), (a1, .inl (cT 0, 4096, .inl f31))] (fun A => va_Qv (fun _ : Unit => True) (fun _ t => xB D xcl cT A [(a0, .inr (5, [v2, v3, v4, v5, v6, v7, v8, v9, v10, v11, v12, v13, v14, v15, v16, .ref a1, .int 0, .int 4, v17, v18, v19, v20, v21, v22, v23, v24, v25, v26, v27, v28, v29, v30])), (a1, .inl (cT 0, 4096, .inl f31))] t) A) := by
  refine Met.ofW (cc := prog_13_method_31_code) (maxL := 1) (ret := none) (by decide) rfl ?_
  intro p e s m args below meth c s₁ B hml hv
  obtain ⟨rfl, hsz, hZ, hP, hK, hD0⟩ := hv
  have hx := B.exec
  have hb := B.bytes
  have hr := B.returns
  have hts := atoms_spec (ws := wyM_blanks) B.pre
  have htx := fun w h => hts w (List.mem_cons_of_mem _ h)
  have hown : s.vm.findClass "ValueBenchModel" = some m.cls := findClass_of_methodNamed B.named
  have hlocks := B.notSynchronized
  subst hsz
  have hD := hD0.self (sz := s.heap.size)
  generalize hAe : va_A [(a0, .inr (5, [v2, v3, v4, v5, v6, v7, v8, v9, v10, v11, v12, v13, v14, v15, v16, .ref a1, .int 0, .int 4, v17, v18, v19, v20, v21, v22, v23, v24, v25, v26, v27, v28, v29, v30])), (a1, .inl (cT 0, 4096, .inl f31))] s.heap.size = A at hD hZ ⊢
  have hA : ∀ q : Nat, s.heap.size ≤ q → A q := fun q h => by rw [← hAe]; exact Or.inr h
  have hS : va_S A s.heap s.heap [] := va_S.rf
  have hP : va_P D xcl [(a0, .inr (5, [v2, v3, v4, v5, v6, v7, v8, v9, v10, v11, v12, v13, v14, v15, v16, .ref a1, .int 0, .int 4, v17, v18, v19, v20, v21, v22, v23, v24, v25, v26, v27, v28, v29, v30])), (a1, .inl (cT 0, 4096, .inl f31))] s.heap := hP
  have hl := lv_entry ([.ref a0]) (n := 1) (Nat.le_of_ble_eq_true rfl)
  rw [lg_entry_eq]
  generalize (lg_sl ([.ref a0]) ++ List.replicate (1 - (lg_sl ([.ref a0])).length) Slot.unset).toArray = ls at hl ⊢
  have hl : lv_has ls 1 [(0, .ref a0)] := hl
  refine lv_aload_n hx hb dM_blanks_0 rfl (lv_at hl 0 rfl) ?_
  obtain ⟨hPc, hDc, hFc⟩ := xcut (wc := [(a0, .inr (5, [v2, v3, v4, v5, v6, v7, v8, v9, v10, v11, v12, v13, v14, v15, v16, .ref a1, .int 0, .int 4, v17, v18, v19, v20, v21, v22, v23, v24, v25, v26, v27, v28, v29, v30])), (a1, .inl (cT 0, 4096, .inl f31))]) hP hD hS hA [0, 1] rfl rfl (by decide)
  refine va_calli (va_runV (C := "ValueBenchModel") (As := []) (rest := []) ⟨hx, hb, hml, hown, htx⟩ (cM_peek_1 l hl9 D cT aK aV s.heap.size a0 a1 v2 v3 v4 v5 v6 v7 v8 v9 v10 v11 v12 v13 v14 v15 v16 v17 v18 v19 v20 v21 v22 v23 v24 v25 v26 v27 v28 v29 v30 f31 (by first | rfl | exact h32)) ⟨callB_of 0 htx (xw_goodC kw_5_233) rfl rfl rfl (htx _ kw_1_5) (htx _ kw_5_230) ⟨by decide, by decide, by decide +kernel⟩ ⟨Nat.le_of_ble_eq_true rfl, Nat.le_of_ble_eq_true rfl⟩, (htx _ kw_5_232), (htx _ kp_M_peek)⟩ ⟨xPre_blind, va_recv hK hP (ci := 5) rfl (q0 := 0) rfl, (fun U hU hW => ⟨rfl, xPre_of hZ hS hFc hPc hDc hK U hU hW⟩)⟩ rfl rfl hl.1 rfl (lv_room (Nat.le_of_ble_eq_true rfl)) dM_blanks_1 ⟨Nat.le_of_ble_eq_true rfl, Nat.le_of_ble_eq_true rfl⟩) hS (fun q _ h => hFc q h) hFc (fun r1 u9 t H1 locs ht hvm hr9 hB hz1 hk1 hS => ?_)
  obtain ⟨hP1, hK1, hD1⟩ := hB
  rw [ht] at hP1
  obtain ⟨hP, hD⟩ := xjoin (W := [(a0, .inr (5, [v2, v3, v4, v5, v6, v7, v8, v9, v10, v11, v12, v13, v14, v15, v16, .ref a1, .int 0, .int 4, v17, v18, v19, v20, v21, v22, v23, v24, v25, v26, v27, v28, v29, v30])), (a1, .inl (cT 0, 4096, .inl f31))]) hP hD [0, 1] [] 0 rfl rfl (by decide) (by decide) hk1 hFc hP1 hD1
  generalize H1 = H at hP hS ⊢
  rw [hr9]
  refine W.eq (g2 := F0 m 4 ls [.int 110]) rfl ?_
  refine lv_bipush (v := 32) hx hb dM_blanks_4 (by decide) ?_
  refine lv_icmp_eq (tgt := 45) hx hb dM_blanks_6 (by decide) (fun h => ((by revert h; decide : False)).elim) (fun _ => ?_)
  refine lv_aload_n hx hb dM_blanks_9 rfl (lv_at hl 0 rfl) ?_
  obtain ⟨hPc, hDc, hFc⟩ := xcut (wc := [(a0, .inr (5, [v2, v3, v4, v5, v6, v7, v8, v9, v10, v11, v12, v13, v14, v15, v16, .ref a1, .int 0, .int 4, v17, v18, v19, v20, v21, v22, v23, v24, v25, v26, v27, v28, v29, v30])), (a1, .inl (cT 0, 4096, .inl f31))]) hP hD hS hA [0, 1] rfl rfl (by decide)
  refine va_calli (va_runV (C := "ValueBenchModel") (As := []) (rest := []) ⟨hx, hb, hml, hown, htx⟩ (cM_peek_1 l hl9 D cT aK aV H.size a0 a1 v2 v3 v4 v5 v6 v7 v8 v9 v10 v11 v12 v13 v14 v15 v16 v17 v18 v19 v20 v21 v22 v23 v24 v25 v26 v27 v28 v29 v30 f31 (by first | rfl | exact h32)) ⟨callB_of 0 htx (xw_goodC kw_5_233) rfl rfl rfl (htx _ kw_1_5) (htx _ kw_5_230) ⟨by decide, by decide, by decide +kernel⟩ ⟨Nat.le_of_ble_eq_true rfl, Nat.le_of_ble_eq_true rfl⟩, (htx _ kw_5_232), (htx _ kp_M_peek)⟩ ⟨xPre_blind, va_recv hK hP (ci := 5) rfl (q0 := 0) rfl, (fun U hU hW => ⟨rfl, xPre_of hZ hS hFc hPc hDc hK U hU hW⟩)⟩ rfl rfl hl.1 rfl (lv_room (Nat.le_of_ble_eq_true rfl)) dM_blanks_10 ⟨Nat.le_of_ble_eq_true rfl, Nat.le_of_ble_eq_true rfl⟩) hS (fun q _ h => hFc q h) hFc (fun r2 u9 t H1 locs ht hvm hr9 hB hz1 hk1 hS => ?_)
  obtain ⟨hP1, hK1, hD1⟩ := hB
  rw [ht] at hP1
  obtain ⟨hP, hD⟩ := xjoin (W := [(a0, .inr (5, [v2, v3, v4, v5, v6, v7, v8, v9, v10, v11, v12, v13, v14, v15, v16, .ref a1, .int 0, .int 4, v17, v18, v19, v20, v21, v22, v23, v24, v25, v26, v27, v28, v29, v30])), (a1, .inl (cT 0, 4096, .inl f31))]) hP hD [0, 1] [] 0 rfl rfl (by decide) (by decide) hk1 hFc hP1 hD1
  generalize H1 = H at hP hS ⊢
  rw [hr9]
  refine W.eq (g2 := F0 m 13 ls [.int 110]) rfl ?_
  refine lv_bipush (v := 9) hx hb dM_blanks_13 (by decide) ?_
  refine lv_icmp_lt (tgt := 58) hx hb dM_blanks_15 (by decide) (fun h => ((by revert h; decide : False)).elim) (fun _ => ?_)
  refine lv_aload_n hx hb dM_blanks_18 rfl (lv_at hl 0 rfl) ?_
  obtain ⟨hPc, hDc, hFc⟩ := xcut (wc := [(a0, .inr (5, [v2, v3, v4, v5, v6, v7, v8, v9, v10, v11, v12, v13, v14, v15, v16, .ref a1, .int 0, .int 4, v17, v18, v19, v20, v21, v22, v23, v24, v25, v26, v27, v28, v29, v30])), (a1, .inl (cT 0, 4096, .inl f31))]) hP hD hS hA [0, 1] rfl rfl (by decide)
  refine va_calli (va_runV (C := "ValueBenchModel") (As := []) (rest := []) ⟨hx, hb, hml, hown, htx⟩ (cM_peek_1 l hl9 D cT aK aV H.size a0 a1 v2 v3 v4 v5 v6 v7 v8 v9 v10 v11 v12 v13 v14 v15 v16 v17 v18 v19 v20 v21 v22 v23 v24 v25 v26 v27 v28 v29 v30 f31 (by first | rfl | exact h32)) ⟨callB_of 0 htx (xw_goodC kw_5_233) rfl rfl rfl (htx _ kw_1_5) (htx _ kw_5_230) ⟨by decide, by decide, by decide +kernel⟩ ⟨Nat.le_of_ble_eq_true rfl, Nat.le_of_ble_eq_true rfl⟩, (htx _ kw_5_232), (htx _ kp_M_peek)⟩ ⟨xPre_blind, va_recv hK hP (ci := 5) rfl (q0 := 0) rfl, (fun U hU hW => ⟨rfl, xPre_of hZ hS hFc hPc hDc hK U hU hW⟩)⟩ rfl rfl hl.1 rfl (lv_room (Nat.le_of_ble_eq_true rfl)) dM_blanks_19 ⟨Nat.le_of_ble_eq_true rfl, Nat.le_of_ble_eq_true rfl⟩) hS (fun q _ h => hFc q h) hFc (fun r3 u9 t H1 locs ht hvm hr9 hB hz1 hk1 hS => ?_)
  obtain ⟨hP1, hK1, hD1⟩ := hB
  rw [ht] at hP1
  obtain ⟨hP, hD⟩ := xjoin (W := [(a0, .inr (5, [v2, v3, v4, v5, v6, v7, v8, v9, v10, v11, v12, v13, v14, v15, v16, .ref a1, .int 0, .int 4, v17, v18, v19, v20, v21, v22, v23, v24, v25, v26, v27, v28, v29, v30])), (a1, .inl (cT 0, 4096, .inl f31))]) hP hD [0, 1] [] 0 rfl rfl (by decide) (by decide) hk1 hFc hP1 hD1
  generalize H1 = H at hP hS ⊢
  rw [hr9]
  refine W.eq (g2 := F0 m 22 ls [.int 110]) rfl ?_
  refine lv_bipush (v := 13) hx hb dM_blanks_22 (by decide) ?_
  refine lv_icmp_gt (tgt := 58) hx hb dM_blanks_24 (by decide) (fun _ => ?_) (fun h => ((by revert h; decide : False)).elim)
  obtain ⟨hP9, hD9⟩ := xsub (wc := [(a0, .inr (5, [v2, v3, v4, v5, v6, v7, v8, v9, v10, v11, v12, v13, v14, v15, v16, .ref a1, .int 0, .int 4, v17, v18, v19, v20, v21, v22, v23, v24, v25, v26, v27, v28, v29, v30])), (a1, .inl (cT 0, 4096, .inl f31))]) hP hD [0, 1] rfl rfl (by decide)
  refine W.widen (k := 0) (n := 0) (Nat.le_of_ble_eq_true rfl) (Nat.le_of_ble_eq_true rfl) ?_
  exact W.vret hx hb hr (fun t ht hW => ⟨⟨(), rfl, trivial, by rw [ht]; exact hP9, va_K.moved hW.alike hK, hD9⟩, hS.F ht⟩) hS.2.2 dM_blanks_58
set_option maxHeartbeats 400000000 in
set_option maxRecDepth 100000 in
theorem cM_peek_2 (l : Launch) (hl9 : l.stackTraces = false) (D : va_G) (cT : Nat → ClassId) (aK aV : Nat → Nat) (sz : Nat) (a0 : Nat) (a1 : Nat) (v2 : Value) (v3 : Value) (v4 : Value) (v5 : Value) (v6 : Value) (v7 : Value) (v8 : Value) (v9 : Value) (v10 : Value) (v11 : Value) (v12 : Value) (v13 : Value) (v14 : Value) (v15 : Value) (v16 : Value) (v17 : Value) (v18 : Value) (v19 : Value) (v20 : Value) (v21 : Value) (v22 : Value) (v23 : Value) (v24 : Value) (v25 : Value) (v26 : Value) (v27 : Value) (v28 : Value) (v29 : Value) (v30 : Value) (f31 : Nat → Int32) (h32 : f31 1 = 117) : xMet l yM_peek wyM_peek 0 0 0 0 D cT aK aV sz [.ref a0] [(a0, .inr (5, [v2, v3, v4, v5, v6, v7, v8, v9, v10, v11, v12, v13, v14, v15, v16, .ref a1, .int 1, .int 4, v17, v18, v19, v20, v21, v22, v23, v24, v25, v26, v27, v28, v29, v30])), (a1, .inl (cT 0, 4096, .inl f31))] (fun A => va_Qi (fun (r : Int32) (_ : Unit) => r = 117) (fun _ t => xB D xcl cT A [(a0, .inr (5, [v2, v3, v4, v5, v6, v7, v8, v9, v10, v11, v12, v13, v14, v15, v16, .ref a1, .int 1, .int 4, v17, v18, v19, v20, v21, v22, v23, v24, v25, v26, v27, v28, v29, v30])), (a1, .inl (cT 0, 4096, .inl f31))] t) A) := by
  refine Met.ofW (cc := prog_13_method_29_code) (maxL := 1) (ret := (some .int)) (by decide) rfl ?_
  intro p e s m args below meth c s₁ B hml hv
  obtain ⟨rfl, hsz, hZ, hP, hK, hD0⟩ := hv
  have hx := B.exec
  have hb := B.bytes
  have hr := B.returns
  have hts := atoms_spec (ws := wyM_peek) B.pre
  have htx := fun w h => hts w (List.mem_cons_of_mem _ h)
  have hown : s.vm.findClass "ValueBenchModel" = some m.cls := findClass_of_methodNamed B.named
  have hlocks := B.notSynchronized
  subst hsz
  have hD := hD0.self (sz := s.heap.size)
  generalize hAe : va_A [(a0, .inr (5, [v2, v3, v4, v5, v6, v7, v8, v9, v10, v11, v12, v13, v14, v15, v16, .ref a1, .int 1, .int 4, v17, v18, v19, v20, v21, v22, v23, v24, v25, v26, v27, v28, v29, v30])), (a1, .inl (cT 0, 4096, .inl f31))] s.heap.size = A at hD hZ ⊢
  have hA : ∀ q : Nat, s.heap.size ≤ q → A q := fun q h => by rw [← hAe]; exact Or.inr h
  have hS : va_S A s.heap s.heap [] := va_S.rf
  have hP : va_P D xcl [(a0, .inr (5, [v2, v3, v4, v5, v6, v7, v8, v9, v10, v11, v12, v13, v14, v15, v16, .ref a1, .int 1, .int 4, v17, v18, v19, v20, v21, v22, v23, v24, v25, v26, v27, v28, v29, v30])), (a1, .inl (cT 0, 4096, .inl f31))] s.heap := hP
  have hl := lv_entry ([.ref a0]) (n := 1) (Nat.le_of_ble_eq_true rfl)
  rw [lg_entry_eq]
  generalize (lg_sl ([.ref a0]) ++ List.replicate (1 - (lg_sl ([.ref a0])).length) Slot.unset).toArray = ls at hl ⊢
  have hl : lv_has ls 1 [(0, .ref a0)] := hl
  refine lv_aload_n hx hb dM_peek_0 rfl (lv_at hl 0 rfl) ?_
  refine va_get (D := D) (ci := 5) (v := .int 1) (C := "ValueBenchModel") (T := TM) (N := 32) hx hb htx inM hown hK hP 0 rfl rfl 16 (by decide) (htx _ kw_5_103) (fun _ h9 => h9) rfl dM_peek_1 ?_
  refine lv_aload_n hx hb dM_peek_4 rfl (lv_at hl 0 rfl) ?_
  refine va_get (D := D) (ci := 5) (v := .int 4) (C := "ValueBenchModel") (T := TM) (N := 32) hx hb htx inM hown hK hP 0 rfl rfl 17 (by decide) (htx _ kw_5_104) (fun _ h9 => h9) rfl dM_peek_5 ?_
  refine lv_icmp_ge (tgt := 27) hx hb dM_peek_8 (by decide) (fun h => ((by revert h; decide : False)).elim) (fun _ => ?_)
  refine lv_aload_n hx hb dM_peek_11 rfl (lv_at hl 0 rfl) ?_
  refine va_get (D := D) (ci := 5) (v := .ref a1) (C := "ValueBenchModel") (T := TM) (N := 32) hx hb htx inM hown hK hP 0 rfl rfl 15 (by decide) (htx _ kw_5_102) (fun _ h9 => h9) rfl dM_peek_12 ?_
  refine lv_aload_n hx hb dM_peek_15 rfl (lv_at hl 0 rfl) ?_
  refine va_get (D := D) (ci := 5) (v := .int 1) (C := "ValueBenchModel") (T := TM) (N := 32) hx hb htx inM hown hK hP 0 rfl rfl 16 (by decide) (htx _ kw_5_103) (fun _ h9 => h9) rfl dM_peek_16 ?_
  refine va_bald hx hb hK hP 1 0 rfl rfl (show ¬ ((1 : Int32) < 0 ∨ 4096 ≤ (1 : Int32).toNatClampNeg) by decide) dM_peek_19 ?_
  refine W.eq (g2 := F0 m 20 ls [.int (f31 1)]) rfl ?_
  rw [h32]
  refine W.eq (g2 := F0 m 20 ls [.int 117]) rfl ?_
  refine lv_sipush (v := 255) hx hb dM_peek_20 (by decide) ?_
  refine lv_iand hx hb dM_peek_23 ?_
  refine W.eq (g2 := F0 m 24 ls [.int 117]) rfl ?_
  refine lv_goto (tgt := 28) hx hb dM_peek_24 (by decide) ?_
  obtain ⟨hP9, hD9⟩ := xsub (wc := [(a0, .inr (5, [v2, v3, v4, v5, v6, v7, v8, v9, v10, v11, v12, v13, v14, v15, v16, .ref a1, .int 1, .int 4, v17, v18, v19, v20, v21, v22, v23, v24, v25, v26, v27, v28, v29, v30])), (a1, .inl (cT 0, 4096, .inl f31))]) hP hD [0, 1] rfl rfl (by decide)
  refine W.widen (k := 0) (n := 0) (Nat.le_of_ble_eq_true rfl) (Nat.le_of_ble_eq_true rfl) ?_
  exact W.iret (v := 117) hx hb hr (fun t ht hW => ⟨⟨117, (), rfl, rfl, by rw [ht]; exact hP9, va_K.moved hW.alike hK, hD9⟩, hS.F ht⟩) hS.2.2 dM_peek_28
set_option maxHeartbeats 400000000 in
set_option maxRecDepth 100000 in
theorem cM_peek_3 (l : Launch) (hl9 : l.stackTraces = false) (D : va_G) (cT : Nat → ClassId) (aK aV : Nat → Nat) (sz : Nat) (a0 : Nat) (a1 : Nat) (v2 : Value) (v3 : Value) (v4 : Value) (v5 : Value) (v6 : Value) (v7 : Value) (v8 : Value) (v9 : Value) (v10 : Value) (v11 : Value) (v12 : Value) (v13 : Value) (v14 : Value) (v15 : Value) (v16 : Value) (v17 : Value) (v18 : Value) (v19 : Value) (v20 : Value) (v21 : Value) (v22 : Value) (v23 : Value) (v24 : Value) (v25 : Value) (v26 : Value) (v27 : Value) (v28 : Value) (v29 : Value) (v30 : Value) (f31 : Nat → Int32) (h32 : f31 2 = 108) : xMet l yM_peek wyM_peek 0 0 0 0 D cT aK aV sz [.ref a0] [(a0, .inr (5, [v2, v3, v4, v5, v6, v7, v8, v9, v10, v11, v12, v13, v14, v15, v16, .ref a1, .int 2, .int 4, v17, v18, v19, v20, v21, v22, v23, v24, v25, v26, v27, v28, v29, v30])), (a1, .inl (cT 0, 4096, .inl f31))] (fun A => va_Qi (fun (r : Int32) (_ : Unit) => r = 108) (fun _ t => xB D xcl cT A [(a0, .inr (5, [v2, v3, v4, v5, v6, v7, v8, v9, v10, v11, v12, v13, v14, v15, v16, .ref a1, .int 2, .int 4, v17, v18, v19, v20, v21, v22, v23, v24, v25, v26, v27, v28, v29, v30])), (a1, .inl (cT 0, 4096, .inl f31))] t) A) := by
  refine Met.ofW (cc := prog_13_method_29_code) (maxL := 1) (ret := (some .int)) (by decide) rfl ?_
  intro p e s m args below meth c s₁ B hml hv
  obtain ⟨rfl, hsz, hZ, hP, hK, hD0⟩ := hv
  have hx := B.exec
  have hb := B.bytes
  have hr := B.returns
  have hts := atoms_spec (ws := wyM_peek) B.pre
  have htx := fun w h => hts w (List.mem_cons_of_mem _ h)
  have hown : s.vm.findClass "ValueBenchModel" = some m.cls := findClass_of_methodNamed B.named
  have hlocks := B.notSynchronized
  subst hsz
  have hD := hD0.self (sz := s.heap.size)
  generalize hAe : va_A [(a0, .inr (5, [v2, v3, v4, v5, v6, v7, v8, v9, v10, v11, v12, v13, v14, v15, v16, .ref a1, .int 2, .int 4, v17, v18, v19, v20, v21, v22, v23, v24, v25, v26, v27, v28, v29, v30])), (a1, .inl (cT 0, 4096, .inl f31))] s.heap.size = A at hD hZ ⊢
  have hA : ∀ q : Nat, s.heap.size ≤ q → A q := fun q h => by rw [← hAe]; exact Or.inr h
  have hS : va_S A s.heap s.heap [] := va_S.rf
  have hP : va_P D xcl [(a0, .inr (5, [v2, v3, v4, v5, v6, v7, v8, v9, v10, v11, v12, v13, v14, v15, v16, .ref a1, .int 2, .int 4, v17, v18, v19, v20, v21, v22, v23, v24, v25, v26, v27, v28, v29, v30])), (a1, .inl (cT 0, 4096, .inl f31))] s.heap := hP
  have hl := lv_entry ([.ref a0]) (n := 1) (Nat.le_of_ble_eq_true rfl)
  rw [lg_entry_eq]
  generalize (lg_sl ([.ref a0]) ++ List.replicate (1 - (lg_sl ([.ref a0])).length) Slot.unset).toArray = ls at hl ⊢
  have hl : lv_has ls 1 [(0, .ref a0)] := hl
  refine lv_aload_n hx hb dM_peek_0 rfl (lv_at hl 0 rfl) ?_
  refine va_get (D := D) (ci := 5) (v := .int 2) (C := "ValueBenchModel") (T := TM) (N := 32) hx hb htx inM hown hK hP 0 rfl rfl 16 (by decide) (htx _ kw_5_103) (fun _ h9 => h9) rfl dM_peek_1 ?_
  refine lv_aload_n hx hb dM_peek_4 rfl (lv_at hl 0 rfl) ?_
  refine va_get (D := D) (ci := 5) (v := .int 4) (C := "ValueBenchModel") (T := TM) (N := 32) hx hb htx inM hown hK hP 0 rfl rfl 17 (by decide) (htx _ kw_5_104) (fun _ h9 => h9) rfl dM_peek_5 ?_
  refine lv_icmp_ge (tgt := 27) hx hb dM_peek_8 (by decide) (fun h => ((by revert h; decide : False)).elim) (fun _ => ?_)
  refine lv_aload_n hx hb dM_peek_11 rfl (lv_at hl 0 rfl) ?_
  refine va_get (D := D) (ci := 5) (v := .ref a1) (C := "ValueBenchModel") (T := TM) (N := 32) hx hb htx inM hown hK hP 0 rfl rfl 15 (by decide) (htx _ kw_5_102) (fun _ h9 => h9) rfl dM_peek_12 ?_
  refine lv_aload_n hx hb dM_peek_15 rfl (lv_at hl 0 rfl) ?_
  refine va_get (D := D) (ci := 5) (v := .int 2) (C := "ValueBenchModel") (T := TM) (N := 32) hx hb htx inM hown hK hP 0 rfl rfl 16 (by decide) (htx _ kw_5_103) (fun _ h9 => h9) rfl dM_peek_16 ?_
  refine va_bald hx hb hK hP 1 0 rfl rfl (show ¬ ((2 : Int32) < 0 ∨ 4096 ≤ (2 : Int32).toNatClampNeg) by decide) dM_peek_19 ?_
  refine W.eq (g2 := F0 m 20 ls [.int (f31 2)]) rfl ?_
  rw [h32]
  refine W.eq (g2 := F0 m 20 ls [.int 108]) rfl ?_
  refine lv_sipush (v := 255) hx hb dM_peek_20 (by decide) ?_
  refine lv_iand hx hb dM_peek_23 ?_
  refine W.eq (g2 := F0 m 24 ls [.int 108]) rfl ?_
  refine lv_goto (tgt := 28) hx hb dM_peek_24 (by decide) ?_
  obtain ⟨hP9, hD9⟩ := xsub (wc := [(a0, .inr (5, [v2, v3, v4, v5, v6, v7, v8, v9, v10, v11, v12, v13, v14, v15, v16, .ref a1, .int 2, .int 4, v17, v18, v19, v20, v21, v22, v23, v24, v25, v26, v27, v28, v29, v30])), (a1, .inl (cT 0, 4096, .inl f31))]) hP hD [0, 1] rfl rfl (by decide)
  refine W.widen (k := 0) (n := 0) (Nat.le_of_ble_eq_true rfl) (Nat.le_of_ble_eq_true rfl) ?_
  exact W.iret (v := 108) hx hb hr (fun t ht hW => ⟨⟨108, (), rfl, rfl, by rw [ht]; exact hP9, va_K.moved hW.alike hK, hD9⟩, hS.F ht⟩) hS.2.2 dM_peek_28
set_option maxHeartbeats 400000000 in
set_option maxRecDepth 100000 in
theorem cM_peek_4 (l : Launch) (hl9 : l.stackTraces = false) (D : va_G) (cT : Nat → ClassId) (aK aV : Nat → Nat) (sz : Nat) (a0 : Nat) (a1 : Nat) (v2 : Value) (v3 : Value) (v4 : Value) (v5 : Value) (v6 : Value) (v7 : Value) (v8 : Value) (v9 : Value) (v10 : Value) (v11 : Value) (v12 : Value) (v13 : Value) (v14 : Value) (v15 : Value) (v16 : Value) (v17 : Value) (v18 : Value) (v19 : Value) (v20 : Value) (v21 : Value) (v22 : Value) (v23 : Value) (v24 : Value) (v25 : Value) (v26 : Value) (v27 : Value) (v28 : Value) (v29 : Value) (v30 : Value) (f31 : Nat → Int32) (h32 : f31 3 = 108) : xMet l yM_peek wyM_peek 0 0 0 0 D cT aK aV sz [.ref a0] [(a0, .inr (5, [v2, v3, v4, v5, v6, v7, v8, v9, v10, v11, v12, v13, v14, v15, v16, .ref a1, .int 3, .int 4, v17, v18, v19, v20, v21, v22, v23, v24, v25, v26, v27, v28, v29, v30])), (a1, .inl (cT 0, 4096, .inl f31))] (fun A => va_Qi (fun (r : Int32) (_ : Unit) => r = 108) (fun _ t => xB D xcl cT A [(a0, .inr (5, [v2, v3, v4, v5, v6, v7, v8, v9, v10, v11, v12, v13, v14, v15, v16, .ref a1, .int 3, .int 4, v17, v18, v19, v20, v21, v22, v23, v24, v25, v26, v27, v28, v29, v30])), (a1, .inl (cT 0, 4096, .inl f31))] t) A) := by
  refine Met.ofW (cc := prog_13_method_29_code) (maxL := 1) (ret := (some .int)) (by decide) rfl ?_
  intro p e s m args below meth c s₁ B hml hv
  obtain ⟨rfl, hsz, hZ, hP, hK, hD0⟩ := hv
  have hx := B.exec
  have hb := B.bytes
  have hr := B.returns
  have hts := atoms_spec (ws := wyM_peek) B.pre
  have htx := fun w h => hts w (List.mem_cons_of_mem _ h)
  have hown : s.vm.findClass "ValueBenchModel" = some m.cls := findClass_of_methodNamed B.named
  have hlocks := B.notSynchronized
  subst hsz
  have hD := hD0.self (sz := s.heap.size)
  generalize hAe : va_A [(a0, .inr (5, [v2, v3, v4, v5, v6, v7, v8, v9, v10, v11, v12, v13, v14, v15, v16, .ref a1, .int 3, .int 4, v17, v18, v19, v20, v21, v22, v23, v24, v25, v26, v27, v28, v29, v30])), (a1, .inl (cT 0, 4096, .inl f31))] s.heap.size = A at hD hZ ⊢
  have hA : ∀ q : Nat, s.heap.size ≤ q → A q := fun q h => by rw [← hAe]; exact Or.inr h
  have hS : va_S A s.heap s.heap [] := va_S.rf
  have hP : va_P D xcl [(a0, .inr (5, [v2, v3, v4, v5, v6, v7, v8, v9, v10, v11, v12, v13, v14, v15, v16, .ref a1, .int 3, .int 4, v17, v18, v19, v20, v21, v22, v23, v24, v25, v26, v27, v28, v29, v30])), (a1, .inl (cT 0, 4096, .inl f31))] s.heap := hP
  have hl := lv_entry ([.ref a0]) (n := 1) (Nat.le_of_ble_eq_true rfl)
  rw [lg_entry_eq]
  generalize (lg_sl ([.ref a0]) ++ List.replicate (1 - (lg_sl ([.ref a0])).length) Slot.unset).toArray = ls at hl ⊢
  have hl : lv_has ls 1 [(0, .ref a0)] := hl
  refine lv_aload_n hx hb dM_peek_0 rfl (lv_at hl 0 rfl) ?_
  refine va_get (D := D) (ci := 5) (v := .int 3) (C := "ValueBenchModel") (T := TM) (N := 32) hx hb htx inM hown hK hP 0 rfl rfl 16 (by decide) (htx _ kw_5_103) (fun _ h9 => h9) rfl dM_peek_1 ?_
  refine lv_aload_n hx hb dM_peek_4 rfl (lv_at hl 0 rfl) ?_
  refine va_get (D := D) (ci := 5) (v := .int 4) (C := "ValueBenchModel") (T := TM) (N := 32) hx hb htx inM hown hK hP 0 rfl rfl 17 (by decide) (htx _ kw_5_104) (fun _ h9 => h9) rfl dM_peek_5 ?_
  refine lv_icmp_ge (tgt := 27) hx hb dM_peek_8 (by decide) (fun h => ((by revert h; decide : False)).elim) (fun _ => ?_)
  refine lv_aload_n hx hb dM_peek_11 rfl (lv_at hl 0 rfl) ?_
  refine va_get (D := D) (ci := 5) (v := .ref a1) (C := "ValueBenchModel") (T := TM) (N := 32) hx hb htx inM hown hK hP 0 rfl rfl 15 (by decide) (htx _ kw_5_102) (fun _ h9 => h9) rfl dM_peek_12 ?_
  refine lv_aload_n hx hb dM_peek_15 rfl (lv_at hl 0 rfl) ?_
  refine va_get (D := D) (ci := 5) (v := .int 3) (C := "ValueBenchModel") (T := TM) (N := 32) hx hb htx inM hown hK hP 0 rfl rfl 16 (by decide) (htx _ kw_5_103) (fun _ h9 => h9) rfl dM_peek_16 ?_
  refine va_bald hx hb hK hP 1 0 rfl rfl (show ¬ ((3 : Int32) < 0 ∨ 4096 ≤ (3 : Int32).toNatClampNeg) by decide) dM_peek_19 ?_
  refine W.eq (g2 := F0 m 20 ls [.int (f31 3)]) rfl ?_
  rw [h32]
  refine W.eq (g2 := F0 m 20 ls [.int 108]) rfl ?_
  refine lv_sipush (v := 255) hx hb dM_peek_20 (by decide) ?_
  refine lv_iand hx hb dM_peek_23 ?_
  refine W.eq (g2 := F0 m 24 ls [.int 108]) rfl ?_
  refine lv_goto (tgt := 28) hx hb dM_peek_24 (by decide) ?_
  obtain ⟨hP9, hD9⟩ := xsub (wc := [(a0, .inr (5, [v2, v3, v4, v5, v6, v7, v8, v9, v10, v11, v12, v13, v14, v15, v16, .ref a1, .int 3, .int 4, v17, v18, v19, v20, v21, v22, v23, v24, v25, v26, v27, v28, v29, v30])), (a1, .inl (cT 0, 4096, .inl f31))]) hP hD [0, 1] rfl rfl (by decide)
  refine W.widen (k := 0) (n := 0) (Nat.le_of_ble_eq_true rfl) (Nat.le_of_ble_eq_true rfl) ?_
  exact W.iret (v := 108) hx hb hr (fun t ht hW => ⟨⟨108, (), rfl, rfl, by rw [ht]; exact hP9, va_K.moved hW.alike hK, hD9⟩, hS.F ht⟩) hS.2.2 dM_peek_28
set_option maxHeartbeats 400000000 in
set_option maxRecDepth 100000 in
theorem cV_init_0 (l : Launch) (hl9 : l.stackTraces = false) (D : va_G) (cT : Nat → ClassId) (aK aV : Nat → Nat) (sz : Nat) (b0 : Nat) : xMet l yV_init wyV_init 1 0 0 12 D cT aK aV sz [.ref b0] [] (fun A => va_Qv (fun _ : Unit => True) (fun _ t => xB D xcl cT A [] t) A) := by
  refine Met.ofW (cc := prog_14_method_1_code) (maxL := 1) (ret := none) (by decide) rfl ?_
  intro p e s m args below meth c s₁ B hml hv
  obtain ⟨rfl, hsz, hZ, hP, hK, hD0⟩ := hv
  have hx := B.exec
  have hb := B.bytes
  have hr := B.returns
  have hts := atoms_spec (ws := wyV_init) B.pre
  have htx := fun w h => hts w (List.mem_cons_of_mem _ h)
  have hown : s.vm.findClass "ValueBenchModel$V" = some m.cls := findClass_of_methodNamed B.named
  have hlocks := B.notSynchronized
  have hin : meth.name = "<init>" := (name_of_methodNamed B.named B.method).1
  subst hsz
  have hD := hD0.self (sz := s.heap.size)
  generalize hAe : va_A [] s.heap.size = A at hD hZ ⊢
  have hA : ∀ q : Nat, s.heap.size ≤ q → A q := fun q h => by rw [← hAe]; exact Or.inr h
  have hS : va_S A s.heap s.heap [] := va_S.rf
  have hP : va_P D xcl [] s.heap := hP
  have hl := lv_entry ([.ref b0]) (n := 1) (Nat.le_of_ble_eq_true rfl)
  rw [lg_entry_eq]
  generalize (lg_sl ([.ref b0]) ++ List.replicate (1 - (lg_sl ([.ref b0])).length) Slot.unset).toArray = ls at hl ⊢
  have hl : lv_has ls 1 [(0, .ref b0)] := hl
  refine lv_aload_n hx hb dV_init_0 rfl (lv_at hl 0 rfl) ?_
  refine W.objInit hx hb hown (htx _ kw_6_21) (htx _ kw_1_35) (htx _ kw_1_36) rfl (by rw [hml]; exact hl.1) rfl dV_init_1 (Nat.le_of_ble_eq_true rfl) (Nat.le_of_ble_eq_true rfl) ?_
  refine W.eq (g2 := F0 m 4 ls []) rfl ?_
  obtain ⟨hP9, hD9⟩ := xsub (wc := []) hP hD [] rfl rfl (by decide)
  refine W.widen (k := 0) (n := 0) (Nat.le_of_ble_eq_true rfl) (Nat.le_of_ble_eq_true rfl) ?_
  exact W.vret hx hb hr (fun t ht hW => ⟨⟨(), rfl, trivial, by rw [ht]; exact hP9, va_K.moved hW.alike hK, hD9⟩, hS.F ht⟩) hS.2.2 dV_init_4
set_option maxHeartbeats 400000000 in
set_option maxRecDepth 100000 in
theorem cM_fresh_0 (l : Launch) (hl9 : l.stackTraces = false) (D : va_G) (cT : Nat → ClassId) (aK aV : Nat → Nat) (sz : Nat) (a0 : Nat) (a1 : Nat) (v2 : Value) (v3 : Value) (v4 : Value) (v5 : Value) (v6 : Value) (v7 : Value) (v8 : Value) (v9 : Value) (v10 : Value) (v11 : Value) (v12 : Value) (v13 : Value) (v14 : Value) (v15 : Value) (v16 : Value) (v17 : Value) (v18 : Value) (v19 : Value) (v20 : Value) (v21 : Value) (v22 : Value) (v23 : Value) (v24 : Value) (v25 : Value) (v26 : Value) (v27 : Value) (v28 : Value) (v29 : Value) (v30 : Value) (v31 : Value) (f32 : Nat → Option Nat) (h33 : f32 0 = none) : xMet l yM_fresh wyM_fresh 2 1 6 32 D cT aK aV sz [.ref a0, .int 0] [(a0, .inr (5, [v2, .ref a1, .int 0, v3, v4, v5, v6, v7, v8, v9, v10, v11, v12, v13, v14, v15, v16, v17, v18, v19, v20, v21, v22, v23, v24, v25, v26, v27, v28, v29, v30, v31])), (a1, .inl (cT 4, 1024, .inr (.inr (.inr (.inr f32)))))] (fun A => va_Qr (fun _ : Unit => True) (fun _ q1 t => xB D xcl cT A [(a0, .inr (5, [v2, .ref a1, .int 1, v3, v4, v5, v6, v7, v8, v9, v10, v11, v12, v13, v14, v15, v16, v17, v18, v19, v20, v21, v22, v23, v24, v25, v26, v27, v28, v29, v30, v31])), (a1, .inl (cT 4, 1024, .inr (.inr (.inr (.inr (va_up f32 0 (some q1))))))), (q1, .inr (6, [.int 0, .long 0, .int 0, .int 0, .int 0, .int 1]))] t) A) := by
  refine Met.ofW (cc := prog_13_method_6_code) (maxL := 4) (ret := (some (.object "ValueBenchModel$V"))) (by decide) rfl ?_
  intro p e s m args below meth c s₁ B hml hv
  obtain ⟨rfl, hsz, hZ, hP, hK, hD0⟩ := hv
  have hx := B.exec
  have hb := B.bytes
  have hr := B.returns
  have hts := atoms_spec (ws := wyM_fresh) B.pre
  have htx := fun w h => hts w (List.mem_cons_of_mem _ h)
  have hown : s.vm.findClass "ValueBenchModel" = some m.cls := findClass_of_methodNamed B.named
  have hlocks := B.notSynchronized
  subst hsz
  have hD := hD0.self (sz := s.heap.size)
  generalize hAe : va_A [(a0, .inr (5, [v2, .ref a1, .int 0, v3, v4, v5, v6, v7, v8, v9, v10, v11, v12, v13, v14, v15, v16, v17, v18, v19, v20, v21, v22, v23, v24, v25, v26, v27, v28, v29, v30, v31])), (a1, .inl (cT 4, 1024, .inr (.inr (.inr (.inr f32)))))] s.heap.size = A at hD hZ ⊢
  have hA : ∀ q : Nat, s.heap.size ≤ q → A q := fun q h => by rw [← hAe]; exact Or.inr h
  have hS : va_S A s.heap s.heap [] := va_S.rf
  have hP : va_P D xcl [(a0, .inr (5, [v2, .ref a1, .int 0, v3, v4, v5, v6, v7, v8, v9, v10, v11, v12, v13, v14, v15, v16, v17, v18, v19, v20, v21, v22, v23, v24, v25, v26, v27, v28, v29, v30, v31])), (a1, .inl (cT 4, 1024, .inr (.inr (.inr (.inr f32)))))] s.heap := hP
  have hl := lv_entry ([.ref a0, .int 0]) (n := 4) (Nat.le_of_ble_eq_true rfl)
  rw [lg_entry_eq]
  generalize (lg_sl ([.ref a0, .int 0]) ++ List.replicate (4 - (lg_sl ([.ref a0, .int 0])).length) Slot.unset).toArray = ls at hl ⊢
  have hl : lv_has ls 4 [(0, .ref a0), (1, .int 0)] := hl
  refine lv_aload_n hx hb dM_fresh_0 rfl (lv_at hl 0 rfl) ?_
  refine va_get (D := D) (ci := 5) (v := .int 0) (C := "ValueBenchModel") (T := TM) (N := 32) hx hb htx inM hown hK hP 0 rfl rfl 2 (by decide) (htx _ kw_5_89) (fun _ h9 => h9) rfl dM_fresh_1 ?_
  refine lv_aload_n hx hb dM_fresh_4 rfl (lv_at hl 0 rfl) ?_
  refine va_get (D := D) (ci := 5) (v := .ref a1) (C := "ValueBenchModel") (T := TM) (N := 32) hx hb htx inM hown hK hP 0 rfl rfl 1 (by decide) (htx _ kw_5_88) (fun _ h9 => h9) rfl dM_fresh_5 ?_
  refine va_alen (v := 1024) hx hb hK hP 1 4 rfl rfl rfl dM_fresh_8 ?_
  refine lv_icmp_ne (tgt := 52) hx hb dM_fresh_9 (by decide) (fun _ => ?_) (fun h => ((by revert h; decide : False)).elim)
  refine lv_aload_n hx hb dM_fresh_52 rfl (lv_at hl 0 rfl) ?_
  refine va_get (D := D) (ci := 5) (v := .ref a1) (C := "ValueBenchModel") (T := TM) (N := 32) hx hb htx inM hown hK hP 0 rfl rfl 1 (by decide) (htx _ kw_5_88) (fun _ h9 => h9) rfl dM_fresh_53 ?_
  refine lv_aload_n hx hb dM_fresh_56 rfl (lv_at hl 0 rfl) ?_
  refine va_get (D := D) (ci := 5) (v := .int 0) (C := "ValueBenchModel") (T := TM) (N := 32) hx hb htx inM hown hK hP 0 rfl rfl 2 (by decide) (htx _ kw_5_89) (fun _ h9 => h9) rfl dM_fresh_57 ?_
  refine va_aldq hx hb hK hP 1 4 rfl rfl (show ¬ ((0 : Int32) < 0 ∨ 1024 ≤ (0 : Int32).toNatClampNeg) by decide) dM_fresh_60 ?_
  refine W.eq (g2 := F0 m 61 ls [va_rf (f32 0)]) rfl ?_
  rw [h33]
  refine W.eq (g2 := F0 m 61 ls [.null]) rfl ?_
  refine lv_ifnonnullN hx hb dM_fresh_61 ?_
  refine lv_aload_n hx hb dM_fresh_64 rfl (lv_at hl 0 rfl) ?_
  refine va_get (D := D) (ci := 5) (v := .ref a1) (C := "ValueBenchModel") (T := TM) (N := 32) hx hb htx inM hown hK hP 0 rfl rfl 1 (by decide) (htx _ kw_5_88) (fun _ h9 => h9) rfl dM_fresh_65 ?_
  refine lv_aload_n hx hb dM_fresh_68 rfl (lv_at hl 0 rfl) ?_
  refine va_get (D := D) (ci := 5) (v := .int 0) (C := "ValueBenchModel") (T := TM) (N := 32) hx hb htx inM hown hK hP 0 rfl rfl 2 (by decide) (htx _ kw_5_89) (fun _ h9 => h9) rfl dM_fresh_69 ?_
  refine va_new (ci := 6) (fs := [.int 0, .long 0, .int 0, .int 0, .int 0, .int 0]) (C := "ValueBenchModel$V") (T := TV) (N := 6) hx hb htx inV tyV tyV_ok hown (htx _ kw_5_80) (htx _ kw_6_17) (htx _ kw_1_19) hK hP hD hS hA rfl (by decide +kernel) (Nat.le_of_ble_eq_true rfl) (Nat.le_of_ble_eq_true rfl) dM_fresh_72 (fun q1 H hP hD hS => ?_)
  obtain ⟨hP, hD⟩ : xPD D xcl A [(a0, .inr (5, [v2, .ref a1, .int 0, v3, v4, v5, v6, v7, v8, v9, v10, v11, v12, v13, v14, v15, v16, v17, v18, v19, v20, v21, v22, v23, v24, v25, v26, v27, v28, v29, v30, v31])), (a1, .inl (cT 4, 1024, .inr (.inr (.inr (.inr f32))))), (q1, .inr (6, [.int 0, .long 0, .int 0, .int 0, .int 0, .int 0]))] H := ⟨hP, hD⟩
  refine lv_dup hx hb dM_fresh_75 rfl ?_
  obtain ⟨hPc, hDc, hFc⟩ := xcut (wc := []) hP hD hS hA [] rfl rfl (by decide)
  refine va_callv (va_runIN (As := []) (rest := [.ref q1, .int 0, .ref a1]) ⟨hx, hb, hml, hown, htx⟩ (cV_init_0 l hl9 D cT aK aV H.size q1) ⟨va_cnB (host := "ValueBenchModel") 0 htx (xw_goodC kw_6_20) rfl rfl rfl (hZ.2.1 ("ValueBenchModel", 92, yV_init) (List.mem_of_getElem? (i := 3) rfl)) (htx _ kw_1_19) ⟨by decide, by decide, by decide +kernel⟩ ⟨Nat.le_of_ble_eq_true rfl, Nat.le_of_ble_eq_true rfl⟩, rfl, (htx _ kw_6_19)⟩ ⟨xPre_blind, (fun U hU hW => ⟨rfl, xPre_of hZ hS hFc hPc hDc hK U hU hW⟩)⟩ rfl rfl hl.1 rfl (lv_room (Nat.le_of_ble_eq_true rfl)) dM_fresh_76 ⟨Nat.le_of_ble_eq_true rfl, Nat.le_of_ble_eq_true rfl⟩) hS (fun q _ h => hFc q h) hFc (fun u9 t H1 locs ht hvm hr9 hB hz1 hk1 hS => ?_)
  obtain ⟨hP1, hK1, hD1⟩ := hB
  rw [ht] at hP1
  obtain ⟨hP, hD⟩ := xjoin (W := [(a0, .inr (5, [v2, .ref a1, .int 0, v3, v4, v5, v6, v7, v8, v9, v10, v11, v12, v13, v14, v15, v16, v17, v18, v19, v20, v21, v22, v23, v24, v25, v26, v27, v28, v29, v30, v31])), (a1, .inl (cT 4, 1024, .inr (.inr (.inr (.inr f32))))), (q1, .inr (6, [.int 0, .long 0, .int 0, .int 0, .int 0, .int 0]))]) hP hD [] [0, 1, 2] 3 rfl rfl (by decide) (by decide) hk1 hFc hP1 hD1
  generalize H1 = H at hP hS ⊢
  refine va_astq (r := ("ValueBenchModel$V", TV, 6)) hx hb hK hP hD hS 1 4 2 6 rfl rfl rfl rfl (show ¬ ((0 : Int32) < 0 ∨ 1024 ≤ (0 : Int32).toNatClampNeg) by decide) dM_fresh_79 (fun H locs hP hD hS => ?_)
  obtain ⟨hP, hD⟩ : xPD D xcl A [(a0, .inr (5, [v2, .ref a1, .int 0, v3, v4, v5, v6, v7, v8, v9, v10, v11, v12, v13, v14, v15, v16, v17, v18, v19, v20, v21, v22, v23, v24, v25, v26, v27, v28, v29, v30, v31])), (a1, .inl (cT 4, 1024, .inr (.inr (.inr (.inr (va_up f32 0 (some q1))))))), (q1, .inr (6, [.int 0, .long 0, .int 0, .int 0, .int 0, .int 0]))] H := ⟨hP, hD⟩
  refine lv_aload_n hx hb dM_fresh_80 rfl (lv_at hl 0 rfl) ?_
  refine va_get (D := D) (ci := 5) (v := .ref a1) (C := "ValueBenchModel") (T := TM) (N := 32) hx hb htx inM hown hK hP 0 rfl rfl 1 (by decide) (htx _ kw_5_88) (fun _ h9 => h9) rfl dM_fresh_81 ?_
  refine lv_aload_n hx hb dM_fresh_84 rfl (lv_at hl 0 rfl) ?_
  refine va_get (D := D) (ci := 5) (v := .int 0) (C := "ValueBenchModel") (T := TM) (N := 32) hx hb htx inM hown hK hP 0 rfl rfl 2 (by decide) (htx _ kw_5_89) (fun _ h9 => h9) rfl dM_fresh_85 ?_
  refine va_aldq hx hb hK hP 1 4 rfl rfl (show ¬ ((0 : Int32) < 0 ∨ 1024 ≤ (0 : Int32).toNatClampNeg) by decide) dM_fresh_88 ?_
  refine W.eq (g2 := F0 m 89 ls [.ref q1]) rfl ?_
  refine lv_astore_n (lv' := [(2, .ref q1), (0, .ref a0), (1, .int 0)]) hx hb dM_fresh_89 rfl hl (by decide) rfl (fun ls hl => ?_)
  refine lv_aload_n hx hb dM_fresh_90 rfl (lv_at hl 1 rfl) ?_
  refine lv_dup hx hb dM_fresh_91 rfl ?_
  refine va_get (D := D) (ci := 5) (v := .int 0) (C := "ValueBenchModel") (T := TM) (N := 32) hx hb htx inM hown hK hP 0 rfl rfl 2 (by decide) (htx _ kw_5_89) (fun _ h9 => h9) rfl dM_fresh_92 ?_
  refine lv_iconst (v := 1) hx hb dM_fresh_95 (by decide) ?_
  refine lv_iadd hx hb dM_fresh_96 ?_
  refine W.eq (g2 := F0 m 97 ls [.int 1, .ref a0]) rfl ?_
  refine va_put (D := D) (ci := 5) (v := .int 1) (ty := .int) (C := "ValueBenchModel") (T := TM) (N := 32) hx hb htx inM tyM tyM_ok nmM hown hK hP hD hS 0 rfl rfl 2 (by decide) (htx _ kw_5_89) (fun _ h9 => h9) rfl (by decide +kernel) rfl rfl (Nat.le_of_ble_eq_true rfl) dM_fresh_97 (fun H locs hP hD hS => ?_)
  obtain ⟨hP, hD⟩ : xPD D xcl A [(a0, .inr (5, [v2, .ref a1, .int 1, v3, v4, v5, v6, v7, v8, v9, v10, v11, v12, v13, v14, v15, v16, v17, v18, v19, v20, v21, v22, v23, v24, v25, v26, v27, v28, v29, v30, v31])), (a1, .inl (cT 4, 1024, .inr (.inr (.inr (.inr (va_up f32 0 (some q1))))))), (q1, .inr (6, [.int 0, .long 0, .int 0, .int 0, .int 0, .int 0]))] H := ⟨hP, hD⟩
  refine lv_aload_n hx hb dM_fresh_100 rfl (lv_at hl 0 rfl) ?_
  refine lv_iload_n hx hb dM_fresh_101 rfl (lv_at hl 2 rfl) ?_
  refine va_putN (D := D) (ci := 6) (v := .int 0) (ty := .int) (C := "ValueBenchModel$V") (T := TV) (N := 6) hx hb htx inV tyV tyV_ok nmV hown hK hP hD hS 2 rfl rfl 0 (by decide) ((hZ.1 (93, "kind", "I") (List.mem_of_getElem? (i := 0) rfl)).use rfl) (fun _ h9 => h9) rfl (by decide +kernel) rfl rfl (Nat.le_of_ble_eq_true rfl) dM_fresh_102 (fun H locs hP hD hS => ?_)
  obtain ⟨hP, hD⟩ : xPD D xcl A [(a0, .inr (5, [v2, .ref a1, .int 1, v3, v4, v5, v6, v7, v8, v9, v10, v11, v12, v13, v14, v15, v16, v17, v18, v19, v20, v21, v22, v23, v24, v25, v26, v27, v28, v29, v30, v31])), (a1, .inl (cT 4, 1024, .inr (.inr (.inr (.inr (va_up f32 0 (some q1))))))), (q1, .inr (6, [.int 0, .long 0, .int 0, .int 0, .int 0, .int 0]))] H := ⟨hP, hD⟩
  refine lv_aload_n hx hb dM_fresh_105 rfl (lv_at hl 0 rfl) ?_
  refine lv_lconst (v := 0) hx hb dM_fresh_106 (by decide) ?_
  refine va_putN (D := D) (ci := 6) (v := .long 0) (ty := .long) (C := "ValueBenchModel$V") (T := TV) (N := 6) hx hb htx inV tyV tyV_ok nmV hown hK hP hD hS 2 rfl rfl 1 (by decide) ((hZ.1 (96, "n", "J") (List.mem_of_getElem? (i := 1) rfl)).use rfl) (fun _ h9 => h9) rfl (by decide +kernel) rfl rfl (Nat.le_of_ble_eq_true rfl) dM_fresh_107 (fun H locs hP hD hS => ?_)
  obtain ⟨hP, hD⟩ : xPD D xcl A [(a0, .inr (5, [v2, .ref a1, .int 1, v3, v4, v5, v6, v7, v8, v9, v10, v11, v12, v13, v14, v15, v16, v17, v18, v19, v20, v21, v22, v23, v24, v25, v26, v27, v28, v29, v30, v31])), (a1, .inl (cT 4, 1024, .inr (.inr (.inr (.inr (va_up f32 0 (some q1))))))), (q1, .inr (6, [.int 0, .long 0, .int 0, .int 0, .int 0, .int 0]))] H := ⟨hP, hD⟩
  refine lv_aload_n hx hb dM_fresh_110 rfl (lv_at hl 0 rfl) ?_
  refine lv_iconst (v := 0) hx hb dM_fresh_111 (by decide) ?_
  refine va_putN (D := D) (ci := 6) (v := .int 0) (ty := .int) (C := "ValueBenchModel$V") (T := TV) (N := 6) hx hb htx inV tyV tyV_ok nmV hown hK hP hD hS 2 rfl rfl 2 (by decide) ((hZ.1 (100, "off", "I") (List.mem_of_getElem? (i := 2) rfl)).use rfl) (fun _ h9 => h9) rfl (by decide +kernel) rfl rfl (Nat.le_of_ble_eq_true rfl) dM_fresh_112 (fun H locs hP hD hS => ?_)
  obtain ⟨hP, hD⟩ : xPD D xcl A [(a0, .inr (5, [v2, .ref a1, .int 1, v3, v4, v5, v6, v7, v8, v9, v10, v11, v12, v13, v14, v15, v16, v17, v18, v19, v20, v21, v22, v23, v24, v25, v26, v27, v28, v29, v30, v31])), (a1, .inl (cT 4, 1024, .inr (.inr (.inr (.inr (va_up f32 0 (some q1))))))), (q1, .inr (6, [.int 0, .long 0, .int 0, .int 0, .int 0, .int 0]))] H := ⟨hP, hD⟩
  refine lv_aload_n hx hb dM_fresh_115 rfl (lv_at hl 0 rfl) ?_
  refine lv_iconst (v := 0) hx hb dM_fresh_116 (by decide) ?_
  refine va_putN (D := D) (ci := 6) (v := .int 0) (ty := .int) (C := "ValueBenchModel$V") (T := TV) (N := 6) hx hb htx inV tyV tyV_ok nmV hown hK hP hD hS 2 rfl rfl 3 (by decide) ((hZ.1 (103, "count", "I") (List.mem_of_getElem? (i := 3) rfl)).use rfl) (fun _ h9 => h9) rfl (by decide +kernel) rfl rfl (Nat.le_of_ble_eq_true rfl) dM_fresh_117 (fun H locs hP hD hS => ?_)
  obtain ⟨hP, hD⟩ : xPD D xcl A [(a0, .inr (5, [v2, .ref a1, .int 1, v3, v4, v5, v6, v7, v8, v9, v10, v11, v12, v13, v14, v15, v16, v17, v18, v19, v20, v21, v22, v23, v24, v25, v26, v27, v28, v29, v30, v31])), (a1, .inl (cT 4, 1024, .inr (.inr (.inr (.inr (va_up f32 0 (some q1))))))), (q1, .inr (6, [.int 0, .long 0, .int 0, .int 0, .int 0, .int 0]))] H := ⟨hP, hD⟩
  refine lv_aload_n hx hb dM_fresh_120 rfl (lv_at hl 0 rfl) ?_
  refine lv_iconst (v := 0) hx hb dM_fresh_121 (by decide) ?_
  refine va_putN (D := D) (ci := 6) (v := .int 0) (ty := .int) (C := "ValueBenchModel$V") (T := TV) (N := 6) hx hb htx inV tyV tyV_ok nmV hown hK hP hD hS 2 rfl rfl 4 (by decide) ((hZ.1 (106, "depth", "I") (List.mem_of_getElem? (i := 4) rfl)).use rfl) (fun _ h9 => h9) rfl (by decide +kernel) rfl rfl (Nat.le_of_ble_eq_true rfl) dM_fresh_122 (fun H locs hP hD hS => ?_)
  obtain ⟨hP, hD⟩ : xPD D xcl A [(a0, .inr (5, [v2, .ref a1, .int 1, v3, v4, v5, v6, v7, v8, v9, v10, v11, v12, v13, v14, v15, v16, v17, v18, v19, v20, v21, v22, v23, v24, v25, v26, v27, v28, v29, v30, v31])), (a1, .inl (cT 4, 1024, .inr (.inr (.inr (.inr (va_up f32 0 (some q1))))))), (q1, .inr (6, [.int 0, .long 0, .int 0, .int 0, .int 0, .int 0]))] H := ⟨hP, hD⟩
  refine lv_aload_n hx hb dM_fresh_125 rfl (lv_at hl 0 rfl) ?_
  refine lv_iconst (v := 1) hx hb dM_fresh_126 (by decide) ?_
  refine va_putN (D := D) (ci := 6) (v := .int 1) (ty := .int) (C := "ValueBenchModel$V") (T := TV) (N := 6) hx hb htx inV tyV tyV_ok nmV hown hK hP hD hS 2 rfl rfl 5 (by decide) ((hZ.1 (109, "weight", "I") (List.mem_of_getElem? (i := 5) rfl)).use rfl) (fun _ h9 => h9) rfl (by decide +kernel) rfl rfl (Nat.le_of_ble_eq_true rfl) dM_fresh_127 (fun H locs hP hD hS => ?_)
  obtain ⟨hP, hD⟩ : xPD D xcl A [(a0, .inr (5, [v2, .ref a1, .int 1, v3, v4, v5, v6, v7, v8, v9, v10, v11, v12, v13, v14, v15, v16, v17, v18, v19, v20, v21, v22, v23, v24, v25, v26, v27, v28, v29, v30, v31])), (a1, .inl (cT 4, 1024, .inr (.inr (.inr (.inr (va_up f32 0 (some q1))))))), (q1, .inr (6, [.int 0, .long 0, .int 0, .int 0, .int 0, .int 1]))] H := ⟨hP, hD⟩
  refine lv_aload_n hx hb dM_fresh_130 rfl (lv_at hl 0 rfl) ?_
  obtain ⟨hP9, hD9⟩ := xsub (wc := [(a0, .inr (5, [v2, .ref a1, .int 1, v3, v4, v5, v6, v7, v8, v9, v10, v11, v12, v13, v14, v15, v16, v17, v18, v19, v20, v21, v22, v23, v24, v25, v26, v27, v28, v29, v30, v31])), (a1, .inl (cT 4, 1024, .inr (.inr (.inr (.inr (va_up f32 0 (some q1))))))), (q1, .inr (6, [.int 0, .long 0, .int 0, .int 0, .int 0, .int 1]))]) hP hD [0, 1, 2] rfl rfl (by decide)
  refine W.widen (k := 1) (n := 6) (Nat.le_of_ble_eq_true rfl) (Nat.le_of_ble_eq_true rfl) ?_
  exact W.aret hx hb hr (Or.inl ⟨_, rfl⟩) (Or.inr ⟨_, rfl⟩) (fun t ht hW => ⟨⟨(), q1, rfl, trivial, by rw [ht]; exact hP9, va_K.moved hW.alike hK, hD9⟩, hS.F ht⟩) hS.2.2 dM_fresh_131
set_option maxHeartbeats 400000000 in
set_option maxRecDepth 100000 in
theorem cM_says_0 (l : Launch) (hl9 : l.stackTraces = false) (D : va_G) (cT : Nat → ClassId) (aK aV : Nat → Nat) (sz : Nat) (a0 : Nat) (a1 : Nat) (a2 : Nat) (v3 : Value) (v4 : Value) (v5 : Value) (v6 : Value) (v7 : Value) (v8 : Value) (v9 : Value) (v10 : Value) (v11 : Value) (v12 : Value) (v13 : Value) (v14 : Value) (v15 : Value) (v16 : Value) (v17 : Value) (v18 : Value) (v19 : Value) (v20 : Value) (v21 : Value) (v22 : Value) (v23 : Value) (v24 : Value) (v25 : Value) (v26 : Value) (v27 : Value) (v28 : Value) (v29 : Value) (f30 : Nat → Int32) (f35 : Nat → Option Nat) (h31 : f30 0 = 110) (h32 : f30 1 = 117) (h33 : f30 2 = 108) (h34 : f30 3 = 108) (h36 : f35 0 = none) : xMet l yM_says wyM_says 4 1 6 85 D cT aK aV sz [.ref a0, .ref (aK 10), .int 0] [(a0, .inr (5, [v3, .ref a2, .int 0, v4, v5, v6, v7, v8, v9, v10, v11, v12, v13, v14, v15, .ref a1, .int 0, .int 4, v16, v17, v18, v19, v20, v21, v22, v23, v24, v25, v26, v27, v28, v29])), (a1, .inl (cT 0, 4096, .inl f30)), (a2, .inl (cT 4, 1024, .inr (.inr (.inr (.inr f35)))))] (fun A => va_Qr (fun _ : Unit => True) (fun _ r14 t => xB D xcl cT A [(a0, .inr (5, [v3, .ref a2, .int 1, v4, v5, v6, v7, v8, v9, v10, v11, v12, v13, v14, v15, .ref a1, .int 4, .int 4, v16, v17, v18, v19, v20, v21, v22, v23, v24, v25, v26, v27, v28, v29])), (a1, .inl (cT 0, 4096, .inl f30)), (a2, .inl (cT 4, 1024, .inr (.inr (.inr (.inr (va_up f35 0 (some r14))))))), (r14, .inr (6, [.int 0, .long 0, .int 0, .int 0, .int 0, .int 1]))] t) A) := by
  refine Met.ofW (cc := prog_13_method_33_code) (maxL := 4) (ret := (some (.object "ValueBenchModel$V"))) (by decide) rfl ?_
  intro p e s m args below meth c s₁ B hml hv
  obtain ⟨rfl, hsz, hZ, hP, hK, hD0⟩ := hv
  have hx := B.exec
  have hb := B.bytes
  have hr := B.returns
  have hts := atoms_spec (ws := wyM_says) B.pre
  have htx := fun w h => hts w (List.mem_cons_of_mem _ h)
  have hown : s.vm.findClass "ValueBenchModel" = some m.cls := findClass_of_methodNamed B.named
  have hlocks := B.notSynchronized
  subst hsz
  have hD := hD0.self (sz := s.heap.size)
  generalize hAe : va_A [(a0, .inr (5, [v3, .ref a2, .int 0, v4, v5, v6, v7, v8, v9, v10, v11, v12, v13, v14, v15, .ref a1, .int 0, .int 4, v16, v17, v18, v19, v20, v21, v22, v23, v24, v25, v26, v27, v28, v29])), (a1, .inl (cT 0, 4096, .inl f30)), (a2, .inl (cT 4, 1024, .inr (.inr (.inr (.inr f35)))))] s.heap.size = A at hD hZ ⊢
  have hA : ∀ q : Nat, s.heap.size ≤ q → A q := fun q h => by rw [← hAe]; exact Or.inr h
  have hS : va_S A s.heap s.heap [] := va_S.rf
  have hP : va_P D xcl [(a0, .inr (5, [v3, .ref a2, .int 0, v4, v5, v6, v7, v8, v9, v10, v11, v12, v13, v14, v15, .ref a1, .int 0, .int 4, v16, v17, v18, v19, v20, v21, v22, v23, v24, v25, v26, v27, v28, v29])), (a1, .inl (cT 0, 4096, .inl f30)), (a2, .inl (cT 4, 1024, .inr (.inr (.inr (.inr f35)))))] s.heap := hP
  have hl := lv_entry ([.ref a0, .ref (aK 10), .int 0]) (n := 4) (Nat.le_of_ble_eq_true rfl)
  rw [lg_entry_eq]
  generalize (lg_sl ([.ref a0, .ref (aK 10), .int 0]) ++ List.replicate (4 - (lg_sl ([.ref a0, .ref (aK 10), .int 0])).length) Slot.unset).toArray = ls at hl ⊢
  have hl : lv_has ls 4 [(0, .ref a0), (1, .ref (aK 10)), (2, .int 0)] := hl
  refine lv_iconst (v := 0) hx hb dM_says_0 (by decide) ?_
  refine lv_istore_n (lv' := [(3, .int 0), (0, .ref a0), (1, .ref (aK 10)), (2, .int 0)]) hx hb dM_says_1 rfl hl (by decide) rfl (fun ls hl => ?_)
  refine lv_iload_n hx hb dM_says_2 rfl (lv_at hl 0 rfl) ?_
  refine lv_aload_n hx hb dM_says_3 rfl (lv_at hl 2 rfl) ?_
  obtain ⟨hPc, hDc, hFc⟩ := xcut (wc := []) hP hD hS hA [] rfl rfl (by decide)
  refine va_calli (va_runV (C := "java/lang/String") (As := []) (rest := [.int 0]) ⟨hx, hb, hml, hown, htx⟩ (cJS_length_0 l hl9 D cT aK aV s.heap.size) ⟨callB_of 0 htx (xw_goodC kw_2_70) rfl rfl rfl (htx _ kw_1_6) (htx _ kw_5_238) ⟨by decide, by decide, by decide +kernel⟩ ⟨Nat.le_of_ble_eq_true rfl, Nat.le_of_ble_eq_true rfl⟩, (htx _ kw_2_68), (htx _ kw_2_69)⟩ ⟨xPre_blind, vk_recv hZ.2.2.2.2.2.2.2.2.2.1 (i := 10) (by decide) hS, (fun U hU hW => ⟨rfl, xPre_of hZ hS hFc hPc hDc hK U hU hW⟩)⟩ rfl rfl hl.1 rfl (lv_room (Nat.le_of_ble_eq_true rfl)) dM_says_4 ⟨Nat.le_of_ble_eq_true rfl, Nat.le_of_ble_eq_true rfl⟩) hS (fun q _ h => hFc q h) hFc (fun r1 u9 t H1 locs ht hvm hr9 hB hz1 hk1 hS => ?_)
  obtain ⟨hP1, hK1, hD1⟩ := hB
  rw [ht] at hP1
  obtain ⟨hP, hD⟩ := xjoin (W := [(a0, .inr (5, [v3, .ref a2, .int 0, v4, v5, v6, v7, v8, v9, v10, v11, v12, v13, v14, v15, .ref a1, .int 0, .int 4, v16, v17, v18, v19, v20, v21, v22, v23, v24, v25, v26, v27, v28, v29])), (a1, .inl (cT 0, 4096, .inl f30)), (a2, .inl (cT 4, 1024, .inr (.inr (.inr (.inr f35)))))]) hP hD [] [0, 1, 2] 3 rfl rfl (by decide) (by decide) hk1 hFc hP1 hD1
  generalize H1 = H at hP hS ⊢
  rw [hr9]
  refine W.eq (g2 := F0 m 7 ls [.int 4, .int 0]) rfl ?_
  refine lv_icmp_ge (tgt := 46) hx hb dM_says_7 (by decide) (fun h => ((by revert h; decide : False)).elim) (fun _ => ?_)
  refine lv_aload_n hx hb dM_says_10 rfl (lv_at hl 1 rfl) ?_
  obtain ⟨hPc, hDc, hFc⟩ := xcut (wc := [(a0, .inr (5, [v3, .ref a2, .int 0, v4, v5, v6, v7, v8, v9, v10, v11, v12, v13, v14, v15, .ref a1, .int 0, .int 4, v16, v17, v18, v19, v20, v21, v22, v23, v24, v25, v26, v27, v28, v29])), (a1, .inl (cT 0, 4096, .inl f30))]) hP hD hS hA [0, 1] rfl rfl (by decide)
  refine va_calli (va_runV (C := "ValueBenchModel") (As := []) (rest := []) ⟨hx, hb, hml, hown, htx⟩ (cM_peek_1 l hl9 D cT aK aV H.size a0 a1 v3 (.ref a2) (.int 0) v4 v5 v6 v7 v8 v9 v10 v11 v12 v13 v14 v15 v16 v17 v18 v19 v20 v21 v22 v23 v24 v25 v26 v27 v28 v29 f30 (by first | rfl | exact h31 | exact h32 | exact h33 | exact h34 | exact h36)) ⟨callB_of 0 htx (xw_goodC kw_5_233) rfl rfl rfl (htx _ kw_1_5) (htx _ kw_5_230) ⟨by decide, by decide, by decide +kernel⟩ ⟨Nat.le_of_ble_eq_true rfl, Nat.le_of_ble_eq_true rfl⟩, (htx _ kw_5_232), (htx _ kp_M_peek)⟩ ⟨xPre_blind, va_recv hK hP (ci := 5) rfl (q0 := 0) rfl, (fun U hU hW => ⟨rfl, xPre_of hZ hS hFc hPc hDc hK U hU hW⟩)⟩ rfl rfl hl.1 rfl (lv_room (Nat.le_of_ble_eq_true rfl)) dM_says_11 ⟨Nat.le_of_ble_eq_true rfl, Nat.le_of_ble_eq_true rfl⟩) hS (fun q _ h => hFc q h) hFc (fun r2 u9 t H1 locs ht hvm hr9 hB hz1 hk1 hS => ?_)
  obtain ⟨hP1, hK1, hD1⟩ := hB
  rw [ht] at hP1
  obtain ⟨hP, hD⟩ := xjoin (W := [(a2, .inl (cT 4, 1024, .inr (.inr (.inr (.inr f35))))), (a0, .inr (5, [v3, .ref a2, .int 0, v4, v5, v6, v7, v8, v9, v10, v11, v12, v13, v14, v15, .ref a1, .int 0, .int 4, v16, v17, v18, v19, v20, v21, v22, v23, v24, v25, v26, v27, v28, v29])), (a1, .inl (cT 0, 4096, .inl f30))]) hP hD [0, 1] [2] 1 rfl rfl (by decide) (by decide) hk1 hFc hP1 hD1
  generalize H1 = H at hP hS ⊢
  rw [hr9]
  refine W.eq (g2 := F0 m 14 ls [.int 110]) rfl ?_
  refine lv_aload_n hx hb dM_says_14 rfl (lv_at hl 2 rfl) ?_
  refine lv_iload_n hx hb dM_says_15 rfl (lv_at hl 0 rfl) ?_
  obtain ⟨hPc, hDc, hFc⟩ := xcut (wc := []) hP hD hS hA [] rfl rfl (by decide)
  refine va_calli (va_runV (C := "java/lang/String") (As := [.int 0]) (rest := [.int 110]) ⟨hx, hb, hml, hown, htx⟩ (cJS_charAt_0 l hl9 D cT aK aV H.size) ⟨callB_of 1 htx (xw_goodC kw_2_80) rfl rfl rfl (htx _ kw_1_6) (htx _ kw_5_86) ⟨by decide, by decide, by decide +kernel⟩ ⟨Nat.le_of_ble_eq_true rfl, Nat.le_of_ble_eq_true rfl⟩, (htx _ kw_2_78), (htx _ kw_2_79)⟩ ⟨xPre_blind, vk_recv hZ.2.2.2.2.2.2.2.2.2.1 (i := 10) (by decide) hS, (fun U hU hW => ⟨rfl, xPre_of hZ hS hFc hPc hDc hK U hU hW⟩)⟩ rfl rfl hl.1 rfl (lv_room (Nat.le_of_ble_eq_true rfl)) dM_says_16 ⟨Nat.le_of_ble_eq_true rfl, Nat.le_of_ble_eq_true rfl⟩) hS (fun q _ h => hFc q h) hFc (fun r3 u9 t H1 locs ht hvm hr9 hB hz1 hk1 hS => ?_)
  obtain ⟨hP1, hK1, hD1⟩ := hB
  rw [ht] at hP1
  obtain ⟨hP, hD⟩ := xjoin (W := [(a2, .inl (cT 4, 1024, .inr (.inr (.inr (.inr f35))))), (a0, .inr (5, [v3, .ref a2, .int 0, v4, v5, v6, v7, v8, v9, v10, v11, v12, v13, v14, v15, .ref a1, .int 0, .int 4, v16, v17, v18, v19, v20, v21, v22, v23, v24, v25, v26, v27, v28, v29])), (a1, .inl (cT 0, 4096, .inl f30))]) hP hD [] [0, 1, 2] 3 rfl rfl (by decide) (by decide) hk1 hFc hP1 hD1
  generalize H1 = H at hP hS ⊢
  rw [hr9]
  refine W.eq (g2 := F0 m 19 ls [.int 110, .int 110]) rfl ?_
  refine lv_icmp_eq (tgt := 30) hx hb dM_says_19 (by decide) (fun _ => ?_) (fun h => ((by revert h; decide : False)).elim)
  refine lv_aload_n hx hb dM_says_30 rfl (lv_at hl 1 rfl) ?_
  refine lv_dup hx hb dM_says_31 rfl ?_
  refine va_get (D := D) (ci := 5) (v := .int 0) (C := "ValueBenchModel") (T := TM) (N := 32) hx hb htx inM hown hK hP 1 rfl rfl 16 (by decide) (htx _ kw_5_103) (fun _ h9 => h9) rfl dM_says_32 ?_
  refine lv_iconst (v := 1) hx hb dM_says_35 (by decide) ?_
  refine lv_iadd hx hb dM_says_36 ?_
  refine W.eq (g2 := F0 m 37 ls [.int 1, .ref a0]) rfl ?_
  refine va_put (D := D) (ci := 5) (v := .int 1) (ty := .int) (C := "ValueBenchModel") (T := TM) (N := 32) hx hb htx inM tyM tyM_ok nmM hown hK hP hD hS 1 rfl rfl 16 (by decide) (htx _ kw_5_103) (fun _ h9 => h9) rfl (by decide +kernel) rfl rfl (Nat.le_of_ble_eq_true rfl) dM_says_37 (fun H locs hP hD hS => ?_)
  obtain ⟨hP, hD⟩ : xPD D xcl A [(a2, .inl (cT 4, 1024, .inr (.inr (.inr (.inr f35))))), (a0, .inr (5, [v3, .ref a2, .int 0, v4, v5, v6, v7, v8, v9, v10, v11, v12, v13, v14, v15, .ref a1, .int 1, .int 4, v16, v17, v18, v19, v20, v21, v22, v23, v24, v25, v26, v27, v28, v29])), (a1, .inl (cT 0, 4096, .inl f30))] H := ⟨hP, hD⟩
  refine lv_iinc (v := 1) (lv' := [(3, .int 1), (0, .ref a0), (1, .ref (aK 10)), (2, .int 0)]) hx hb dM_says_40 hl (k := 0) rfl (by decide) (by decide) rfl (fun ls hl => ?_)
  refine lv_goto (tgt := 2) hx hb dM_says_43 (by decide) ?_
  refine lv_iload_n hx hb dM_says_2 rfl (lv_at hl 0 rfl) ?_
  refine lv_aload_n hx hb dM_says_3 rfl (lv_at hl 2 rfl) ?_
  obtain ⟨hPc, hDc, hFc⟩ := xcut (wc := []) hP hD hS hA [] rfl rfl (by decide)
  refine va_calli (va_runV (C := "java/lang/String") (As := []) (rest := [.int 1]) ⟨hx, hb, hml, hown, htx⟩ (cJS_length_0 l hl9 D cT aK aV H.size) ⟨callB_of 0 htx (xw_goodC kw_2_70) rfl rfl rfl (htx _ kw_1_6) (htx _ kw_5_238) ⟨by decide, by decide, by decide +kernel⟩ ⟨Nat.le_of_ble_eq_true rfl, Nat.le_of_ble_eq_true rfl⟩, (htx _ kw_2_68), (htx _ kw_2_69)⟩ ⟨xPre_blind, vk_recv hZ.2.2.2.2.2.2.2.2.2.1 (i := 10) (by decide) hS, (fun U hU hW => ⟨rfl, xPre_of hZ hS hFc hPc hDc hK U hU hW⟩)⟩ rfl rfl hl.1 rfl (lv_room (Nat.le_of_ble_eq_true rfl)) dM_says_4 ⟨Nat.le_of_ble_eq_true rfl, Nat.le_of_ble_eq_true rfl⟩) hS (fun q _ h => hFc q h) hFc (fun r4 u9 t H1 locs ht hvm hr9 hB hz1 hk1 hS => ?_)
  obtain ⟨hP1, hK1, hD1⟩ := hB
  rw [ht] at hP1
  obtain ⟨hP, hD⟩ := xjoin (W := [(a2, .inl (cT 4, 1024, .inr (.inr (.inr (.inr f35))))), (a0, .inr (5, [v3, .ref a2, .int 0, v4, v5, v6, v7, v8, v9, v10, v11, v12, v13, v14, v15, .ref a1, .int 1, .int 4, v16, v17, v18, v19, v20, v21, v22, v23, v24, v25, v26, v27, v28, v29])), (a1, .inl (cT 0, 4096, .inl f30))]) hP hD [] [0, 1, 2] 3 rfl rfl (by decide) (by decide) hk1 hFc hP1 hD1
  generalize H1 = H at hP hS ⊢
  rw [hr9]
  refine W.eq (g2 := F0 m 7 ls [.int 4, .int 1]) rfl ?_
  refine lv_icmp_ge (tgt := 46) hx hb dM_says_7 (by decide) (fun h => ((by revert h; decide : False)).elim) (fun _ => ?_)
  refine lv_aload_n hx hb dM_says_10 rfl (lv_at hl 1 rfl) ?_
  obtain ⟨hPc, hDc, hFc⟩ := xcut (wc := [(a0, .inr (5, [v3, .ref a2, .int 0, v4, v5, v6, v7, v8, v9, v10, v11, v12, v13, v14, v15, .ref a1, .int 1, .int 4, v16, v17, v18, v19, v20, v21, v22, v23, v24, v25, v26, v27, v28, v29])), (a1, .inl (cT 0, 4096, .inl f30))]) hP hD hS hA [1, 2] rfl rfl (by decide)
  refine va_calli (va_runV (C := "ValueBenchModel") (As := []) (rest := []) ⟨hx, hb, hml, hown, htx⟩ (cM_peek_2 l hl9 D cT aK aV H.size a0 a1 v3 (.ref a2) (.int 0) v4 v5 v6 v7 v8 v9 v10 v11 v12 v13 v14 v15 v16 v17 v18 v19 v20 v21 v22 v23 v24 v25 v26 v27 v28 v29 f30 (by first | rfl | exact h31 | exact h32 | exact h33 | exact h34 | exact h36)) ⟨callB_of 0 htx (xw_goodC kw_5_233) rfl rfl rfl (htx _ kw_1_5) (htx _ kw_5_230) ⟨by decide, by decide, by decide +kernel⟩ ⟨Nat.le_of_ble_eq_true rfl, Nat.le_of_ble_eq_true rfl⟩, (htx _ kw_5_232), (htx _ kp_M_peek)⟩ ⟨xPre_blind, va_recv hK hP (ci := 5) rfl (q0 := 1) rfl, (fun U hU hW => ⟨rfl, xPre_of hZ hS hFc hPc hDc hK U hU hW⟩)⟩ rfl rfl hl.1 rfl (lv_room (Nat.le_of_ble_eq_true rfl)) dM_says_11 ⟨Nat.le_of_ble_eq_true rfl, Nat.le_of_ble_eq_true rfl⟩) hS (fun q _ h => hFc q h) hFc (fun r5 u9 t H1 locs ht hvm hr9 hB hz1 hk1 hS => ?_)
  obtain ⟨hP1, hK1, hD1⟩ := hB
  rw [ht] at hP1
  obtain ⟨hP, hD⟩ := xjoin (W := [(a2, .inl (cT 4, 1024, .inr (.inr (.inr (.inr f35))))), (a0, .inr (5, [v3, .ref a2, .int 0, v4, v5, v6, v7, v8, v9, v10, v11, v12, v13, v14, v15, .ref a1, .int 1, .int 4, v16, v17, v18, v19, v20, v21, v22, v23, v24, v25, v26, v27, v28, v29])), (a1, .inl (cT 0, 4096, .inl f30))]) hP hD [1, 2] [0] 1 rfl rfl (by decide) (by decide) hk1 hFc hP1 hD1
  generalize H1 = H at hP hS ⊢
  rw [hr9]
  refine W.eq (g2 := F0 m 14 ls [.int 117]) rfl ?_
  refine lv_aload_n hx hb dM_says_14 rfl (lv_at hl 2 rfl) ?_
  refine lv_iload_n hx hb dM_says_15 rfl (lv_at hl 0 rfl) ?_
  obtain ⟨hPc, hDc, hFc⟩ := xcut (wc := []) hP hD hS hA [] rfl rfl (by decide)
  refine va_calli (va_runV (C := "java/lang/String") (As := [.int 1]) (rest := [.int 117]) ⟨hx, hb, hml, hown, htx⟩ (cJS_charAt_1 l hl9 D cT aK aV H.size) ⟨callB_of 1 htx (xw_goodC kw_2_80) rfl rfl rfl (htx _ kw_1_6) (htx _ kw_5_86) ⟨by decide, by decide, by decide +kernel⟩ ⟨Nat.le_of_ble_eq_true rfl, Nat.le_of_ble_eq_true rfl⟩, (htx _ kw_2_78), (htx _ kw_2_79)⟩ ⟨xPre_blind, vk_recv hZ.2.2.2.2.2.2.2.2.2.1 (i := 10) (by decide) hS, (fun U hU hW => ⟨rfl, xPre_of hZ hS hFc hPc hDc hK U hU hW⟩)⟩ rfl rfl hl.1 rfl (lv_room (Nat.le_of_ble_eq_true rfl)) dM_says_16 ⟨Nat.le_of_ble_eq_true rfl, Nat.le_of_ble_eq_true rfl⟩) hS (fun q _ h => hFc q h) hFc (fun r6 u9 t H1 locs ht hvm hr9 hB hz1 hk1 hS => ?_)
  obtain ⟨hP1, hK1, hD1⟩ := hB
  rw [ht] at hP1
  obtain ⟨hP, hD⟩ := xjoin (W := [(a2, .inl (cT 4, 1024, .inr (.inr (.inr (.inr f35))))), (a0, .inr (5, [v3, .ref a2, .int 0, v4, v5, v6, v7, v8, v9, v10, v11, v12, v13, v14, v15, .ref a1, .int 1, .int 4, v16, v17, v18, v19, v20, v21, v22, v23, v24, v25, v26, v27, v28, v29])), (a1, .inl (cT 0, 4096, .inl f30))]) hP hD [] [0, 1, 2] 3 rfl rfl (by decide) (by decide) hk1 hFc hP1 hD1
  generalize H1 = H at hP hS ⊢
  rw [hr9]
  refine W.eq (g2 := F0 m 19 ls [.int 117, .int 117]) rfl ?_
  refine lv_icmp_eq (tgt := 30) hx hb dM_says_19 (by decide) (fun _ => ?_) (fun h => ((by revert h; decide : False)).elim)
  refine lv_aload_n hx hb dM_says_30 rfl (lv_at hl 1 rfl) ?_
  refine lv_dup hx hb dM_says_31 rfl ?_
  refine va_get (D := D) (ci := 5) (v := .int 1) (C := "ValueBenchModel") (T := TM) (N := 32) hx hb htx inM hown hK hP 1 rfl rfl 16 (by decide) (htx _ kw_5_103) (fun _ h9 => h9) rfl dM_says_32 ?_
  refine lv_iconst (v := 1) hx hb dM_says_35 (by decide) ?_
  refine lv_iadd hx hb dM_says_36 ?_
  refine W.eq (g2 := F0 m 37 ls [.int 2, .ref a0]) rfl ?_
  refine va_put (D := D) (ci := 5) (v := .int 2) (ty := .int) (C := "ValueBenchModel") (T := TM) (N := 32) hx hb htx inM tyM tyM_ok nmM hown hK hP hD hS 1 rfl rfl 16 (by decide) (htx _ kw_5_103) (fun _ h9 => h9) rfl (by decide +kernel) rfl rfl (Nat.le_of_ble_eq_true rfl) dM_says_37 (fun H locs hP hD hS => ?_)
  obtain ⟨hP, hD⟩ : xPD D xcl A [(a2, .inl (cT 4, 1024, .inr (.inr (.inr (.inr f35))))), (a0, .inr (5, [v3, .ref a2, .int 0, v4, v5, v6, v7, v8, v9, v10, v11, v12, v13, v14, v15, .ref a1, .int 2, .int 4, v16, v17, v18, v19, v20, v21, v22, v23, v24, v25, v26, v27, v28, v29])), (a1, .inl (cT 0, 4096, .inl f30))] H := ⟨hP, hD⟩
  refine lv_iinc (v := 2) (lv' := [(3, .int 2), (0, .ref a0), (1, .ref (aK 10)), (2, .int 0)]) hx hb dM_says_40 hl (k := 0) rfl (by decide) (by decide) rfl (fun ls hl => ?_)
  refine lv_goto (tgt := 2) hx hb dM_says_43 (by decide) ?_
  refine lv_iload_n hx hb dM_says_2 rfl (lv_at hl 0 rfl) ?_
  refine lv_aload_n hx hb dM_says_3 rfl (lv_at hl 2 rfl) ?_
  obtain ⟨hPc, hDc, hFc⟩ := xcut (wc := []) hP hD hS hA [] rfl rfl (by decide)
  refine va_calli (va_runV (C := "java/lang/String") (As := []) (rest := [.int 2]) ⟨hx, hb, hml, hown, htx⟩ (cJS_length_0 l hl9 D cT aK aV H.size) ⟨callB_of 0 htx (xw_goodC kw_2_70) rfl rfl rfl (htx _ kw_1_6) (htx _ kw_5_238) ⟨by decide, by decide, by decide +kernel⟩ ⟨Nat.le_of_ble_eq_true rfl, Nat.le_of_ble_eq_true rfl⟩, (htx _ kw_2_68), (htx _ kw_2_69)⟩ ⟨xPre_blind, vk_recv hZ.2.2.2.2.2.2.2.2.2.1 (i := 10) (by decide) hS, (fun U hU hW => ⟨rfl, xPre_of hZ hS hFc hPc hDc hK U hU hW⟩)⟩ rfl rfl hl.1 rfl (lv_room (Nat.le_of_ble_eq_true rfl)) dM_says_4 ⟨Nat.le_of_ble_eq_true rfl, Nat.le_of_ble_eq_true rfl⟩) hS (fun q _ h => hFc q h) hFc (fun r7 u9 t H1 locs ht hvm hr9 hB hz1 hk1 hS => ?_)
  obtain ⟨hP1, hK1, hD1⟩ := hB
  rw [ht] at hP1
  obtain ⟨hP, hD⟩ := xjoin (W := [(a2, .inl (cT 4, 1024, .inr (.inr (.inr (.inr f35))))), (a0, .inr (5, [v3, .ref a2, .int 0, v4, v5, v6, v7, v8, v9, v10, v11, v12, v13, v14, v15, .ref a1, .int 2, .int 4, v16, v17, v18, v19, v20, v21, v22, v23, v24, v25, v26, v27, v28, v29])), (a1, .inl (cT 0, 4096, .inl f30))]) hP hD [] [0, 1, 2] 3 rfl rfl (by decide) (by decide) hk1 hFc hP1 hD1
  generalize H1 = H at hP hS ⊢
  rw [hr9]
  refine W.eq (g2 := F0 m 7 ls [.int 4, .int 2]) rfl ?_
  refine lv_icmp_ge (tgt := 46) hx hb dM_says_7 (by decide) (fun h => ((by revert h; decide : False)).elim) (fun _ => ?_)
  refine lv_aload_n hx hb dM_says_10 rfl (lv_at hl 1 rfl) ?_
  obtain ⟨hPc, hDc, hFc⟩ := xcut (wc := [(a0, .inr (5, [v3, .ref a2, .int 0, v4, v5, v6, v7, v8, v9, v10, v11, v12, v13, v14, v15, .ref a1, .int 2, .int 4, v16, v17, v18, v19, v20, v21, v22, v23, v24, v25, v26, v27, v28, v29])), (a1, .inl (cT 0, 4096, .inl f30))]) hP hD hS hA [1, 2] rfl rfl (by decide)
  refine va_calli (va_runV (C := "ValueBenchModel") (As := []) (rest := []) ⟨hx, hb, hml, hown, htx⟩ (cM_peek_3 l hl9 D cT aK aV H.size a0 a1 v3 (.ref a2) (.int 0) v4 v5 v6 v7 v8 v9 v10 v11 v12 v13 v14 v15 v16 v17 v18 v19 v20 v21 v22 v23 v24 v25 v26 v27 v28 v29 f30 (by first | rfl | exact h31 | exact h32 | exact h33 | exact h34 | exact h36)) ⟨callB_of 0 htx (xw_goodC kw_5_233) rfl rfl rfl (htx _ kw_1_5) (htx _ kw_5_230) ⟨by decide, by decide, by decide +kernel⟩ ⟨Nat.le_of_ble_eq_true rfl, Nat.le_of_ble_eq_true rfl⟩, (htx _ kw_5_232), (htx _ kp_M_peek)⟩ ⟨xPre_blind, va_recv hK hP (ci := 5) rfl (q0 := 1) rfl, (fun U hU hW => ⟨rfl, xPre_of hZ hS hFc hPc hDc hK U hU hW⟩)⟩ rfl rfl hl.1 rfl (lv_room (Nat.le_of_ble_eq_true rfl)) dM_says_11 ⟨Nat.le_of_ble_eq_true rfl, Nat.le_of_ble_eq_true rfl⟩) hS (fun q _ h => hFc q h) hFc (fun r8 u9 t H1 locs ht hvm hr9 hB hz1 hk1 hS => ?_)
  obtain ⟨hP1, hK1, hD1⟩ := hB
  rw [ht] at hP1
  obtain ⟨hP, hD⟩ := xjoin (W := [(a2, .inl (cT 4, 1024, .inr (.inr (.inr (.inr f35))))), (a0, .inr (5, [v3, .ref a2, .int 0, v4, v5, v6, v7, v8, v9, v10, v11, v12, v13, v14, v15, .ref a1, .int 2, .int 4, v16, v17, v18, v19, v20, v21, v22, v23, v24, v25, v26, v27, v28, v29])), (a1, .inl (cT 0, 4096, .inl f30))]) hP hD [1, 2] [0] 1 rfl rfl (by decide) (by decide) hk1 hFc hP1 hD1
  generalize H1 = H at hP hS ⊢
  rw [hr9]
  refine W.eq (g2 := F0 m 14 ls [.int 108]) rfl ?_
  refine lv_aload_n hx hb dM_says_14 rfl (lv_at hl 2 rfl) ?_
  refine lv_iload_n hx hb dM_says_15 rfl (lv_at hl 0 rfl) ?_
  obtain ⟨hPc, hDc, hFc⟩ := xcut (wc := []) hP hD hS hA [] rfl rfl (by decide)
  refine va_calli (va_runV (C := "java/lang/String") (As := [.int 2]) (rest := [.int 108]) ⟨hx, hb, hml, hown, htx⟩ (cJS_charAt_2 l hl9 D cT aK aV H.size) ⟨callB_of 1 htx (xw_goodC kw_2_80) rfl rfl rfl (htx _ kw_1_6) (htx _ kw_5_86) ⟨by decide, by decide, by decide +kernel⟩ ⟨Nat.le_of_ble_eq_true rfl, Nat.le_of_ble_eq_true rfl⟩, (htx _ kw_2_78), (htx _ kw_2_79)⟩ ⟨xPre_blind, vk_recv hZ.2.2.2.2.2.2.2.2.2.1 (i := 10) (by decide) hS, (fun U hU hW => ⟨rfl, xPre_of hZ hS hFc hPc hDc hK U hU hW⟩)⟩ rfl rfl hl.1 rfl (lv_room (Nat.le_of_ble_eq_true rfl)) dM_says_16 ⟨Nat.le_of_ble_eq_true rfl, Nat.le_of_ble_eq_true rfl⟩) hS (fun q _ h => hFc q h) hFc (fun r9 u9 t H1 locs ht hvm hr9 hB hz1 hk1 hS => ?_)
  obtain ⟨hP1, hK1, hD1⟩ := hB
  rw [ht] at hP1
  obtain ⟨hP, hD⟩ := xjoin (W := [(a2, .inl (cT 4, 1024, .inr (.inr (.inr (.inr f35))))), (a0, .inr (5, [v3, .ref a2, .int 0, v4, v5, v6, v7, v8, v9, v10, v11, v12, v13, v14, v15, .ref a1, .int 2, .int 4, v16, v17, v18, v19, v20, v21, v22, v23, v24, v25, v26, v27, v28, v29])), (a1, .inl (cT 0, 4096, .inl f30))]) hP hD [] [0, 1, 2] 3 rfl rfl (by decide) (by decide) hk1 hFc hP1 hD1
  generalize H1 = H at hP hS ⊢
  rw [hr9]
  refine W.eq (g2 := F0 m 19 ls [.int 108, .int 108]) rfl ?_
  refine lv_icmp_eq (tgt := 30) hx hb dM_says_19 (by decide) (fun _ => ?_) (fun h => ((by revert h; decide : False)).elim)
  refine lv_aload_n hx hb dM_says_30 rfl (lv_at hl 1 rfl) ?_
  refine lv_dup hx hb dM_says_31 rfl ?_
  refine va_get (D := D) (ci := 5) (v := .int 2) (C := "ValueBenchModel") (T := TM) (N := 32) hx hb htx inM hown hK hP 1 rfl rfl 16 (by decide) (htx _ kw_5_103) (fun _ h9 => h9) rfl dM_says_32 ?_
  refine lv_iconst (v := 1) hx hb dM_says_35 (by decide) ?_
  refine lv_iadd hx hb dM_says_36 ?_
  refine W.eq (g2 := F0 m 37 ls [.int 3, .ref a0]) rfl ?_
  refine va_put (D := D) (ci := 5) (v := .int 3) (ty := .int) (C := "ValueBenchModel") (T := TM) (N := 32) hx hb htx inM tyM tyM_ok nmM hown hK hP hD hS 1 rfl rfl 16 (by decide) (htx _ kw_5_103) (fun _ h9 => h9) rfl (by decide +kernel) rfl rfl (Nat.le_of_ble_eq_true rfl) dM_says_37 (fun H locs hP hD hS => ?_)
  obtain ⟨hP, hD⟩ : xPD D xcl A [(a2, .inl (cT 4, 1024, .inr (.inr (.inr (.inr f35))))), (a0, .inr (5, [v3, .ref a2, .int 0, v4, v5, v6, v7, v8, v9, v10, v11, v12, v13, v14, v15, .ref a1, .int 3, .int 4, v16, v17, v18, v19, v20, v21, v22, v23, v24, v25, v26, v27, v28, v29])), (a1, .inl (cT 0, 4096, .inl f30))] H := ⟨hP, hD⟩
  refine lv_iinc (v := 3) (lv' := [(3, .int 3), (0, .ref a0), (1, .ref (aK 10)), (2, .int 0)]) hx hb dM_says_40 hl (k := 0) rfl (by decide) (by decide) rfl (fun ls hl => ?_)
  refine lv_goto (tgt := 2) hx hb dM_says_43 (by decide) ?_
  refine lv_iload_n hx hb dM_says_2 rfl (lv_at hl 0 rfl) ?_
  refine lv_aload_n hx hb dM_says_3 rfl (lv_at hl 2 rfl) ?_
  obtain ⟨hPc, hDc, hFc⟩ := xcut (wc := []) hP hD hS hA [] rfl rfl (by decide)
  refine va_calli (va_runV (C := "java/lang/String") (As := []) (rest := [.int 3]) ⟨hx, hb, hml, hown, htx⟩ (cJS_length_0 l hl9 D cT aK aV H.size) ⟨callB_of 0 htx (xw_goodC kw_2_70) rfl rfl rfl (htx _ kw_1_6) (htx _ kw_5_238) ⟨by decide, by decide, by decide +kernel⟩ ⟨Nat.le_of_ble_eq_true rfl, Nat.le_of_ble_eq_true rfl⟩, (htx _ kw_2_68), (htx _ kw_2_69)⟩ ⟨xPre_blind, vk_recv hZ.2.2.2.2.2.2.2.2.2.1 (i := 10) (by decide) hS, (fun U hU hW => ⟨rfl, xPre_of hZ hS hFc hPc hDc hK U hU hW⟩)⟩ rfl rfl hl.1 rfl (lv_room (Nat.le_of_ble_eq_true rfl)) dM_says_4 ⟨Nat.le_of_ble_eq_true rfl, Nat.le_of_ble_eq_true rfl⟩) hS (fun q _ h => hFc q h) hFc (fun r10 u9 t H1 locs ht hvm hr9 hB hz1 hk1 hS => ?_)
  obtain ⟨hP1, hK1, hD1⟩ := hB
  rw [ht] at hP1
  obtain ⟨hP, hD⟩ := xjoin (W := [(a2, .inl (cT 4, 1024, .inr (.inr (.inr (.inr f35))))), (a0, .inr (5, [v3, .ref a2, .int 0, v4, v5, v6, v7, v8, v9, v10, v11, v12, v13, v14, v15, .ref a1, .int 3, .int 4, v16, v17, v18, v19, v20, v21, v22, v23, v24, v25, v26, v27, v28, v29])), (a1, .inl (cT 0, 4096, .inl f30))]) hP hD [] [0, 1, 2] 3 rfl rfl (by decide) (by decide) hk1 hFc hP1 hD1
  generalize H1 = H at hP hS ⊢
  rw [hr9]
  refine W.eq (g2 := F0 m 7 ls [.int 4, .int 3]) rfl ?_
  refine lv_icmp_ge (tgt := 46) hx hb dM_says_7 (by decide) (fun h => ((by revert h; decide : False)).elim) (fun _ => ?_)
  refine lv_aload_n hx hb dM_says_10 rfl (lv_at hl 1 rfl) ?_
  obtain ⟨hPc, hDc, hFc⟩ := xcut (wc := [(a0, .inr (5, [v3, .ref a2, .int 0, v4, v5, v6, v7, v8, v9, v10, v11, v12, v13, v14, v15, .ref a1, .int 3, .int 4, v16, v17, v18, v19, v20, v21, v22, v23, v24, v25, v26, v27, v28, v29])), (a1, .inl (cT 0, 4096, .inl f30))]) hP hD hS hA [1, 2] rfl rfl (by decide)
  refine va_calli (va_runV (C := "ValueBenchModel") (As := []) (rest := []) ⟨hx, hb, hml, hown, htx⟩ (cM_peek_4 l hl9 D cT aK aV H.size a0 a1 v3 (.ref a2) (.int 0) v4 v5 v6 v7 v8 v9 v10 v11 v12 v13 v14 v15 v16 v17 v18 v19 v20 v21 v22 v23 v24 v25 v26 v27 v28 v29 f30 (by first | rfl | exact h31 | exact h32 | exact h33 | exact h34 | exact h36)) ⟨callB_of 0 htx (xw_goodC kw_5_233) rfl rfl rfl (htx _ kw_1_5) (htx _ kw_5_230) ⟨by decide, by decide, by decide +kernel⟩ ⟨Nat.le_of_ble_eq_true rfl, Nat.le_of_ble_eq_true rfl⟩, (htx _ kw_5_232), (htx _ kp_M_peek)⟩ ⟨xPre_blind, va_recv hK hP (ci := 5) rfl (q0 := 1) rfl, (fun U hU hW => ⟨rfl, xPre_of hZ hS hFc hPc hDc hK U hU hW⟩)⟩ rfl rfl hl.1 rfl (lv_room (Nat.le_of_ble_eq_true rfl)) dM_says_11 ⟨Nat.le_of_ble_eq_true rfl, Nat.le_of_ble_eq_true rfl⟩) hS (fun q _ h => hFc q h) hFc (fun r11 u9 t H1 locs ht hvm hr9 hB hz1 hk1 hS => ?_)
  obtain ⟨hP1, hK1, hD1⟩ := hB
  rw [ht] at hP1
  obtain ⟨hP, hD⟩ := xjoin (W := [(a2, .inl (cT 4, 1024, .inr (.inr (.inr (.inr f35))))), (a0, .inr (5, [v3, .ref a2, .int 0, v4, v5, v6, v7, v8, v9, v10, v11, v12, v13, v14, v15, .ref a1, .int 3, .int 4, v16, v17, v18, v19, v20, v21, v22, v23, v24, v25, v26, v27, v28, v29])), (a1, .inl (cT 0, 4096, .inl f30))]) hP hD [1, 2] [0] 1 rfl rfl (by decide) (by decide) hk1 hFc hP1 hD1
  generalize H1 = H at hP hS ⊢
  rw [hr9]
  refine W.eq (g2 := F0 m 14 ls [.int 108]) rfl ?_
  refine lv_aload_n hx hb dM_says_14 rfl (lv_at hl 2 rfl) ?_
  refine lv_iload_n hx hb dM_says_15 rfl (lv_at hl 0 rfl) ?_
  obtain ⟨hPc, hDc, hFc⟩ := xcut (wc := []) hP hD hS hA [] rfl rfl (by decide)
  refine va_calli (va_runV (C := "java/lang/String") (As := [.int 3]) (rest := [.int 108]) ⟨hx, hb, hml, hown, htx⟩ (cJS_charAt_3 l hl9 D cT aK aV H.size) ⟨callB_of 1 htx (xw_goodC kw_2_80) rfl rfl rfl (htx _ kw_1_6) (htx _ kw_5_86) ⟨by decide, by decide, by decide +kernel⟩ ⟨Nat.le_of_ble_eq_true rfl, Nat.le_of_ble_eq_true rfl⟩, (htx _ kw_2_78), (htx _ kw_2_79)⟩ ⟨xPre_blind, vk_recv hZ.2.2.2.2.2.2.2.2.2.1 (i := 10) (by decide) hS, (fun U hU hW => ⟨rfl, xPre_of hZ hS hFc hPc hDc hK U hU hW⟩)⟩ rfl rfl hl.1 rfl (lv_room (Nat.le_of_ble_eq_true rfl)) dM_says_16 ⟨Nat.le_of_ble_eq_true rfl, Nat.le_of_ble_eq_true rfl⟩) hS (fun q _ h => hFc q h) hFc (fun r12 u9 t H1 locs ht hvm hr9 hB hz1 hk1 hS => ?_)
  obtain ⟨hP1, hK1, hD1⟩ := hB
  rw [ht] at hP1
  obtain ⟨hP, hD⟩ := xjoin (W := [(a2, .inl (cT 4, 1024, .inr (.inr (.inr (.inr f35))))), (a0, .inr (5, [v3, .ref a2, .int 0, v4, v5, v6, v7, v8, v9, v10, v11, v12, v13, v14, v15, .ref a1, .int 3, .int 4, v16, v17, v18, v19, v20, v21, v22, v23, v24, v25, v26, v27, v28, v29])), (a1, .inl (cT 0, 4096, .inl f30))]) hP hD [] [0, 1, 2] 3 rfl rfl (by decide) (by decide) hk1 hFc hP1 hD1
  generalize H1 = H at hP hS ⊢
  rw [hr9]
  refine W.eq (g2 := F0 m 19 ls [.int 108, .int 108]) rfl ?_
  refine lv_icmp_eq (tgt := 30) hx hb dM_says_19 (by decide) (fun _ => ?_) (fun h => ((by revert h; decide : False)).elim)
  refine lv_aload_n hx hb dM_says_30 rfl (lv_at hl 1 rfl) ?_
  refine lv_dup hx hb dM_says_31 rfl ?_
  refine va_get (D := D) (ci := 5) (v := .int 3) (C := "ValueBenchModel") (T := TM) (N := 32) hx hb htx inM hown hK hP 1 rfl rfl 16 (by decide) (htx _ kw_5_103) (fun _ h9 => h9) rfl dM_says_32 ?_
  refine lv_iconst (v := 1) hx hb dM_says_35 (by decide) ?_
  refine lv_iadd hx hb dM_says_36 ?_
  refine W.eq (g2 := F0 m 37 ls [.int 4, .ref a0]) rfl ?_
  refine va_put (D := D) (ci := 5) (v := .int 4) (ty := .int) (C := "ValueBenchModel") (T := TM) (N := 32) hx hb htx inM tyM tyM_ok nmM hown hK hP hD hS 1 rfl rfl 16 (by decide) (htx _ kw_5_103) (fun _ h9 => h9) rfl (by decide +kernel) rfl rfl (Nat.le_of_ble_eq_true rfl) dM_says_37 (fun H locs hP hD hS => ?_)
  obtain ⟨hP, hD⟩ : xPD D xcl A [(a2, .inl (cT 4, 1024, .inr (.inr (.inr (.inr f35))))), (a0, .inr (5, [v3, .ref a2, .int 0, v4, v5, v6, v7, v8, v9, v10, v11, v12, v13, v14, v15, .ref a1, .int 4, .int 4, v16, v17, v18, v19, v20, v21, v22, v23, v24, v25, v26, v27, v28, v29])), (a1, .inl (cT 0, 4096, .inl f30))] H := ⟨hP, hD⟩
  refine lv_iinc (v := 4) (lv' := [(3, .int 4), (0, .ref a0), (1, .ref (aK 10)), (2, .int 0)]) hx hb dM_says_40 hl (k := 0) rfl (by decide) (by decide) rfl (fun ls hl => ?_)
  refine lv_goto (tgt := 2) hx hb dM_says_43 (by decide) ?_
  refine lv_iload_n hx hb dM_says_2 rfl (lv_at hl 0 rfl) ?_
  refine lv_aload_n hx hb dM_says_3 rfl (lv_at hl 2 rfl) ?_
  obtain ⟨hPc, hDc, hFc⟩ := xcut (wc := []) hP hD hS hA [] rfl rfl (by decide)
  refine va_calli (va_runV (C := "java/lang/String") (As := []) (rest := [.int 4]) ⟨hx, hb, hml, hown, htx⟩ (cJS_length_0 l hl9 D cT aK aV H.size) ⟨callB_of 0 htx (xw_goodC kw_2_70) rfl rfl rfl (htx _ kw_1_6) (htx _ kw_5_238) ⟨by decide, by decide, by decide +kernel⟩ ⟨Nat.le_of_ble_eq_true rfl, Nat.le_of_ble_eq_true rfl⟩, (htx _ kw_2_68), (htx _ kw_2_69)⟩ ⟨xPre_blind, vk_recv hZ.2.2.2.2.2.2.2.2.2.1 (i := 10) (by decide) hS, (fun U hU hW => ⟨rfl, xPre_of hZ hS hFc hPc hDc hK U hU hW⟩)⟩ rfl rfl hl.1 rfl (lv_room (Nat.le_of_ble_eq_true rfl)) dM_says_4 ⟨Nat.le_of_ble_eq_true rfl, Nat.le_of_ble_eq_true rfl⟩) hS (fun q _ h => hFc q h) hFc (fun r13 u9 t H1 locs ht hvm hr9 hB hz1 hk1 hS => ?_)
  obtain ⟨hP1, hK1, hD1⟩ := hB
  rw [ht] at hP1
  obtain ⟨hP, hD⟩ := xjoin (W := [(a2, .inl (cT 4, 1024, .inr (.inr (.inr (.inr f35))))), (a0, .inr (5, [v3, .ref a2, .int 0, v4, v5, v6, v7, v8, v9, v10, v11, v12, v13, v14, v15, .ref a1, .int 4, .int 4, v16, v17, v18, v19, v20, v21, v22, v23, v24, v25, v26, v27, v28, v29])), (a1, .inl (cT 0, 4096, .inl f30))]) hP hD [] [0, 1, 2] 3 rfl rfl (by decide) (by decide) hk1 hFc hP1 hD1
  generalize H1 = H at hP hS ⊢
  rw [hr9]
  refine W.eq (g2 := F0 m 7 ls [.int 4, .int 4]) rfl ?_
  refine lv_icmp_ge (tgt := 46) hx hb dM_says_7 (by decide) (fun _ => ?_) (fun h => ((by revert h; decide : False)).elim)
  refine lv_aload_n hx hb dM_says_46 rfl (lv_at hl 1 rfl) ?_
  refine lv_iload_n hx hb dM_says_47 rfl (lv_at hl 3 rfl) ?_
  obtain ⟨hPc, hDc, hFc⟩ := xcut (wc := [(a0, .inr (5, [v3, .ref a2, .int 0, v4, v5, v6, v7, v8, v9, v10, v11, v12, v13, v14, v15, .ref a1, .int 4, .int 4, v16, v17, v18, v19, v20, v21, v22, v23, v24, v25, v26, v27, v28, v29])), (a2, .inl (cT 4, 1024, .inr (.inr (.inr (.inr f35)))))]) hP hD hS hA [1, 0] rfl rfl (by decide)
  refine va_callr (va_runV (C := "ValueBenchModel") (As := [.int 0]) (rest := []) ⟨hx, hb, hml, hown, htx⟩ (cM_fresh_0 l hl9 D cT aK aV H.size a0 a2 v3 v4 v5 v6 v7 v8 v9 v10 v11 v12 v13 v14 v15 (.ref a1) (.int 4) (.int 4) v16 v17 v18 v19 v20 v21 v22 v23 v24 v25 v26 v27 v28 v29 f35 (by first | rfl | exact h31 | exact h32 | exact h33 | exact h34 | exact h36)) ⟨callB_of 1 htx (xw_goodC kw_6_16) rfl rfl rfl (htx _ kw_1_5) (htx _ kw_6_13) ⟨by decide, by decide, by decide +kernel⟩ ⟨Nat.le_of_ble_eq_true rfl, Nat.le_of_ble_eq_true rfl⟩, (htx _ kw_6_15), (htx _ kp_M_fresh)⟩ ⟨xPre_blind, va_recv hK hP (ci := 5) rfl (q0 := 1) rfl, (fun U hU hW => ⟨rfl, xPre_of hZ hS hFc hPc hDc hK U hU hW⟩)⟩ rfl rfl hl.1 rfl (lv_room (Nat.le_of_ble_eq_true rfl)) dM_says_48 ⟨Nat.le_of_ble_eq_true rfl, Nat.le_of_ble_eq_true rfl⟩) hS (fun q _ h => hFc q h) hFc (fun u9 r14 t H1 locs ht hvm hr9 hB hz1 hk1 hS => ?_)
  obtain ⟨hP1, hK1, hD1⟩ := hB
  rw [ht] at hP1
  obtain ⟨hP, hD⟩ := xjoin (W := [(a1, .inl (cT 0, 4096, .inl f30)), (a0, .inr (5, [v3, .ref a2, .int 1, v4, v5, v6, v7, v8, v9, v10, v11, v12, v13, v14, v15, .ref a1, .int 4, .int 4, v16, v17, v18, v19, v20, v21, v22, v23, v24, v25, v26, v27, v28, v29])), (a2, .inl (cT 4, 1024, .inr (.inr (.inr (.inr (va_up f35 0 (some r14))))))), (r14, .inr (6, [.int 0, .long 0, .int 0, .int 0, .int 0, .int 1]))]) hP hD [1, 0] [2] 1 rfl rfl (by decide) (by decide) hk1 hFc hP1 hD1
  generalize H1 = H at hP hS ⊢
  refine W.eq (g2 := F0 m 51 ls [.ref r14]) rfl ?_
  obtain ⟨hP9, hD9⟩ := xsub (wc := [(a0, .inr (5, [v3, .ref a2, .int 1, v4, v5, v6, v7, v8, v9, v10, v11, v12, v13, v14, v15, .ref a1, .int 4, .int 4, v16, v17, v18, v19, v20, v21, v22, v23, v24, v25, v26, v27, v28, v29])), (a1, .inl (cT 0, 4096, .inl f30)), (a2, .inl (cT 4, 1024, .inr (.inr (.inr (.inr (va_up f35 0 (some r14))))))), (r14, .inr (6, [.int 0, .long 0, .int 0, .int 0, .int 0, .int 1]))]) hP hD [1, 0, 2, 3] rfl rfl (by decide)
  refine W.widen (k := 1) (n := 6) (Nat.le_of_ble_eq_true rfl) (Nat.le_of_ble_eq_true rfl) ?_
  exact W.aret hx hb hr (Or.inl ⟨_, rfl⟩) (Or.inr ⟨_, rfl⟩) (fun t ht hW => ⟨⟨(), r14, rfl, trivial, by rw [ht]; exact hP9, va_K.moved hW.alike hK, hD9⟩, hS.F ht⟩) hS.2.2 dM_says_51
set_option maxHeartbeats 400000000 in
set_option maxRecDepth 100000 in
theorem cM_value_1 (l : Launch) (hl9 : l.stackTraces = false) (D : va_G) (cT : Nat → ClassId) (aK aV : Nat → Nat) (sz : Nat) (a0 : Nat) (a1 : Nat) (a2 : Nat) (v3 : Value) (v4 : Value) (v5 : Value) (v6 : Value) (v7 : Value) (v8 : Value) (v9 : Value) (v10 : Value) (v11 : Value) (v12 : Value) (v13 : Value) (v14 : Value) (v15 : Value) (v16 : Value) (v17 : Value) (v18 : Value) (v19 : Value) (v20 : Value) (v21 : Value) (v22 : Value) (v23 : Value) (v24 : Value) (v25 : Value) (v26 : Value) (v27 : Value) (v28 : Value) (v29 : Value) (f30 : Nat → Int32) (f35 : Nat → Option Nat) (h31 : f30 0 = 110) (h32 : f30 1 = 117) (h33 : f30 2 = 108) (h34 : f30 3 = 108) (h36 : f35 0 = none) : xMet l yM_value wyM_value 5 1 6 108 D cT aK aV sz [.ref a0] [(a0, .inr (5, [v3, .ref a2, .int 0, v4, v5, v6, v7, v8, v9, v10, v11, v12, v13, v14, v15, .ref a1, .int 0, .int 4, v16, v17, v18, v19, v20, v21, v22, v23, v24, v25, v26, v27, v28, v29])), (a1, .inl (cT 0, 4096, .inl f30)), (a2, .inl (cT 4, 1024, .inr (.inr (.inr (.inr f35)))))] (fun A => va_Qr (fun _ : Unit => True) (fun _ r2 t => xB D xcl cT A [(a0, .inr (5, [v3, .ref a2, .int 1, v4, v5, v6, v7, v8, v9, v10, v11, v12, v13, v14, v15, .ref a1, .int 4, .int 4, v16, v17, v18, v19, v20, v21, v22, v23, v24, v25, v26, v27, v28, v29])), (a1, .inl (cT 0, 4096, .inl f30)), (a2, .inl (cT 4, 1024, .inr (.inr (.inr (.inr (va_up f35 0 (some r2))))))), (r2, .inr (6, [.int 0, .long 0, .int 0, .int 0, .int 0, .int 1]))] t) A) := by
  refine Met.ofW (cc := prog_13_method_34_code) (maxL := 3) (ret := (some (.object "ValueBenchModel$V"))) (by decide) rfl ?_
  intro p e s m args below meth c s₁ B hml hv
  obtain ⟨rfl, hsz, hZ, hP, hK, hD0⟩ := hv
  have hx := B.exec
  have hb := B.bytes
  have hr := B.returns
  have hts := atoms_spec (ws := wyM_value) B.pre
  have htx := fun w h => hts w (List.mem_cons_of_mem _ h)
  have hown : s.vm.findClass "ValueBenchModel" = some m.cls := findClass_of_methodNamed B.named
  have hlocks := B.notSynchronized
  subst hsz
  have hD := hD0.self (sz := s.heap.size)
  generalize hAe : va_A [(a0, .inr (5, [v3, .ref a2, .int 0, v4, v5, v6, v7, v8, v9, v10, v11, v12, v13, v14, v15, .ref a1, .int 0, .int 4, v16, v17, v18, v19, v20, v21, v22, v23, v24, v25, v26, v27, v28, v29])), (a1, .inl (cT 0, 4096, .inl f30)), (a2, .inl (cT 4, 1024, .inr (.inr (.inr (.inr f35)))))] s.heap.size = A at hD hZ ⊢
  have hA : ∀ q : Nat, s.heap.size ≤ q → A q := fun q h => by rw [← hAe]; exact Or.inr h
  have hS : va_S A s.heap s.heap [] := va_S.rf
  have hP : va_P D xcl [(a0, .inr (5, [v3, .ref a2, .int 0, v4, v5, v6, v7, v8, v9, v10, v11, v12, v13, v14, v15, .ref a1, .int 0, .int 4, v16, v17, v18, v19, v20, v21, v22, v23, v24, v25, v26, v27, v28, v29])), (a1, .inl (cT 0, 4096, .inl f30)), (a2, .inl (cT 4, 1024, .inr (.inr (.inr (.inr f35)))))] s.heap := hP
  have hl := lv_entry ([.ref a0]) (n := 3) (Nat.le_of_ble_eq_true rfl)
  rw [lg_entry_eq]
  generalize (lg_sl ([.ref a0]) ++ List.replicate (3 - (lg_sl ([.ref a0])).length) Slot.unset).toArray = ls at hl ⊢
  have hl : lv_has ls 3 [(0, .ref a0)] := hl
  refine lv_aload_n hx hb dM_value_0 rfl (lv_at hl 0 rfl) ?_
  obtain ⟨hPc, hDc, hFc⟩ := xcut (wc := [(a0, .inr (5, [v3, .ref a2, .int 0, v4, v5, v6, v7, v8, v9, v10, v11, v12, v13, v14, v15, .ref a1, .int 0, .int 4, v16, v17, v18, v19, v20, v21, v22, v23, v24, v25, v26, v27, v28, v29])), (a1, .inl (cT 0, 4096, .inl f30))]) hP hD hS hA [0, 1] rfl rfl (by decide)
  refine va_callv (va_runV (C := "ValueBenchModel") (As := []) (rest := []) ⟨hx, hb, hml, hown, htx⟩ (cM_blanks_1 l hl9 D cT aK aV s.heap.size a0 a1 v3 (.ref a2) (.int 0) v4 v5 v6 v7 v8 v9 v10 v11 v12 v13 v14 v15 v16 v17 v18 v19 v20 v21 v22 v23 v24 v25 v26 v27 v28 v29 f30 (by first | rfl | exact h31 | exact h32 | exact h33 | exact h34 | exact h36)) ⟨callB_of 0 htx (xw_goodC kw_5_229) rfl rfl rfl (htx _ kw_1_5) (htx _ kw_5_226) ⟨by decide, by decide, by decide +kernel⟩ ⟨Nat.le_of_ble_eq_true rfl, Nat.le_of_ble_eq_true rfl⟩, (htx _ kw_5_228), (htx _ kp_M_blanks)⟩ ⟨xPre_blind, va_recv hK hP (ci := 5) rfl (q0 := 0) rfl, (fun U hU hW => ⟨rfl, xPre_of hZ hS hFc hPc hDc hK U hU hW⟩)⟩ rfl rfl hl.1 rfl (lv_room (Nat.le_of_ble_eq_true rfl)) dM_value_1 ⟨Nat.le_of_ble_eq_true rfl, Nat.le_of_ble_eq_true rfl⟩) hS (fun q _ h => hFc q h) hFc (fun u9 t H1 locs ht hvm hr9 hB hz1 hk1 hS => ?_)
  obtain ⟨hP1, hK1, hD1⟩ := hB
  rw [ht] at hP1
  obtain ⟨hP, hD⟩ := xjoin (W := [(a2, .inl (cT 4, 1024, .inr (.inr (.inr (.inr f35))))), (a0, .inr (5, [v3, .ref a2, .int 0, v4, v5, v6, v7, v8, v9, v10, v11, v12, v13, v14, v15, .ref a1, .int 0, .int 4, v16, v17, v18, v19, v20, v21, v22, v23, v24, v25, v26, v27, v28, v29])), (a1, .inl (cT 0, 4096, .inl f30))]) hP hD [0, 1] [2] 1 rfl rfl (by decide) (by decide) hk1 hFc hP1 hD1
  generalize H1 = H at hP hS ⊢
  refine lv_aload_n hx hb dM_value_4 rfl (lv_at hl 0 rfl) ?_
  obtain ⟨hPc, hDc, hFc⟩ := xcut (wc := [(a0, .inr (5, [v3, .ref a2, .int 0, v4, v5, v6, v7, v8, v9, v10, v11, v12, v13, v14, v15, .ref a1, .int 0, .int 4, v16, v17, v18, v19, v20, v21, v22, v23, v24, v25, v26, v27, v28, v29])), (a1, .inl (cT 0, 4096, .inl f30))]) hP hD hS hA [1, 2] rfl rfl (by decide)
  refine va_calli (va_runV (C := "ValueBenchModel") (As := []) (rest := []) ⟨hx, hb, hml, hown, htx⟩ (cM_peek_1 l hl9 D cT aK aV H.size a0 a1 v3 (.ref a2) (.int 0) v4 v5 v6 v7 v8 v9 v10 v11 v12 v13 v14 v15 v16 v17 v18 v19 v20 v21 v22 v23 v24 v25 v26 v27 v28 v29 f30 (by first | rfl | exact h31 | exact h32 | exact h33 | exact h34 | exact h36)) ⟨callB_of 0 htx (xw_goodC kw_5_233) rfl rfl rfl (htx _ kw_1_5) (htx _ kw_5_230) ⟨by decide, by decide, by decide +kernel⟩ ⟨Nat.le_of_ble_eq_true rfl, Nat.le_of_ble_eq_true rfl⟩, (htx _ kw_5_232), (htx _ kp_M_peek)⟩ ⟨xPre_blind, va_recv hK hP (ci := 5) rfl (q0 := 1) rfl, (fun U hU hW => ⟨rfl, xPre_of hZ hS hFc hPc hDc hK U hU hW⟩)⟩ rfl rfl hl.1 rfl (lv_room (Nat.le_of_ble_eq_true rfl)) dM_value_5 ⟨Nat.le_of_ble_eq_true rfl, Nat.le_of_ble_eq_true rfl⟩) hS (fun q _ h => hFc q h) hFc (fun r1 u9 t H1 locs ht hvm hr9 hB hz1 hk1 hS => ?_)
  obtain ⟨hP1, hK1, hD1⟩ := hB
  rw [ht] at hP1
  obtain ⟨hP, hD⟩ := xjoin (W := [(a2, .inl (cT 4, 1024, .inr (.inr (.inr (.inr f35))))), (a0, .inr (5, [v3, .ref a2, .int 0, v4, v5, v6, v7, v8, v9, v10, v11, v12, v13, v14, v15, .ref a1, .int 0, .int 4, v16, v17, v18, v19, v20, v21, v22, v23, v24, v25, v26, v27, v28, v29])), (a1, .inl (cT 0, 4096, .inl f30))]) hP hD [1, 2] [0] 1 rfl rfl (by decide) (by decide) hk1 hFc hP1 hD1
  generalize H1 = H at hP hS ⊢
  rw [hr9]
  refine W.eq (g2 := F0 m 8 ls [.int 110]) rfl ?_
  refine lv_istore_n (lv' := [(1, .int 110), (0, .ref a0)]) hx hb dM_value_8 rfl hl (by decide) rfl (fun ls hl => ?_)
  refine lv_iload_n hx hb dM_value_9 rfl (lv_at hl 0 rfl) ?_
  refine lv_bipush (v := 110) hx hb dM_value_10 (by decide) ?_
  refine lv_icmp_ne (tgt := 23) hx hb dM_value_12 (by decide) (fun h => ((by revert h; decide : False)).elim) (fun _ => ?_)
  refine lv_aload_n hx hb dM_value_15 rfl (lv_at hl 1 rfl) ?_
  refine va_ldcS (q := aK 10) hx hb hown (hZ.2.2.2.2.2.2.2.2.1 ("ValueBenchModel", 69, "null", 10) (List.mem_of_getElem? (i := 17) rfl)) dM_value_16 ?_
  refine lv_iconst (v := 0) hx hb dM_value_18 (by decide) ?_
  obtain ⟨hPc, hDc, hFc⟩ := xcut (wc := [(a0, .inr (5, [v3, .ref a2, .int 0, v4, v5, v6, v7, v8, v9, v10, v11, v12, v13, v14, v15, .ref a1, .int 0, .int 4, v16, v17, v18, v19, v20, v21, v22, v23, v24, v25, v26, v27, v28, v29])), (a1, .inl (cT 0, 4096, .inl f30)), (a2, .inl (cT 4, 1024, .inr (.inr (.inr (.inr f35)))))]) hP hD hS hA [1, 2, 0] rfl rfl (by decide)
  refine va_callr (va_runV (C := "ValueBenchModel") (As := [.ref (aK 10), .int 0]) (rest := []) ⟨hx, hb, hml, hown, htx⟩ (cM_says_0 l hl9 D cT aK aV H.size a0 a1 a2 v3 v4 v5 v6 v7 v8 v9 v10 v11 v12 v13 v14 v15 v16 v17 v18 v19 v20 v21 v22 v23 v24 v25 v26 v27 v28 v29 f30 f35 (by first | rfl | exact h31 | exact h32 | exact h33 | exact h34 | exact h36) (by first | rfl | exact h31 | exact h32 | exact h33 | exact h34 | exact h36) (by first | rfl | exact h31 | exact h32 | exact h33 | exact h34 | exact h36) (by first | rfl | exact h31 | exact h32 | exact h33 | exact h34 | exact h36) (by first | rfl | exact h31 | exact h32 | exact h33 | exact h34 | exact h36)) ⟨callB_of 2 htx (xw_goodC kw_5_237) rfl rfl rfl (htx _ kw_1_5) (htx _ kw_5_234) ⟨by decide, by decide, by decide +kernel⟩ ⟨Nat.le_of_ble_eq_true rfl, Nat.le_of_ble_eq_true rfl⟩, (htx _ kw_5_236), (htx _ kp_M_says)⟩ ⟨xPre_blind, va_recv hK hP (ci := 5) rfl (q0 := 1) rfl, (fun U hU hW => ⟨rfl, xPre_of hZ hS hFc hPc hDc hK U hU hW⟩)⟩ rfl rfl hl.1 rfl (lv_room (Nat.le_of_ble_eq_true rfl)) dM_value_19 ⟨Nat.le_of_ble_eq_true rfl, Nat.le_of_ble_eq_true rfl⟩) hS (fun q _ h => hFc q h) hFc (fun u9 r2 t H1 locs ht hvm hr9 hB hz1 hk1 hS => ?_)
  obtain ⟨hP1, hK1, hD1⟩ := hB
  rw [ht] at hP1
  obtain ⟨hP, hD⟩ := xjoin (W := [(a0, .inr (5, [v3, .ref a2, .int 1, v4, v5, v6, v7, v8, v9, v10, v11, v12, v13, v14, v15, .ref a1, .int 4, .int 4, v16, v17, v18, v19, v20, v21, v22, v23, v24, v25, v26, v27, v28, v29])), (a1, .inl (cT 0, 4096, .inl f30)), (a2, .inl (cT 4, 1024, .inr (.inr (.inr (.inr (va_up f35 0 (some r2))))))), (r2, .inr (6, [.int 0, .long 0, .int 0, .int 0, .int 0, .int 1]))]) hP hD [1, 2, 0] [] 0 rfl rfl (by decide) (by decide) hk1 hFc hP1 hD1
  generalize H1 = H at hP hS ⊢
  refine W.eq (g2 := F0 m 22 ls [.ref r2]) rfl ?_
  obtain ⟨hP9, hD9⟩ := xsub (wc := [(a0, .inr (5, [v3, .ref a2, .int 1, v4, v5, v6, v7, v8, v9, v10, v11, v12, v13, v14, v15, .ref a1, .int 4, .int 4, v16, v17, v18, v19, v20, v21, v22, v23, v24, v25, v26, v27, v28, v29])), (a1, .inl (cT 0, 4096, .inl f30)), (a2, .inl (cT 4, 1024, .inr (.inr (.inr (.inr (va_up f35 0 (some r2))))))), (r2, .inr (6, [.int 0, .long 0, .int 0, .int 0, .int 0, .int 1]))]) hP hD [0, 1, 2, 3] rfl rfl (by decide)
  refine W.widen (k := 1) (n := 6) (Nat.le_of_ble_eq_true rfl) (Nat.le_of_ble_eq_true rfl) ?_
  exact W.aret hx hb hr (Or.inl ⟨_, rfl⟩) (Or.inr ⟨_, rfl⟩) (fun t ht hW => ⟨⟨(), r2, rfl, trivial, by rw [ht]; exact hP9, va_K.moved hW.alike hK, hD9⟩, hS.F ht⟩) hS.2.2 dM_value_22
set_option maxHeartbeats 400000000 in
set_option maxRecDepth 100000 in
theorem cM_peek_5 (l : Launch) (hl9 : l.stackTraces = false) (D : va_G) (cT : Nat → ClassId) (aK aV : Nat → Nat) (sz : Nat) (a0 : Nat) (v1 : Value) (v2 : Value) (v3 : Value) (v4 : Value) (v5 : Value) (v6 : Value) (v7 : Value) (v8 : Value) (v9 : Value) (v10 : Value) (v11 : Value) (v12 : Value) (v13 : Value) (v14 : Value) (v15 : Value) (v16 : Value) (v17 : Value) (v18 : Value) (v19 : Value) (v20 : Value) (v21 : Value) (v22 : Value) (v23 : Value) (v24 : Value) (v25 : Value) (v26 : Value) (v27 : Value) (v28 : Value) (v29 : Value) (v30 : Value) : xMet l yM_peek wyM_peek 0 0 0 0 D cT aK aV sz [.ref a0] [(a0, .inr (5, [v1, v2, v3, v4, v5, v6, v7, v8, v9, v10, v11, v12, v13, v14, v15, v16, .int 4, .int 4, v17, v18, v19, v20, v21, v22, v23, v24, v25, v26, v27, v28, v29, v30]))] (fun A => va_Qi (fun (r : Int32) (_ : Unit) => r = (-1)) (fun _ t => xB D xcl cT A [(a0, .inr (5, [v1, v2, v3, v4, v5, v6, v7, v8, v9, v10, v11, v12, v13, v14, v15, v16, .int 4, .int 4, v17, v18, v19, v20, v21, v22, v23, v24, v25, v26, v27, v28, v29, v30]))] t) A) := by
  refine Met.ofW (cc := prog_13_method_29_code) (maxL := 1) (ret := (some .int)) (by decide) rfl ?_
  intro p e s m args below meth c s₁ B hml hv
  obtain ⟨rfl, hsz, hZ, hP, hK, hD0⟩ := hv
  have hx := B.exec
  have hb := B.bytes
  have hr := B.returns
  have hts := atoms_spec (ws := wyM_peek) B.pre
  have htx := fun w h => hts w (List.mem_cons_of_mem _ h)
  have hown : s.vm.findClass "ValueBenchModel" = some m.cls := findClass_of_methodNamed B.named
  have hlocks := B.notSynchronized
  subst hsz
  have hD := hD0.self (sz := s.heap.size)
  generalize hAe : va_A [(a0, .inr (5, [v1, v2, v3, v4, v5, v6, v7, v8, v9, v10, v11, v12, v13, v14, v15, v16, .int 4, .int 4, v17, v18, v19, v20, v21, v22, v23, v24, v25, v26, v27, v28, v29, v30]))] s.heap.size = A at hD hZ ⊢
  have hA : ∀ q : Nat, s.heap.size ≤ q → A q := fun q h => by rw [← hAe]; exact Or.inr h
  have hS : va_S A s.heap s.heap [] := va_S.rf
  have hP : va_P D xcl [(a0, .inr (5, [v1, v2, v3, v4, v5, v6, v7, v8, v9, v10, v11, v12, v13, v14, v15, v16, .int 4, .int 4, v17, v18, v19, v20, v21, v22, v23, v24, v25, v26, v27, v28, v29, v30]))] s.heap := hP
  have hl := lv_entry ([.ref a0]) (n := 1) (Nat.le_of_ble_eq_true rfl)
  rw [lg_entry_eq]
  generalize (lg_sl ([.ref a0]) ++ List.replicate (1 - (lg_sl ([.ref a0])).length) Slot.unset).toArray = ls at hl ⊢
  have hl : lv_has ls 1 [(0, .ref a0)] := hl
  refine lv_aload_n hx hb dM_peek_0 rfl (lv_at hl 0 rfl) ?_
  refine va_get (D := D) (ci := 5) (v := .int 4) (C := "ValueBenchModel") (T := TM) (N := 32) hx hb htx inM hown hK hP 0 rfl rfl 16 (by decide) (htx _ kw_5_103) (fun _ h9 => h9) rfl dM_peek_1 ?_
  refine lv_aload_n hx hb dM_peek_4 rfl (lv_at hl 0 rfl) ?_
  refine va_get (D := D) (ci := 5) (v := .int 4) (C := "ValueBenchModel") (T := TM) (N := 32) hx hb htx inM hown hK hP 0 rfl rfl 17 (by decide) (htx _ kw_5_104) (fun _ h9 => h9) rfl dM_peek_5 ?_
  refine lv_icmp_ge (tgt := 27) hx hb dM_peek_8 (by decide) (fun _ => ?_) (fun h => ((by revert h; decide : False)).elim)
  refine lv_iconst (v := (-1)) hx hb dM_peek_27 (by decide) ?_
  obtain ⟨hP9, hD9⟩ := xsub (wc := [(a0, .inr (5, [v1, v2, v3, v4, v5, v6, v7, v8, v9, v10, v11, v12, v13, v14, v15, v16, .int 4, .int 4, v17, v18, v19, v20, v21, v22, v23, v24, v25, v26, v27, v28, v29, v30]))]) hP hD [0] rfl rfl (by decide)
  refine W.widen (k := 0) (n := 0) (Nat.le_of_ble_eq_true rfl) (Nat.le_of_ble_eq_true rfl) ?_
  exact W.iret (v := (-1)) hx hb hr (fun t ht hW => ⟨⟨(-1), (), rfl, rfl, by rw [ht]; exact hP9, va_K.moved hW.alike hK, hD9⟩, hS.F ht⟩) hS.2.2 dM_peek_28
set_option maxHeartbeats 400000000 in
set_option maxRecDepth 100000 in
theorem cM_blanks_2 (l : Launch) (hl9 : l.stackTraces = false) (D : va_G) (cT : Nat → ClassId) (aK aV : Nat → Nat) (sz : Nat) (a0 : Nat) (v1 : Value) (v2 : Value) (v3 : Value) (v4 : Value) (v5 : Value) (v6 : Value) (v7 : Value) (v8 : Value) (v9 : Value) (v10 : Value) (v11 : Value) (v12 : Value) (v13 : Value) (v14 : Value) (v15 : Value) (v16 : Value) (v17 : Value) (v18 : Value) (v19 : Value) (v20 : Value) (v21 : Value) (v22 : Value) (v23 : Value) (v24 : Value) (v25 : Value) (v26 : Value) (v27 : Value) (v28 : Value) (v29 : Value) (v30 : Value) : xMet l yM_blanks wyM_blanks 1 0 0 20 D cT aK aV sz [.ref a0] [(a0, .inr (5, [v1, v2, v3, v4, v5, v6, v7, v8, v9, v10, v11, v12, v13, v14, v15, v16, .int 4, .int 4, v17, v18, v19, v20, v21, v22, v23, v24, v25, v26, v27, v28, v29, v30]))] (fun A => va_Qv (fun _ : Unit => True) (fun _ t => xB D xcl cT A [(a0, .inr (5, [v1, v2, v3, v4, v5, v6, v7, v8, v9, v10, v11, v12, v13, v14, v15, v16, .int 4, .int 4, v17, v18, v19, v20, v21, v22, v23, v24, v25, v26, v27, v28, v29, v30]))] t) A) := by
  refine Met.ofW (cc := prog_13_method_31_code) (maxL := 1) (ret := none) (by decide) rfl ?_
  intro p e s m args below meth c s₁ B hml hv
  obtain ⟨rfl, hsz, hZ, hP, hK, hD0⟩ := hv
  have hx := B.exec
  have hb := B.bytes
  have hr := B.returns
  have hts := atoms_spec (ws := wyM_blanks) B.pre
  have htx := fun w h => hts w (List.mem_cons_of_mem _ h)
  have hown : s.vm.findClass "ValueBenchModel" = some m.cls := findClass_of_methodNamed B.named
  have hlocks := B.notSynchronized
  subst hsz
  have hD := hD0.self (sz := s.heap.size)
  generalize hAe : va_A [(a0, .inr (5, [v1, v2, v3, v4, v5, v6, v7, v8, v9, v10, v11, v12, v13, v14, v15, v16, .int 4, .int 4, v17, v18, v19, v20, v21, v22, v23, v24, v25, v26, v27, v28, v29, v30]))] s.heap.size = A at hD hZ ⊢
  have hA : ∀ q : Nat, s.heap.size ≤ q → A q := fun q h => by rw [← hAe]; exact Or.inr h
  have hS : va_S A s.heap s.heap [] := va_S.rf
  have hP : va_P D xcl [(a0, .inr (5, [v1, v2, v3, v4, v5, v6, v7, v8, v9, v10, v11, v12, v13, v14, v15, v16, .int 4, .int 4, v17, v18, v19, v20, v21, v22, v23, v24, v25, v26, v27, v28, v29, v30]))] s.heap := hP
  have hl := lv_entry ([.ref a0]) (n := 1) (Nat.le_of_ble_eq_true rfl)
  rw [lg_entry_eq]
  generalize (lg_sl ([.ref a0]) ++ List.replicate (1 - (lg_sl ([.ref a0])).length) Slot.unset).toArray = ls at hl ⊢
  have hl : lv_has ls 1 [(0, .ref a0)] := hl
  refine lv_aload_n hx hb dM_blanks_0 rfl (lv_at hl 0 rfl) ?_
  obtain ⟨hPc, hDc, hFc⟩ := xcut (wc := [(a0, .inr (5, [v1, v2, v3, v4, v5, v6, v7, v8, v9, v10, v11, v12, v13, v14, v15, v16, .int 4, .int 4, v17, v18, v19, v20, v21, v22, v23, v24, v25, v26, v27, v28, v29, v30]))]) hP hD hS hA [0] rfl rfl (by decide)
  refine va_calli (va_runV (C := "ValueBenchModel") (As := []) (rest := []) ⟨hx, hb, hml, hown, htx⟩ (cM_peek_5 l hl9 D cT aK aV s.heap.size a0 v1 v2 v3 v4 v5 v6 v7 v8 v9 v10 v11 v12 v13 v14 v15 v16 v17 v18 v19 v20 v21 v22 v23 v24 v25 v26 v27 v28 v29 v30) ⟨callB_of 0 htx (xw_goodC kw_5_233) rfl rfl rfl (htx _ kw_1_5) (htx _ kw_5_230) ⟨by decide, by decide, by decide +kernel⟩ ⟨Nat.le_of_ble_eq_true rfl, Nat.le_of_ble_eq_true rfl⟩, (htx _ kw_5_232), (htx _ kp_M_peek)⟩ ⟨xPre_blind, va_recv hK hP (ci := 5) rfl (q0 := 0) rfl, (fun U hU hW => ⟨rfl, xPre_of hZ hS hFc hPc hDc hK U hU hW⟩)⟩ rfl rfl hl.1 rfl (lv_room (Nat.le_of_ble_eq_true rfl)) dM_blanks_1 ⟨Nat.le_of_ble_eq_true rfl, Nat.le_of_ble_eq_true rfl⟩) hS (fun q _ h => hFc q h) hFc (fun r1 u9 t H1 locs ht hvm hr9 hB hz1 hk1 hS => ?_)
  obtain ⟨hP1, hK1, hD1⟩ := hB
  rw [ht] at hP1
  obtain ⟨hP, hD⟩ := xjoin (W := [(a0, .inr (5, [v1, v2, v3, v4, v5, v6, v7, v8, v9, v10, v11, v12, v13, v14, v15, v16, .int 4, .int 4, v17, v18, v19, v20, v21, v22, v23, v24, v25, v26, v27, v28, v29, v30]))]) hP hD [0] [] 0 rfl rfl (by decide) (by decide) hk1 hFc hP1 hD1
  generalize H1 = H at hP hS ⊢
  rw [hr9]
  refine W.eq (g2 := F0 m 4 ls [.int (-1)]) rfl ?_
  refine lv_bipush (v := 32) hx hb dM_blanks_4 (by decide) ?_
  refine lv_icmp_eq (tgt := 45) hx hb dM_blanks_6 (by decide) (fun h => ((by revert h; decide : False)).elim) (fun _ => ?_)
  refine lv_aload_n hx hb dM_blanks_9 rfl (lv_at hl 0 rfl) ?_
  obtain ⟨hPc, hDc, hFc⟩ := xcut (wc := [(a0, .inr (5, [v1, v2, v3, v4, v5, v6, v7, v8, v9, v10, v11, v12, v13, v14, v15, v16, .int 4, .int 4, v17, v18, v19, v20, v21, v22, v23, v24, v25, v26, v27, v28, v29, v30]))]) hP hD hS hA [0] rfl rfl (by decide)
  refine va_calli (va_runV (C := "ValueBenchModel") (As := []) (rest := []) ⟨hx, hb, hml, hown, htx⟩ (cM_peek_5 l hl9 D cT aK aV H.size a0 v1 v2 v3 v4 v5 v6 v7 v8 v9 v10 v11 v12 v13 v14 v15 v16 v17 v18 v19 v20 v21 v22 v23 v24 v25 v26 v27 v28 v29 v30) ⟨callB_of 0 htx (xw_goodC kw_5_233) rfl rfl rfl (htx _ kw_1_5) (htx _ kw_5_230) ⟨by decide, by decide, by decide +kernel⟩ ⟨Nat.le_of_ble_eq_true rfl, Nat.le_of_ble_eq_true rfl⟩, (htx _ kw_5_232), (htx _ kp_M_peek)⟩ ⟨xPre_blind, va_recv hK hP (ci := 5) rfl (q0 := 0) rfl, (fun U hU hW => ⟨rfl, xPre_of hZ hS hFc hPc hDc hK U hU hW⟩)⟩ rfl rfl hl.1 rfl (lv_room (Nat.le_of_ble_eq_true rfl)) dM_blanks_10 ⟨Nat.le_of_ble_eq_true rfl, Nat.le_of_ble_eq_true rfl⟩) hS (fun q _ h => hFc q h) hFc (fun r2 u9 t H1 locs ht hvm hr9 hB hz1 hk1 hS => ?_)
  obtain ⟨hP1, hK1, hD1⟩ := hB
  rw [ht] at hP1
  obtain ⟨hP, hD⟩ := xjoin (W := [(a0, .inr (5, [v1, v2, v3, v4, v5, v6, v7, v8, v9, v10, v11, v12, v13, v14, v15, v16, .int 4, .int 4, v17, v18, v19, v20, v21, v22, v23, v24, v25, v26, v27, v28, v29, v30]))]) hP hD [0] [] 0 rfl rfl (by decide) (by decide) hk1 hFc hP1 hD1
  generalize H1 = H at hP hS ⊢
  rw [hr9]
  refine W.eq (g2 := F0 m 13 ls [.int (-1)]) rfl ?_
  refine lv_bipush (v := 9) hx hb dM_blanks_13 (by decide) ?_
  refine lv_icmp_lt (tgt := 58) hx hb dM_blanks_15 (by decide) (fun _ => ?_) (fun h => ((by revert h; decide : False)).elim)
  obtain ⟨hP9, hD9⟩ := xsub (wc := [(a0, .inr (5, [v1, v2, v3, v4, v5, v6, v7, v8, v9, v10, v11, v12, v13, v14, v15, v16, .int 4, .int 4, v17, v18, v19, v20, v21, v22, v23, v24, v25, v26, v27, v28, v29, v30]))]) hP hD [0] rfl rfl (by decide)
  refine W.widen (k := 0) (n := 0) (Nat.le_of_ble_eq_true rfl) (Nat.le_of_ble_eq_true rfl) ?_
  exact W.vret hx hb hr (fun t ht hW => ⟨⟨(), rfl, trivial, by rw [ht]; exact hP9, va_K.moved hW.alike hK, hD9⟩, hS.F ht⟩) hS.2.2 dM_blanks_58
set_option maxHeartbeats 400000000 in
set_option maxRecDepth 100000 in
theorem cM_json_1 (l : Launch) (hl9 : l.stackTraces = false) (D : va_G) (cT : Nat → ClassId) (aK aV : Nat → Nat) (sz : Nat) (a0 : Nat) (a1 : Nat) (a2 : Nat) (v3 : Value) (v4 : Value) (v5 : Value) (v6 : Value) (v7 : Value) (v8 : Value) (v9 : Value) (v10 : Value) (v11 : Value) (v12 : Value) (v13 : Value) (v14 : Value) (v15 : Value) (v16 : Value) (v17 : Value) (v18 : Value) (v19 : Value) (v20 : Value) (v21 : Value) (v22 : Value) (v23 : Value) (v24 : Value) (v25 : Value) (v26 : Value) (v27 : Value) (v28 : Value) (v29 : Value) (v30 : Value) (v31 : Value) (v32 : Value) (f33 : Nat → Int32) (f38 : Nat → Option Nat) (h34 : f33 0 = 110) (h35 : f33 1 = 117) (h36 : f33 2 = 108) (h37 : f33 3 = 108) (h39 : f38 0 = none) : xMet l yM_json wyM_json 6 1 6 130 D cT aK aV sz [.ref a0, .ref a1, .int 0, .int 4] [(a0, .inr (5, [v3, .ref a2, .int 0, v4, v5, v6, v7, v8, v9, v10, v11, v12, v13, v14, v15, v16, v17, v18, v19, v20, v21, v22, v23, v24, v25, v26, v27, v28, v29, v30, v31, v32])), (a1, .inl (cT 0, 4096, .inl f33)), (a2, .inl (cT 4, 1024, .inr (.inr (.inr (.inr f38)))))] (fun A => va_Qr (fun _ : Unit => True) (fun _ r1 t => xB D xcl cT A [(a0, .inr (5, [v3, .ref a2, .int 1, v4, v5, v6, v7, v8, v9, v10, v11, v12, v13, v14, v15, .ref a1, .int 4, .int 4, .int 0, v20, v21, v22, v23, v24, v25, v26, v27, v28, v29, v30, v31, v32])), (a1, .inl (cT 0, 4096, .inl f33)), (a2, .inl (cT 4, 1024, .inr (.inr (.inr (.inr (va_up f38 0 (some r1))))))), (r1, .inr (6, [.int 0, .long 0, .int 0, .int 0, .int 0, .int 1]))] t) A) := by
  refine Met.ofW (cc := prog_13_method_32_code) (maxL := 5) (ret := (some (.object "ValueBenchModel$V"))) (by decide) rfl ?_
  intro p e s m args below meth c s₁ B hml hv
  obtain ⟨rfl, hsz, hZ, hP, hK, hD0⟩ := hv
  have hx := B.exec
  have hb := B.bytes
  have hr := B.returns
  have hts := atoms_spec (ws := wyM_json) B.pre
  have htx := fun w h => hts w (List.mem_cons_of_mem _ h)
  have hown : s.vm.findClass "ValueBenchModel" = some m.cls := findClass_of_methodNamed B.named
  have hlocks := B.notSynchronized
  subst hsz
  have hD := hD0.self (sz := s.heap.size)
  generalize hAe : va_A [(a0, .inr (5, [v3, .ref a2, .int 0, v4, v5, v6, v7, v8, v9, v10, v11, v12, v13, v14, v15, v16, v17, v18, v19, v20, v21, v22, v23, v24, v25, v26, v27, v28, v29, v30, v31, v32])), (a1, .inl (cT 0, 4096, .inl f33)), (a2, .inl (cT 4, 1024, .inr (.inr (.inr (.inr f38)))))] s.heap.size = A at hD hZ ⊢
  have hA : ∀ q : Nat, s.heap.size ≤ q → A q := fun q h => by rw [← hAe]; exact Or.inr h
  have hS : va_S A s.heap s.heap [] := va_S.rf
  have hP : va_P D xcl [(a0, .inr (5, [v3, .ref a2, .int 0, v4, v5, v6, v7, v8, v9, v10, v11, v12, v13, v14, v15, v16, v17, v18, v19, v20, v21, v22, v23, v24, v25, v26, v27, v28, v29, v30, v31, v32])), (a1, .inl (cT 0, 4096, .inl f33)), (a2, .inl (cT 4, 1024, .inr (.inr (.inr (.inr f38)))))] s.heap := hP
  have hl := lv_entry ([.ref a0, .ref a1, .int 0, .int 4]) (n := 5) (Nat.le_of_ble_eq_true rfl)
  rw [lg_entry_eq]
  generalize (lg_sl ([.ref a0, .ref a1, .int 0, .int 4]) ++ List.replicate (5 - (lg_sl ([.ref a0, .ref a1, .int 0, .int 4])).length) Slot.unset).toArray = ls at hl ⊢
  have hl : lv_has ls 5 [(0, .ref a0), (1, .ref a1), (2, .int 0), (3, .int 4)] := hl
  refine lv_aload_n hx hb dM_json_0 rfl (lv_at hl 0 rfl) ?_
  refine lv_aload_n hx hb dM_json_1 rfl (lv_at hl 1 rfl) ?_
  refine va_put (D := D) (ci := 5) (v := .ref a1) (ty := (.array .byte)) (C := "ValueBenchModel") (T := TM) (N := 32) hx hb htx inM tyM tyM_ok nmM hown hK hP hD hS 0 rfl rfl 15 (by decide) (htx _ kw_5_102) (fun _ h9 => h9) rfl (by decide +kernel) rfl rfl (Nat.le_of_ble_eq_true rfl) dM_json_2 (fun H locs hP hD hS => ?_)
  obtain ⟨hP, hD⟩ : xPD D xcl A [(a0, .inr (5, [v3, .ref a2, .int 0, v4, v5, v6, v7, v8, v9, v10, v11, v12, v13, v14, v15, .ref a1, v17, v18, v19, v20, v21, v22, v23, v24, v25, v26, v27, v28, v29, v30, v31, v32])), (a1, .inl (cT 0, 4096, .inl f33)), (a2, .inl (cT 4, 1024, .inr (.inr (.inr (.inr f38)))))] H := ⟨hP, hD⟩
  refine lv_aload_n hx hb dM_json_5 rfl (lv_at hl 0 rfl) ?_
  refine lv_iload_n hx hb dM_json_6 rfl (lv_at hl 2 rfl) ?_
  refine va_put (D := D) (ci := 5) (v := .int 0) (ty := .int) (C := "ValueBenchModel") (T := TM) (N := 32) hx hb htx inM tyM tyM_ok nmM hown hK hP hD hS 0 rfl rfl 16 (by decide) (htx _ kw_5_103) (fun _ h9 => h9) rfl (by decide +kernel) rfl rfl (Nat.le_of_ble_eq_true rfl) dM_json_7 (fun H locs hP hD hS => ?_)
  obtain ⟨hP, hD⟩ : xPD D xcl A [(a0, .inr (5, [v3, .ref a2, .int 0, v4, v5, v6, v7, v8, v9, v10, v11, v12, v13, v14, v15, .ref a1, .int 0, v18, v19, v20, v21, v22, v23, v24, v25, v26, v27, v28, v29, v30, v31, v32])), (a1, .inl (cT 0, 4096, .inl f33)), (a2, .inl (cT 4, 1024, .inr (.inr (.inr (.inr f38)))))] H := ⟨hP, hD⟩
  refine lv_aload_n hx hb dM_json_10 rfl (lv_at hl 0 rfl) ?_
  refine lv_iload_n hx hb dM_json_11 rfl (lv_at hl 3 rfl) ?_
  refine va_put (D := D) (ci := 5) (v := .int 4) (ty := .int) (C := "ValueBenchModel") (T := TM) (N := 32) hx hb htx inM tyM tyM_ok nmM hown hK hP hD hS 0 rfl rfl 17 (by decide) (htx _ kw_5_104) (fun _ h9 => h9) rfl (by decide +kernel) rfl rfl (Nat.le_of_ble_eq_true rfl) dM_json_12 (fun H locs hP hD hS => ?_)
  obtain ⟨hP, hD⟩ : xPD D xcl A [(a0, .inr (5, [v3, .ref a2, .int 0, v4, v5, v6, v7, v8, v9, v10, v11, v12, v13, v14, v15, .ref a1, .int 0, .int 4, v19, v20, v21, v22, v23, v24, v25, v26, v27, v28, v29, v30, v31, v32])), (a1, .inl (cT 0, 4096, .inl f33)), (a2, .inl (cT 4, 1024, .inr (.inr (.inr (.inr f38)))))] H := ⟨hP, hD⟩
  refine lv_aload_n hx hb dM_json_15 rfl (lv_at hl 0 rfl) ?_
  refine lv_iconst (v := 0) hx hb dM_json_16 (by decide) ?_
  refine va_put (D := D) (ci := 5) (v := .int 0) (ty := .int) (C := "ValueBenchModel") (T := TM) (N := 32) hx hb htx inM tyM tyM_ok nmM hown hK hP hD hS 0 rfl rfl 18 (by decide) (htx _ kw_5_105) (fun _ h9 => h9) rfl (by decide +kernel) rfl rfl (Nat.le_of_ble_eq_true rfl) dM_json_17 (fun H locs hP hD hS => ?_)
  obtain ⟨hP, hD⟩ : xPD D xcl A [(a0, .inr (5, [v3, .ref a2, .int 0, v4, v5, v6, v7, v8, v9, v10, v11, v12, v13, v14, v15, .ref a1, .int 0, .int 4, .int 0, v20, v21, v22, v23, v24, v25, v26, v27, v28, v29, v30, v31, v32])), (a1, .inl (cT 0, 4096, .inl f33)), (a2, .inl (cT 4, 1024, .inr (.inr (.inr (.inr f38)))))] H := ⟨hP, hD⟩
  refine lv_aload_n hx hb dM_json_20 rfl (lv_at hl 0 rfl) ?_
  obtain ⟨hPc, hDc, hFc⟩ := xcut (wc := [(a0, .inr (5, [v3, .ref a2, .int 0, v4, v5, v6, v7, v8, v9, v10, v11, v12, v13, v14, v15, .ref a1, .int 0, .int 4, .int 0, v20, v21, v22, v23, v24, v25, v26, v27, v28, v29, v30, v31, v32])), (a1, .inl (cT 0, 4096, .inl f33)), (a2, .inl (cT 4, 1024, .inr (.inr (.inr (.inr f38)))))]) hP hD hS hA [0, 1, 2] rfl rfl (by decide)
  refine va_callr (va_runV (C := "ValueBenchModel") (As := []) (rest := []) ⟨hx, hb, hml, hown, htx⟩ (cM_value_1 l hl9 D cT aK aV H.size a0 a1 a2 v3 v4 v5 v6 v7 v8 v9 v10 v11 v12 v13 v14 v15 (.int 0) v20 v21 v22 v23 v24 v25 v26 v27 v28 v29 v30 v31 v32 f33 f38 (by first | rfl | exact h34 | exact h35 | exact h36 | exact h37 | exact h39) (by first | rfl | exact h34 | exact h35 | exact h36 | exact h37 | exact h39) (by first | rfl | exact h34 | exact h35 | exact h36 | exact h37 | exact h39) (by first | rfl | exact h34 | exact h35 | exact h36 | exact h37 | exact h39) (by first | rfl | exact h34 | exact h35 | exact h36 | exact h37 | exact h39)) ⟨callB_of 0 htx (xw_goodC kw_5_225) rfl rfl rfl (htx _ kw_1_5) (htx _ kw_5_222) ⟨by decide, by decide, by decide +kernel⟩ ⟨Nat.le_of_ble_eq_true rfl, Nat.le_of_ble_eq_true rfl⟩, (htx _ kw_5_224), (htx _ kp_M_value)⟩ ⟨xPre_blind, va_recv hK hP (ci := 5) rfl (q0 := 0) rfl, (fun U hU hW => ⟨rfl, xPre_of hZ hS hFc hPc hDc hK U hU hW⟩)⟩ rfl rfl hl.1 rfl (lv_room (Nat.le_of_ble_eq_true rfl)) dM_json_21 ⟨Nat.le_of_ble_eq_true rfl, Nat.le_of_ble_eq_true rfl⟩) hS (fun q _ h => hFc q h) hFc (fun u9 r1 t H1 locs ht hvm hr9 hB hz1 hk1 hS => ?_)
  obtain ⟨hP1, hK1, hD1⟩ := hB
  rw [ht] at hP1
  obtain ⟨hP, hD⟩ := xjoin (W := [(a0, .inr (5, [v3, .ref a2, .int 1, v4, v5, v6, v7, v8, v9, v10, v11, v12, v13, v14, v15, .ref a1, .int 4, .int 4, .int 0, v20, v21, v22, v23, v24, v25, v26, v27, v28, v29, v30, v31, v32])), (a1, .inl (cT 0, 4096, .inl f33)), (a2, .inl (cT 4, 1024, .inr (.inr (.inr (.inr (va_up f38 0 (some r1))))))), (r1, .inr (6, [.int 0, .long 0, .int 0, .int 0, .int 0, .int 1]))]) hP hD [0, 1, 2] [] 0 rfl rfl (by decide) (by decide) hk1 hFc hP1 hD1
  generalize H1 = H at hP hS ⊢
  refine W.eq (g2 := F0 m 24 ls [.ref r1]) rfl ?_
  refine lv_astore (lv' := [(4, .ref r1), (0, .ref a0), (1, .ref a1), (2, .int 0), (3, .int 4)]) hx hb dM_json_24 hl (by decide) rfl (fun ls hl => ?_)
  refine lv_aload_n hx hb dM_json_26 rfl (lv_at hl 1 rfl) ?_
  obtain ⟨hPc, hDc, hFc⟩ := xcut (wc := [(a0, .inr (5, [v3, .ref a2, .int 1, v4, v5, v6, v7, v8, v9, v10, v11, v12, v13, v14, v15, .ref a1, .int 4, .int 4, .int 0, v20, v21, v22, v23, v24, v25, v26, v27, v28, v29, v30, v31, v32]))]) hP hD hS hA [0] rfl rfl (by decide)
  refine va_callv (va_runV (C := "ValueBenchModel") (As := []) (rest := []) ⟨hx, hb, hml, hown, htx⟩ (cM_blanks_2 l hl9 D cT aK aV H.size a0 v3 (.ref a2) (.int 1) v4 v5 v6 v7 v8 v9 v10 v11 v12 v13 v14 v15 (.ref a1) (.int 0) v20 v21 v22 v23 v24 v25 v26 v27 v28 v29 v30 v31 v32) ⟨callB_of 0 htx (xw_goodC kw_5_229) rfl rfl rfl (htx _ kw_1_5) (htx _ kw_5_226) ⟨by decide, by decide, by decide +kernel⟩ ⟨Nat.le_of_ble_eq_true rfl, Nat.le_of_ble_eq_true rfl⟩, (htx _ kw_5_228), (htx _ kp_M_blanks)⟩ ⟨xPre_blind, va_recv hK hP (ci := 5) rfl (q0 := 0) rfl, (fun U hU hW => ⟨rfl, xPre_of hZ hS hFc hPc hDc hK U hU hW⟩)⟩ rfl rfl hl.1 rfl (lv_room (Nat.le_of_ble_eq_true rfl)) dM_json_27 ⟨Nat.le_of_ble_eq_true rfl, Nat.le_of_ble_eq_true rfl⟩) hS (fun q _ h => hFc q h) hFc (fun u9 t H1 locs ht hvm hr9 hB hz1 hk1 hS => ?_)
  obtain ⟨hP1, hK1, hD1⟩ := hB
  rw [ht] at hP1
  obtain ⟨hP, hD⟩ := xjoin (W := [(a1, .inl (cT 0, 4096, .inl f33)), (a2, .inl (cT 4, 1024, .inr (.inr (.inr (.inr (va_up f38 0 (some r1))))))), (r1, .inr (6, [.int 0, .long 0, .int 0, .int 0, .int 0, .int 1])), (a0, .inr (5, [v3, .ref a2, .int 1, v4, v5, v6, v7, v8, v9, v10, v11, v12, v13, v14, v15, .ref a1, .int 4, .int 4, .int 0, v20, v21, v22, v23, v24, v25, v26, v27, v28, v29, v30, v31, v32]))]) hP hD [0] [1, 2, 3] 3 rfl rfl (by decide) (by decide) hk1 hFc hP1 hD1
  generalize H1 = H at hP hS ⊢
  refine lv_aload_n hx hb dM_json_30 rfl (lv_at hl 1 rfl) ?_
  refine va_get (D := D) (ci := 5) (v := .int 4) (C := "ValueBenchModel") (T := TM) (N := 32) hx hb htx inM hown hK hP 3 rfl rfl 16 (by decide) (htx _ kw_5_103) (fun _ h9 => h9) rfl dM_json_31 ?_
  refine lv_aload_n hx hb dM_json_34 rfl (lv_at hl 1 rfl) ?_
  refine va_get (D := D) (ci := 5) (v := .int 4) (C := "ValueBenchModel") (T := TM) (N := 32) hx hb htx inM hown hK hP 3 rfl rfl 17 (by decide) (htx _ kw_5_104) (fun _ h9 => h9) rfl dM_json_35 ?_
  refine lv_icmp_ge (tgt := 49) hx hb dM_json_38 (by decide) (fun _ => ?_) (fun h => ((by revert h; decide : False)).elim)
  refine lv_aload hx hb dM_json_49 (lv_at hl 0 rfl) ?_
  obtain ⟨hP9, hD9⟩ := xsub (wc := [(a0, .inr (5, [v3, .ref a2, .int 1, v4, v5, v6, v7, v8, v9, v10, v11, v12, v13, v14, v15, .ref a1, .int 4, .int 4, .int 0, v20, v21, v22, v23, v24, v25, v26, v27, v28, v29, v30, v31, v32])), (a1, .inl (cT 0, 4096, .inl f33)), (a2, .inl (cT 4, 1024, .inr (.inr (.inr (.inr (va_up f38 0 (some r1))))))), (r1, .inr (6, [.int 0, .long 0, .int 0, .int 0, .int 0, .int 1]))]) hP hD [3, 0, 1, 2] rfl rfl (by decide)
  refine W.widen (k := 1) (n := 6) (Nat.le_of_ble_eq_true rfl) (Nat.le_of_ble_eq_true rfl) ?_
  exact W.aret hx hb hr (Or.inl ⟨_, rfl⟩) (Or.inr ⟨_, rfl⟩) (fun t ht hW => ⟨⟨(), r1, rfl, trivial, by rw [ht]; exact hP9, va_K.moved hW.alike hK, hD9⟩, hS.F ht⟩) hS.2.2 dM_json_51
set_option maxHeartbeats 400000000 in
set_option maxRecDepth 100000 in
theorem cM_register_0 (l : Launch) (hl9 : l.stackTraces = false) (D : va_G) (cT : Nat → ClassId) (aK aV : Nat → Nat) (sz : Nat) (a0 : Nat) (a1 : Nat) (a2 : Nat) (a3 : Nat) (a4 : Nat) (x5 : Int32) (v10 : Value) (v11 : Value) (v12 : Value) (v13 : Value) (v14 : Value) (v15 : Value) (v16 : Value) (v17 : Value) (v18 : Value) (v19 : Value) (v20 : Value) (v21 : Value) (v22 : Value) (v23 : Value) (v24 : Value) (v25 : Value) (v26 : Value) (v27 : Value) (v28 : Value) (v29 : Value) (v30 : Value) (v31 : Value) (v32 : Value) (v33 : Value) (v34 : Value) (v35 : Value) (v36 : Value) (v37 : Value) (f38 : Nat → Option Nat) (f40 : Nat → Int32) (f42 : Nat → Int32) (f47 : Nat → Option Nat) (h6 : ¬ x5 < 0) (h7 : ¬ 7 < x5) (h8 : x5 ≤ 7) (h9 : vp_in x5 8) (h39 : f38 x5.toNatClampNeg = some a3) (h41 : f40 x5.toNatClampNeg = 4) (h43 : f42 0 = 110) (h44 : f42 1 = 117) (h45 : f42 2 = 108) (h46 : f42 3 = 108) (h48 : f47 0 = none) : xMet l yM_register wyM_register 7 1 6 154 D cT aK aV sz [.ref a0, .int x5] [(a0, .inr (5, [v10, .ref a4, .int 0, v11, v12, v13, v14, v15, v16, v17, v18, v19, v20, v21, v22, v23, v24, v25, v26, v27, v28, v29, v30, v31, .ref a1, .ref a2, v32, v33, v34, v35, v36, v37])), (a1, .inl (cT 5, 8, .inr (.inr (.inr (.inr f38))))), (a2, .inl (cT 1, 8, .inl f40)), (a3, .inl (cT 0, 4096, .inl f42)), (a4, .inl (cT 4, 1024, .inr (.inr (.inr (.inr f47)))))] (fun A => va_Qr (fun _ : Unit => True) (fun _ r1 t => xB D xcl cT A [(a0, .inr (5, [v10, .ref a4, .int 1, v11, v12, v13, v14, v15, v16, v17, v18, v19, v20, v21, v22, .ref a3, .int 4, .int 4, .int 0, .int 100, v28, v29, v30, v31, .ref a1, .ref a2, v32, v33, v34, v35, v36, v37])), (a1, .inl (cT 5, 8, .inr (.inr (.inr (.inr f38))))), (a2, .inl (cT 1, 8, .inl f40)), (a3, .inl (cT 0, 4096, .inl f42)), (a4, .inl (cT 4, 1024, .inr (.inr (.inr (.inr (va_up f47 0 (some r1))))))), (r1, .inr (6, [.int 0, .long 0, .int 0, .int 0, .int 0, .int 1]))] t) A) := by
  refine Met.ofW (cc := prog_13_method_79_code) (maxL := 2) (ret := (some (.object "ValueBenchModel$V"))) (by decide) rfl ?_
  intro p e s m args below meth c s₁ B hml hv
  obtain ⟨rfl, hsz, hZ, hP, hK, hD0⟩ := hv
  have hx := B.exec
  have hb := B.bytes
  have hr := B.returns
  have hts := atoms_spec (ws := wyM_register) B.pre
  have htx := fun w h => hts w (List.mem_cons_of_mem _ h)
  have hown : s.vm.findClass "ValueBenchModel" = some m.cls := findClass_of_methodNamed B.named
  have hlocks := B.notSynchronized
  subst hsz
  have hD := hD0.self (sz := s.heap.size)
  generalize hAe : va_A [(a0, .inr (5, [v10, .ref a4, .int 0, v11, v12, v13, v14, v15, v16, v17, v18, v19, v20, v21, v22, v23, v24, v25, v26, v27, v28, v29, v30, v31, .ref a1, .ref a2, v32, v33, v34, v35, v36, v37])), (a1, .inl (cT 5, 8, .inr (.inr (.inr (.inr f38))))), (a2, .inl (cT 1, 8, .inl f40)), (a3, .inl (cT 0, 4096, .inl f42)), (a4, .inl (cT 4, 1024, .inr (.inr (.inr (.inr f47)))))] s.heap.size = A at hD hZ ⊢
  have hA : ∀ q : Nat, s.heap.size ≤ q → A q := fun q h => by rw [← hAe]; exact Or.inr h
  have hS : va_S A s.heap s.heap [] := va_S.rf
  have hP : va_P D xcl [(a0, .inr (5, [v10, .ref a4, .int 0, v11, v12, v13, v14, v15, v16, v17, v18, v19, v20, v21, v22, v23, v24, v25, v26, v27, v28, v29, v30, v31, .ref a1, .ref a2, v32, v33, v34, v35, v36, v37])), (a1, .inl (cT 5, 8, .inr (.inr (.inr (.inr f38))))), (a2, .inl (cT 1, 8, .inl f40)), (a3, .inl (cT 0, 4096, .inl f42)), (a4, .inl (cT 4, 1024, .inr (.inr (.inr (.inr f47)))))] s.heap := hP
  have hl := lv_entry ([.ref a0, .int x5]) (n := 2) (Nat.le_of_ble_eq_true rfl)
  rw [lg_entry_eq]
  generalize (lg_sl ([.ref a0, .int x5]) ++ List.replicate (2 - (lg_sl ([.ref a0, .int x5])).length) Slot.unset).toArray = ls at hl ⊢
  have hl : lv_has ls 2 [(0, .ref a0), (1, .int x5)] := hl
  refine lv_aload_n hx hb dM_register_0 rfl (lv_at hl 0 rfl) ?_
  refine lv_bipush (v := 100) hx hb dM_register_1 (by decide) ?_
  refine va_put (D := D) (ci := 5) (v := .int 100) (ty := .int) (C := "ValueBenchModel") (T := TM) (N := 32) hx hb htx inM tyM tyM_ok nmM hown hK hP hD hS 0 rfl rfl 19 (by decide) (htx _ kw_5_106) (fun _ h9 => h9) rfl (by decide +kernel) rfl rfl (Nat.le_of_ble_eq_true rfl) dM_register_3 (fun H locs hP hD hS => ?_)
  obtain ⟨hP, hD⟩ : xPD D xcl A [(a0, .inr (5, [v10, .ref a4, .int 0, v11, v12, v13, v14, v15, v16, v17, v18, v19, v20, v21, v22, v23, v24, v25, v26, .int 100, v28, v29, v30, v31, .ref a1, .ref a2, v32, v33, v34, v35, v36, v37])), (a1, .inl (cT 5, 8, .inr (.inr (.inr (.inr f38))))), (a2, .inl (cT 1, 8, .inl f40)), (a3, .inl (cT 0, 4096, .inl f42)), (a4, .inl (cT 4, 1024, .inr (.inr (.inr (.inr f47)))))] H := ⟨hP, hD⟩
  refine lv_aload_n hx hb dM_register_6 rfl (lv_at hl 0 rfl) ?_
  refine lv_aload_n hx hb dM_register_7 rfl (lv_at hl 0 rfl) ?_
  refine va_get (D := D) (ci := 5) (v := .ref a1) (C := "ValueBenchModel") (T := TM) (N := 32) hx hb htx inM hown hK hP 0 rfl rfl 24 (by decide) (htx _ kw_5_111) (fun _ h9 => h9) rfl dM_register_8 ?_
  refine lv_iload_n hx hb dM_register_11 rfl (lv_at hl 1 rfl) ?_
  refine xx_aldA hx hb hK hP 1 5 rfl rfl h9 dM_register_12 ?_
  refine W.eq (g2 := F0 m 13 ls [va_rf (f38 x5.toNatClampNeg), .ref a0]) rfl ?_
  rw [h39]
  refine W.eq (g2 := F0 m 13 ls [.ref a3, .ref a0]) rfl ?_
  refine lv_iconst (v := 0) hx hb dM_register_13 (by decide) ?_
  refine lv_aload_n hx hb dM_register_14 rfl (lv_at hl 0 rfl) ?_
  refine va_get (D := D) (ci := 5) (v := .ref a2) (C := "ValueBenchModel") (T := TM) (N := 32) hx hb htx inM hown hK hP 0 rfl rfl 25 (by decide) (htx _ kw_5_112) (fun _ h9 => h9) rfl dM_register_15 ?_
  refine lv_iload_n hx hb dM_register_18 rfl (lv_at hl 1 rfl) ?_
  refine va_iald hx hb hK hP 2 1 rfl rfl h9 dM_register_19 ?_
  refine W.eq (g2 := F0 m 20 ls [.int (f40 x5.toNatClampNeg), .int 0, .ref a3, .ref a0]) rfl ?_
  rw [h41]
  refine W.eq (g2 := F0 m 20 ls [.int 4, .int 0, .ref a3, .ref a0]) rfl ?_
  obtain ⟨hPc, hDc, hFc⟩ := xcut (wc := [(a0, .inr (5, [v10, .ref a4, .int 0, v11, v12, v13, v14, v15, v16, v17, v18, v19, v20, v21, v22, v23, v24, v25, v26, .int 100, v28, v29, v30, v31, .ref a1, .ref a2, v32, v33, v34, v35, v36, v37])), (a3, .inl (cT 0, 4096, .inl f42)), (a4, .inl (cT 4, 1024, .inr (.inr (.inr (.inr f47)))))]) hP hD hS hA [0, 3, 4] rfl rfl (by decide)
  refine va_callr (va_runV (C := "ValueBenchModel") (As := [.ref a3, .int 0, .int 4]) (rest := []) ⟨hx, hb, hml, hown, htx⟩ (cM_json_1 l hl9 D cT aK aV H.size a0 a3 a4 v10 v11 v12 v13 v14 v15 v16 v17 v18 v19 v20 v21 v22 v23 v24 v25 v26 (.int 100) v28 v29 v30 v31 (.ref a1) (.ref a2) v32 v33 v34 v35 v36 v37 f42 f47 (by first | rfl | exact h39 | exact h41 | exact h43 | exact h44 | exact h45 | exact h46 | exact h48) (by first | rfl | exact h39 | exact h41 | exact h43 | exact h44 | exact h45 | exact h46 | exact h48) (by first | rfl | exact h39 | exact h41 | exact h43 | exact h44 | exact h45 | exact h46 | exact h48) (by first | rfl | exact h39 | exact h41 | exact h43 | exact h44 | exact h45 | exact h46 | exact h48) (by first | rfl | exact h39 | exact h41 | exact h43 | exact h44 | exact h45 | exact h46 | exact h48)) ⟨callB_of 3 htx (xw_goodC kw_5_221) rfl rfl rfl (htx _ kw_1_5) (htx _ kw_5_218) ⟨by decide, by decide, by decide +kernel⟩ ⟨Nat.le_of_ble_eq_true rfl, Nat.le_of_ble_eq_true rfl⟩, (htx _ kw_5_220), (htx _ kp_M_json)⟩ ⟨xPre_blind, va_recv hK hP (ci := 5) rfl (q0 := 0) rfl, (fun U hU hW => ⟨rfl, xPre_of hZ hS hFc hPc hDc hK U hU hW⟩)⟩ rfl rfl hl.1 rfl (lv_room (Nat.le_of_ble_eq_true rfl)) dM_register_20 ⟨Nat.le_of_ble_eq_true rfl, Nat.le_of_ble_eq_true rfl⟩) hS (fun q _ h => hFc q h) hFc (fun u9 r1 t H1 locs ht hvm hr9 hB hz1 hk1 hS => ?_)
  obtain ⟨hP1, hK1, hD1⟩ := hB
  rw [ht] at hP1
  obtain ⟨hP, hD⟩ := xjoin (W := [(a1, .inl (cT 5, 8, .inr (.inr (.inr (.inr f38))))), (a2, .inl (cT 1, 8, .inl f40)), (a0, .inr (5, [v10, .ref a4, .int 1, v11, v12, v13, v14, v15, v16, v17, v18, v19, v20, v21, v22, .ref a3, .int 4, .int 4, .int 0, .int 100, v28, v29, v30, v31, .ref a1, .ref a2, v32, v33, v34, v35, v36, v37])), (a3, .inl (cT 0, 4096, .inl f42)), (a4, .inl (cT 4, 1024, .inr (.inr (.inr (.inr (va_up f47 0 (some r1))))))), (r1, .inr (6, [.int 0, .long 0, .int 0, .int 0, .int 0, .int 1]))]) hP hD [0, 3, 4] [1, 2] 2 rfl rfl (by decide) (by decide) hk1 hFc hP1 hD1
  generalize H1 = H at hP hS ⊢
  refine W.eq (g2 := F0 m 23 ls [.ref r1]) rfl ?_
  obtain ⟨hP9, hD9⟩ := xsub (wc := [(a0, .inr (5, [v10, .ref a4, .int 1, v11, v12, v13, v14, v15, v16, v17, v18, v19, v20, v21, v22, .ref a3, .int 4, .int 4, .int 0, .int 100, v28, v29, v30, v31, .ref a1, .ref a2, v32, v33, v34, v35, v36, v37])), (a1, .inl (cT 5, 8, .inr (.inr (.inr (.inr f38))))), (a2, .inl (cT 1, 8, .inl f40)), (a3, .inl (cT 0, 4096, .inl f42)), (a4, .inl (cT 4, 1024, .inr (.inr (.inr (.inr (va_up f47 0 (some r1))))))), (r1, .inr (6, [.int 0, .long 0, .int 0, .int 0, .int 0, .int 1]))]) hP hD [2, 0, 1, 3, 4, 5] rfl rfl (by decide)
  refine W.widen (k := 1) (n := 6) (Nat.le_of_ble_eq_true rfl) (Nat.le_of_ble_eq_true rfl) ?_
  exact W.aret hx hb hr (Or.inl ⟨_, rfl⟩) (Or.inr ⟨_, rfl⟩) (fun t ht hW => ⟨⟨(), r1, rfl, trivial, by rw [ht]; exact hP9, va_K.moved hW.alike hK, hD9⟩, hS.F ht⟩) hS.2.2 dM_register_23
set_option maxHeartbeats 400000000 in
set_option maxRecDepth 100000 in
theorem cM_fresh_1 (l : Launch) (hl9 : l.stackTraces = false) (D : va_G) (cT : Nat → ClassId) (aK aV : Nat → Nat) (sz : Nat) (a0 : Nat) (a1 : Nat) (v2 : Value) (v3 : Value) (v4 : Value) (v5 : Value) (v6 : Value) (v7 : Value) (v8 : Value) (v9 : Value) (v10 : Value) (v11 : Value) (v12 : Value) (v13 : Value) (v14 : Value) (v15 : Value) (v16 : Value) (v17 : Value) (v18 : Value) (v19 : Value) (v20 : Value) (v21 : Value) (v22 : Value) (v23 : Value) (v24 : Value) (v25 : Value) (v26 : Value) (v27 : Value) (v28 : Value) (v29 : Value) (v30 : Value) (v31 : Value) (f32 : Nat → Option Nat) (h33 : f32 1 = none) : xMet l yM_fresh wyM_fresh 2 1 6 32 D cT aK aV sz [.ref a0, .int 0] [(a0, .inr (5, [v2, .ref a1, .int 1, v3, v4, v5, v6, v7, v8, v9, v10, v11, v12, v13, v14, v15, v16, v17, v18, v19, v20, v21, v22, v23, v24, v25, v26, v27, v28, v29, v30, v31])), (a1, .inl (cT 4, 1024, .inr (.inr (.inr (.inr f32)))))] (fun A => va_Qr (fun _ : Unit => True) (fun _ q1 t => xB D xcl cT A [(a0, .inr (5, [v2, .ref a1, .int 2, v3, v4, v5, v6, v7, v8, v9, v10, v11, v12, v13, v14, v15, v16, v17, v18, v19, v20, v21, v22, v23, v24, v25, v26, v27, v28, v29, v30, v31])), (a1, .inl (cT 4, 1024, .inr (.inr (.inr (.inr (va_up f32 1 (some q1))))))), (q1, .inr (6, [.int 0, .long 0, .int 0, .int 0, .int 0, .int 1]))] t) A) := by
  refine Met.ofW (cc := prog_13_method_6_code) (maxL := 4) (ret := (some (.object "ValueBenchModel$V"))) (by decide) rfl ?_
  intro p e s m args below meth c s₁ B hml hv
  obtain ⟨rfl, hsz, hZ, hP, hK, hD0⟩ := hv
  have hx := B.exec
  have hb := B.bytes
  have hr := B.returns
  have hts := atoms_spec (ws := wyM_fresh) B.pre
  have htx := fun w h => hts w (List.mem_cons_of_mem _ h)
  have hown : s.vm.findClass "ValueBenchModel" = some m.cls := findClass_of_methodNamed B.named
  have hlocks := B.notSynchronized
  subst hsz
  have hD := hD0.self (sz := s.heap.size)
  generalize hAe : va_A [(a0, .inr (5, [v2, .ref a1, .int 1, v3, v4, v5, v6, v7, v8, v9, v10, v11, v12, v13, v14, v15, v16, v17, v18, v19, v20, v21, v22, v23, v24, v25, v26, v27, v28, v29, v30, v31])), (a1, .inl (cT 4, 1024, .inr (.inr (.inr (.inr f32)))))] s.heap.size = A at hD hZ ⊢
  have hA : ∀ q : Nat, s.heap.size ≤ q → A q := fun q h => by rw [← hAe]; exact Or.inr h
  have hS : va_S A s.heap s.heap [] := va_S.rf
  have hP : va_P D xcl [(a0, .inr (5, [v2, .ref a1, .int 1, v3, v4, v5, v6, v7, v8, v9, v10, v11, v12, v13, v14, v15, v16, v17, v18, v19, v20, v21, v22, v23, v24, v25, v26, v27, v28, v29, v30, v31])), (a1, .inl (cT 4, 1024, .inr (.inr (.inr (.inr f32)))))] s.heap := hP
  have hl := lv_entry ([.ref a0, .int 0]) (n := 4) (Nat.le_of_ble_eq_true rfl)
  rw [lg_entry_eq]
  generalize (lg_sl ([.ref a0, .int 0]) ++ List.replicate (4 - (lg_sl ([.ref a0, .int 0])).length) Slot.unset).toArray = ls at hl ⊢
  have hl : lv_has ls 4 [(0, .ref a0), (1, .int 0)] := hl
  refine lv_aload_n hx hb dM_fresh_0 rfl (lv_at hl 0 rfl) ?_
  refine va_get (D := D) (ci := 5) (v := .int 1) (C := "ValueBenchModel") (T := TM) (N := 32) hx hb htx inM hown hK hP 0 rfl rfl 2 (by decide) (htx _ kw_5_89) (fun _ h9 => h9) rfl dM_fresh_1 ?_
  refine lv_aload_n hx hb dM_fresh_4 rfl (lv_at hl 0 rfl) ?_
  refine va_get (D := D) (ci := 5) (v := .ref a1) (C := "ValueBenchModel") (T := TM) (N := 32) hx hb htx inM hown hK hP 0 rfl rfl 1 (by decide) (htx _ kw_5_88) (fun _ h9 => h9) rfl dM_fresh_5 ?_
  refine va_alen (v := 1024) hx hb hK hP 1 4 rfl rfl rfl dM_fresh_8 ?_
  refine lv_icmp_ne (tgt := 52) hx hb dM_fresh_9 (by decide) (fun _ => ?_) (fun h => ((by revert h; decide : False)).elim)
  refine lv_aload_n hx hb dM_fresh_52 rfl (lv_at hl 0 rfl) ?_
  refine va_get (D := D) (ci := 5) (v := .ref a1) (C := "ValueBenchModel") (T := TM) (N := 32) hx hb htx inM hown hK hP 0 rfl rfl 1 (by decide) (htx _ kw_5_88) (fun _ h9 => h9) rfl dM_fresh_53 ?_
  refine lv_aload_n hx hb dM_fresh_56 rfl (lv_at hl 0 rfl) ?_
  refine va_get (D := D) (ci := 5) (v := .int 1) (C := "ValueBenchModel") (T := TM) (N := 32) hx hb htx inM hown hK hP 0 rfl rfl 2 (by decide) (htx _ kw_5_89) (fun _ h9 => h9) rfl dM_fresh_57 ?_
  refine va_aldq hx hb hK hP 1 4 rfl rfl (show ¬ ((1 : Int32) < 0 ∨ 1024 ≤ (1 : Int32).toNatClampNeg) by decide) dM_fresh_60 ?_
  refine W.eq (g2 := F0 m 61 ls [va_rf (f32 1)]) rfl ?_
  rw [h33]
  refine W.eq (g2 := F0 m 61 ls [.null]) rfl ?_
  refine lv_ifnonnullN hx hb dM_fresh_61 ?_
  refine lv_aload_n hx hb dM_fresh_64 rfl (lv_at hl 0 rfl) ?_
  refine va_get (D := D) (ci := 5) (v := .ref a1) (C := "ValueBenchModel") (T := TM) (N := 32) hx hb htx inM hown hK hP 0 rfl rfl 1 (by decide) (htx _ kw_5_88) (fun _ h9 => h9) rfl dM_fresh_65 ?_
  refine lv_aload_n hx hb dM_fresh_68 rfl (lv_at hl 0 rfl) ?_
  refine va_get (D := D) (ci := 5) (v := .int 1) (C := "ValueBenchModel") (T := TM) (N := 32) hx hb htx inM hown hK hP 0 rfl rfl 2 (by decide) (htx _ kw_5_89) (fun _ h9 => h9) rfl dM_fresh_69 ?_
  refine va_new (ci := 6) (fs := [.int 0, .long 0, .int 0, .int 0, .int 0, .int 0]) (C := "ValueBenchModel$V") (T := TV) (N := 6) hx hb htx inV tyV tyV_ok hown (htx _ kw_5_80) (htx _ kw_6_17) (htx _ kw_1_19) hK hP hD hS hA rfl (by decide +kernel) (Nat.le_of_ble_eq_true rfl) (Nat.le_of_ble_eq_true rfl) dM_fresh_72 (fun q1 H hP hD hS => ?_)
  obtain ⟨hP, hD⟩ : xPD D xcl A [(a0, .inr (5, [v2, .ref a1, .int 1, v3, v4, v5, v6, v7, v8, v9, v10, v11, v12, v13, v14, v15, v16, v17, v18, v19, v20, v21, v22, v23, v24, v25, v26, v27, v28, v29, v30, v31])), (a1, .inl (cT 4, 1024, .inr (.inr (.inr (.inr f32))))), (q1, .inr (6, [.int 0, .long 0, .int 0, .int 0, .int 0, .int 0]))] H := ⟨hP, hD⟩
  refine lv_dup hx hb dM_fresh_75 rfl ?_
  obtain ⟨hPc, hDc, hFc⟩ := xcut (wc := []) hP hD hS hA [] rfl rfl (by decide)
  refine va_callv (va_runIN (As := []) (rest := [.ref q1, .int 1, .ref a1]) ⟨hx, hb, hml, hown, htx⟩ (cV_init_0 l hl9 D cT aK aV H.size q1) ⟨va_cnB (host := "ValueBenchModel") 0 htx (xw_goodC kw_6_20) rfl rfl rfl (hZ.2.1 ("ValueBenchModel", 92, yV_init) (List.mem_of_getElem? (i := 3) rfl)) (htx _ kw_1_19) ⟨by decide, by decide, by decide +kernel⟩ ⟨Nat.le_of_ble_eq_true rfl, Nat.le_of_ble_eq_true rfl⟩, rfl, (htx _ kw_6_19)⟩ ⟨xPre_blind, (fun U hU hW => ⟨rfl, xPre_of hZ hS hFc hPc hDc hK U hU hW⟩)⟩ rfl rfl hl.1 rfl (lv_room (Nat.le_of_ble_eq_true rfl)) dM_fresh_76 ⟨Nat.le_of_ble_eq_true rfl, Nat.le_of_ble_eq_true rfl⟩) hS (fun q _ h => hFc q h) hFc (fun u9 t H1 locs ht hvm hr9 hB hz1 hk1 hS => ?_)
  obtain ⟨hP1, hK1, hD1⟩ := hB
  rw [ht] at hP1
  obtain ⟨hP, hD⟩ := xjoin (W := [(a0, .inr (5, [v2, .ref a1, .int 1, v3, v4, v5, v6, v7, v8, v9, v10, v11, v12, v13, v14, v15, v16, v17, v18, v19, v20, v21, v22, v23, v24, v25, v26, v27, v28, v29, v30, v31])), (a1, .inl (cT 4, 1024, .inr (.inr (.inr (.inr f32))))), (q1, .inr (6, [.int 0, .long 0, .int 0, .int 0, .int 0, .int 0]))]) hP hD [] [0, 1, 2] 3 rfl rfl (by decide) (by decide) hk1 hFc hP1 hD1
  generalize H1 = H at hP hS ⊢
  refine va_astq (r := ("ValueBenchModel$V", TV, 6)) hx hb hK hP hD hS 1 4 2 6 rfl rfl rfl rfl (show ¬ ((1 : Int32) < 0 ∨ 1024 ≤ (1 : Int32).toNatClampNeg) by decide) dM_fresh_79 (fun H locs hP hD hS => ?_)
  obtain ⟨hP, hD⟩ : xPD D xcl A [(a0, .inr (5, [v2, .ref a1, .int 1, v3, v4, v5, v6, v7, v8, v9, v10, v11, v12, v13, v14, v15, v16, v17, v18, v19, v20, v21, v22, v23, v24, v25, v26, v27, v28, v29, v30, v31])), (a1, .inl (cT 4, 1024, .inr (.inr (.inr (.inr (va_up f32 1 (some q1))))))), (q1, .inr (6, [.int 0, .long 0, .int 0, .int 0, .int 0, .int 0]))] H := ⟨hP, hD⟩
  refine lv_aload_n hx hb dM_fresh_80 rfl (lv_at hl 0 rfl) ?_
  refine va_get (D := D) (ci := 5) (v := .ref a1) (C := "ValueBenchModel") (T := TM) (N := 32) hx hb htx inM hown hK hP 0 rfl rfl 1 (by decide) (htx _ kw_5_88) (fun _ h9 => h9) rfl dM_fresh_81 ?_
  refine lv_aload_n hx hb dM_fresh_84 rfl (lv_at hl 0 rfl) ?_
  refine va_get (D := D) (ci := 5) (v := .int 1) (C := "ValueBenchModel") (T := TM) (N := 32) hx hb htx inM hown hK hP 0 rfl rfl 2 (by decide) (htx _ kw_5_89) (fun _ h9 => h9) rfl dM_fresh_85 ?_
  refine va_aldq hx hb hK hP 1 4 rfl rfl (show ¬ ((1 : Int32) < 0 ∨ 1024 ≤ (1 : Int32).toNatClampNeg) by decide) dM_fresh_88 ?_
  refine W.eq (g2 := F0 m 89 ls [.ref q1]) rfl ?_
  refine lv_astore_n (lv' := [(2, .ref q1), (0, .ref a0), (1, .int 0)]) hx hb dM_fresh_89 rfl hl (by decide) rfl (fun ls hl => ?_)
  refine lv_aload_n hx hb dM_fresh_90 rfl (lv_at hl 1 rfl) ?_
  refine lv_dup hx hb dM_fresh_91 rfl ?_
  refine va_get (D := D) (ci := 5) (v := .int 1) (C := "ValueBenchModel") (T := TM) (N := 32) hx hb htx inM hown hK hP 0 rfl rfl 2 (by decide) (htx _ kw_5_89) (fun _ h9 => h9) rfl dM_fresh_92 ?_
  refine lv_iconst (v := 1) hx hb dM_fresh_95 (by decide) ?_
  refine lv_iadd hx hb dM_fresh_96 ?_
  refine W.eq (g2 := F0 m 97 ls [.int 2, .ref a0]) rfl ?_
  refine va_put (D := D) (ci := 5) (v := .int 2) (ty := .int) (C := "ValueBenchModel") (T := TM) (N := 32) hx hb htx inM tyM tyM_ok nmM hown hK hP hD hS 0 rfl rfl 2 (by decide) (htx _ kw_5_89) (fun _ h9 => h9) rfl (by decide +kernel) rfl rfl (Nat.le_of_ble_eq_true rfl) dM_fresh_97 (fun H locs hP hD hS => ?_)
  obtain ⟨hP, hD⟩ : xPD D xcl A [(a0, .inr (5, [v2, .ref a1, .int 2, v3, v4, v5, v6, v7, v8, v9, v10, v11, v12, v13, v14, v15, v16, v17, v18, v19, v20, v21, v22, v23, v24, v25, v26, v27, v28, v29, v30, v31])), (a1, .inl (cT 4, 1024, .inr (.inr (.inr (.inr (va_up f32 1 (some q1))))))), (q1, .inr (6, [.int 0, .long 0, .int 0, .int 0, .int 0, .int 0]))] H := ⟨hP, hD⟩
  refine lv_aload_n hx hb dM_fresh_100 rfl (lv_at hl 0 rfl) ?_
  refine lv_iload_n hx hb dM_fresh_101 rfl (lv_at hl 2 rfl) ?_
  refine va_putN (D := D) (ci := 6) (v := .int 0) (ty := .int) (C := "ValueBenchModel$V") (T := TV) (N := 6) hx hb htx inV tyV tyV_ok nmV hown hK hP hD hS 2 rfl rfl 0 (by decide) ((hZ.1 (93, "kind", "I") (List.mem_of_getElem? (i := 0) rfl)).use rfl) (fun _ h9 => h9) rfl (by decide +kernel) rfl rfl (Nat.le_of_ble_eq_true rfl) dM_fresh_102 (fun H locs hP hD hS => ?_)
  obtain ⟨hP, hD⟩ : xPD D xcl A [(a0, .inr (5, [v2, .ref a1, .int 2, v3, v4, v5, v6, v7, v8, v9, v10, v11, v12, v13, v14, v15, v16, v17, v18, v19, v20, v21, v22, v23, v24, v25, v26, v27, v28, v29, v30, v31])), (a1, .inl (cT 4, 1024, .inr (.inr (.inr (.inr (va_up f32 1 (some q1))))))), (q1, .inr (6, [.int 0, .long 0, .int 0, .int 0, .int 0, .int 0]))] H := ⟨hP, hD⟩
  refine lv_aload_n hx hb dM_fresh_105 rfl (lv_at hl 0 rfl) ?_
  refine lv_lconst (v := 0) hx hb dM_fresh_106 (by decide) ?_
  refine va_putN (D := D) (ci := 6) (v := .long 0) (ty := .long) (C := "ValueBenchModel$V") (T := TV) (N := 6) hx hb htx inV tyV tyV_ok nmV hown hK hP hD hS 2 rfl rfl 1 (by decide) ((hZ.1 (96, "n", "J") (List.mem_of_getElem? (i := 1) rfl)).use rfl) (fun _ h9 => h9) rfl (by decide +kernel) rfl rfl (Nat.le_of_ble_eq_true rfl) dM_fresh_107 (fun H locs hP hD hS => ?_)
  obtain ⟨hP, hD⟩ : xPD D xcl A [(a0, .inr (5, [v2, .ref a1, .int 2, v3, v4, v5, v6, v7, v8, v9, v10, v11, v12, v13, v14, v15, v16, v17, v18, v19, v20, v21, v22, v23, v24, v25, v26, v27, v28, v29, v30, v31])), (a1, .inl (cT 4, 1024, .inr (.inr (.inr (.inr (va_up f32 1 (some q1))))))), (q1, .inr (6, [.int 0, .long 0, .int 0, .int 0, .int 0, .int 0]))] H := ⟨hP, hD⟩
  refine lv_aload_n hx hb dM_fresh_110 rfl (lv_at hl 0 rfl) ?_
  refine lv_iconst (v := 0) hx hb dM_fresh_111 (by decide) ?_
  refine va_putN (D := D) (ci := 6) (v := .int 0) (ty := .int) (C := "ValueBenchModel$V") (T := TV) (N := 6) hx hb htx inV tyV tyV_ok nmV hown hK hP hD hS 2 rfl rfl 2 (by decide) ((hZ.1 (100, "off", "I") (List.mem_of_getElem? (i := 2) rfl)).use rfl) (fun _ h9 => h9) rfl (by decide +kernel) rfl rfl (Nat.le_of_ble_eq_true rfl) dM_fresh_112 (fun H locs hP hD hS => ?_)
  obtain ⟨hP, hD⟩ : xPD D xcl A [(a0, .inr (5, [v2, .ref a1, .int 2, v3, v4, v5, v6, v7, v8, v9, v10, v11, v12, v13, v14, v15, v16, v17, v18, v19, v20, v21, v22, v23, v24, v25, v26, v27, v28, v29, v30, v31])), (a1, .inl (cT 4, 1024, .inr (.inr (.inr (.inr (va_up f32 1 (some q1))))))), (q1, .inr (6, [.int 0, .long 0, .int 0, .int 0, .int 0, .int 0]))] H := ⟨hP, hD⟩
  refine lv_aload_n hx hb dM_fresh_115 rfl (lv_at hl 0 rfl) ?_
  refine lv_iconst (v := 0) hx hb dM_fresh_116 (by decide) ?_
  refine va_putN (D := D) (ci := 6) (v := .int 0) (ty := .int) (C := "ValueBenchModel$V") (T := TV) (N := 6) hx hb htx inV tyV tyV_ok nmV hown hK hP hD hS 2 rfl rfl 3 (by decide) ((hZ.1 (103, "count", "I") (List.mem_of_getElem? (i := 3) rfl)).use rfl) (fun _ h9 => h9) rfl (by decide +kernel) rfl rfl (Nat.le_of_ble_eq_true rfl) dM_fresh_117 (fun H locs hP hD hS => ?_)
  obtain ⟨hP, hD⟩ : xPD D xcl A [(a0, .inr (5, [v2, .ref a1, .int 2, v3, v4, v5, v6, v7, v8, v9, v10, v11, v12, v13, v14, v15, v16, v17, v18, v19, v20, v21, v22, v23, v24, v25, v26, v27, v28, v29, v30, v31])), (a1, .inl (cT 4, 1024, .inr (.inr (.inr (.inr (va_up f32 1 (some q1))))))), (q1, .inr (6, [.int 0, .long 0, .int 0, .int 0, .int 0, .int 0]))] H := ⟨hP, hD⟩
  refine lv_aload_n hx hb dM_fresh_120 rfl (lv_at hl 0 rfl) ?_
  refine lv_iconst (v := 0) hx hb dM_fresh_121 (by decide) ?_
  refine va_putN (D := D) (ci := 6) (v := .int 0) (ty := .int) (C := "ValueBenchModel$V") (T := TV) (N := 6) hx hb htx inV tyV tyV_ok nmV hown hK hP hD hS 2 rfl rfl 4 (by decide) ((hZ.1 (106, "depth", "I") (List.mem_of_getElem? (i := 4) rfl)).use rfl) (fun _ h9 => h9) rfl (by decide +kernel) rfl rfl (Nat.le_of_ble_eq_true rfl) dM_fresh_122 (fun H locs hP hD hS => ?_)
  obtain ⟨hP, hD⟩ : xPD D xcl A [(a0, .inr (5, [v2, .ref a1, .int 2, v3, v4, v5, v6, v7, v8, v9, v10, v11, v12, v13, v14, v15, v16, v17, v18, v19, v20, v21, v22, v23, v24, v25, v26, v27, v28, v29, v30, v31])), (a1, .inl (cT 4, 1024, .inr (.inr (.inr (.inr (va_up f32 1 (some q1))))))), (q1, .inr (6, [.int 0, .long 0, .int 0, .int 0, .int 0, .int 0]))] H := ⟨hP, hD⟩
  refine lv_aload_n hx hb dM_fresh_125 rfl (lv_at hl 0 rfl) ?_
  refine lv_iconst (v := 1) hx hb dM_fresh_126 (by decide) ?_
  refine va_putN (D := D) (ci := 6) (v := .int 1) (ty := .int) (C := "ValueBenchModel$V") (T := TV) (N := 6) hx hb htx inV tyV tyV_ok nmV hown hK hP hD hS 2 rfl rfl 5 (by decide) ((hZ.1 (109, "weight", "I") (List.mem_of_getElem? (i := 5) rfl)).use rfl) (fun _ h9 => h9) rfl (by decide +kernel) rfl rfl (Nat.le_of_ble_eq_true rfl) dM_fresh_127 (fun H locs hP hD hS => ?_)
  obtain ⟨hP, hD⟩ : xPD D xcl A [(a0, .inr (5, [v2, .ref a1, .int 2, v3, v4, v5, v6, v7, v8, v9, v10, v11, v12, v13, v14, v15, v16, v17, v18, v19, v20, v21, v22, v23, v24, v25, v26, v27, v28, v29, v30, v31])), (a1, .inl (cT 4, 1024, .inr (.inr (.inr (.inr (va_up f32 1 (some q1))))))), (q1, .inr (6, [.int 0, .long 0, .int 0, .int 0, .int 0, .int 1]))] H := ⟨hP, hD⟩
  refine lv_aload_n hx hb dM_fresh_130 rfl (lv_at hl 0 rfl) ?_
  obtain ⟨hP9, hD9⟩ := xsub (wc := [(a0, .inr (5, [v2, .ref a1, .int 2, v3, v4, v5, v6, v7, v8, v9, v10, v11, v12, v13, v14, v15, v16, v17, v18, v19, v20, v21, v22, v23, v24, v25, v26, v27, v28, v29, v30, v31])), (a1, .inl (cT 4, 1024, .inr (.inr (.inr (.inr (va_up f32 1 (some q1))))))), (q1, .inr (6, [.int 0, .long 0, .int 0, .int 0, .int 0, .int 1]))]) hP hD [0, 1, 2] rfl rfl (by decide)
  refine W.widen (k := 1) (n := 6) (Nat.le_of_ble_eq_true rfl) (Nat.le_of_ble_eq_true rfl) ?_
  exact W.aret hx hb hr (Or.inl ⟨_, rfl⟩) (Or.inr ⟨_, rfl⟩) (fun t ht hW => ⟨⟨(), q1, rfl, trivial, by rw [ht]; exact hP9, va_K.moved hW.alike hK, hD9⟩, hS.F ht⟩) hS.2.2 dM_fresh_131
set_option maxHeartbeats 400000000 in
set_option maxRecDepth 100000 in
theorem cM_says_1 (l : Launch) (hl9 : l.stackTraces = false) (D : va_G) (cT : Nat → ClassId) (aK aV : Nat → Nat) (sz : Nat) (a0 : Nat) (a1 : Nat) (a2 : Nat) (v3 : Value) (v4 : Value) (v5 : Value) (v6 : Value) (v7 : Value) (v8 : Value) (v9 : Value) (v10 : Value) (v11 : Value) (v12 : Value) (v13 : Value) (v14 : Value) (v15 : Value) (v16 : Value) (v17 : Value) (v18 : Value) (v19 : Value) (v20 : Value) (v21 : Value) (v22 : Value) (v23 : Value) (v24 : Value) (v25 : Value) (v26 : Value) (v27 : Value) (v28 : Value) (v29 : Value) (f30 : Nat → Int32) (f35 : Nat → Option Nat) (h31 : f30 0 = 110) (h32 : f30 1 = 117) (h33 : f30 2 = 108) (h34 : f30 3 = 108) (h36 : f35 1 = none) : xMet l yM_says wyM_says 4 1 6 85 D cT aK aV sz [.ref a0, .ref (aK 10), .int 0] [(a0, .inr (5, [v3, .ref a2, .int 1, v4, v5, v6, v7, v8, v9, v10, v11, v12, v13, v14, v15, .ref a1, .int 0, .int 4, v16, v17, v18, v19, v20, v21, v22, v23, v24, v25, v26, v27, v28, v29])), (a1, .inl (cT 0, 4096, .inl f30)), (a2, .inl (cT 4, 1024, .inr (.inr (.inr (.inr f35)))))] (fun A => va_Qr (fun _ : Unit => True) (fun _ r14 t => xB D xcl cT A [(a0, .inr (5, [v3, .ref a2, .int 2, v4, v5, v6, v7, v8, v9, v10, v11, v12, v13, v14, v15, .ref a1, .int 4, .int 4, v16, v17, v18, v19, v20, v21, v22, v23, v24, v25, v26, v27, v28, v29])), (a1, .inl (cT 0, 4096, .inl f30)), (a2, .inl (cT 4, 1024, .inr (.inr (.inr (.inr (va_up f35 1 (some r14))))))), (r14, .inr (6, [.int 0, .long 0, .int 0, .int 0, .int 0, .int 1]))] t) A) := by
  refine Met.ofW (cc := prog_13_method_33_code) (maxL := 4) (ret := (some (.object "ValueBenchModel$V"))) (by decide) rfl ?_
  intro p e s m args below meth c s₁ B hml hv
  obtain ⟨rfl, hsz, hZ, hP, hK, hD0⟩ := hv
  have hx := B.exec
  have hb := B.bytes
  have hr := B.returns
  have hts := atoms_spec (ws := wyM_says) B.pre
  have htx := fun w h => hts w (List.mem_cons_of_mem _ h)
  have hown : s.vm.findClass "ValueBenchModel" = some m.cls := findClass_of_methodNamed B.named
  have hlocks := B.notSynchronized
  subst hsz
  have hD := hD0.self (sz := s.heap.size)
  generalize hAe : va_A [(a0, .inr (5, [v3, .ref a2, .int 1, v4, v5, v6, v7, v8, v9, v10, v11, v12, v13, v14, v15, .ref a1, .int 0, .int 4, v16, v17, v18, v19, v20, v21, v22, v23, v24, v25, v26, v27, v28, v29])), (a1, .inl (cT 0, 4096, .inl f30)), (a2, .inl (cT 4, 1024, .inr (.inr (.inr (.inr f35)))))] s.heap.size = A at hD hZ ⊢
  have hA : ∀ q : Nat, s.heap.size ≤ q → A q := fun q h => by rw [← hAe]; exact Or.inr h
  have hS : va_S A s.heap s.heap [] := va_S.rf
  have hP : va_P D xcl [(a0, .inr (5, [v3, .ref a2, .int 1, v4, v5, v6, v7, v8, v9, v10, v11, v12, v13, v14, v15, .ref a1, .int 0, .int 4, v16, v17, v18, v19, v20, v21, v22, v23, v24, v25, v26, v27, v28, v29])), (a1, .inl (cT 0, 4096, .inl f30)), (a2, .inl (cT 4, 1024, .inr (.inr (.inr (.inr f35)))))] s.heap := hP
  have hl := lv_entry ([.ref a0, .ref (aK 10), .int 0]) (n := 4) (Nat.le_of_ble_eq_true rfl)
  rw [lg_entry_eq]
  generalize (lg_sl ([.ref a0, .ref (aK 10), .int 0]) ++ List.replicate (4 - (lg_sl ([.ref a0, .ref (aK 10), .int 0])).length) Slot.unset).toArray = ls at hl ⊢
  have hl : lv_has ls 4 [(0, .ref a0), (1, .ref (aK 10)), (2, .int 0)] := hl
  refine lv_iconst (v := 0) hx hb dM_says_0 (by decide) ?_
  refine lv_istore_n (lv' := [(3, .int 0), (0, .ref a0), (1, .ref (aK 10)), (2, .int 0)]) hx hb dM_says_1 rfl hl (by decide) rfl (fun ls hl => ?_)
  refine lv_iload_n hx hb dM_says_2 rfl (lv_at hl 0 rfl) ?_
  refine lv_aload_n hx hb dM_says_3 rfl (lv_at hl 2 rfl) ?_
  obtain ⟨hPc, hDc, hFc⟩ := xcut (wc := []) hP hD hS hA [] rfl rfl (by decide)
  refine va_calli (va_runV (C := "java/lang/String") (As := []) (rest := [.int 0]) ⟨hx, hb, hml, hown, htx⟩ (cJS_length_0 l hl9 D cT aK aV s.heap.size) ⟨callB_of 0 htx (xw_goodC kw_2_70) rfl rfl rfl (htx _ kw_1_6) (htx _ kw_5_238) ⟨by decide, by decide, by decide +kernel⟩ ⟨Nat.le_of_ble_eq_true rfl, Nat.le_of_ble_eq_true rfl⟩, (htx _ kw_2_68), (htx _ kw_2_69)⟩ ⟨xPre_blind, vk_recv hZ.2.2.2.2.2.2.2.2.2.1 (i := 10) (by decide) hS, (fun U hU hW => ⟨rfl, xPre_of hZ hS hFc hPc hDc hK U hU hW⟩)⟩ rfl rfl hl.1 rfl (lv_room (Nat.le_of_ble_eq_true rfl)) dM_says_4 ⟨Nat.le_of_ble_eq_true rfl, Nat.le_of_ble_eq_true rfl⟩) hS (fun q _ h => hFc q h) hFc (fun r1 u9 t H1 locs ht hvm hr9 hB hz1 hk1 hS => ?_)
  obtain ⟨hP1, hK1, hD1⟩ := hB
  rw [ht] at hP1
  obtain ⟨hP, hD⟩ := xjoin (W := [(a0, .inr (5, [v3, .ref a2, .int 1, v4, v5, v6, v7, v8, v9, v10, v11, v12, v13, v14, v15, .ref a1, .int 0, .int 4, v16, v17, v18, v19, v20, v21, v22, v23, v24, v25, v26, v27, v28, v29])), (a1, .inl (cT 0, 4096, .inl f30)), (a2, .inl (cT 4, 1024, .inr (.inr (.inr (.inr f35)))))]) hP hD [] [0, 1, 2] 3 rfl rfl (by decide) (by decide) hk1 hFc hP1 hD1
  generalize H1 = H at hP hS ⊢
  rw [hr9]
  refine W.eq (g2 := F0 m 7 ls [.int 4, .int 0]) rfl ?_
  refine lv_icmp_ge (tgt := 46) hx hb dM_says_7 (by decide) (fun h => ((by revert h; decide : False)).elim) (fun _ => ?_)
  refine lv_aload_n hx hb dM_says_10 rfl (lv_at hl 1 rfl) ?_
  obtain ⟨hPc, hDc, hFc⟩ := xcut (wc := [(a0, .inr (5, [v3, .ref a2, .int 1, v4, v5, v6, v7, v8, v9, v10, v11, v12, v13, v14, v15, .ref a1, .int 0, .int 4, v16, v17, v18, v19, v20, v21, v22, v23, v24, v25, v26, v27, v28, v29])), (a1, .inl (cT 0, 4096, .inl f30))]) hP hD hS hA [0, 1] rfl rfl (by decide)
  refine va_calli (va_runV (C := "ValueBenchModel") (As := []) (rest := []) ⟨hx, hb, hml, hown, htx⟩ (cM_peek_1 l hl9 D cT aK aV H.size a0 a1 v3 (.ref a2) (.int 1) v4 v5 v6 v7 v8 v9 v10 v11 v12 v13 v14 v15 v16 v17 v18 v19 v20 v21 v22 v23 v24 v25 v26 v27 v28 v29 f30 (by first | rfl | exact h31 | exact h32 | exact h33 | exact h34 | exact h36)) ⟨callB_of 0 htx (xw_goodC kw_5_233) rfl rfl rfl (htx _ kw_1_5) (htx _ kw_5_230) ⟨by decide, by decide, by decide +kernel⟩ ⟨Nat.le_of_ble_eq_true rfl, Nat.le_of_ble_eq_true rfl⟩, (htx _ kw_5_232), (htx _ kp_M_peek)⟩ ⟨xPre_blind, va_recv hK hP (ci := 5) rfl (q0 := 0) rfl, (fun U hU hW => ⟨rfl, xPre_of hZ hS hFc hPc hDc hK U hU hW⟩)⟩ rfl rfl hl.1 rfl (lv_room (Nat.le_of_ble_eq_true rfl)) dM_says_11 ⟨Nat.le_of_ble_eq_true rfl, Nat.le_of_ble_eq_true rfl⟩) hS (fun q _ h => hFc q h) hFc (fun r2 u9 t H1 locs ht hvm hr9 hB hz1 hk1 hS => ?_)
  obtain ⟨hP1, hK1, hD1⟩ := hB
  rw [ht] at hP1
  obtain ⟨hP, hD⟩ := xjoin (W := [(a2, .inl (cT 4, 1024, .inr (.inr (.inr (.inr f35))))), (a0, .inr (5, [v3, .ref a2, .int 1, v4, v5, v6, v7, v8, v9, v10, v11, v12, v13, v14, v15, .ref a1, .int 0, .int 4, v16, v17, v18, v19, v20, v21, v22, v23, v24, v25, v26, v27, v28, v29])), (a1, .inl (cT 0, 4096, .inl f30))]) hP hD [0, 1] [2] 1 rfl rfl (by decide) (by decide) hk1 hFc hP1 hD1
  generalize H1 = H at hP hS ⊢
  rw [hr9]
  refine W.eq (g2 := F0 m 14 ls [.int 110]) rfl ?_
  refine lv_aload_n hx hb dM_says_14 rfl (lv_at hl 2 rfl) ?_
  refine lv_iload_n hx hb dM_says_15 rfl (lv_at hl 0 rfl) ?_
  obtain ⟨hPc, hDc, hFc⟩ := xcut (wc := []) hP hD hS hA [] rfl rfl (by decide)
  refine va_calli (va_runV (C := "java/lang/String") (As := [.int 0]) (rest := [.int 110]) ⟨hx, hb, hml, hown, htx⟩ (cJS_charAt_0 l hl9 D cT aK aV H.size) ⟨callB_of 1 htx (xw_goodC kw_2_80) rfl rfl rfl (htx _ kw_1_6) (htx _ kw_5_86) ⟨by decide, by decide, by decide +kernel⟩ ⟨Nat.le_of_ble_eq_true rfl, Nat.le_of_ble_eq_true rfl⟩, (htx _ kw_2_78), (htx _ kw_2_79)⟩ ⟨xPre_blind, vk_recv hZ.2.2.2.2.2.2.2.2.2.1 (i := 10) (by decide) hS, (fun U hU hW => ⟨rfl, xPre_of hZ hS hFc hPc hDc hK U hU hW⟩)⟩ rfl rfl hl.1 rfl (lv_room (Nat.le_of_ble_eq_true rfl)) dM_says_16 ⟨Nat.le_of_ble_eq_true rfl, Nat.le_of_ble_eq_true rfl⟩) hS (fun q _ h => hFc q h) hFc (fun r3 u9 t H1 locs ht hvm hr9 hB hz1 hk1 hS => ?_)
  obtain ⟨hP1, hK1, hD1⟩ := hB
  rw [ht] at hP1
  obtain ⟨hP, hD⟩ := xjoin (W := [(a2, .inl (cT 4, 1024, .inr (.inr (.inr (.inr f35))))), (a0, .inr (5, [v3, .ref a2, .int 1, v4, v5, v6, v7, v8, v9, v10, v11, v12, v13, v14, v15, .ref a1, .int 0, .int 4, v16, v17, v18, v19, v20, v21, v22, v23, v24, v25, v26, v27, v28, v29])), (a1, .inl (cT 0, 4096, .inl f30))]) hP hD [] [0, 1, 2] 3 rfl rfl (by decide) (by decide) hk1 hFc hP1 hD1
  generalize H1 = H at hP hS ⊢
  rw [hr9]
  refine W.eq (g2 := F0 m 19 ls [.int 110, .int 110]) rfl ?_
  refine lv_icmp_eq (tgt := 30) hx hb dM_says_19 (by decide) (fun _ => ?_) (fun h => ((by revert h; decide : False)).elim)
  refine lv_aload_n hx hb dM_says_30 rfl (lv_at hl 1 rfl) ?_
  refine lv_dup hx hb dM_says_31 rfl ?_
  refine va_get (D := D) (ci := 5) (v := .int 0) (C := "ValueBenchModel") (T := TM) (N := 32) hx hb htx inM hown hK hP 1 rfl rfl 16 (by decide) (htx _ kw_5_103) (fun _ h9 => h9) rfl dM_says_32 ?_
  refine lv_iconst (v := 1) hx hb dM_says_35 (by decide) ?_
  refine lv_iadd hx hb dM_says_36 ?_
  refine W.eq (g2 := F0 m 37 ls [.int 1, .ref a0]) rfl ?_
  refine va_put (D := D) (ci := 5) (v := .int 1) (ty := .int) (C := "ValueBenchModel") (T := TM) (N := 32) hx hb htx inM tyM tyM_ok nmM hown hK hP hD hS 1 rfl rfl 16 (by decide) (htx _ kw_5_103) (fun _ h9 => h9) rfl (by decide +kernel) rfl rfl (Nat.le_of_ble_eq_true rfl) dM_says_37 (fun H locs hP hD hS => ?_)
  obtain ⟨hP, hD⟩ : xPD D xcl A [(a2, .inl (cT 4, 1024, .inr (.inr (.inr (.inr f35))))), (a0, .inr (5, [v3, .ref a2, .int 1, v4, v5, v6, v7, v8, v9, v10, v11, v12, v13, v14, v15, .ref a1, .int 1, .int 4, v16, v17, v18, v19, v20, v21, v22, v23, v24, v25, v26, v27, v28, v29])), (a1, .inl (cT 0, 4096, .inl f30))] H := ⟨hP, hD⟩
  refine lv_iinc (v := 1) (lv' := [(3, .int 1), (0, .ref a0), (1, .ref (aK 10)), (2, .int 0)]) hx hb dM_says_40 hl (k := 0) rfl (by decide) (by decide) rfl (fun ls hl => ?_)
  refine lv_goto (tgt := 2) hx hb dM_says_43 (by decide) ?_
  refine lv_iload_n hx hb dM_says_2 rfl (lv_at hl 0 rfl) ?_
  refine lv_aload_n hx hb dM_says_3 rfl (lv_at hl 2 rfl) ?_
  obtain ⟨hPc, hDc, hFc⟩ := xcut (wc := []) hP hD hS hA [] rfl rfl (by decide)
  refine va_calli (va_runV (C := "java/lang/String") (As := []) (rest := [.int 1]) ⟨hx, hb, hml, hown, htx⟩ (cJS_length_0 l hl9 D cT aK aV H.size) ⟨callB_of 0 htx (xw_goodC kw_2_70) rfl rfl rfl (htx _ kw_1_6) (htx _ kw_5_238) ⟨by decide, by decide, by decide +kernel⟩ ⟨Nat.le_of_ble_eq_true rfl, Nat.le_of_ble_eq_true rfl⟩, (htx _ kw_2_68), (htx _ kw_2_69)⟩ ⟨xPre_blind, vk_recv hZ.2.2.2.2.2.2.2.2.2.1 (i := 10) (by decide) hS, (fun U hU hW => ⟨rfl, xPre_of hZ hS hFc hPc hDc hK U hU hW⟩)⟩ rfl rfl hl.1 rfl (lv_room (Nat.le_of_ble_eq_true rfl)) dM_says_4 ⟨Nat.le_of_ble_eq_true rfl, Nat.le_of_ble_eq_true rfl⟩) hS (fun q _ h => hFc q h) hFc (fun r4 u9 t H1 locs ht hvm hr9 hB hz1 hk1 hS => ?_)
  obtain ⟨hP1, hK1, hD1⟩ := hB
  rw [ht] at hP1
  obtain ⟨hP, hD⟩ := xjoin (W := [(a2, .inl (cT 4, 1024, .inr (.inr (.inr (.inr f35))))), (a0, .inr (5, [v3, .ref a2, .int 1, v4, v5, v6, v7, v8, v9, v10, v11, v12, v13, v14, v15, .ref a1, .int 1, .int 4, v16, v17, v18, v19, v20, v21, v22, v23, v24, v25, v26, v27, v28, v29])), (a1, .inl (cT 0, 4096, .inl f30))]) hP hD [] [0, 1, 2] 3 rfl rfl (by decide) (by decide) hk1 hFc hP1 hD1
  generalize H1 = H at hP hS ⊢
  rw [hr9]
  refine W.eq (g2 := F0 m 7 ls [.int 4, .int 1]) rfl ?_
  refine lv_icmp_ge (tgt := 46) hx hb dM_says_7 (by decide) (fun h => ((by revert h; decide : False)).elim) (fun _ => ?_)
  refine lv_aload_n hx hb dM_says_10 rfl (lv_at hl 1 rfl) ?_
  obtain ⟨hPc, hDc, hFc⟩ := xcut (wc := [(a0, .inr (5, [v3, .ref a2, .int 1, v4, v5, v6, v7, v8, v9, v10, v11, v12, v13, v14, v15, .ref a1, .int 1, .int 4, v16, v17, v18, v19, v20, v21, v22, v23, v24, v25, v26, v27, v28, v29])), (a1, .inl (cT 0, 4096, .inl f30))]) hP hD hS hA [1, 2] rfl rfl (by decide)
  refine va_calli (va_runV (C := "ValueBenchModel") (As := []) (rest := []) ⟨hx, hb, hml, hown, htx⟩ (cM_peek_2 l hl9 D cT aK aV H.size a0 a1 v3 (.ref a2) (.int 1) v4 v5 v6 v7 v8 v9 v10 v11 v12 v13 v14 v15 v16 v17 v18 v19 v20 v21 v22 v23 v24 v25 v26 v27 v28 v29 f30 (by first | rfl | exact h31 | exact h32 | exact h33 | exact h34 | exact h36)) ⟨callB_of 0 htx (xw_goodC kw_5_233) rfl rfl rfl (htx _ kw_1_5) (htx _ kw_5_230) ⟨by decide, by decide, by decide +kernel⟩ ⟨Nat.le_of_ble_eq_true rfl, Nat.le_of_ble_eq_true rfl⟩, (htx _ kw_5_232), (htx _ kp_M_peek)⟩ ⟨xPre_blind, va_recv hK hP (ci := 5) rfl (q0 := 1) rfl, (fun U hU hW => ⟨rfl, xPre_of hZ hS hFc hPc hDc hK U hU hW⟩)⟩ rfl rfl hl.1 rfl (lv_room (Nat.le_of_ble_eq_true rfl)) dM_says_11 ⟨Nat.le_of_ble_eq_true rfl, Nat.le_of_ble_eq_true rfl⟩) hS (fun q _ h => hFc q h) hFc (fun r5 u9 t H1 locs ht hvm hr9 hB hz1 hk1 hS => ?_)
  obtain ⟨hP1, hK1, hD1⟩ := hB
  rw [ht] at hP1
  obtain ⟨hP, hD⟩ := xjoin (W := [(a2, .inl (cT 4, 1024, .inr (.inr (.inr (.inr f35))))), (a0, .inr (5, [v3, .ref a2, .int 1, v4, v5, v6, v7, v8, v9, v10, v11, v12, v13, v14, v15, .ref a1, .int 1, .int 4, v16, v17, v18, v19, v20, v21, v22, v23, v24, v25, v26, v27, v28, v29])), (a1, .inl (cT 0, 4096, .inl f30))]) hP hD [1, 2] [0] 1 rfl rfl (by decide) (by decide) hk1 hFc hP1 hD1
  generalize H1 = H at hP hS ⊢
  rw [hr9]
  refine W.eq (g2 := F0 m 14 ls [.int 117]) rfl ?_
  refine lv_aload_n hx hb dM_says_14 rfl (lv_at hl 2 rfl) ?_
  refine lv_iload_n hx hb dM_says_15 rfl (lv_at hl 0 rfl) ?_
  obtain ⟨hPc, hDc, hFc⟩ := xcut (wc := []) hP hD hS hA [] rfl rfl (by decide)
  refine va_calli (va_runV (C := "java/lang/String") (As := [.int 1]) (rest := [.int 117]) ⟨hx, hb, hml, hown, htx⟩ (cJS_charAt_1 l hl9 D cT aK aV H.size) ⟨callB_of 1 htx (xw_goodC kw_2_80) rfl rfl rfl (htx _ kw_1_6) (htx _ kw_5_86) ⟨by decide, by decide, by decide +kernel⟩ ⟨Nat.le_of_ble_eq_true rfl, Nat.le_of_ble_eq_true rfl⟩, (htx _ kw_2_78), (htx _ kw_2_79)⟩ ⟨xPre_blind, vk_recv hZ.2.2.2.2.2.2.2.2.2.1 (i := 10) (by decide) hS, (fun U hU hW => ⟨rfl, xPre_of hZ hS hFc hPc hDc hK U hU hW⟩)⟩ rfl rfl hl.1 rfl (lv_room (Nat.le_of_ble_eq_true rfl)) dM_says_16 ⟨Nat.le_of_ble_eq_true rfl, Nat.le_of_ble_eq_true rfl⟩) hS (fun q _ h => hFc q h) hFc (fun r6 u9 t H1 locs ht hvm hr9 hB hz1 hk1 hS => ?_)
  obtain ⟨hP1, hK1, hD1⟩ := hB
  rw [ht] at hP1
  obtain ⟨hP, hD⟩ := xjoin (W := [(a2, .inl (cT 4, 1024, .inr (.inr (.inr (.inr f35))))), (a0, .inr (5, [v3, .ref a2, .int 1, v4, v5, v6, v7, v8, v9, v10, v11, v12, v13, v14, v15, .ref a1, .int 1, .int 4, v16, v17, v18, v19, v20, v21, v22, v23, v24, v25, v26, v27, v28, v29])), (a1, .inl (cT 0, 4096, .inl f30))]) hP hD [] [0, 1, 2] 3 rfl rfl (by decide) (by decide) hk1 hFc hP1 hD1
  generalize H1 = H at hP hS ⊢
  rw [hr9]
  refine W.eq (g2 := F0 m 19 ls [.int 117, .int 117]) rfl ?_
  refine lv_icmp_eq (tgt := 30) hx hb dM_says_19 (by decide) (fun _ => ?_) (fun h => ((by revert h; decide : False)).elim)
  refine lv_aload_n hx hb dM_says_30 rfl (lv_at hl 1 rfl) ?_
  refine lv_dup hx hb dM_says_31 rfl ?_
  refine va_get (D := D) (ci := 5) (v := .int 1) (C := "ValueBenchModel") (T := TM) (N := 32) hx hb htx inM hown hK hP 1 rfl rfl 16 (by decide) (htx _ kw_5_103) (fun _ h9 => h9) rfl dM_says_32 ?_
  refine lv_iconst (v := 1) hx hb dM_says_35 (by decide) ?_
  refine lv_iadd hx hb dM_says_36 ?_
  refine W.eq (g2 := F0 m 37 ls [.int 2, .ref a0]) rfl ?_
  refine va_put (D := D) (ci := 5) (v := .int 2) (ty := .int) (C := "ValueBenchModel") (T := TM) (N := 32) hx hb htx inM tyM tyM_ok nmM hown hK hP hD hS 1 rfl rfl 16 (by decide) (htx _ kw_5_103) (fun _ h9 => h9) rfl (by decide +kernel) rfl rfl (Nat.le_of_ble_eq_true rfl) dM_says_37 (fun H locs hP hD hS => ?_)
  obtain ⟨hP, hD⟩ : xPD D xcl A [(a2, .inl (cT 4, 1024, .inr (.inr (.inr (.inr f35))))), (a0, .inr (5, [v3, .ref a2, .int 1, v4, v5, v6, v7, v8, v9, v10, v11, v12, v13, v14, v15, .ref a1, .int 2, .int 4, v16, v17, v18, v19, v20, v21, v22, v23, v24, v25, v26, v27, v28, v29])), (a1, .inl (cT 0, 4096, .inl f30))] H := ⟨hP, hD⟩
  refine lv_iinc (v := 2) (lv' := [(3, .int 2), (0, .ref a0), (1, .ref (aK 10)), (2, .int 0)]) hx hb dM_says_40 hl (k := 0) rfl (by decide) (by decide) rfl (fun ls hl => ?_)
  refine lv_goto (tgt := 2) hx hb dM_says_43 (by decide) ?_
  refine lv_iload_n hx hb dM_says_2 rfl (lv_at hl 0 rfl) ?_
  refine lv_aload_n hx hb dM_says_3 rfl (lv_at hl 2 rfl) ?_
  obtain ⟨hPc, hDc, hFc⟩ := xcut (wc := []) hP hD hS hA [] rfl rfl (by decide)
  refine va_calli (va_runV (C := "java/lang/String") (As := []) (rest := [.int 2]) ⟨hx, hb, hml, hown, htx⟩ (cJS_length_0 l hl9 D cT aK aV H.size) ⟨callB_of 0 htx (xw_goodC kw_2_70) rfl rfl rfl (htx _ kw_1_6) (htx _ kw_5_238) ⟨by decide, by decide, by decide +kernel⟩ ⟨Nat.le_of_ble_eq_true rfl, Nat.le_of_ble_eq_true rfl⟩, (htx _ kw_2_68), (htx _ kw_2_69)⟩ ⟨xPre_blind, vk_recv hZ.2.2.2.2.2.2.2.2.2.1 (i := 10) (by decide) hS, (fun U hU hW => ⟨rfl, xPre_of hZ hS hFc hPc hDc hK U hU hW⟩)⟩ rfl rfl hl.1 rfl (lv_room (Nat.le_of_ble_eq_true rfl)) dM_says_4 ⟨Nat.le_of_ble_eq_true rfl, Nat.le_of_ble_eq_true rfl⟩) hS (fun q _ h => hFc q h) hFc (fun r7 u9 t H1 locs ht hvm hr9 hB hz1 hk1 hS => ?_)
  obtain ⟨hP1, hK1, hD1⟩ := hB
  rw [ht] at hP1
  obtain ⟨hP, hD⟩ := xjoin (W := [(a2, .inl (cT 4, 1024, .inr (.inr (.inr (.inr f35))))), (a0, .inr (5, [v3, .ref a2, .int 1, v4, v5, v6, v7, v8, v9, v10, v11, v12, v13, v14, v15, .ref a1, .int 2, .int 4, v16, v17, v18, v19, v20, v21, v22, v23, v24, v25, v26, v27, v28, v29])), (a1, .inl (cT 0, 4096, .inl f30))]) hP hD [] [0, 1, 2] 3 rfl rfl (by decide) (by decide) hk1 hFc hP1 hD1
  generalize H1 = H at hP hS ⊢
  rw [hr9]
  refine W.eq (g2 := F0 m 7 ls [.int 4, .int 2]) rfl ?_
  refine lv_icmp_ge (tgt := 46) hx hb dM_says_7 (by decide) (fun h => ((by revert h; decide : False)).elim) (fun _ => ?_)
  refine lv_aload_n hx hb dM_says_10 rfl (lv_at hl 1 rfl) ?_
  obtain ⟨hPc, hDc, hFc⟩ := xcut (wc := [(a0, .inr (5, [v3, .ref a2, .int 1, v4, v5, v6, v7, v8, v9, v10, v11, v12, v13, v14, v15, .ref a1, .int 2, .int 4, v16, v17, v18, v19, v20, v21, v22, v23, v24, v25, v26, v27, v28, v29])), (a1, .inl (cT 0, 4096, .inl f30))]) hP hD hS hA [1, 2] rfl rfl (by decide)
  refine va_calli (va_runV (C := "ValueBenchModel") (As := []) (rest := []) ⟨hx, hb, hml, hown, htx⟩ (cM_peek_3 l hl9 D cT aK aV H.size a0 a1 v3 (.ref a2) (.int 1) v4 v5 v6 v7 v8 v9 v10 v11 v12 v13 v14 v15 v16 v17 v18 v19 v20 v21 v22 v23 v24 v25 v26 v27 v28 v29 f30 (by first | rfl | exact h31 | exact h32 | exact h33 | exact h34 | exact h36)) ⟨callB_of 0 htx (xw_goodC kw_5_233) rfl rfl rfl (htx _ kw_1_5) (htx _ kw_5_230) ⟨by decide, by decide, by decide +kernel⟩ ⟨Nat.le_of_ble_eq_true rfl, Nat.le_of_ble_eq_true rfl⟩, (htx _ kw_5_232), (htx _ kp_M_peek)⟩ ⟨xPre_blind, va_recv hK hP (ci := 5) rfl (q0 := 1) rfl, (fun U hU hW => ⟨rfl, xPre_of hZ hS hFc hPc hDc hK U hU hW⟩)⟩ rfl rfl hl.1 rfl (lv_room (Nat.le_of_ble_eq_true rfl)) dM_says_11 ⟨Nat.le_of_ble_eq_true rfl, Nat.le_of_ble_eq_true rfl⟩) hS (fun q _ h => hFc q h) hFc (fun r8 u9 t H1 locs ht hvm hr9 hB hz1 hk1 hS => ?_)
  obtain ⟨hP1, hK1, hD1⟩ := hB
  rw [ht] at hP1
  obtain ⟨hP, hD⟩ := xjoin (W := [(a2, .inl (cT 4, 1024, .inr (.inr (.inr (.inr f35))))), (a0, .inr (5, [v3, .ref a2, .int 1, v4, v5, v6, v7, v8, v9, v10, v11, v12, v13, v14, v15, .ref a1, .int 2, .int 4, v16, v17, v18, v19, v20, v21, v22, v23, v24, v25, v26, v27, v28, v29])), (a1, .inl (cT 0, 4096, .inl f30))]) hP hD [1, 2] [0] 1 rfl rfl (by decide) (by decide) hk1 hFc hP1 hD1
  generalize H1 = H at hP hS ⊢
  rw [hr9]
  refine W.eq (g2 := F0 m 14 ls [.int 108]) rfl ?_
  refine lv_aload_n hx hb dM_says_14 rfl (lv_at hl 2 rfl) ?_
  refine lv_iload_n hx hb dM_says_15 rfl (lv_at hl 0 rfl) ?_
  obtain ⟨hPc, hDc, hFc⟩ := xcut (wc := []) hP hD hS hA [] rfl rfl (by decide)
  refine va_calli (va_runV (C := "java/lang/String") (As := [.int 2]) (rest := [.int 108]) ⟨hx, hb, hml, hown, htx⟩ (cJS_charAt_2 l hl9 D cT aK aV H.size) ⟨callB_of 1 htx (xw_goodC kw_2_80) rfl rfl rfl (htx _ kw_1_6) (htx _ kw_5_86) ⟨by decide, by decide, by decide +kernel⟩ ⟨Nat.le_of_ble_eq_true rfl, Nat.le_of_ble_eq_true rfl⟩, (htx _ kw_2_78), (htx _ kw_2_79)⟩ ⟨xPre_blind, vk_recv hZ.2.2.2.2.2.2.2.2.2.1 (i := 10) (by decide) hS, (fun U hU hW => ⟨rfl, xPre_of hZ hS hFc hPc hDc hK U hU hW⟩)⟩ rfl rfl hl.1 rfl (lv_room (Nat.le_of_ble_eq_true rfl)) dM_says_16 ⟨Nat.le_of_ble_eq_true rfl, Nat.le_of_ble_eq_true rfl⟩) hS (fun q _ h => hFc q h) hFc (fun r9 u9 t H1 locs ht hvm hr9 hB hz1 hk1 hS => ?_)
  obtain ⟨hP1, hK1, hD1⟩ := hB
  rw [ht] at hP1
  obtain ⟨hP, hD⟩ := xjoin (W := [(a2, .inl (cT 4, 1024, .inr (.inr (.inr (.inr f35))))), (a0, .inr (5, [v3, .ref a2, .int 1, v4, v5, v6, v7, v8, v9, v10, v11, v12, v13, v14, v15, .ref a1, .int 2, .int 4, v16, v17, v18, v19, v20, v21, v22, v23, v24, v25, v26, v27, v28, v29])), (a1, .inl (cT 0, 4096, .inl f30))]) hP hD [] [0, 1, 2] 3 rfl rfl (by decide) (by decide) hk1 hFc hP1 hD1
  generalize H1 = H at hP hS ⊢
  rw [hr9]
  refine W.eq (g2 := F0 m 19 ls [.int 108, .int 108]) rfl ?_
  refine lv_icmp_eq (tgt := 30) hx hb dM_says_19 (by decide) (fun _ => ?_) (fun h => ((by revert h; decide : False)).elim)
  refine lv_aload_n hx hb dM_says_30 rfl (lv_at hl 1 rfl) ?_
  refine lv_dup hx hb dM_says_31 rfl ?_
  refine va_get (D := D) (ci := 5) (v := .int 2) (C := "ValueBenchModel") (T := TM) (N := 32) hx hb htx inM hown hK hP 1 rfl rfl 16 (by decide) (htx _ kw_5_103) (fun _ h9 => h9) rfl dM_says_32 ?_
  refine lv_iconst (v := 1) hx hb dM_says_35 (by decide) ?_
  refine lv_iadd hx hb dM_says_36 ?_
  refine W.eq (g2 := F0 m 37 ls [.int 3, .ref a0]) rfl ?_
  refine va_put (D := D) (ci := 5) (v := .int 3) (ty := .int) (C := "ValueBenchModel") (T := TM) (N := 32) hx hb htx inM tyM tyM_ok nmM hown hK hP hD hS 1 rfl rfl 16 (by decide) (htx _ kw_5_103) (fun _ h9 => h9) rfl (by decide +kernel) rfl rfl (Nat.le_of_ble_eq_true rfl) dM_says_37 (fun H locs hP hD hS => ?_)
  obtain ⟨hP, hD⟩ : xPD D xcl A [(a2, .inl (cT 4, 1024, .inr (.inr (.inr (.inr f35))))), (a0, .inr (5, [v3, .ref a2, .int 1, v4, v5, v6, v7, v8, v9, v10, v11, v12, v13, v14, v15, .ref a1, .int 3, .int 4, v16, v17, v18, v19, v20, v21, v22, v23, v24, v25, v26, v27, v28, v29])), (a1, .inl (cT 0, 4096, .inl f30))] H := ⟨hP, hD⟩
  refine lv_iinc (v := 3) (lv' := [(3, .int 3), (0, .ref a0), (1, .ref (aK 10)), (2, .int 0)]) hx hb dM_says_40 hl (k := 0) rfl (by decide) (by decide) rfl (fun ls hl => ?_)
  refine lv_goto (tgt := 2) hx hb dM_says_43 (by decide) ?_
  refine lv_iload_n hx hb dM_says_2 rfl (lv_at hl 0 rfl) ?_
  refine lv_aload_n hx hb dM_says_3 rfl (lv_at hl 2 rfl) ?_
  obtain ⟨hPc, hDc, hFc⟩ := xcut (wc := []) hP hD hS hA [] rfl rfl (by decide)
  refine va_calli (va_runV (C := "java/lang/String") (As := []) (rest := [.int 3]) ⟨hx, hb, hml, hown, htx⟩ (cJS_length_0 l hl9 D cT aK aV H.size) ⟨callB_of 0 htx (xw_goodC kw_2_70) rfl rfl rfl (htx _ kw_1_6) (htx _ kw_5_238) ⟨by decide, by decide, by decide +kernel⟩ ⟨Nat.le_of_ble_eq_true rfl, Nat.le_of_ble_eq_true rfl⟩, (htx _ kw_2_68), (htx _ kw_2_69)⟩ ⟨xPre_blind, vk_recv hZ.2.2.2.2.2.2.2.2.2.1 (i := 10) (by decide) hS, (fun U hU hW => ⟨rfl, xPre_of hZ hS hFc hPc hDc hK U hU hW⟩)⟩ rfl rfl hl.1 rfl (lv_room (Nat.le_of_ble_eq_true rfl)) dM_says_4 ⟨Nat.le_of_ble_eq_true rfl, Nat.le_of_ble_eq_true rfl⟩) hS (fun q _ h => hFc q h) hFc (fun r10 u9 t H1 locs ht hvm hr9 hB hz1 hk1 hS => ?_)
  obtain ⟨hP1, hK1, hD1⟩ := hB
  rw [ht] at hP1
  obtain ⟨hP, hD⟩ := xjoin (W := [(a2, .inl (cT 4, 1024, .inr (.inr (.inr (.inr f35))))), (a0, .inr (5, [v3, .ref a2, .int 1, v4, v5, v6, v7, v8, v9, v10, v11, v12, v13, v14, v15, .ref a1, .int 3, .int 4, v16, v17, v18, v19, v20, v21, v22, v23, v24, v25, v26, v27, v28, v29])), (a1, .inl (cT 0, 4096, .inl f30))]) hP hD [] [0, 1, 2] 3 rfl rfl (by decide) (by decide) hk1 hFc hP1 hD1
  generalize H1 = H at hP hS ⊢
  rw [hr9]
  refine W.eq (g2 := F0 m 7 ls [.int 4, .int 3]) rfl ?_
  refine lv_icmp_ge (tgt := 46) hx hb dM_says_7 (by decide) (fun h => ((by revert h; decide : False)).elim) (fun _ => ?_)
  refine lv_aload_n hx hb dM_says_10 rfl (lv_at hl 1 rfl) ?_
  obtain ⟨hPc, hDc, hFc⟩ := xcut (wc := [(a0, .inr (5, [v3, .ref a2, .int 1, v4, v5, v6, v7, v8, v9, v10, v11, v12, v13, v14, v15, .ref a1, .int 3, .int 4, v16, v17, v18, v19, v20, v21, v22, v23, v24, v25, v26, v27, v28, v29])), (a1, .inl (cT 0, 4096, .inl f30))]) hP hD hS hA [1, 2] rfl rfl (by decide)
  refine va_calli (va_runV (C := "ValueBenchModel") (As := []) (rest := []) ⟨hx, hb, hml, hown, htx⟩ (cM_peek_4 l hl9 D cT aK aV H.size a0 a1 v3 (.ref a2) (.int 1) v4 v5 v6 v7 v8 v9 v10 v11 v12 v13 v14 v15 v16 v17 v18 v19 v20 v21 v22 v23 v24 v25 v26 v27 v28 v29 f30 (by first | rfl | exact h31 | exact h32 | exact h33 | exact h34 | exact h36)) ⟨callB_of 0 htx (xw_goodC kw_5_233) rfl rfl rfl (htx _ kw_1_5) (htx _ kw_5_230) ⟨by decide, by decide, by decide +kernel⟩ ⟨Nat.le_of_ble_eq_true rfl, Nat.le_of_ble_eq_true rfl⟩, (htx _ kw_5_232), (htx _ kp_M_peek)⟩ ⟨xPre_blind, va_recv hK hP (ci := 5) rfl (q0 := 1) rfl, (fun U hU hW => ⟨rfl, xPre_of hZ hS hFc hPc hDc hK U hU hW⟩)⟩ rfl rfl hl.1 rfl (lv_room (Nat.le_of_ble_eq_true rfl)) dM_says_11 ⟨Nat.le_of_ble_eq_true rfl, Nat.le_of_ble_eq_true rfl⟩) hS (fun q _ h => hFc q h) hFc (fun r11 u9 t H1 locs ht hvm hr9 hB hz1 hk1 hS => ?_)
  obtain ⟨hP1, hK1, hD1⟩ := hB
  rw [ht] at hP1
  obtain ⟨hP, hD⟩ := xjoin (W := [(a2, .inl (cT 4, 1024, .inr (.inr (.inr (.inr f35))))), (a0, .inr (5, [v3, .ref a2, .int 1, v4, v5, v6, v7, v8, v9, v10, v11, v12, v13, v14, v15, .ref a1, .int 3, .int 4, v16, v17, v18, v19, v20, v21, v22, v23, v24, v25, v26, v27, v28, v29])), (a1, .inl (cT 0, 4096, .inl f30))]) hP hD [1, 2] [0] 1 rfl rfl (by decide) (by decide) hk1 hFc hP1 hD1
  generalize H1 = H at hP hS ⊢
  rw [hr9]
  refine W.eq (g2 := F0 m 14 ls [.int 108]) rfl ?_
  refine lv_aload_n hx hb dM_says_14 rfl (lv_at hl 2 rfl) ?_
  refine lv_iload_n hx hb dM_says_15 rfl (lv_at hl 0 rfl) ?_
  obtain ⟨hPc, hDc, hFc⟩ := xcut (wc := []) hP hD hS hA [] rfl rfl (by decide)
  refine va_calli (va_runV (C := "java/lang/String") (As := [.int 3]) (rest := [.int 108]) ⟨hx, hb, hml, hown, htx⟩ (cJS_charAt_3 l hl9 D cT aK aV H.size) ⟨callB_of 1 htx (xw_goodC kw_2_80) rfl rfl rfl (htx _ kw_1_6) (htx _ kw_5_86) ⟨by decide, by decide, by decide +kernel⟩ ⟨Nat.le_of_ble_eq_true rfl, Nat.le_of_ble_eq_true rfl⟩, (htx _ kw_2_78), (htx _ kw_2_79)⟩ ⟨xPre_blind, vk_recv hZ.2.2.2.2.2.2.2.2.2.1 (i := 10) (by decide) hS, (fun U hU hW => ⟨rfl, xPre_of hZ hS hFc hPc hDc hK U hU hW⟩)⟩ rfl rfl hl.1 rfl (lv_room (Nat.le_of_ble_eq_true rfl)) dM_says_16 ⟨Nat.le_of_ble_eq_true rfl, Nat.le_of_ble_eq_true rfl⟩) hS (fun q _ h => hFc q h) hFc (fun r12 u9 t H1 locs ht hvm hr9 hB hz1 hk1 hS => ?_)
  obtain ⟨hP1, hK1, hD1⟩ := hB
  rw [ht] at hP1
  obtain ⟨hP, hD⟩ := xjoin (W := [(a2, .inl (cT 4, 1024, .inr (.inr (.inr (.inr f35))))), (a0, .inr (5, [v3, .ref a2, .int 1, v4, v5, v6, v7, v8, v9, v10, v11, v12, v13, v14, v15, .ref a1, .int 3, .int 4, v16, v17, v18, v19, v20, v21, v22, v23, v24, v25, v26, v27, v28, v29])), (a1, .inl (cT 0, 4096, .inl f30))]) hP hD [] [0, 1, 2] 3 rfl rfl (by decide) (by decide) hk1 hFc hP1 hD1
  generalize H1 = H at hP hS ⊢
  rw [hr9]
  refine W.eq (g2 := F0 m 19 ls [.int 108, .int 108]) rfl ?_
  refine lv_icmp_eq (tgt := 30) hx hb dM_says_19 (by decide) (fun _ => ?_) (fun h => ((by revert h; decide : False)).elim)
  refine lv_aload_n hx hb dM_says_30 rfl (lv_at hl 1 rfl) ?_
  refine lv_dup hx hb dM_says_31 rfl ?_
  refine va_get (D := D) (ci := 5) (v := .int 3) (C := "ValueBenchModel") (T := TM) (N := 32) hx hb htx inM hown hK hP 1 rfl rfl 16 (by decide) (htx _ kw_5_103) (fun _ h9 => h9) rfl dM_says_32 ?_
  refine lv_iconst (v := 1) hx hb dM_says_35 (by decide) ?_
  refine lv_iadd hx hb dM_says_36 ?_
  refine W.eq (g2 := F0 m 37 ls [.int 4, .ref a0]) rfl ?_
  refine va_put (D := D) (ci := 5) (v := .int 4) (ty := .int) (C := "ValueBenchModel") (T := TM) (N := 32) hx hb htx inM tyM tyM_ok nmM hown hK hP hD hS 1 rfl rfl 16 (by decide) (htx _ kw_5_103) (fun _ h9 => h9) rfl (by decide +kernel) rfl rfl (Nat.le_of_ble_eq_true rfl) dM_says_37 (fun H locs hP hD hS => ?_)
  obtain ⟨hP, hD⟩ : xPD D xcl A [(a2, .inl (cT 4, 1024, .inr (.inr (.inr (.inr f35))))), (a0, .inr (5, [v3, .ref a2, .int 1, v4, v5, v6, v7, v8, v9, v10, v11, v12, v13, v14, v15, .ref a1, .int 4, .int 4, v16, v17, v18, v19, v20, v21, v22, v23, v24, v25, v26, v27, v28, v29])), (a1, .inl (cT 0, 4096, .inl f30))] H := ⟨hP, hD⟩
  refine lv_iinc (v := 4) (lv' := [(3, .int 4), (0, .ref a0), (1, .ref (aK 10)), (2, .int 0)]) hx hb dM_says_40 hl (k := 0) rfl (by decide) (by decide) rfl (fun ls hl => ?_)
  refine lv_goto (tgt := 2) hx hb dM_says_43 (by decide) ?_
  refine lv_iload_n hx hb dM_says_2 rfl (lv_at hl 0 rfl) ?_
  refine lv_aload_n hx hb dM_says_3 rfl (lv_at hl 2 rfl) ?_
  obtain ⟨hPc, hDc, hFc⟩ := xcut (wc := []) hP hD hS hA [] rfl rfl (by decide)
  refine va_calli (va_runV (C := "java/lang/String") (As := []) (rest := [.int 4]) ⟨hx, hb, hml, hown, htx⟩ (cJS_length_0 l hl9 D cT aK aV H.size) ⟨callB_of 0 htx (xw_goodC kw_2_70) rfl rfl rfl (htx _ kw_1_6) (htx _ kw_5_238) ⟨by decide, by decide, by decide +kernel⟩ ⟨Nat.le_of_ble_eq_true rfl, Nat.le_of_ble_eq_true rfl⟩, (htx _ kw_2_68), (htx _ kw_2_69)⟩ ⟨xPre_blind, vk_recv hZ.2.2.2.2.2.2.2.2.2.1 (i := 10) (by decide) hS, (fun U hU hW => ⟨rfl, xPre_of hZ hS hFc hPc hDc hK U hU hW⟩)⟩ rfl rfl hl.1 rfl (lv_room (Nat.le_of_ble_eq_true rfl)) dM_says_4 ⟨Nat.le_of_ble_eq_true rfl, Nat.le_of_ble_eq_true rfl⟩) hS (fun q _ h => hFc q h) hFc (fun r13 u9 t H1 locs ht hvm hr9 hB hz1 hk1 hS => ?_)
  obtain ⟨hP1, hK1, hD1⟩ := hB
  rw [ht] at hP1
  obtain ⟨hP, hD⟩ := xjoin (W := [(a2, .inl (cT 4, 1024, .inr (.inr (.inr (.inr f35))))), (a0, .inr (5, [v3, .ref a2, .int 1, v4, v5, v6, v7, v8, v9, v10, v11, v12, v13, v14, v15, .ref a1, .int 4, .int 4, v16, v17, v18, v19, v20, v21, v22, v23, v24, v25, v26, v27, v28, v29])), (a1, .inl (cT 0, 4096, .inl f30))]) hP hD [] [0, 1, 2] 3 rfl rfl (by decide) (by decide) hk1 hFc hP1 hD1
  generalize H1 = H at hP hS ⊢
  rw [hr9]
  refine W.eq (g2 := F0 m 7 ls [.int 4, .int 4]) rfl ?_
  refine lv_icmp_ge (tgt := 46) hx hb dM_says_7 (by decide) (fun _ => ?_) (fun h => ((by revert h; decide : False)).elim)
  refine lv_aload_n hx hb dM_says_46 rfl (lv_at hl 1 rfl) ?_
  refine lv_iload_n hx hb dM_says_47 rfl (lv_at hl 3 rfl) ?_
  obtain ⟨hPc, hDc, hFc⟩ := xcut (wc := [(a0, .inr (5, [v3, .ref a2, .int 1, v4, v5, v6, v7, v8, v9, v10, v11, v12, v13, v14, v15, .ref a1, .int 4, .int 4, v16, v17, v18, v19, v20, v21, v22, v23, v24, v25, v26, v27, v28, v29])), (a2, .inl (cT 4, 1024, .inr (.inr (.inr (.inr f35)))))]) hP hD hS hA [1, 0] rfl rfl (by decide)
  refine va_callr (va_runV (C := "ValueBenchModel") (As := [.int 0]) (rest := []) ⟨hx, hb, hml, hown, htx⟩ (cM_fresh_1 l hl9 D cT aK aV H.size a0 a2 v3 v4 v5 v6 v7 v8 v9 v10 v11 v12 v13 v14 v15 (.ref a1) (.int 4) (.int 4) v16 v17 v18 v19 v20 v21 v22 v23 v24 v25 v26 v27 v28 v29 f35 (by first | rfl | exact h31 | exact h32 | exact h33 | exact h34 | exact h36)) ⟨callB_of 1 htx (xw_goodC kw_6_16) rfl rfl rfl (htx _ kw_1_5) (htx _ kw_6_13) ⟨by decide, by decide, by decide +kernel⟩ ⟨Nat.le_of_ble_eq_true rfl, Nat.le_of_ble_eq_true rfl⟩, (htx _ kw_6_15), (htx _ kp_M_fresh)⟩ ⟨xPre_blind, va_recv hK hP (ci := 5) rfl (q0 := 1) rfl, (fun U hU hW => ⟨rfl, xPre_of hZ hS hFc hPc hDc hK U hU hW⟩)⟩ rfl rfl hl.1 rfl (lv_room (Nat.le_of_ble_eq_true rfl)) dM_says_48 ⟨Nat.le_of_ble_eq_true rfl, Nat.le_of_ble_eq_true rfl⟩) hS (fun q _ h => hFc q h) hFc (fun u9 r14 t H1 locs ht hvm hr9 hB hz1 hk1 hS => ?_)
  obtain ⟨hP1, hK1, hD1⟩ := hB
  rw [ht] at hP1
  obtain ⟨hP, hD⟩ := xjoin (W := [(a1, .inl (cT 0, 4096, .inl f30)), (a0, .inr (5, [v3, .ref a2, .int 2, v4, v5, v6, v7, v8, v9, v10, v11, v12, v13, v14, v15, .ref a1, .int 4, .int 4, v16, v17, v18, v19, v20, v21, v22, v23, v24, v25, v26, v27, v28, v29])), (a2, .inl (cT 4, 1024, .inr (.inr (.inr (.inr (va_up f35 1 (some r14))))))), (r14, .inr (6, [.int 0, .long 0, .int 0, .int 0, .int 0, .int 1]))]) hP hD [1, 0] [2] 1 rfl rfl (by decide) (by decide) hk1 hFc hP1 hD1
  generalize H1 = H at hP hS ⊢
  refine W.eq (g2 := F0 m 51 ls [.ref r14]) rfl ?_
  obtain ⟨hP9, hD9⟩ := xsub (wc := [(a0, .inr (5, [v3, .ref a2, .int 2, v4, v5, v6, v7, v8, v9, v10, v11, v12, v13, v14, v15, .ref a1, .int 4, .int 4, v16, v17, v18, v19, v20, v21, v22, v23, v24, v25, v26, v27, v28, v29])), (a1, .inl (cT 0, 4096, .inl f30)), (a2, .inl (cT 4, 1024, .inr (.inr (.inr (.inr (va_up f35 1 (some r14))))))), (r14, .inr (6, [.int 0, .long 0, .int 0, .int 0, .int 0, .int 1]))]) hP hD [1, 0, 2, 3] rfl rfl (by decide)
  refine W.widen (k := 1) (n := 6) (Nat.le_of_ble_eq_true rfl) (Nat.le_of_ble_eq_true rfl) ?_
  exact W.aret hx hb hr (Or.inl ⟨_, rfl⟩) (Or.inr ⟨_, rfl⟩) (fun t ht hW => ⟨⟨(), r14, rfl, trivial, by rw [ht]; exact hP9, va_K.moved hW.alike hK, hD9⟩, hS.F ht⟩) hS.2.2 dM_says_51
