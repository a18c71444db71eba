set_option maxHeartbeats 400000000 in
set_option maxRecDepth 100000 in
theorem cM_cased_0 (l : Launch) (hl9 : l.stackTraces = false) (D : va_G) (cT : Nat → ClassId) (aK aV : Nat → Nat) (sz : Nat) (a0 : Nat) (a1 : Nat) (x2 : Int32) (v3 : Value) (v4 : Value) (v5 : Value) (v6 : Value) (x7 : Int32) (v8 : Value) (v9 : Value) (v10 : Value) (v11 : Value) (v12 : Value) (v13 : Value) (v14 : Value) (v15 : Value) (v16 : Value) (v17 : Value) (v18 : Value) (v19 : Value) (v20 : Value) (v21 : Value) (v22 : Value) (v23 : Value) (v24 : Value) (v25 : Value) (v26 : Value) (v27 : Value) (v28 : Value) (v29 : Value) (v30 : Value) (v31 : Value) (v32 : Value) (v33 : Value) (v34 : Value) (v35 : Value) (v36 : Value) (v37 : Value) (v38 : Value) (v39 : Value) : xMetX l yM_cased wyM_cased 8 1 6 142 D cT aK aV sz [.ref a0, .ref a1, .int x2] [(a0, .inr (5, [v3, v4, v5, v6, .int x7, v8, v9, v10, v11, v12, v13, v14, v15, v16, v17, v18, v19, v20, v21, v22, v23, v24, v25, v26, v27, v28, v29, v30, v31, v32, v33, v34])), (a1, .inr (6, [.int 0, v35, v36, v37, v38, v39]))] "java/lang/ArithmeticException" (fun A t => xB D xcl cT A [(a0, .inr (5, [v3, v4, v5, v6, .int x7, v8, v9, v10, .int 1, v12, v13, v14, v15, v16, v17, v18, v19, v20, v21, v22, v23, v24, v25, v26, v27, v28, v29, v30, v31, v32, v33, v34])), (a1, .inr (6, [.int 0, v35, v36, v37, v38, v39]))] t) := by
  refine vx_ofW (cc := prog_13_method_64_code) (maxL := 6) (ret := (some (.object "ValueBenchModel$V"))) (by decide) rfl ?_
  intro p e s m args below meth c s₁ B hml hne hv
  obtain ⟨rfl, hsz, hZ, hP, hK, hD0⟩ := hv
  have hx := B.exec
  have hb := B.bytes
  have hr := B.returns
  have hts := atoms_spec (ws := wyM_cased) B.pre
  have htx := fun w h => hts w (List.mem_cons_of_mem _ h)
  have hown : s.vm.findClass "ValueBenchModel" = some m.cls := findClass_of_methodNamed B.named
  have hlocks := B.notSynchronized
  subst hsz
  have hD := hD0.self (sz := s.heap.size)
  generalize hAe : va_A [(a0, .inr (5, [v3, v4, v5, v6, .int x7, v8, v9, v10, v11, v12, v13, v14, v15, v16, v17, v18, v19, v20, v21, v22, v23, v24, v25, v26, v27, v28, v29, v30, v31, v32, v33, v34])), (a1, .inr (6, [.int 0, v35, v36, v37, v38, v39]))] s.heap.size = A at hD hZ ⊢
  have hA : ∀ q : Nat, s.heap.size ≤ q → A q := fun q h => by rw [← hAe]; exact Or.inr h
  have hS : va_S A s.heap s.heap [] := va_S.rf
  have hP : va_P D xcl [(a0, .inr (5, [v3, v4, v5, v6, .int x7, v8, v9, v10, v11, v12, v13, v14, v15, v16, v17, v18, v19, v20, v21, v22, v23, v24, v25, v26, v27, v28, v29, v30, v31, v32, v33, v34])), (a1, .inr (6, [.int 0, v35, v36, v37, v38, v39]))] s.heap := hP
  have hl := lv_entry ([.ref a0, .ref a1, .int x2]) (n := 6) (Nat.le_of_ble_eq_true rfl)
  rw [lg_entry_eq]
  generalize (lg_sl ([.ref a0, .ref a1, .int x2]) ++ List.replicate (6 - (lg_sl ([.ref a0, .ref a1, .int x2])).length) Slot.unset).toArray = ls at hl ⊢
  have hl : lv_has ls 6 [(0, .ref a0), (1, .ref a1), (2, .int x2)] := hl
  refine lv_aload_n hx hb dM_cased_0 rfl (lv_at hl 0 rfl) ?_
  refine va_get (D := D) (ci := 5) (v := .int x7) (C := "ValueBenchModel") (T := TM) (N := 32) hx hb htx inM hown hK hP 0 rfl rfl 4 (by decide) (htx _ kw_5_91) (fun _ h9 => h9) rfl dM_cased_1 ?_
  refine lv_istore_n (lv' := [(3, .int x7), (0, .ref a0), (1, .ref a1), (2, .int x2)]) hx hb dM_cased_4 rfl hl (by decide) rfl (fun ls hl => ?_)
  refine lv_iconst (v := 0) hx hb dM_cased_5 (by decide) ?_
  refine lv_istore (lv' := [(4, .int 0), (3, .int x7), (0, .ref a0), (1, .ref a1), (2, .int x2)]) hx hb dM_cased_6 hl (by decide) rfl (fun ls hl => ?_)
  refine lv_iload hx hb dM_cased_8 (lv_at hl 0 rfl) ?_
  refine lv_aload_n hx hb dM_cased_10 rfl (lv_at hl 2 rfl) ?_
  refine lv_aload_n hx hb dM_cased_11 rfl (lv_at hl 3 rfl) ?_
  obtain ⟨hPc, hDc, hFc⟩ := xcut (wc := [(a1, .inr (6, [.int 0, v35, v36, v37, v38, v39])), (a0, .inr (5, [v3, v4, v5, v6, .int x7, v8, v9, v10, v11, v12, v13, v14, v15, v16, v17, v18, v19, v20, v21, v22, v23, v24, v25, v26, v27, v28, v29, v30, v31, v32, v33, v34]))]) hP hD hS hA [1, 0] rfl rfl (by decide)
  refine xx_thr (vx_runV (C := "ValueBenchModel") (As := [.ref a1]) (rest := [.int 0]) ⟨hx, hb, hml, hown, htx⟩ (cM_text_0 l hl9 D cT aK aV s.heap.size a1 a0 v35 v36 v37 v38 v39 v3 v4 v5 v6 (.int x7) v8 v9 v10 v11 v12 v13 v14 v15 v16 v17 v18 v19 v20 v21 v22 v23 v24 v25 v26 v27 v28 v29 v30 v31 v32 v33 v34) ⟨callB_of 1 htx (xw_goodC kw_7_54) rfl rfl rfl (htx _ kw_1_5) (htx _ kw_7_51) ⟨by decide, by decide, by decide +kernel⟩ ⟨Nat.le_of_ble_eq_true rfl, Nat.le_of_ble_eq_true rfl⟩, (htx _ kw_7_53), (htx _ kp_M_text)⟩ ⟨xPre_blind, va_recv hK hP (ci := 5) rfl (q0 := 0) rfl, (fun U hU hW => ⟨rfl, xPre_of hZ hS hFc hPc hDc hK U hU hW⟩)⟩ rfl rfl hl.1 rfl (lv_room (Nat.le_of_ble_eq_true rfl)) dM_cased_12 ⟨Nat.le_of_ble_eq_true rfl, Nat.le_of_ble_eq_true rfl⟩) hS hFc (fun q _ h => hFc q h) (fun E ce q9 u9 t H1 locs ht hvm _ hB hz1 hk1 hS hce hcv hcl => ?_)
  obtain ⟨rfl, hP1, hK1, hD1⟩ := hB
  rw [ht] at hP1
  obtain ⟨hP, hD⟩ := xjoin (W := [(a1, .inr (6, [.int 0, v35, v36, v37, v38, v39])), (a0, .inr (5, [v3, v4, v5, v6, .int x7, v8, v9, v10, .int 1, v12, v13, v14, v15, v16, v17, v18, v19, v20, v21, v22, v23, v24, v25, v26, v27, v28, v29, v30, v31, v32, v33, v34]))]) hP hD [1, 0] [] 0 rfl rfl (by decide) (by decide) hk1 hFc hP1 hD1
  generalize H1 = H at hP hS hce ⊢
  obtain ⟨hP9, hD9⟩ := xsub (wc := [(a0, .inr (5, [v3, v4, v5, v6, .int x7, v8, v9, v10, .int 1, v12, v13, v14, v15, v16, v17, v18, v19, v20, v21, v22, v23, v24, v25, v26, v27, v28, v29, v30, v31, v32, v33, v34])), (a1, .inr (6, [.int 0, v35, v36, v37, v38, v39]))]) hP hD [1, 0] rfl rfl (by decide)
  exact vx_out (E := "java/lang/ArithmeticException") (fun x h => (hne x h).elim) hlocks hce hcv hcl (fun t ht ha => ⟨(), trivial, ⟨rfl, by rw [ht]; exact hP9, va_K.moved ha hK, hD9⟩, hS.F ht⟩) hS.2.2 (Nat.le_of_ble_eq_true rfl) (Nat.le_of_ble_eq_true rfl)
set_option maxHeartbeats 400000000 in
set_option maxRecDepth 100000 in
theorem cM_one1_12 (l : Launch) (hl9 : l.stackTraces = false) (D : va_G) (cT : Nat → ClassId) (aK aV : Nat → Nat) (sz : Nat) (a0 : Nat) (a1 : Nat) (v2 : Value) (v3 : Value) (v4 : Value) (v5 : Value) (x6 : Int32) (v7 : Value) (v8 : Value) (v9 : Value) (v10 : Value) (v11 : Value) (v12 : Value) (v13 : Value) (v14 : Value) (v15 : Value) (v16 : Value) (v17 : Value) (v18 : Value) (v19 : Value) (v20 : Value) (v21 : Value) (v22 : Value) (v23 : Value) (v24 : Value) (v25 : Value) (v26 : Value) (v27 : Value) (v28 : Value) (v29 : Value) (v30 : Value) (v31 : Value) (v32 : Value) (v33 : Value) (v34 : Value) (v35 : Value) (v36 : Value) (v37 : Value) (v38 : Value) : xMetX l yM_one1 wyM_one1 9 1 6 167 D cT aK aV sz [.ref a0, .int 12, .ref a1] [(a0, .inr (5, [v2, v3, v4, v5, .int x6, v7, v8, v9, v10, v11, v12, v13, v14, v15, v16, v17, v18, v19, v20, v21, v22, v23, v24, v25, v26, v27, v28, v29, v30, v31, v32, v33])), (a1, .inr (6, [.int 0, v34, v35, v36, v37, v38]))] "java/lang/ArithmeticException" (fun A t => xB D xcl cT A [(a0, .inr (5, [v2, v3, v4, v5, .int x6, v7, v8, v9, .int 1, v11, v12, v13, v14, v15, v16, v17, v18, v19, v20, v21, v22, v23, v24, v25, v26, v27, v28, v29, v30, v31, v32, v33])), (a1, .inr (6, [.int 0, v34, v35, v36, v37, v38]))] t) := by
  refine vx_ofW (cc := prog_13_method_66_code) (maxL := 3) (ret := (some (.object "ValueBenchModel$V"))) (by decide) rfl ?_
  intro p e s m args below meth c s₁ B hml hne hv
  obtain ⟨rfl, hsz, hZ, hP, hK, hD0⟩ := hv
  have hx := B.exec
  have hb := B.bytes
  have hr := B.returns
  have hts := atoms_spec (ws := wyM_one1) B.pre
  have htx := fun w h => hts w (List.mem_cons_of_mem _ h)
  have hown : s.vm.findClass "ValueBenchModel" = some m.cls := findClass_of_methodNamed B.named
  have hlocks := B.notSynchronized
  subst hsz
  have hD := hD0.self (sz := s.heap.size)
  generalize hAe : va_A [(a0, .inr (5, [v2, v3, v4, v5, .int x6, v7, v8, v9, v10, v11, v12, v13, v14, v15, v16, v17, v18, v19, v20, v21, v22, v23, v24, v25, v26, v27, v28, v29, v30, v31, v32, v33])), (a1, .inr (6, [.int 0, v34, v35, v36, v37, v38]))] s.heap.size = A at hD hZ ⊢
  have hA : ∀ q : Nat, s.heap.size ≤ q → A q := fun q h => by rw [← hAe]; exact Or.inr h
  have hS : va_S A s.heap s.heap [] := va_S.rf
  have hP : va_P D xcl [(a0, .inr (5, [v2, v3, v4, v5, .int x6, v7, v8, v9, v10, v11, v12, v13, v14, v15, v16, v17, v18, v19, v20, v21, v22, v23, v24, v25, v26, v27, v28, v29, v30, v31, v32, v33])), (a1, .inr (6, [.int 0, v34, v35, v36, v37, v38]))] s.heap := hP
  have hl := lv_entry ([.ref a0, .int 12, .ref a1]) (n := 3) (Nat.le_of_ble_eq_true rfl)
  rw [lg_entry_eq]
  generalize (lg_sl ([.ref a0, .int 12, .ref a1]) ++ List.replicate (3 - (lg_sl ([.ref a0, .int 12, .ref a1])).length) Slot.unset).toArray = ls at hl ⊢
  have hl : lv_has ls 3 [(0, .ref a0), (1, .int 12), (2, .ref a1)] := hl
  refine lv_iload_n hx hb dM_one1_0 rfl (lv_at hl 1 rfl) ?_
  refine lv_tableIn (off := 171) (tgt := 172) hx hb dM_one1_1 (by decide) (by decide) (by decide) (by decide) ?_
  refine lv_aload_n hx hb dM_one1_172 rfl (lv_at hl 0 rfl) ?_
  refine lv_aload_n hx hb dM_one1_173 rfl (lv_at hl 2 rfl) ?_
  refine lv_iconst (v := 0) hx hb dM_one1_174 (by decide) ?_
  obtain ⟨hPc, hDc, hFc⟩ := xcut (wc := [(a0, .inr (5, [v2, v3, v4, v5, .int x6, v7, v8, v9, v10, v11, v12, v13, v14, v15, v16, v17, v18, v19, v20, v21, v22, v23, v24, v25, v26, v27, v28, v29, v30, v31, v32, v33])), (a1, .inr (6, [.int 0, v34, v35, v36, v37, v38]))]) hP hD hS hA [0, 1] rfl rfl (by decide)
  refine xx_thr (vx_runV (C := "ValueBenchModel") (As := [.ref a1, .int 0]) (rest := []) ⟨hx, hb, hml, hown, htx⟩ (cM_cased_0 l hl9 D cT aK aV s.heap.size a0 a1 0 v2 v3 v4 v5 x6 v7 v8 v9 v10 v11 v12 v13 v14 v15 v16 v17 v18 v19 v20 v21 v22 v23 v24 v25 v26 v27 v28 v29 v30 v31 v32 v33 v34 v35 v36 v37 v38) ⟨callB_of 2 htx (xw_goodC kw_7_75) rfl rfl rfl (htx _ kw_1_5) (htx _ kw_7_72) ⟨by decide, by decide, by decide +kernel⟩ ⟨Nat.le_of_ble_eq_true rfl, Nat.le_of_ble_eq_true rfl⟩, (htx _ kw_7_74), (htx _ kp_M_cased)⟩ ⟨xPre_blind, va_recv hK hP (ci := 5) rfl (q0 := 0) rfl, (fun U hU hW => ⟨rfl, xPre_of hZ hS hFc hPc hDc hK U hU hW⟩)⟩ rfl rfl hl.1 rfl (lv_room (Nat.le_of_ble_eq_true rfl)) dM_one1_175 ⟨Nat.le_of_ble_eq_true rfl, Nat.le_of_ble_eq_true rfl⟩) hS hFc (fun q _ h => hFc q h) (fun E ce q9 u9 t H1 locs ht hvm _ hB hz1 hk1 hS hce hcv hcl => ?_)
  obtain ⟨rfl, hP1, hK1, hD1⟩ := hB
  rw [ht] at hP1
  obtain ⟨hP, hD⟩ := xjoin (W := [(a0, .inr (5, [v2, v3, v4, v5, .int x6, v7, v8, v9, .int 1, v11, v12, v13, v14, v15, v16, v17, v18, v19, v20, v21, v22, v23, v24, v25, v26, v27, v28, v29, v30, v31, v32, v33])), (a1, .inr (6, [.int 0, v34, v35, v36, v37, v38]))]) hP hD [0, 1] [] 0 rfl rfl (by decide) (by decide) hk1 hFc hP1 hD1
  generalize H1 = H at hP hS hce ⊢
  obtain ⟨hP9, hD9⟩ := xsub (wc := [(a0, .inr (5, [v2, v3, v4, v5, .int x6, v7, v8, v9, .int 1, v11, v12, v13, v14, v15, v16, v17, v18, v19, v20, v21, v22, v23, v24, v25, v26, v27, v28, v29, v30, v31, v32, v33])), (a1, .inr (6, [.int 0, v34, v35, v36, v37, v38]))]) hP hD [0, 1] rfl rfl (by decide)
  exact vx_out (E := "java/lang/ArithmeticException") (fun x h => (hne x h).elim) hlocks hce hcv hcl (fun t ht ha => ⟨(), trivial, ⟨rfl, by rw [ht]; exact hP9, va_K.moved ha hK, hD9⟩, hS.F ht⟩) hS.2.2 (Nat.le_of_ble_eq_true rfl) (Nat.le_of_ble_eq_true rfl)
set_option maxHeartbeats 400000000 in
set_option maxRecDepth 100000 in
theorem cM_finish_30 (l : Launch) (hl9 : l.stackTraces = false) (D : va_G) (cT : Nat → ClassId) (aK aV : Nat → Nat) (sz : Nat) (a0 : Nat) (a1 : Nat) (a2 : Nat) (a3 : Nat) (a4 : Nat) (x5 : Int32) (x6 : Int32) (x11 : Int32) (v12 : Value) (v13 : Value) (x14 : Int32) (v15 : Value) (v16 : Value) (v17 : Value) (v18 : Value) (v19 : Value) (v20 : Value) (v21 : Value) (v22 : Value) (v23 : Value) (v24 : Value) (v25 : Value) (v26 : Value) (v27 : Value) (v28 : Value) (v29 : Value) (v30 : Value) (v31 : Value) (v32 : Value) (v33 : Value) (v34 : Value) (v35 : Value) (v36 : Value) (v37 : Value) (v38 : Value) (v39 : Value) (f40 : Nat → Option Nat) (f42 : Nat → Int32) (f44 : Nat → Int32) (f49 : Nat → Option Nat) (h7 : ¬ x6 < 0) (h8 : ¬ 7 < x6) (h9 : x6 ≤ 7) (h10 : vp_in x6 8) (h41 : f40 x6.toNatClampNeg = some a3) (h43 : f42 x6.toNatClampNeg = 4) (h45 : f44 0 = 110) (h46 : f44 1 = 117) (h47 : f44 2 = 108) (h48 : f44 3 = 108) (h50 : f49 0 = none) : xMet l yM_finish wyM_finish 10 2 12 189 D cT aK aV sz [.ref a0, .int x5, .int 1, .int 12, .int x6, .int x11] [(a0, .inr (5, [v12, .ref a4, .int 0, v13, .int x14, v15, v16, v17, v18, v19, v20, v21, v22, v23, v24, v25, v26, v27, v28, v29, v30, v31, v32, v33, .ref a1, .ref a2, v34, v35, v36, v37, v38, v39])), (a1, .inl (cT 5, 8, .inr (.inr (.inr (.inr f40))))), (a2, .inl (cT 1, 8, .inl f42)), (a3, .inl (cT 0, 4096, .inl f44)), (a4, .inl (cT 4, 1024, .inr (.inr (.inr (.inr f49)))))] (fun A => va_Qv (fun _ : Unit => True) (fun _ t => ∃ (r1 : Nat), xB D xcl cT A [(a0, .inr (5, [.int 2, .ref a4, .int 1, v13, .int x14, v15, v16, v17, .int 1, v19, v20, v21, v22, v23, v24, .ref a3, .int 4, .int 4, .int 0, .int 100, v30, v31, v32, v33, .ref a1, .ref a2, v34, v35, v36, v37, .int 1, v39])), (a1, .inl (cT 5, 8, .inr (.inr (.inr (.inr f40))))), (a2, .inl (cT 1, 8, .inl f42)), (a3, .inl (cT 0, 4096, .inl f44)), (a4, .inl (cT 4, 1024, .inr (.inr (.inr (.inr (va_up f49 0 (some r1))))))), (r1, .inr (6, [.int 0, .long 0, .int 0, .int 0, .int 0, .int 1]))] t) A) := by
  refine va_MetW (cc := prog_13_method_90_code) (maxL := 10) (ret := none) (hh := [(0, 128, 131, 83), (0, 128, 149, 86)]) (by decide) rfl ?_
  intro p e s m args below meth c s₁ B hml hv
  obtain ⟨rfl, hsz, hZ, hP, hK, hD0⟩ := hv
  have hx := B.exec
  have hb := B.bytes
  have hr := B.returns
  have hts := atoms_spec (ws := wyM_finish) B.pre
  have htx := fun w h => hts w (List.mem_cons_of_mem _ h)
  have hown : s.vm.findClass "ValueBenchModel" = some m.cls := findClass_of_methodNamed B.named
  have hlocks := B.notSynchronized
  subst hsz
  have hD := hD0.self (sz := s.heap.size)
  generalize hAe : va_A [(a0, .inr (5, [v12, .ref a4, .int 0, v13, .int x14, v15, v16, v17, v18, v19, v20, v21, v22, v23, v24, v25, v26, v27, v28, v29, v30, v31, v32, v33, .ref a1, .ref a2, v34, v35, v36, v37, v38, v39])), (a1, .inl (cT 5, 8, .inr (.inr (.inr (.inr f40))))), (a2, .inl (cT 1, 8, .inl f42)), (a3, .inl (cT 0, 4096, .inl f44)), (a4, .inl (cT 4, 1024, .inr (.inr (.inr (.inr f49)))))] s.heap.size = A at hD hZ ⊢
  have hA : ∀ q : Nat, s.heap.size ≤ q → A q := fun q h => by rw [← hAe]; exact Or.inr h
  have hS : va_S A s.heap s.heap [] := va_S.rf
  have hP : va_P D xcl [(a0, .inr (5, [v12, .ref a4, .int 0, v13, .int x14, v15, v16, v17, v18, v19, v20, v21, v22, v23, v24, v25, v26, v27, v28, v29, v30, v31, v32, v33, .ref a1, .ref a2, v34, v35, v36, v37, v38, v39])), (a1, .inl (cT 5, 8, .inr (.inr (.inr (.inr f40))))), (a2, .inl (cT 1, 8, .inl f42)), (a3, .inl (cT 0, 4096, .inl f44)), (a4, .inl (cT 4, 1024, .inr (.inr (.inr (.inr f49)))))] s.heap := hP
  have hl := lv_entry ([.ref a0, .int x5, .int 1, .int 12, .int x6, .int x11]) (n := 10) (Nat.le_of_ble_eq_true rfl)
  rw [lg_entry_eq]
  generalize (lg_sl ([.ref a0, .int x5, .int 1, .int 12, .int x6, .int x11]) ++ List.replicate (10 - (lg_sl ([.ref a0, .int x5, .int 1, .int 12, .int x6, .int x11])).length) Slot.unset).toArray = ls at hl ⊢
  have hl : lv_has ls 10 [(0, .ref a0), (1, .int x5), (2, .int 1), (3, .int 12), (4, .int x6), (5, .int x11)] := hl
  have htab := vx_table (x := yM_finish) B (hts _ List.mem_cons_self)
  refine lv_aload_n hx hb dM_finish_0 rfl (lv_at hl 0 rfl) ?_
  refine lv_iload hx hb dM_finish_1 (lv_at hl 4 rfl) ?_
  obtain ⟨hPc, hDc, hFc⟩ := xcut (wc := [(a0, .inr (5, [v12, .ref a4, .int 0, v13, .int x14, v15, v16, v17, v18, v19, v20, v21, v22, v23, v24, v25, v26, v27, v28, v29, v30, v31, v32, v33, .ref a1, .ref a2, v34, v35, v36, v37, v38, v39])), (a1, .inl (cT 5, 8, .inr (.inr (.inr (.inr f40))))), (a2, .inl (cT 1, 8, .inl f42)), (a3, .inl (cT 0, 4096, .inl f44)), (a4, .inl (cT 4, 1024, .inr (.inr (.inr (.inr f49)))))]) hP hD hS hA [0, 1, 2, 3, 4] rfl rfl (by decide)
  refine va_callr (va_runV (C := "ValueBenchModel") (As := [.int x6]) (rest := []) ⟨hx, hb, hml, hown, htx⟩ (cM_register_3 l hl9 D cT aK aV s.heap.size a0 a1 a2 a3 a4 x6 v12 v13 (.int x14) v15 v16 v17 v18 v19 v20 v21 v22 v23 v24 v25 v26 v27 v28 v29 v30 v31 v32 v33 v34 v35 v36 v37 v38 v39 f40 f42 f44 f49 h7 h8 h9 h10 (by first | rfl | exact h41 | exact h43 | exact h45 | exact h46 | exact h47 | exact h48 | exact h50) (by first | rfl | exact h41 | exact h43 | exact h45 | exact h46 | exact h47 | exact h48 | exact h50) (by first | rfl | exact h41 | exact h43 | exact h45 | exact h46 | exact h47 | exact h48 | exact h50) (by first | rfl | exact h41 | exact h43 | exact h45 | exact h46 | exact h47 | exact h48 | exact h50) (by first | rfl | exact h41 | exact h43 | exact h45 | exact h46 | exact h47 | exact h48 | exact h50) (by first | rfl | exact h41 | exact h43 | exact h45 | exact h46 | exact h47 | exact h48 | exact h50) (by first | rfl | exact h41 | exact h43 | exact h45 | exact h46 | exact h47 | exact h48 | exact h50)) ⟨callB_of 1 htx (xw_goodC kw_6_170) rfl rfl rfl (htx _ kw_1_5) (htx _ kw_6_167) ⟨by decide, by decide, by decide +kernel⟩ ⟨Nat.le_of_ble_eq_true rfl, Nat.le_of_ble_eq_true rfl⟩, (htx _ kw_6_169), (htx _ kp_M_register)⟩ ⟨xPre_blind, va_recv hK hP (ci := 5) rfl (q0 := 0) rfl, (fun U hU hW => ⟨rfl, xPre_of hZ hS hFc hPc hDc hK U hU hW⟩)⟩ rfl rfl hl.1 rfl (lv_room (Nat.le_of_ble_eq_true rfl)) dM_finish_3 ⟨Nat.le_of_ble_eq_true rfl, Nat.le_of_ble_eq_true rfl⟩) hS (fun q _ h => hFc q h) hFc (fun u9 r1 t H1 locs ht hvm hr9 hB hz1 hk1 hS => ?_)
  obtain ⟨hP1, hK1, hD1⟩ := hB
  rw [ht] at hP1
  obtain ⟨hP, hD⟩ := xjoin (W := [(a0, .inr (5, [v12, .ref a4, .int 1, v13, .int x14, v15, v16, v17, v18, v19, v20, v21, v22, v23, v24, .ref a3, .int 4, .int 4, .int 0, .int 100, v30, v31, v32, v33, .ref a1, .ref a2, v34, v35, v36, v37, v38, v39])), (a1, .inl (cT 5, 8, .inr (.inr (.inr (.inr f40))))), (a2, .inl (cT 1, 8, .inl f42)), (a3, .inl (cT 0, 4096, .inl f44)), (a4, .inl (cT 4, 1024, .inr (.inr (.inr (.inr (va_up f49 0 (some r1))))))), (r1, .inr (6, [.int 0, .long 0, .int 0, .int 0, .int 0, .int 1]))]) hP hD [0, 1, 2, 3, 4] [] 0 rfl rfl (by decide) (by decide) hk1 hFc hP1 hD1
  generalize H1 = H at hP hS ⊢
  refine W.eq (g2 := F0 m 6 ls [.ref r1]) rfl ?_
  refine lv_astore (lv' := [(6, .ref r1), (0, .ref a0), (1, .int x5), (2, .int 1), (3, .int 12), (4, .int x6), (5, .int x11)]) hx hb dM_finish_6 hl (by decide) rfl (fun ls hl => ?_)
  refine lv_iload_n hx hb dM_finish_8 rfl (lv_at hl 3 rfl) ?_
  refine lv_iconst (v := 1) hx hb dM_finish_9 (by decide) ?_
  refine lv_icmp_ne (tgt := 17) hx hb dM_finish_10 (by decide) (fun h => ((by revert h; decide : False)).elim) (fun _ => ?_)
  refine lv_null hx hb dM_finish_13 ?_
  refine lv_goto (tgt := 23) hx hb dM_finish_14 (by decide) ?_
  refine lv_astoreN (lv' := [(7, .null), (6, .ref r1), (0, .ref a0), (1, .int x5), (2, .int 1), (3, .int 12), (4, .int x6), (5, .int x11)]) hx hb dM_finish_23 hl (by decide) rfl (fun ls hl => ?_)
  refine lv_iload_n hx hb dM_finish_25 rfl (lv_at hl 4 rfl) ?_
  refine lv_if_ne (tgt := 43) hx hb dM_finish_26 (by decide) (fun _ => ?_) (fun h => ((by revert h; decide : False)).elim)
  refine lv_iload_n hx hb dM_finish_43 rfl (lv_at hl 4 rfl) ?_
  refine lv_iconst (v := 1) hx hb dM_finish_44 (by decide) ?_
  refine lv_icmp_ne (tgt := 60) hx hb dM_finish_45 (by decide) (fun h => ((by revert h; decide : False)).elim) (fun _ => ?_)
  refine lv_aload_n hx hb dM_finish_48 rfl (lv_at hl 2 rfl) ?_
  refine lv_iload_n hx hb dM_finish_49 rfl (lv_at hl 5 rfl) ?_
  refine lv_aload hx hb dM_finish_50 (lv_at hl 1 rfl) ?_
  obtain ⟨hPc, hDc, hFc⟩ := xcut (wc := [(a0, .inr (5, [v12, .ref a4, .int 1, v13, .int x14, v15, v16, v17, v18, v19, v20, v21, v22, v23, v24, .ref a3, .int 4, .int 4, .int 0, .int 100, v30, v31, v32, v33, .ref a1, .ref a2, v34, v35, v36, v37, v38, v39])), (r1, .inr (6, [.int 0, .long 0, .int 0, .int 0, .int 0, .int 1]))]) hP hD hS hA [0, 5] rfl rfl (by decide)
  refine xx_thr (vx_runV (C := "ValueBenchModel") (As := [.int 12, .ref r1]) (rest := []) ⟨hx, hb, hml, hown, htx⟩ (cM_one1_12 l hl9 D cT aK aV H.size a0 r1 v12 (.ref a4) (.int 1) v13 x14 v15 v16 v17 v18 v19 v20 v21 v22 v23 v24 (.ref a3) (.int 4) (.int 4) (.int 0) (.int 100) v30 v31 v32 v33 (.ref a1) (.ref a2) v34 v35 v36 v37 v38 v39 (.long 0) (.int 0) (.int 0) (.int 0) (.int 1)) ⟨callB_of 2 htx (xw_goodC kw_6_237) rfl rfl rfl (htx _ kw_1_5) (htx _ kw_6_234) ⟨by decide, by decide, by decide +kernel⟩ ⟨Nat.le_of_ble_eq_true rfl, Nat.le_of_ble_eq_true rfl⟩, (htx _ kw_6_236), (htx _ kp_M_one1)⟩ ⟨xPre_blind, va_recv hK hP (ci := 5) rfl (q0 := 0) rfl, (fun U hU hW => ⟨rfl, xPre_of hZ hS hFc hPc hDc hK U hU hW⟩)⟩ rfl rfl hl.1 rfl (lv_room (Nat.le_of_ble_eq_true rfl)) dM_finish_52 ⟨Nat.le_of_ble_eq_true rfl, Nat.le_of_ble_eq_true rfl⟩) hS hFc (fun q _ h => hFc q h) (fun E ce q9 u9 t H1 locs ht hvm _ hB hz1 hk1 hS hce hcv hcl => ?_)
  obtain ⟨rfl, hP1, hK1, hD1⟩ := hB
  rw [ht] at hP1
  obtain ⟨hP, hD⟩ := xjoin (W := [(a1, .inl (cT 5, 8, .inr (.inr (.inr (.inr f40))))), (a2, .inl (cT 1, 8, .inl f42)), (a3, .inl (cT 0, 4096, .inl f44)), (a4, .inl (cT 4, 1024, .inr (.inr (.inr (.inr (va_up f49 0 (some r1))))))), (a0, .inr (5, [v12, .ref a4, .int 1, v13, .int x14, v15, v16, v17, .int 1, v19, v20, v21, v22, v23, v24, .ref a3, .int 4, .int 4, .int 0, .int 100, v30, v31, v32, v33, .ref a1, .ref a2, v34, v35, v36, v37, v38, v39])), (r1, .inr (6, [.int 0, .long 0, .int 0, .int 0, .int 0, .int 1]))]) hP hD [0, 5] [1, 2, 3, 4] 4 rfl rfl (by decide) (by decide) hk1 hFc hP1 hD1
  generalize H1 = H at hP hS hce ⊢
  refine vx_catch (own := "ValueBenchModel") (name := "java/lang/ArithmeticException") (E := "java/lang/ArithmeticException") hown [] ⟨0, 128, 131, 83⟩ [⟨0, 128, 149, 86⟩] (by rw [htab]; rfl) (fun z hz => nomatch hz) (by decide) (by decide) (htx _ kw_6_94) ((hZ.2.2.2.2.2.1 "java/lang/ArithmeticException" (List.mem_of_getElem? (i := 3) rfl)).use rfl) hce hcv hcl ?_
  refine lv_astore (lv' := [(6, .ref q9), (7, .null), (0, .ref a0), (1, .int x5), (2, .int 1), (3, .int 12), (4, .int x6), (5, .int x11)]) hx hb dM_finish_131 hl (by decide) rfl (fun ls hl => ?_)
  refine lv_aload_n hx hb dM_finish_133 rfl (lv_at hl 2 rfl) ?_
  refine lv_aload_n hx hb dM_finish_134 rfl (lv_at hl 2 rfl) ?_
  refine va_get (D := D) (ci := 5) (v := .int 1) (C := "ValueBenchModel") (T := TM) (N := 32) hx hb htx inM hown hK hP 4 rfl rfl 8 (by decide) (htx _ kw_5_95) (fun _ h9 => h9) rfl dM_finish_135 ?_
  refine va_put (D := D) (ci := 5) (v := .int 1) (ty := .int) (C := "ValueBenchModel") (T := TM) (N := 32) hx hb htx inM tyM tyM_ok nmM hown hK hP hD hS 4 rfl rfl 30 (by decide) (htx _ kw_5_117) (fun _ h9 => h9) rfl (by decide +kernel) rfl rfl (Nat.le_of_ble_eq_true rfl) dM_finish_138 (fun H locs hP hD hS => ?_)
  obtain ⟨hP, hD⟩ : xPD D xcl A [(a1, .inl (cT 5, 8, .inr (.inr (.inr (.inr f40))))), (a2, .inl (cT 1, 8, .inl f42)), (a3, .inl (cT 0, 4096, .inl f44)), (a4, .inl (cT 4, 1024, .inr (.inr (.inr (.inr (va_up f49 0 (some r1))))))), (a0, .inr (5, [v12, .ref a4, .int 1, v13, .int x14, v15, v16, v17, .int 1, v19, v20, v21, v22, v23, v24, .ref a3, .int 4, .int 4, .int 0, .int 100, v30, v31, v32, v33, .ref a1, .ref a2, v34, v35, v36, v37, .int 1, v39])), (r1, .inr (6, [.int 0, .long 0, .int 0, .int 0, .int 0, .int 1]))] H := ⟨hP, hD⟩
  refine lv_aload_n hx hb dM_finish_141 rfl (lv_at hl 2 rfl) ?_
  refine lv_iconst (v := 2) hx hb dM_finish_142 (by decide) ?_
  refine va_put (D := D) (ci := 5) (v := .int 2) (ty := .int) (C := "ValueBenchModel") (T := TM) (N := 32) hx hb htx inM tyM tyM_ok nmM hown hK hP hD hS 4 rfl rfl 0 (by decide) (htx _ kw_5_87) (fun _ h9 => h9) rfl (by decide +kernel) rfl rfl (Nat.le_of_ble_eq_true rfl) dM_finish_143 (fun H locs hP hD hS => ?_)
  obtain ⟨hP, hD⟩ : xPD D xcl A [(a1, .inl (cT 5, 8, .inr (.inr (.inr (.inr f40))))), (a2, .inl (cT 1, 8, .inl f42)), (a3, .inl (cT 0, 4096, .inl f44)), (a4, .inl (cT 4, 1024, .inr (.inr (.inr (.inr (va_up f49 0 (some r1))))))), (a0, .inr (5, [.int 2, .ref a4, .int 1, v13, .int x14, v15, v16, v17, .int 1, v19, v20, v21, v22, v23, v24, .ref a3, .int 4, .int 4, .int 0, .int 100, v30, v31, v32, v33, .ref a1, .ref a2, v34, v35, v36, v37, .int 1, v39])), (r1, .inr (6, [.int 0, .long 0, .int 0, .int 0, .int 0, .int 1]))] H := ⟨hP, hD⟩
  refine lv_goto (tgt := 156) hx hb dM_finish_146 (by decide) ?_
  obtain ⟨hP9, hD9⟩ := xsub (wc := [(a0, .inr (5, [.int 2, .ref a4, .int 1, v13, .int x14, v15, v16, v17, .int 1, v19, v20, v21, v22, v23, v24, .ref a3, .int 4, .int 4, .int 0, .int 100, v30, v31, v32, v33, .ref a1, .ref a2, v34, v35, v36, v37, .int 1, v39])), (a1, .inl (cT 5, 8, .inr (.inr (.inr (.inr f40))))), (a2, .inl (cT 1, 8, .inl f42)), (a3, .inl (cT 0, 4096, .inl f44)), (a4, .inl (cT 4, 1024, .inr (.inr (.inr (.inr (va_up f49 0 (some r1))))))), (r1, .inr (6, [.int 0, .long 0, .int 0, .int 0, .int 0, .int 1]))]) hP hD [4, 0, 1, 2, 3, 5] rfl rfl (by decide)
  refine W.widen (k := 2) (n := 12) (Nat.le_of_ble_eq_true rfl) (Nat.le_of_ble_eq_true rfl) ?_
  exact W.vret hx hb hr (fun t ht hW => ⟨⟨(), rfl, trivial, r1, by rw [ht]; exact hP9, va_K.moved hW.alike hK, hD9⟩, hS.F ht⟩) hS.2.2 dM_finish_156
set_option maxHeartbeats 400000000 in
set_option maxRecDepth 100000 in
theorem cM_one0_23 (l : Launch) (hl9 : l.stackTraces = false) (D : va_G) (cT : Nat → ClassId) (aK aV : Nat → Nat) (sz : Nat) (a0 : Nat) (a1 : Nat) (a2 : Nat) (a3 : Nat) (a4 : Nat) (x5 : Int32) (x10 : Int32) (v15 : Value) (v16 : Value) (v17 : Value) (v18 : Value) (v19 : Value) (v20 : Value) (v21 : Value) (v22 : Value) (v23 : Value) (v24 : Value) (v25 : Value) (v26 : Value) (v27 : Value) (v28 : Value) (v29 : Value) (v30 : Value) (v31 : Value) (v32 : Value) (v33 : Value) (v34 : Value) (v35 : Value) (v36 : Value) (v37 : Value) (v38 : Value) (v39 : Value) (v40 : Value) (v41 : Value) (v42 : Value) (v43 : Value) (f44 : Nat → Option Nat) (f46 : Nat → Int32) (f48 : Nat → Int32) (f53 : Nat → Option Nat) (h6 : ¬ x5 < 0) (h7 : ¬ 7 < x5) (h8 : x5 ≤ 7) (h9 : vp_in x5 8) (h11 : ¬ x10 < 0) (h12 : ¬ 7 < x10) (h13 : x10 ≤ 7) (h14 : vp_in x10 8) (h45 : f44 x10.toNatClampNeg = some a3) (h47 : f46 x10.toNatClampNeg = 4) (h49 : f48 0 = 110) (h50 : f48 1 = 117) (h51 : f48 2 = 108) (h52 : f48 3 = 108) (h54 : f53 0 = none) : xMet l yM_one0 wyM_one0 11 2 12 218 D cT aK aV sz [.ref a0, .int x5, .int 12, .int x10] [(a0, .inr (5, [v15, .ref a4, v16, v17, v18, v19, v20, v21, v22, v23, v24, v25, v26, v27, v28, v29, v30, v31, v32, v33, v34, v35, v36, v37, .ref a1, .ref a2, v38, v39, v40, v41, v42, v43])), (a1, .inl (cT 5, 8, .inr (.inr (.inr (.inr f44))))), (a2, .inl (cT 1, 8, .inl f46)), (a3, .inl (cT 0, 4096, .inl f48)), (a4, .inl (cT 4, 1024, .inr (.inr (.inr (.inr f53)))))] (fun A => va_Qv (fun _ : Unit => True) (fun _ t => ∃ (q3 : Nat), xB D xcl cT A [(a0, .inr (5, [.int 2, .ref a4, .int 1, v17, .int 0, v19, v20, .int 0, .int 1, .int 0, v24, v25, .int 0, v27, v28, .ref a3, .int 4, .int 4, .int 0, .int 100, v34, v35, .int 0, .int 1000000000, .ref a1, .ref a2, v38, v39, v40, v41, .int 1, v43])), (a1, .inl (cT 5, 8, .inr (.inr (.inr (.inr f44))))), (a2, .inl (cT 1, 8, .inl f46)), (a3, .inl (cT 0, 4096, .inl f48)), (a4, .inl (cT 4, 1024, .inr (.inr (.inr (.inr (va_up f53 0 (some q3))))))), (q3, .inr (6, [.int 0, .long 0, .int 0, .int 0, .int 0, .int 1]))] t) A) := by
  refine Met.ofW (cc := prog_13_method_92_code) (maxL := 4) (ret := none) (by decide) rfl ?_
  intro p e s m args below meth c s₁ B hml hv
  obtain ⟨rfl, hsz, hZ, hP, hK, hD0⟩ := hv
  have hx := B.exec
  have hb := B.bytes
  have hr := B.returns
  have hts := atoms_spec (ws := wyM_one0) B.pre
  have htx := fun w h => hts w (List.mem_cons_of_mem _ h)
  have hown : s.vm.findClass "ValueBenchModel" = some m.cls := findClass_of_methodNamed B.named
  have hlocks := B.notSynchronized
  subst hsz
  have hD := hD0.self (sz := s.heap.size)
  generalize hAe : va_A [(a0, .inr (5, [v15, .ref a4, v16, v17, v18, v19, v20, v21, v22, v23, v24, v25, v26, v27, v28, v29, v30, v31, v32, v33, v34, v35, v36, v37, .ref a1, .ref a2, v38, v39, v40, v41, v42, v43])), (a1, .inl (cT 5, 8, .inr (.inr (.inr (.inr f44))))), (a2, .inl (cT 1, 8, .inl f46)), (a3, .inl (cT 0, 4096, .inl f48)), (a4, .inl (cT 4, 1024, .inr (.inr (.inr (.inr f53)))))] s.heap.size = A at hD hZ ⊢
  have hA : ∀ q : Nat, s.heap.size ≤ q → A q := fun q h => by rw [← hAe]; exact Or.inr h
  have hS : va_S A s.heap s.heap [] := va_S.rf
  have hP : va_P D xcl [(a0, .inr (5, [v15, .ref a4, v16, v17, v18, v19, v20, v21, v22, v23, v24, v25, v26, v27, v28, v29, v30, v31, v32, v33, v34, v35, v36, v37, .ref a1, .ref a2, v38, v39, v40, v41, v42, v43])), (a1, .inl (cT 5, 8, .inr (.inr (.inr (.inr f44))))), (a2, .inl (cT 1, 8, .inl f46)), (a3, .inl (cT 0, 4096, .inl f48)), (a4, .inl (cT 4, 1024, .inr (.inr (.inr (.inr f53)))))] s.heap := hP
  have hl := lv_entry ([.ref a0, .int x5, .int 12, .int x10]) (n := 4) (Nat.le_of_ble_eq_true rfl)
  rw [lg_entry_eq]
  generalize (lg_sl ([.ref a0, .int x5, .int 12, .int x10]) ++ List.replicate (4 - (lg_sl ([.ref a0, .int x5, .int 12, .int x10])).length) Slot.unset).toArray = ls at hl ⊢
  have hl : lv_has ls 4 [(0, .ref a0), (1, .int x5), (2, .int 12), (3, .int x10)] := hl
  refine lv_aload_n hx hb dM_one0_0 rfl (lv_at hl 0 rfl) ?_
  obtain ⟨hPc, hDc, hFc⟩ := xcut (wc := [(a0, .inr (5, [v15, .ref a4, v16, v17, v18, v19, v20, v21, v22, v23, v24, v25, v26, v27, v28, v29, v30, v31, v32, v33, v34, v35, v36, v37, .ref a1, .ref a2, v38, v39, v40, v41, v42, v43]))]) hP hD hS hA [0] rfl rfl (by decide)
  refine va_callv (va_runV (C := "ValueBenchModel") (As := []) (rest := []) ⟨hx, hb, hml, hown, htx⟩ (cM_begin_0 l hl9 D cT aK aV s.heap.size a0 v15 (.ref a4) v16 v17 v18 v19 v20 v21 v22 v23 v24 v25 v26 v27 v28 v29 v30 v31 v32 v33 v34 v35 v36 v37 (.ref a1) (.ref a2) v38 v39 v40 v41 v42 v43) ⟨callB_of 0 htx (xw_goodC kw_5_209) rfl rfl rfl (htx _ kw_1_5) (htx _ kw_5_206) ⟨by decide, by decide, by decide +kernel⟩ ⟨Nat.le_of_ble_eq_true rfl, Nat.le_of_ble_eq_true rfl⟩, (htx _ kw_5_208), (htx _ kp_M_begin)⟩ ⟨xPre_blind, va_recv hK hP (ci := 5) rfl (q0 := 0) rfl, (fun U hU hW => ⟨rfl, xPre_of hZ hS hFc hPc hDc hK U hU hW⟩)⟩ rfl rfl hl.1 rfl (lv_room (Nat.le_of_ble_eq_true rfl)) dM_one0_1 ⟨Nat.le_of_ble_eq_true rfl, Nat.le_of_ble_eq_true rfl⟩) hS (fun q _ h => hFc q h) hFc (fun u9 t H1 locs ht hvm hr9 hB hz1 hk1 hS => ?_)
  obtain ⟨hP1, hK1, hD1⟩ := hB
  rw [ht] at hP1
  obtain ⟨hP, hD⟩ := xjoin (W := [(a1, .inl (cT 5, 8, .inr (.inr (.inr (.inr f44))))), (a2, .inl (cT 1, 8, .inl f46)), (a3, .inl (cT 0, 4096, .inl f48)), (a4, .inl (cT 4, 1024, .inr (.inr (.inr (.inr f53))))), (a0, .inr (5, [.int 0, .ref a4, .int 0, v17, .int 0, v19, v20, .int 0, v22, .int 0, v24, v25, .int 0, v27, v28, v29, v30, v31, v32, v33, v34, v35, .int 0, .int 1000000000, .ref a1, .ref a2, v38, v39, v40, v41, v42, v43]))]) hP hD [0] [1, 2, 3, 4] 4 rfl rfl (by decide) (by decide) hk1 hFc hP1 hD1
  generalize H1 = H at hP hS ⊢
  refine lv_aload_n hx hb dM_one0_4 rfl (lv_at hl 0 rfl) ?_
  refine lv_iload_n hx hb dM_one0_5 rfl (lv_at hl 1 rfl) ?_
  obtain ⟨hPc, hDc, hFc⟩ := xcut (wc := []) hP hD hS hA [] rfl rfl (by decide)
  refine va_calli (va_runV (C := "ValueBenchModel") (As := [.int x5]) (rest := []) ⟨hx, hb, hml, hown, htx⟩ (cM_out_2 l hl9 D cT aK aV H.size a0 x5 h6 h7 h8 h9) ⟨callB_of 1 htx (xw_goodC kw_5_217) rfl rfl rfl (htx _ kw_1_5) (htx _ kw_5_214) ⟨by decide, by decide, by decide +kernel⟩ ⟨Nat.le_of_ble_eq_true rfl, Nat.le_of_ble_eq_true rfl⟩, (htx _ kw_5_216), (htx _ kp_M_out)⟩ ⟨xPre_blind, va_recv hK hP (ci := 5) rfl (q0 := 4) rfl, (fun U hU hW => ⟨rfl, xPre_of hZ hS hFc hPc hDc hK U hU hW⟩)⟩ rfl rfl hl.1 rfl (lv_room (Nat.le_of_ble_eq_true rfl)) dM_one0_6 ⟨Nat.le_of_ble_eq_true rfl, Nat.le_of_ble_eq_true rfl⟩) hS (fun q _ h => hFc q h) hFc (fun r1 u9 t H1 locs ht hvm hr9 hB hz1 hk1 hS => ?_)
  obtain ⟨hP1, hK1, hD1⟩ := hB
  rw [ht] at hP1
  obtain ⟨hP, hD⟩ := xjoin (W := [(a1, .inl (cT 5, 8, .inr (.inr (.inr (.inr f44))))), (a2, .inl (cT 1, 8, .inl f46)), (a3, .inl (cT 0, 4096, .inl f48)), (a4, .inl (cT 4, 1024, .inr (.inr (.inr (.inr f53))))), (a0, .inr (5, [.int 0, .ref a4, .int 0, v17, .int 0, v19, v20, .int 0, v22, .int 0, v24, v25, .int 0, v27, v28, v29, v30, v31, v32, v33, v34, v35, .int 0, .int 1000000000, .ref a1, .ref a2, v38, v39, v40, v41, v42, v43]))]) hP hD [] [0, 1, 2, 3, 4] 5 rfl rfl (by decide) (by decide) hk1 hFc hP1 hD1
  generalize H1 = H at hP hS ⊢
  rw [hr9]
  refine W.eq (g2 := F0 m 9 ls [.int 0]) rfl ?_
  refine lv_if_ne (tgt := 30) hx hb dM_one0_9 (by decide) (fun h => ((by revert h; decide : False)).elim) (fun _ => ?_)
  refine lv_iload_n hx hb dM_one0_12 rfl (lv_at hl 2 rfl) ?_
  refine lv_if_lt (tgt := 30) hx hb dM_one0_13 (by decide) (fun h => ((by revert h; decide : False)).elim) (fun _ => ?_)
  refine lv_iload_n hx hb dM_one0_16 rfl (lv_at hl 2 rfl) ?_
  refine lv_bipush (v := 13) hx hb dM_one0_17 (by decide) ?_
  refine lv_icmp_gt (tgt := 30) hx hb dM_one0_19 (by decide) (fun h => ((by revert h; decide : False)).elim) (fun _ => ?_)
  refine lv_aload_n hx hb dM_one0_22 rfl (lv_at hl 0 rfl) ?_
  refine lv_iload_n hx hb dM_one0_23 rfl (lv_at hl 3 rfl) ?_
  obtain ⟨hPc, hDc, hFc⟩ := xcut (wc := []) hP hD hS hA [] rfl rfl (by decide)
  refine va_calli (va_runV (C := "ValueBenchModel") (As := [.int x10]) (rest := []) ⟨hx, hb, hml, hown, htx⟩ (cM_out_2 l hl9 D cT aK aV H.size a0 x10 h11 h12 h13 h14) ⟨callB_of 1 htx (xw_goodC kw_5_217) rfl rfl rfl (htx _ kw_1_5) (htx _ kw_5_214) ⟨by decide, by decide, by decide +kernel⟩ ⟨Nat.le_of_ble_eq_true rfl, Nat.le_of_ble_eq_true rfl⟩, (htx _ kw_5_216), (htx _ kp_M_out)⟩ ⟨xPre_blind, va_recv hK hP (ci := 5) rfl (q0 := 4) rfl, (fun U hU hW => ⟨rfl, xPre_of hZ hS hFc hPc hDc hK U hU hW⟩)⟩ rfl rfl hl.1 rfl (lv_room (Nat.le_of_ble_eq_true rfl)) dM_one0_24 ⟨Nat.le_of_ble_eq_true rfl, Nat.le_of_ble_eq_true rfl⟩) hS (fun q _ h => hFc q h) hFc (fun r2 u9 t H1 locs ht hvm hr9 hB hz1 hk1 hS => ?_)
  obtain ⟨hP1, hK1, hD1⟩ := hB
  rw [ht] at hP1
  obtain ⟨hP, hD⟩ := xjoin (W := [(a1, .inl (cT 5, 8, .inr (.inr (.inr (.inr f44))))), (a2, .inl (cT 1, 8, .inl f46)), (a3, .inl (cT 0, 4096, .inl f48)), (a4, .inl (cT 4, 1024, .inr (.inr (.inr (.inr f53))))), (a0, .inr (5, [.int 0, .ref a4, .int 0, v17, .int 0, v19, v20, .int 0, v22, .int 0, v24, v25, .int 0, v27, v28, v29, v30, v31, v32, v33, v34, v35, .int 0, .int 1000000000, .ref a1, .ref a2, v38, v39, v40, v41, v42, v43]))]) hP hD [] [0, 1, 2, 3, 4] 5 rfl rfl (by decide) (by decide) hk1 hFc hP1 hD1
  generalize H1 = H at hP hS ⊢
  rw [hr9]
  refine W.eq (g2 := F0 m 27 ls [.int 0]) rfl ?_
  refine lv_if_eq (tgt := 38) hx hb dM_one0_27 (by decide) (fun _ => ?_) (fun h => ((by revert h; decide : False)).elim)
  refine lv_aload_n hx hb dM_one0_38 rfl (lv_at hl 0 rfl) ?_
  refine lv_iload_n hx hb dM_one0_39 rfl (lv_at hl 1 rfl) ?_
  refine lv_iconst (v := 1) hx hb dM_one0_40 (by decide) ?_
  refine lv_iload_n hx hb dM_one0_41 rfl (lv_at hl 2 rfl) ?_
  refine lv_iload_n hx hb dM_one0_42 rfl (lv_at hl 3 rfl) ?_
  refine lv_iload_n hx hb dM_one0_43 rfl (lv_at hl 3 rfl) ?_
  obtain ⟨hPc, hDc, hFc⟩ := xcut (wc := [(a0, .inr (5, [.int 0, .ref a4, .int 0, v17, .int 0, v19, v20, .int 0, v22, .int 0, v24, v25, .int 0, v27, v28, v29, v30, v31, v32, v33, v34, v35, .int 0, .int 1000000000, .ref a1, .ref a2, v38, v39, v40, v41, v42, v43])), (a1, .inl (cT 5, 8, .inr (.inr (.inr (.inr f44))))), (a2, .inl (cT 1, 8, .inl f46)), (a3, .inl (cT 0, 4096, .inl f48)), (a4, .inl (cT 4, 1024, .inr (.inr (.inr (.inr f53)))))]) hP hD hS hA [4, 0, 1, 2, 3] rfl rfl (by decide)
  refine va_callv (vx_runVW (C := "ValueBenchModel") (As := [.int x5, .int 1, .int 12, .int x10, .int x10]) (rest := []) ⟨hx, hb, hml, hown, htx⟩ (cM_finish_30 l hl9 D cT aK aV H.size a0 a1 a2 a3 a4 x5 x10 x10 (.int 0) v17 0 v19 v20 (.int 0) v22 (.int 0) v24 v25 (.int 0) v27 v28 v29 v30 v31 v32 v33 v34 v35 (.int 0) (.int 1000000000) v38 v39 v40 v41 v42 v43 f44 f46 f48 f53 h11 h12 h13 h14 (by first | rfl | exact h45 | exact h47 | exact h49 | exact h50 | exact h51 | exact h52 | exact h54) (by first | rfl | exact h45 | exact h47 | exact h49 | exact h50 | exact h51 | exact h52 | exact h54) (by first | rfl | exact h45 | exact h47 | exact h49 | exact h50 | exact h51 | exact h52 | exact h54) (by first | rfl | exact h45 | exact h47 | exact h49 | exact h50 | exact h51 | exact h52 | exact h54) (by first | rfl | exact h45 | exact h47 | exact h49 | exact h50 | exact h51 | exact h52 | exact h54) (by first | rfl | exact h45 | exact h47 | exact h49 | exact h50 | exact h51 | exact h52 | exact h54) (by first | rfl | exact h45 | exact h47 | exact h49 | exact h50 | exact h51 | exact h52 | exact h54)) (xcVW 5 htx (xw_goodC kw_6_195) rfl rfl rfl (htx _ kw_1_5) (htx _ kw_6_192) ⟨by decide, by decide, by decide +kernel⟩ ⟨Nat.le_of_ble_eq_true rfl, Nat.le_of_ble_eq_true rfl⟩ (htx _ kw_6_194) (htx _ kp_M_finish)) ⟨xPre_blind, va_recv hK hP (ci := 5) rfl (q0 := 4) rfl, (fun U hU hW => ⟨rfl, xPre_of hZ hS hFc hPc hDc hK U hU hW⟩)⟩ rfl rfl hl.1 rfl (lv_room (Nat.le_of_ble_eq_true rfl)) dM_one0_44 ⟨Nat.le_of_ble_eq_true rfl, Nat.le_of_ble_eq_true rfl⟩) hS (fun q _ h => hFc q h) hFc (fun u9 t H1 locs ht hvm hr9 hB hz1 hk1 hS => ?_)
  obtain ⟨q3, hP1, hK1, hD1⟩ := hB
  rw [ht] at hP1
  obtain ⟨hP, hD⟩ := xjoin (W := [(a0, .inr (5, [.int 2, .ref a4, .int 1, v17, .int 0, v19, v20, .int 0, .int 1, .int 0, v24, v25, .int 0, v27, v28, .ref a3, .int 4, .int 4, .int 0, .int 100, v34, v35, .int 0, .int 1000000000, .ref a1, .ref a2, v38, v39, v40, v41, .int 1, v43])), (a1, .inl (cT 5, 8, .inr (.inr (.inr (.inr f44))))), (a2, .inl (cT 1, 8, .inl f46)), (a3, .inl (cT 0, 4096, .inl f48)), (a4, .inl (cT 4, 1024, .inr (.inr (.inr (.inr (va_up f53 0 (some q3))))))), (q3, .inr (6, [.int 0, .long 0, .int 0, .int 0, .int 0, .int 1]))]) hP hD [4, 0, 1, 2, 3] [] 0 rfl rfl (by decide) (by decide) hk1 hFc hP1 hD1
  generalize H1 = H at hP hS ⊢
  obtain ⟨hP9, hD9⟩ := xsub (wc := [(a0, .inr (5, [.int 2, .ref a4, .int 1, v17, .int 0, v19, v20, .int 0, .int 1, .int 0, v24, v25, .int 0, v27, v28, .ref a3, .int 4, .int 4, .int 0, .int 100, v34, v35, .int 0, .int 1000000000, .ref a1, .ref a2, v38, v39, v40, v41, .int 1, v43])), (a1, .inl (cT 5, 8, .inr (.inr (.inr (.inr f44))))), (a2, .inl (cT 1, 8, .inl f46)), (a3, .inl (cT 0, 4096, .inl f48)), (a4, .inl (cT 4, 1024, .inr (.inr (.inr (.inr (va_up f53 0 (some q3))))))), (q3, .inr (6, [.int 0, .long 0, .int 0, .int 0, .int 0, .int 1]))]) hP hD [0, 1, 2, 3, 4, 5] rfl rfl (by decide)
  refine W.widen (k := 2) (n := 12) (Nat.le_of_ble_eq_true rfl) (Nat.le_of_ble_eq_true rfl) ?_
  exact W.vret hx hb hr (fun t ht hW => ⟨⟨(), rfl, trivial, q3, by rw [ht]; exact hP9, va_K.moved hW.alike hK, hD9⟩, hS.F ht⟩) hS.2.2 dM_one0_47
set_option maxHeartbeats 400000000 in
set_option maxRecDepth 100000 in
theorem cB_isWithin_27 (l : Launch) (hl9 : l.stackTraces = false) (D : va_G) (cT : Nat → ClassId) (aK aV : Nat → Nat) (sz : Nat) : xMet l yB_isWithin wyB_isWithin 0 0 0 0 D cT aK aV sz [.int 13, .int 13] [] (fun A => va_Qi (fun (r : Int32) (_ : Unit) => r = 1) (fun _ t => xB D xcl cT A [] t) A) := by
  refine Met.ofW (cc := prog_1_method_15_code) (maxL := 2) (ret := (some .boolean)) (by decide) rfl ?_
  intro p e s m args below meth c s₁ B hml hv
  obtain ⟨rfl, hsz, hZ, hP, hK, hD0⟩ := hv
  have hx := B.exec
  have hb := B.bytes
  have hr := B.returns
  have hts := atoms_spec (ws := wyB_isWithin) B.pre
  have htx := fun w h => hts w (List.mem_cons_of_mem _ h)
  have hown : s.vm.findClass "ValueBench" = some m.cls := findClass_of_methodNamed B.named
  have hlocks := B.notSynchronized
  subst hsz
  have hD := hD0.self (sz := s.heap.size)
  generalize hAe : va_A [] s.heap.size = A at hD hZ ⊢
  have hA : ∀ q : Nat, s.heap.size ≤ q → A q := fun q h => by rw [← hAe]; exact Or.inr h
  have hS : va_S A s.heap s.heap [] := va_S.rf
  have hP : va_P D xcl [] s.heap := hP
  have hl := lv_entry ([.int 13, .int 13]) (n := 2) (Nat.le_of_ble_eq_true rfl)
  rw [lg_entry_eq]
  generalize (lg_sl ([.int 13, .int 13]) ++ List.replicate (2 - (lg_sl ([.int 13, .int 13])).length) Slot.unset).toArray = ls at hl ⊢
  have hl : lv_has ls 2 [(0, .int 13), (1, .int 13)] := hl
  refine lv_iload_n hx hb dB_isWithin_0 rfl (lv_at hl 0 rfl) ?_
  refine lv_if_lt (tgt := 13) hx hb dB_isWithin_1 (by decide) (fun h => ((by revert h; decide : False)).elim) (fun _ => ?_)
  refine lv_iload_n hx hb dB_isWithin_4 rfl (lv_at hl 0 rfl) ?_
  refine lv_iload_n hx hb dB_isWithin_5 rfl (lv_at hl 1 rfl) ?_
  refine lv_icmp_gt (tgt := 13) hx hb dB_isWithin_6 (by decide) (fun h => ((by revert h; decide : False)).elim) (fun _ => ?_)
  refine lv_iconst (v := 1) hx hb dB_isWithin_9 (by decide) ?_
  refine lv_goto (tgt := 14) hx hb dB_isWithin_10 (by decide) ?_
  obtain ⟨hP9, hD9⟩ := xsub (wc := []) hP hD [] rfl rfl (by decide)
  refine W.widen (k := 0) (n := 0) (Nat.le_of_ble_eq_true rfl) (Nat.le_of_ble_eq_true rfl) ?_
  exact W.zret (v := 1) hx hb hr rfl (fun t ht hW => ⟨⟨1, (), rfl, rfl, by rw [ht]; exact hP9, va_K.moved hW.alike hK, hD9⟩, hS.F ht⟩) hS.2.2 dB_isWithin_14
set_option maxHeartbeats 400000000 in
set_option maxRecDepth 100000 in
theorem cG_apply_13 (l : Launch) (hl9 : l.stackTraces = false) (D : va_G) (cT : Nat → ClassId) (aK aV : Nat → Nat) (sz : Nat) (a0 : Nat) (a1 : Nat) (b2 : Nat) (b3 : Nat) (b4 : Nat) (v5 : Value) (f6 : Nat → Int64) (h7 : f6 0 = 0) : xMet l yG_apply wyG_apply 3 0 0 70 D cT aK aV sz [.int 13, .ref a0, .ref b2, .ref b3, .ref b4] [(a0, .inr (2, [.ref a1, .int 1, v5])), (a1, .inl (cT 2, 4096, .inr (.inl f6)))] (fun A => va_Qi (fun (r : Int32) (_ : Unit) => r = 1) (fun _ t => xB D xcl cT A [(a0, .inr (2, [.ref a1, .int 1, v5])), (a1, .inl (cT 2, 4096, .inr (.inl f6)))] t) A) := by
  refine Met.ofW (cc := prog_9_method_2_code) (maxL := 5) (ret := (some .int)) (by decide) rfl ?_
  intro p e s m args below meth c s₁ B hml hv
  obtain ⟨rfl, hsz, hZ, hP, hK, hD0⟩ := hv
  have hx := B.exec
  have hb := B.bytes
  have hr := B.returns
  have hts := atoms_spec (ws := wyG_apply) B.pre
  have htx := fun w h => hts w (List.mem_cons_of_mem _ h)
  have hown : s.vm.findClass "ValueBench$Singles" = some m.cls := findClass_of_methodNamed B.named
  have hlocks := B.notSynchronized
  subst hsz
  have hD := hD0.self (sz := s.heap.size)
  generalize hAe : va_A [(a0, .inr (2, [.ref a1, .int 1, v5])), (a1, .inl (cT 2, 4096, .inr (.inl f6)))] s.heap.size = A at hD hZ ⊢
  have hA : ∀ q : Nat, s.heap.size ≤ q → A q := fun q h => by rw [← hAe]; exact Or.inr h
  have hS : va_S A s.heap s.heap [] := va_S.rf
  have hP : va_P D xcl [(a0, .inr (2, [.ref a1, .int 1, v5])), (a1, .inl (cT 2, 4096, .inr (.inl f6)))] s.heap := hP
  have hl := lv_entry ([.int 13, .ref a0, .ref b2, .ref b3, .ref b4]) (n := 5) (Nat.le_of_ble_eq_true rfl)
  rw [lg_entry_eq]
  generalize (lg_sl ([.int 13, .ref a0, .ref b2, .ref b3, .ref b4]) ++ List.replicate (5 - (lg_sl ([.int 13, .ref a0, .ref b2, .ref b3, .ref b4])).length) Slot.unset).toArray = ls at hl ⊢
  have hl : lv_has ls 5 [(0, .int 13), (1, .ref a0), (2, .ref b2), (3, .ref b3), (4, .ref b4)] := hl
  refine lv_iload_n hx hb dG_apply_0 rfl (lv_at hl 0 rfl) ?_
  refine lv_tableOut (tgt := 243) hx hb dG_apply_1 (by decide) (by decide) ?_
  refine lv_aload_n hx hb dG_apply_243 rfl (lv_at hl 1 rfl) ?_
  refine lv_bipush (v := 97) hx hb dG_apply_244 (by decide) ?_
  refine lv_bipush (v := (-32)) hx hb dG_apply_246 (by decide) ?_
  refine lv_aload hx hb dG_apply_248 (lv_at hl 4 rfl) ?_
  obtain ⟨hPc, hDc, hFc⟩ := xcut (wc := [(a0, .inr (2, [.ref a1, .int 1, v5])), (a1, .inl (cT 2, 4096, .inr (.inl f6)))]) hP hD hS hA [0, 1] rfl rfl (by decide)
  refine va_calli (va_runS (As := [.ref a0, .int 97, .int (-32), .ref b4]) (rest := []) ⟨hx, hb, hml, hown, htx⟩ (cG_inCase_0 l hl9 D cT aK aV s.heap.size a0 a1 97 (-32) b4 v5 f6 (by first | rfl | exact h7)) ⟨callB_of 4 htx (xw_goodC kw_4_136) rfl rfl rfl (htx _ kw_1_26) (htx _ kw_4_134) ⟨by decide, by decide, by decide +kernel⟩ ⟨Nat.le_of_ble_eq_true rfl, Nat.le_of_ble_eq_true rfl⟩, htx _ kw_4_135⟩ ⟨xPre_blind, (fun U hU hW => ⟨rfl, xPre_of hZ hS hFc hPc hDc hK U hU hW⟩)⟩ rfl rfl hl.1 rfl (lv_room (Nat.le_of_ble_eq_true rfl)) dG_apply_250 ⟨Nat.le_of_ble_eq_true rfl, Nat.le_of_ble_eq_true rfl⟩) hS (fun q _ h => hFc q h) hFc (fun r1 u9 t H1 locs ht hvm hr9 hB hz1 hk1 hS => ?_)
  obtain ⟨hP1, hK1, hD1⟩ := hB
  rw [ht] at hP1
  obtain ⟨hP, hD⟩ := xjoin (W := [(a0, .inr (2, [.ref a1, .int 1, v5])), (a1, .inl (cT 2, 4096, .inr (.inl f6)))]) hP hD [0, 1] [] 0 rfl rfl (by decide) (by decide) hk1 hFc hP1 hD1
  generalize H1 = H at hP hS ⊢
  rw [hr9]
  refine W.eq (g2 := F0 m 253 ls [.int 1]) rfl ?_
  obtain ⟨hP9, hD9⟩ := xsub (wc := [(a0, .inr (2, [.ref a1, .int 1, v5])), (a1, .inl (cT 2, 4096, .inr (.inl f6)))]) hP hD [0, 1] rfl rfl (by decide)
  refine W.widen (k := 0) (n := 0) (Nat.le_of_ble_eq_true rfl) (Nat.le_of_ble_eq_true rfl) ?_
  exact W.iret (v := 1) hx hb hr (fun t ht hW => ⟨⟨1, (), rfl, rfl, by rw [ht]; exact hP9, va_K.moved hW.alike hK, hD9⟩, hS.F ht⟩) hS.2.2 dG_apply_253
set_option maxHeartbeats 400000000 in
set_option maxRecDepth 100000 in
theorem cB_one_19 (l : Launch) (hl9 : l.stackTraces = false) (D : va_G) (cT : Nat → ClassId) (aK aV : Nat → Nat) (sz : Nat) (a0 : Nat) (a1 : Nat) (a2 : Nat) (a3 : Nat) (a4 : Nat) (x5 : Int32) (x10 : Int32) (v15 : Value) (v16 : Value) (b17 : Nat) (b18 : Nat) (v19 : Value) (v20 : Value) (v21 : Value) (v22 : Value) (v23 : Value) (f24 : Nat → Option Nat) (v26 : Value) (f27 : Nat → Int64) (h6 : ¬ x5 < 0) (h7 : ¬ 7 < x5) (h8 : x5 ≤ 7) (h9 : vp_in x5 8) (h11 : ¬ x10 < 0) (h12 : ¬ 7 < x10) (h13 : x10 ≤ 7) (h14 : vp_in x10 8) (h25 : f24 x10.toNatClampNeg = some a3) (h28 : f27 0 = 0) : xMetX l yB_one wyB_one 7 1 6 121 D cT aK aV sz [.ref a0, .int x5, .int 13, .int x10] [(a0, .inr (0, [v15, v16, .ref b17, .ref a2, .ref b18, .ref a1, v19, v20])), (a1, .inr (2, [v21, v22, v23])), (a2, .inl (cT 3, 8, .inr (.inr (.inr (.inr f24))))), (a3, .inr (2, [.ref a4, .int 1, v26])), (a4, .inl (cT 2, 4096, .inr (.inl f27)))] "java/lang/ArithmeticException" (fun A t => xB D xcl cT A [(a0, .inr (0, [v15, v16, .ref b17, .ref a2, .ref b18, .ref a1, v19, .int 1])), (a1, .inr (2, [v21, .int 0, .int 0])), (a2, .inl (cT 3, 8, .inr (.inr (.inr (.inr f24))))), (a3, .inr (2, [.ref a4, .int 1, v26])), (a4, .inl (cT 2, 4096, .inr (.inl f27)))] t) := by
  refine vx_ofW (cc := prog_1_method_9_code) (maxL := 4) (ret := none) (by decide) rfl ?_
  intro p e s m args below meth c s₁ B hml hne hv
  obtain ⟨rfl, hsz, hZ, hP, hK, hD0⟩ := hv
  have hx := B.exec
  have hb := B.bytes
  have hr := B.returns
  have hts := atoms_spec (ws := wyB_one) B.pre
  have htx := fun w h => hts w (List.mem_cons_of_mem _ h)
  have hown : s.vm.findClass "ValueBench" = some m.cls := findClass_of_methodNamed B.named
  have hlocks := B.notSynchronized
  subst hsz
  have hD := hD0.self (sz := s.heap.size)
  generalize hAe : va_A [(a0, .inr (0, [v15, v16, .ref b17, .ref a2, .ref b18, .ref a1, v19, v20])), (a1, .inr (2, [v21, v22, v23])), (a2, .inl (cT 3, 8, .inr (.inr (.inr (.inr f24))))), (a3, .inr (2, [.ref a4, .int 1, v26])), (a4, .inl (cT 2, 4096, .inr (.inl f27)))] s.heap.size = A at hD hZ ⊢
  have hA : ∀ q : Nat, s.heap.size ≤ q → A q := fun q h => by rw [← hAe]; exact Or.inr h
  have hS : va_S A s.heap s.heap [] := va_S.rf
  have hP : va_P D xcl [(a0, .inr (0, [v15, v16, .ref b17, .ref a2, .ref b18, .ref a1, v19, v20])), (a1, .inr (2, [v21, v22, v23])), (a2, .inl (cT 3, 8, .inr (.inr (.inr (.inr f24))))), (a3, .inr (2, [.ref a4, .int 1, v26])), (a4, .inl (cT 2, 4096, .inr (.inl f27)))] s.heap := hP
  have hl := lv_entry ([.ref a0, .int x5, .int 13, .int x10]) (n := 4) (Nat.le_of_ble_eq_true rfl)
  rw [lg_entry_eq]
  generalize (lg_sl ([.ref a0, .int x5, .int 13, .int x10]) ++ List.replicate (4 - (lg_sl ([.ref a0, .int x5, .int 13, .int x10])).length) Slot.unset).toArray = ls at hl ⊢
  have hl : lv_has ls 4 [(0, .ref a0), (1, .int x5), (2, .int 13), (3, .int x10)] := hl
  refine lv_iload_n hx hb dB_one_0 rfl (lv_at hl 1 rfl) ?_
  obtain ⟨hPc, hDc, hFc⟩ := xcut (wc := []) hP hD hS hA [] rfl rfl (by decide)
  refine va_calli (va_runS (As := [.int x5]) (rest := []) ⟨hx, hb, hml, hown, htx⟩ (cB_isRegister_2 l hl9 D cT aK aV s.heap.size x5 h6 h7 h8 h9) ⟨callB_of 1 htx (xw_goodC kw_2_18) rfl rfl rfl (htx _ kw_1_1) (htx _ kw_2_16) ⟨by decide, by decide, by decide +kernel⟩ ⟨Nat.le_of_ble_eq_true rfl, Nat.le_of_ble_eq_true rfl⟩, htx _ kw_2_17⟩ ⟨xPre_blind, (fun U hU hW => ⟨rfl, xPre_of hZ hS hFc hPc hDc hK U hU hW⟩)⟩ rfl rfl hl.1 rfl (lv_room (Nat.le_of_ble_eq_true rfl)) dB_one_1 ⟨Nat.le_of_ble_eq_true rfl, Nat.le_of_ble_eq_true rfl⟩) hS (fun q _ h => hFc q h) hFc (fun r1 u9 t H1 locs ht hvm hr9 hB hz1 hk1 hS => ?_)
  obtain ⟨hP1, hK1, hD1⟩ := hB
  rw [ht] at hP1
  obtain ⟨hP, hD⟩ := xjoin (W := [(a0, .inr (0, [v15, v16, .ref b17, .ref a2, .ref b18, .ref a1, v19, v20])), (a1, .inr (2, [v21, v22, v23])), (a2, .inl (cT 3, 8, .inr (.inr (.inr (.inr f24))))), (a3, .inr (2, [.ref a4, .int 1, v26])), (a4, .inl (cT 2, 4096, .inr (.inl f27)))]) hP hD [] [0, 1, 2, 3, 4] 5 rfl rfl (by decide) (by decide) hk1 hFc hP1 hD1
  generalize H1 = H at hP hS ⊢
  rw [hr9]
  refine W.eq (g2 := F0 m 4 ls [.int 1]) rfl ?_
  refine lv_if_eq (tgt := 27) hx hb dB_one_4 (by decide) (fun h => ((by revert h; decide : False)).elim) (fun _ => ?_)
  refine lv_iload_n hx hb dB_one_7 rfl (lv_at hl 2 rfl) ?_
  refine lv_bipush (v := 13) hx hb dB_one_8 (by decide) ?_
  obtain ⟨hPc, hDc, hFc⟩ := xcut (wc := []) hP hD hS hA [] rfl rfl (by decide)
  refine va_calli (va_runS (As := [.int 13, .int 13]) (rest := []) ⟨hx, hb, hml, hown, htx⟩ (cB_isWithin_27 l hl9 D cT aK aV H.size) ⟨callB_of 2 htx (xw_goodC kw_1_218) rfl rfl rfl (htx _ kw_1_1) (htx _ kw_1_216) ⟨by decide, by decide, by decide +kernel⟩ ⟨Nat.le_of_ble_eq_true rfl, Nat.le_of_ble_eq_true rfl⟩, htx _ kw_1_217⟩ ⟨xPre_blind, (fun U hU hW => ⟨rfl, xPre_of hZ hS hFc hPc hDc hK U hU hW⟩)⟩ rfl rfl hl.1 rfl (lv_room (Nat.le_of_ble_eq_true rfl)) dB_one_10 ⟨Nat.le_of_ble_eq_true rfl, Nat.le_of_ble_eq_true rfl⟩) hS (fun q _ h => hFc q h) hFc (fun r2 u9 t H1 locs ht hvm hr9 hB hz1 hk1 hS => ?_)
  obtain ⟨hP1, hK1, hD1⟩ := hB
  rw [ht] at hP1
  obtain ⟨hP, hD⟩ := xjoin (W := [(a0, .inr (0, [v15, v16, .ref b17, .ref a2, .ref b18, .ref a1, v19, v20])), (a1, .inr (2, [v21, v22, v23])), (a2, .inl (cT 3, 8, .inr (.inr (.inr (.inr f24))))), (a3, .inr (2, [.ref a4, .int 1, v26])), (a4, .inl (cT 2, 4096, .inr (.inl f27)))]) hP hD [] [0, 1, 2, 3, 4] 5 rfl rfl (by decide) (by decide) hk1 hFc hP1 hD1
  generalize H1 = H at hP hS ⊢
  rw [hr9]
  refine W.eq (g2 := F0 m 13 ls [.int 1]) rfl ?_
  refine lv_if_eq (tgt := 27) hx hb dB_one_13 (by decide) (fun h => ((by revert h; decide : False)).elim) (fun _ => ?_)
  refine lv_iload_n hx hb dB_one_16 rfl (lv_at hl 3 rfl) ?_
  obtain ⟨hPc, hDc, hFc⟩ := xcut (wc := []) hP hD hS hA [] rfl rfl (by decide)
  refine va_calli (va_runS (As := [.int x10]) (rest := []) ⟨hx, hb, hml, hown, htx⟩ (cB_isRegister_2 l hl9 D cT aK aV H.size x10 h11 h12 h13 h14) ⟨callB_of 1 htx (xw_goodC kw_2_18) rfl rfl rfl (htx _ kw_1_1) (htx _ kw_2_16) ⟨by decide, by decide, by decide +kernel⟩ ⟨Nat.le_of_ble_eq_true rfl, Nat.le_of_ble_eq_true rfl⟩, htx _ kw_2_17⟩ ⟨xPre_blind, (fun U hU hW => ⟨rfl, xPre_of hZ hS hFc hPc hDc hK U hU hW⟩)⟩ rfl rfl hl.1 rfl (lv_room (Nat.le_of_ble_eq_true rfl)) dB_one_17 ⟨Nat.le_of_ble_eq_true rfl, Nat.le_of_ble_eq_true rfl⟩) hS (fun q _ h => hFc q h) hFc (fun r3 u9 t H1 locs ht hvm hr9 hB hz1 hk1 hS => ?_)
  obtain ⟨hP1, hK1, hD1⟩ := hB
  rw [ht] at hP1
  obtain ⟨hP, hD⟩ := xjoin (W := [(a0, .inr (0, [v15, v16, .ref b17, .ref a2, .ref b18, .ref a1, v19, v20])), (a1, .inr (2, [v21, v22, v23])), (a2, .inl (cT 3, 8, .inr (.inr (.inr (.inr f24))))), (a3, .inr (2, [.ref a4, .int 1, v26])), (a4, .inl (cT 2, 4096, .inr (.inl f27)))]) hP hD [] [0, 1, 2, 3, 4] 5 rfl rfl (by decide) (by decide) hk1 hFc hP1 hD1
  generalize H1 = H at hP hS ⊢
  rw [hr9]
  refine W.eq (g2 := F0 m 20 ls [.int 1]) rfl ?_
  refine lv_if_eq (tgt := 27) hx hb dB_one_20 (by decide) (fun h => ((by revert h; decide : False)).elim) (fun _ => ?_)
  refine lv_iconst (v := 1) hx hb dB_one_23 (by decide) ?_
  refine lv_goto (tgt := 28) hx hb dB_one_24 (by decide) ?_
  obtain ⟨hPc, hDc, hFc⟩ := xcut (wc := []) hP hD hS hA [] rfl rfl (by decide)
  refine va_callv (va_runS (As := [.int 1]) (rest := []) ⟨hx, hb, hml, hown, htx⟩ (cB_demand_1 l hl9 D cT aK aV H.size) ⟨callB_of 1 htx (xw_goodC kw_1_221) rfl rfl rfl (htx _ kw_1_1) (htx _ kw_1_219) ⟨by decide, by decide, by decide +kernel⟩ ⟨Nat.le_of_ble_eq_true rfl, Nat.le_of_ble_eq_true rfl⟩, htx _ kw_1_220⟩ ⟨xPre_blind, (fun U hU hW => ⟨rfl, xPre_of hZ hS hFc hPc hDc hK U hU hW⟩)⟩ rfl rfl hl.1 rfl (lv_room (Nat.le_of_ble_eq_true rfl)) dB_one_28 ⟨Nat.le_of_ble_eq_true rfl, Nat.le_of_ble_eq_true rfl⟩) hS (fun q _ h => hFc q h) hFc (fun u9 t H1 locs ht hvm hr9 hB hz1 hk1 hS => ?_)
  obtain ⟨hP1, hK1, hD1⟩ := hB
  rw [ht] at hP1
  obtain ⟨hP, hD⟩ := xjoin (W := [(a0, .inr (0, [v15, v16, .ref b17, .ref a2, .ref b18, .ref a1, v19, v20])), (a1, .inr (2, [v21, v22, v23])), (a2, .inl (cT 3, 8, .inr (.inr (.inr (.inr f24))))), (a3, .inr (2, [.ref a4, .int 1, v26])), (a4, .inl (cT 2, 4096, .inr (.inl f27)))]) hP hD [] [0, 1, 2, 3, 4] 5 rfl rfl (by decide) (by decide) hk1 hFc hP1 hD1
  generalize H1 = H at hP hS ⊢
  refine lv_aload_n hx hb dB_one_31 rfl (lv_at hl 0 rfl) ?_
  refine va_get (D := D) (ci := 0) (v := .ref a1) (C := "ValueBench") (T := TB) (N := 8) hx hb htx inB hown hK hP 0 rfl rfl 5 (by decide) (htx _ kw_1_100) (fun _ h9 => h9) rfl dB_one_32 ?_
  obtain ⟨hPc, hDc, hFc⟩ := xcut (wc := [(a1, .inr (2, [v21, v22, v23]))]) hP hD hS hA [1] rfl rfl (by decide)
  refine va_callv (va_runV (C := "ValueBench$Row") (As := []) (rest := []) ⟨hx, hb, hml, hown, htx⟩ (cR_clear_0 l hl9 D cT aK aV H.size a1 v21 v22 v23) ⟨callB_of 0 htx (xw_goodC kw_2_22) rfl rfl rfl (htx _ kw_1_4) (htx _ kw_2_19) ⟨by decide, by decide, by decide +kernel⟩ ⟨Nat.le_of_ble_eq_true rfl, Nat.le_of_ble_eq_true rfl⟩, (htx _ kw_2_20), (htx _ kw_2_21)⟩ ⟨xPre_blind, va_recv hK hP (ci := 2) rfl (q0 := 1) rfl, (fun U hU hW => ⟨rfl, xPre_of hZ hS hFc hPc hDc hK U hU hW⟩)⟩ rfl rfl hl.1 rfl (lv_room (Nat.le_of_ble_eq_true rfl)) dB_one_35 ⟨Nat.le_of_ble_eq_true rfl, Nat.le_of_ble_eq_true rfl⟩) hS (fun q _ h => hFc q h) hFc (fun u9 t H1 locs ht hvm hr9 hB hz1 hk1 hS => ?_)
  obtain ⟨hP1, hK1, hD1⟩ := hB
  rw [ht] at hP1
  obtain ⟨hP, hD⟩ := xjoin (W := [(a0, .inr (0, [v15, v16, .ref b17, .ref a2, .ref b18, .ref a1, v19, v20])), (a2, .inl (cT 3, 8, .inr (.inr (.inr (.inr f24))))), (a3, .inr (2, [.ref a4, .int 1, v26])), (a4, .inl (cT 2, 4096, .inr (.inl f27))), (a1, .inr (2, [v21, .int 0, .int 0]))]) hP hD [1] [0, 2, 3, 4] 4 rfl rfl (by decide) (by decide) hk1 hFc hP1 hD1
  generalize H1 = H at hP hS ⊢
  refine lv_aload_n hx hb dB_one_38 rfl (lv_at hl 0 rfl) ?_
  refine lv_iload_n hx hb dB_one_39 rfl (lv_at hl 2 rfl) ?_
  refine lv_aload_n hx hb dB_one_40 rfl (lv_at hl 0 rfl) ?_
  refine va_get (D := D) (ci := 0) (v := .ref a2) (C := "ValueBench") (T := TB) (N := 8) hx hb htx inB hown hK hP 0 rfl rfl 3 (by decide) (htx _ kw_1_98) (fun _ h9 => h9) rfl dB_one_41 ?_
  refine lv_iload_n hx hb dB_one_44 rfl (lv_at hl 3 rfl) ?_
  refine va_aldq hx hb hK hP 1 3 rfl rfl h14 dB_one_45 ?_
  refine W.eq (g2 := F0 m 46 ls [va_rf (f24 x10.toNatClampNeg), .int 13, .ref a0]) rfl ?_
  rw [h25]
  refine W.eq (g2 := F0 m 46 ls [.ref a3, .int 13, .ref a0]) rfl ?_
  refine lv_aload_n hx hb dB_one_46 rfl (lv_at hl 0 rfl) ?_
  refine va_get (D := D) (ci := 0) (v := .ref b17) (C := "ValueBench") (T := TB) (N := 8) hx hb htx inB hown hK hP 0 rfl rfl 2 (by decide) (htx _ kw_1_97) (fun _ h9 => h9) rfl dB_one_47 ?_
  refine lv_aload_n hx hb dB_one_50 rfl (lv_at hl 0 rfl) ?_
  refine va_get (D := D) (ci := 0) (v := .ref b18) (C := "ValueBench") (T := TB) (N := 8) hx hb htx inB hown hK hP 0 rfl rfl 4 (by decide) (htx _ kw_1_99) (fun _ h9 => h9) rfl dB_one_51 ?_
  refine lv_aload_n hx hb dB_one_54 rfl (lv_at hl 0 rfl) ?_
  refine va_get (D := D) (ci := 0) (v := .ref a1) (C := "ValueBench") (T := TB) (N := 8) hx hb htx inB hown hK hP 0 rfl rfl 5 (by decide) (htx _ kw_1_100) (fun _ h9 => h9) rfl dB_one_55 ?_
  obtain ⟨hPc, hDc, hFc⟩ := xcut (wc := [(a3, .inr (2, [.ref a4, .int 1, v26])), (a4, .inl (cT 2, 4096, .inr (.inl f27)))]) hP hD hS hA [2, 3] rfl rfl (by decide)
  refine va_calli (va_runS (As := [.int 13, .ref a3, .ref b17, .ref b18, .ref a1]) (rest := [.ref a0]) ⟨hx, hb, hml, hown, htx⟩ (cG_apply_13 l hl9 D cT aK aV H.size a3 a4 b17 b18 a1 v26 f27 (by first | rfl | exact h25 | exact h28)) ⟨callB_of 5 htx (xw_goodC kw_4_28) rfl rfl rfl (htx _ kw_1_26) (htx _ kw_4_26) ⟨by decide, by decide, by decide +kernel⟩ ⟨Nat.le_of_ble_eq_true rfl, Nat.le_of_ble_eq_true rfl⟩, htx _ kw_4_27⟩ ⟨xPre_blind, (fun U hU hW => ⟨rfl, xPre_of hZ hS hFc hPc hDc hK U hU hW⟩)⟩ rfl rfl hl.1 rfl (lv_room (Nat.le_of_ble_eq_true rfl)) dB_one_58 ⟨Nat.le_of_ble_eq_true rfl, Nat.le_of_ble_eq_true rfl⟩) hS (fun q _ h => hFc q h) hFc (fun r4 u9 t H1 locs ht hvm hr9 hB hz1 hk1 hS => ?_)
  obtain ⟨hP1, hK1, hD1⟩ := hB
  rw [ht] at hP1
  obtain ⟨hP, hD⟩ := xjoin (W := [(a0, .inr (0, [v15, v16, .ref b17, .ref a2, .ref b18, .ref a1, v19, v20])), (a2, .inl (cT 3, 8, .inr (.inr (.inr (.inr f24))))), (a1, .inr (2, [v21, .int 0, .int 0])), (a3, .inr (2, [.ref a4, .int 1, v26])), (a4, .inl (cT 2, 4096, .inr (.inl f27)))]) hP hD [2, 3] [0, 1, 4] 3 rfl rfl (by decide) (by decide) hk1 hFc hP1 hD1
  generalize H1 = H at hP hS ⊢
  rw [hr9]
  refine W.eq (g2 := F0 m 61 ls [.int 1, .ref a0]) rfl ?_
  obtain ⟨hPc, hDc, hFc⟩ := xcut (wc := [(a0, .inr (0, [v15, v16, .ref b17, .ref a2, .ref b18, .ref a1, v19, v20]))]) hP hD hS hA [0] rfl rfl (by decide)
  refine xx_thr (vx_runV (C := "ValueBench") (As := [.int 1]) (rest := []) ⟨hx, hb, hml, hown, htx⟩ (cB_demandDone_1 l hl9 D cT aK aV H.size a0 v15 v16 (.ref b17) (.ref a2) (.ref b18) (.ref a1) v19 v20) ⟨callB_of 1 htx (xw_goodC kw_3_222) rfl rfl rfl (htx _ kw_1_1) (htx _ kw_3_219) ⟨by decide, by decide, by decide +kernel⟩ ⟨Nat.le_of_ble_eq_true rfl, Nat.le_of_ble_eq_true rfl⟩, (htx _ kw_3_221), (htx _ kp_B_demandDone)⟩ ⟨xPre_blind, va_recv hK hP (ci := 0) rfl (q0 := 0) rfl, (fun U hU hW => ⟨rfl, xPre_of hZ hS hFc hPc hDc hK U hU hW⟩)⟩ rfl rfl hl.1 rfl (lv_room (Nat.le_of_ble_eq_true rfl)) dB_one_61 ⟨Nat.le_of_ble_eq_true rfl, Nat.le_of_ble_eq_true rfl⟩) hS hFc (fun q _ h => hFc q h) (fun E ce q9 u9 t H1 locs ht hvm _ hB hz1 hk1 hS hce hcv hcl => ?_)
  obtain ⟨rfl, hP1, hK1, hD1⟩ := hB
  rw [ht] at hP1
  obtain ⟨hP, hD⟩ := xjoin (W := [(a2, .inl (cT 3, 8, .inr (.inr (.inr (.inr f24))))), (a1, .inr (2, [v21, .int 0, .int 0])), (a3, .inr (2, [.ref a4, .int 1, v26])), (a4, .inl (cT 2, 4096, .inr (.inl f27))), (a0, .inr (0, [v15, v16, .ref b17, .ref a2, .ref b18, .ref a1, v19, .int 1]))]) hP hD [0] [1, 2, 3, 4] 4 rfl rfl (by decide) (by decide) hk1 hFc hP1 hD1
  generalize H1 = H at hP hS hce ⊢
  obtain ⟨hP9, hD9⟩ := xsub (wc := [(a0, .inr (0, [v15, v16, .ref b17, .ref a2, .ref b18, .ref a1, v19, .int 1])), (a1, .inr (2, [v21, .int 0, .int 0])), (a2, .inl (cT 3, 8, .inr (.inr (.inr (.inr f24))))), (a3, .inr (2, [.ref a4, .int 1, v26])), (a4, .inl (cT 2, 4096, .inr (.inl f27)))]) hP hD [4, 1, 0, 2, 3] rfl rfl (by decide)
  exact vx_out (E := "java/lang/ArithmeticException") (fun x h => (hne x h).elim) hlocks hce hcv hcl (fun t ht ha => ⟨(), trivial, ⟨rfl, by rw [ht]; exact hP9, va_K.moved ha hK, hD9⟩, hS.F ht⟩) hS.2.2 (Nat.le_of_ble_eq_true rfl) (Nat.le_of_ble_eq_true rfl)
set_option maxHeartbeats 400000000 in
set_option maxRecDepth 100000 in
theorem cL_one_19 (l : Launch) (hl9 : l.stackTraces = false) (D : va_G) (cT : Nat → ClassId) (aK aV : Nat → Nat) (sz : Nat) (a0 : Nat) (a1 : Nat) (a2 : Nat) (a3 : Nat) (a4 : Nat) (x5 : Int32) (x10 : Int32) (v15 : Value) (v16 : Value) (b17 : Nat) (b18 : Nat) (v19 : Value) (v20 : Value) (v21 : Value) (v22 : Value) (v23 : Value) (f24 : Nat → Option Nat) (v26 : Value) (f27 : Nat → Int64) (h6 : ¬ x5 < 0) (h7 : ¬ 7 < x5) (h8 : x5 ≤ 7) (h9 : vp_in x5 8) (h11 : ¬ x10 < 0) (h12 : ¬ 7 < x10) (h13 : x10 ≤ 7) (h14 : vp_in x10 8) (h25 : f24 x10.toNatClampNeg = some a3) (h28 : f27 0 = 0) : xMet l yL_one wyL_one 8 1 6 144 D cT aK aV sz [.ref a0, .int x5, .int 13, .int x10] [(a0, .inr (0, [v15, v16, .ref b17, .ref a2, .ref b18, .ref a1, v19, v20])), (a1, .inr (2, [v21, v22, v23])), (a2, .inl (cT 3, 8, .inr (.inr (.inr (.inr f24))))), (a3, .inr (2, [.ref a4, .int 1, v26])), (a4, .inl (cT 2, 4096, .inr (.inl f27)))] (fun A => va_Qi (fun (r : Int32) (_ : Unit) => r = 2) (fun _ t => xB D xcl cT A [(a0, .inr (0, [v15, v16, .ref b17, .ref a2, .ref b18, .ref a1, v19, .int 1])), (a1, .inr (2, [v21, .int 0, .int 0])), (a2, .inl (cT 3, 8, .inr (.inr (.inr (.inr f24))))), (a3, .inr (2, [.ref a4, .int 1, v26])), (a4, .inl (cT 2, 4096, .inr (.inl f27)))] t) A) := by
  refine va_MetW (cc := method_10_code) (maxL := 5) (ret := (some .int)) (hh := [(0, 7, 10, 19), (0, 7, 14, 33), (0, 7, 18, 13)]) (by decide) rfl ?_
  intro p e s m args below meth c s₁ B hml hv
  obtain ⟨rfl, hsz, hZ, hP, hK, hD0⟩ := hv
  have hx := B.exec
  have hb := B.bytes
  have hr := B.returns
  have hts := atoms_spec (ws := wyL_one) B.pre
  have htx := fun w h => hts w (List.mem_cons_of_mem _ h)
  have hown : s.vm.findClass "ValueBenchLaw" = some m.cls := findClass_of_methodNamed B.named
  have hlocks := B.notSynchronized
  subst hsz
  have hD := hD0.self (sz := s.heap.size)
  generalize hAe : va_A [(a0, .inr (0, [v15, v16, .ref b17, .ref a2, .ref b18, .ref a1, v19, v20])), (a1, .inr (2, [v21, v22, v23])), (a2, .inl (cT 3, 8, .inr (.inr (.inr (.inr f24))))), (a3, .inr (2, [.ref a4, .int 1, v26])), (a4, .inl (cT 2, 4096, .inr (.inl f27)))] s.heap.size = A at hD hZ ⊢
  have hA : ∀ q : Nat, s.heap.size ≤ q → A q := fun q h => by rw [← hAe]; exact Or.inr h
  have hS : va_S A s.heap s.heap [] := va_S.rf
  have hP : va_P D xcl [(a0, .inr (0, [v15, v16, .ref b17, .ref a2, .ref b18, .ref a1, v19, v20])), (a1, .inr (2, [v21, v22, v23])), (a2, .inl (cT 3, 8, .inr (.inr (.inr (.inr f24))))), (a3, .inr (2, [.ref a4, .int 1, v26])), (a4, .inl (cT 2, 4096, .inr (.inl f27)))] s.heap := hP
  have hl := lv_entry ([.ref a0, .int x5, .int 13, .int x10]) (n := 5) (Nat.le_of_ble_eq_true rfl)
  rw [lg_entry_eq]
  generalize (lg_sl ([.ref a0, .int x5, .int 13, .int x10]) ++ List.replicate (5 - (lg_sl ([.ref a0, .int x5, .int 13, .int x10])).length) Slot.unset).toArray = ls at hl ⊢
  have hl : lv_has ls 5 [(0, .ref a0), (1, .int x5), (2, .int 13), (3, .int x10)] := hl
  have htab := vx_table (x := yL_one) B (hts _ List.mem_cons_self)
  refine lv_aload_n hx hb dL_one_0 rfl (lv_at hl 0 rfl) ?_
  refine lv_iload_n hx hb dL_one_1 rfl (lv_at hl 1 rfl) ?_
  refine lv_iload_n hx hb dL_one_2 rfl (lv_at hl 2 rfl) ?_
  refine lv_iload_n hx hb dL_one_3 rfl (lv_at hl 3 rfl) ?_
  obtain ⟨hPc, hDc, hFc⟩ := xcut (wc := [(a0, .inr (0, [v15, v16, .ref b17, .ref a2, .ref b18, .ref a1, v19, v20])), (a1, .inr (2, [v21, v22, v23])), (a2, .inl (cT 3, 8, .inr (.inr (.inr (.inr f24))))), (a3, .inr (2, [.ref a4, .int 1, v26])), (a4, .inl (cT 2, 4096, .inr (.inl f27)))]) hP hD hS hA [0, 1, 2, 3, 4] rfl rfl (by decide)
  refine xx_thr (vx_runV (C := "ValueBench") (As := [.int x5, .int 13, .int x10]) (rest := []) ⟨hx, hb, hml, hown, htx⟩ (cB_one_19 l hl9 D cT aK aV s.heap.size a0 a1 a2 a3 a4 x5 x10 v15 v16 b17 b18 v19 v20 v21 v22 v23 f24 v26 f27 h6 h7 h8 h9 h11 h12 h13 h14 (by first | rfl | exact h25 | exact h28) (by first | rfl | exact h25 | exact h28)) ⟨callB_of 3 htx (xw_goodC kw_4_25) rfl rfl rfl (htx _ kw_1_1) (htx _ kw_4_22) ⟨by decide, by decide, by decide +kernel⟩ ⟨Nat.le_of_ble_eq_true rfl, Nat.le_of_ble_eq_true rfl⟩, (htx _ kw_4_23), (htx _ kw_4_24)⟩ ⟨xPre_blind, va_recv hK hP (ci := 0) rfl (q0 := 0) rfl, (fun U hU hW => ⟨rfl, xPre_of hZ hS hFc hPc hDc hK U hU hW⟩)⟩ rfl rfl hl.1 rfl (lv_room (Nat.le_of_ble_eq_true rfl)) dL_one_4 ⟨Nat.le_of_ble_eq_true rfl, Nat.le_of_ble_eq_true rfl⟩) hS hFc (fun q _ h => hFc q h) (fun E ce q9 u9 t H1 locs ht hvm _ hB hz1 hk1 hS hce hcv hcl => ?_)
  obtain ⟨rfl, hP1, hK1, hD1⟩ := hB
  rw [ht] at hP1
  obtain ⟨hP, hD⟩ := xjoin (W := [(a0, .inr (0, [v15, v16, .ref b17, .ref a2, .ref b18, .ref a1, v19, .int 1])), (a1, .inr (2, [v21, .int 0, .int 0])), (a2, .inl (cT 3, 8, .inr (.inr (.inr (.inr f24))))), (a3, .inr (2, [.ref a4, .int 1, v26])), (a4, .inl (cT 2, 4096, .inr (.inl f27)))]) hP hD [0, 1, 2, 3, 4] [] 0 rfl rfl (by decide) (by decide) hk1 hFc hP1 hD1
  generalize H1 = H at hP hS hce ⊢
  refine vx_catch (own := "ValueBenchLaw") (name := "java/lang/ArithmeticException") (E := "java/lang/ArithmeticException") hown [⟨0, 7, 10, 19⟩] ⟨0, 7, 14, 33⟩ [⟨0, 7, 18, 13⟩] (by rw [htab]; rfl) (by intro z hz; rcases List.mem_cons.mp hz with rfl | hz; (exact Or.inr ⟨by decide, "java/lang/IllegalArgumentException", htx _ kw_1_211, hZ.2.2.2.2.2.2.2.1 ("java/lang/ArithmeticException", "java/lang/IllegalArgumentException") (List.mem_of_getElem? (i := 10) rfl)⟩); cases hz) (by decide) (by decide) (htx _ kw_3_98) ((hZ.2.2.2.2.2.1 "java/lang/ArithmeticException" (List.mem_of_getElem? (i := 3) rfl)).use rfl) hce hcv hcl ?_
  refine lv_astore (lv' := [(4, .ref q9), (0, .ref a0), (1, .int x5), (2, .int 13), (3, .int x10)]) hx hb dL_one_14 hl (by decide) rfl (fun ls hl => ?_)
  refine lv_iconst (v := 2) hx hb dL_one_16 (by decide) ?_
  obtain ⟨hP9, hD9⟩ := xsub (wc := [(a0, .inr (0, [v15, v16, .ref b17, .ref a2, .ref b18, .ref a1, v19, .int 1])), (a1, .inr (2, [v21, .int 0, .int 0])), (a2, .inl (cT 3, 8, .inr (.inr (.inr (.inr f24))))), (a3, .inr (2, [.ref a4, .int 1, v26])), (a4, .inl (cT 2, 4096, .inr (.inl f27)))]) hP hD [0, 1, 2, 3, 4] rfl rfl (by decide)
  refine W.widen (k := 1) (n := 6) (Nat.le_of_ble_eq_true rfl) (Nat.le_of_ble_eq_true rfl) ?_
  exact W.iret (v := 2) hx hb hr (fun t ht hW => ⟨⟨2, (), rfl, rfl, by rw [ht]; exact hP9, va_K.moved hW.alike hK, hD9⟩, hS.F ht⟩) hS.2.2 dL_one_17
set_option maxHeartbeats 400000000 in
set_option maxRecDepth 100000 in
theorem cM_one1_13 (l : Launch) (hl9 : l.stackTraces = false) (D : va_G) (cT : Nat → ClassId) (aK aV : Nat → Nat) (sz : Nat) (a0 : Nat) (a1 : Nat) (v2 : Value) (v3 : Value) (v4 : Value) (v5 : Value) (x6 : Int32) (v7 : Value) (v8 : Value) (v9 : Value) (v10 : Value) (v11 : Value) (v12 : Value) (v13 : Value) (v14 : Value) (v15 : Value) (v16 : Value) (v17 : Value) (v18 : Value) (v19 : Value) (v20 : Value) (v21 : Value) (v22 : Value) (v23 : Value) (v24 : Value) (v25 : Value) (v26 : Value) (v27 : Value) (v28 : Value) (v29 : Value) (v30 : Value) (v31 : Value) (v32 : Value) (v33 : Value) (v34 : Value) (v35 : Value) (v36 : Value) (v37 : Value) (v38 : Value) : xMetX l yM_one1 wyM_one1 9 1 6 167 D cT aK aV sz [.ref a0, .int 13, .ref a1] [(a0, .inr (5, [v2, v3, v4, v5, .int x6, v7, v8, v9, v10, v11, v12, v13, v14, v15, v16, v17, v18, v19, v20, v21, v22, v23, v24, v25, v26, v27, v28, v29, v30, v31, v32, v33])), (a1, .inr (6, [.int 0, v34, v35, v36, v37, v38]))] "java/lang/ArithmeticException" (fun A t => xB D xcl cT A [(a0, .inr (5, [v2, v3, v4, v5, .int x6, v7, v8, v9, .int 1, v11, v12, v13, v14, v15, v16, v17, v18, v19, v20, v21, v22, v23, v24, v25, v26, v27, v28, v29, v30, v31, v32, v33])), (a1, .inr (6, [.int 0, v34, v35, v36, v37, v38]))] t) := by
  refine vx_ofW (cc := prog_13_method_66_code) (maxL := 3) (ret := (some (.object "ValueBenchModel$V"))) (by decide) rfl ?_
  intro p e s m args below meth c s₁ B hml hne hv
  obtain ⟨rfl, hsz, hZ, hP, hK, hD0⟩ := hv
  have hx := B.exec
  have hb := B.bytes
  have hr := B.returns
  have hts := atoms_spec (ws := wyM_one1) B.pre
  have htx := fun w h => hts w (List.mem_cons_of_mem _ h)
  have hown : s.vm.findClass "ValueBenchModel" = some m.cls := findClass_of_methodNamed B.named
  have hlocks := B.notSynchronized
  subst hsz
  have hD := hD0.self (sz := s.heap.size)
  generalize hAe : va_A [(a0, .inr (5, [v2, v3, v4, v5, .int x6, v7, v8, v9, v10, v11, v12, v13, v14, v15, v16, v17, v18, v19, v20, v21, v22, v23, v24, v25, v26, v27, v28, v29, v30, v31, v32, v33])), (a1, .inr (6, [.int 0, v34, v35, v36, v37, v38]))] s.heap.size = A at hD hZ ⊢
  have hA : ∀ q : Nat, s.heap.size ≤ q → A q := fun q h => by rw [← hAe]; exact Or.inr h
  have hS : va_S A s.heap s.heap [] := va_S.rf
  have hP : va_P D xcl [(a0, .inr (5, [v2, v3, v4, v5, .int x6, v7, v8, v9, v10, v11, v12, v13, v14, v15, v16, v17, v18, v19, v20, v21, v22, v23, v24, v25, v26, v27, v28, v29, v30, v31, v32, v33])), (a1, .inr (6, [.int 0, v34, v35, v36, v37, v38]))] s.heap := hP
  have hl := lv_entry ([.ref a0, .int 13, .ref a1]) (n := 3) (Nat.le_of_ble_eq_true rfl)
  rw [lg_entry_eq]
  generalize (lg_sl ([.ref a0, .int 13, .ref a1]) ++ List.replicate (3 - (lg_sl ([.ref a0, .int 13, .ref a1])).length) Slot.unset).toArray = ls at hl ⊢
  have hl : lv_has ls 3 [(0, .ref a0), (1, .int 13), (2, .ref a1)] := hl
  refine lv_iload_n hx hb dM_one1_0 rfl (lv_at hl 1 rfl) ?_
  refine lv_tableOut (tgt := 179) hx hb dM_one1_1 (by decide) (by decide) ?_
  refine lv_aload_n hx hb dM_one1_179 rfl (lv_at hl 0 rfl) ?_
  refine lv_aload_n hx hb dM_one1_180 rfl (lv_at hl 2 rfl) ?_
  refine lv_iconst (v := 1) hx hb dM_one1_181 (by decide) ?_
  obtain ⟨hPc, hDc, hFc⟩ := xcut (wc := [(a0, .inr (5, [v2, v3, v4, v5, .int x6, v7, v8, v9, v10, v11, v12, v13, v14, v15, v16, v17, v18, v19, v20, v21, v22, v23, v24, v25, v26, v27, v28, v29, v30, v31, v32, v33])), (a1, .inr (6, [.int 0, v34, v35, v36, v37, v38]))]) hP hD hS hA [0, 1] rfl rfl (by decide)
  refine xx_thr (vx_runV (C := "ValueBenchModel") (As := [.ref a1, .int 1]) (rest := []) ⟨hx, hb, hml, hown, htx⟩ (cM_cased_0 l hl9 D cT aK aV s.heap.size a0 a1 1 v2 v3 v4 v5 x6 v7 v8 v9 v10 v11 v12 v13 v14 v15 v16 v17 v18 v19 v20 v21 v22 v23 v24 v25 v26 v27 v28 v29 v30 v31 v32 v33 v34 v35 v36 v37 v38) ⟨callB_of 2 htx (xw_goodC kw_7_75) rfl rfl rfl (htx _ kw_1_5) (htx _ kw_7_72) ⟨by decide, by decide, by decide +kernel⟩ ⟨Nat.le_of_ble_eq_true rfl, Nat.le_of_ble_eq_true rfl⟩, (htx _ kw_7_74), (htx _ kp_M_cased)⟩ ⟨xPre_blind, va_recv hK hP (ci := 5) rfl (q0 := 0) rfl, (fun U hU hW => ⟨rfl, xPre_of hZ hS hFc hPc hDc hK U hU hW⟩)⟩ rfl rfl hl.1 rfl (lv_room (Nat.le_of_ble_eq_true rfl)) dM_one1_182 ⟨Nat.le_of_ble_eq_true rfl, Nat.le_of_ble_eq_true rfl⟩) hS hFc (fun q _ h => hFc q h) (fun E ce q9 u9 t H1 locs ht hvm _ hB hz1 hk1 hS hce hcv hcl => ?_)
  obtain ⟨rfl, hP1, hK1, hD1⟩ := hB
  rw [ht] at hP1
  obtain ⟨hP, hD⟩ := xjoin (W := [(a0, .inr (5, [v2, v3, v4, v5, .int x6, v7, v8, v9, .int 1, v11, v12, v13, v14, v15, v16, v17, v18, v19, v20, v21, v22, v23, v24, v25, v26, v27, v28, v29, v30, v31, v32, v33])), (a1, .inr (6, [.int 0, v34, v35, v36, v37, v38]))]) hP hD [0, 1] [] 0 rfl rfl (by decide) (by decide) hk1 hFc hP1 hD1
  generalize H1 = H at hP hS hce ⊢
  obtain ⟨hP9, hD9⟩ := xsub (wc := [(a0, .inr (5, [v2, v3, v4, v5, .int x6, v7, v8, v9, .int 1, v11, v12, v13, v14, v15, v16, v17, v18, v19, v20, v21, v22, v23, v24, v25, v26, v27, v28, v29, v30, v31, v32, v33])), (a1, .inr (6, [.int 0, v34, v35, v36, v37, v38]))]) hP hD [0, 1] rfl rfl (by decide)
  exact vx_out (E := "java/lang/ArithmeticException") (fun x h => (hne x h).elim) hlocks hce hcv hcl (fun t ht ha => ⟨(), trivial, ⟨rfl, by rw [ht]; exact hP9, va_K.moved ha hK, hD9⟩, hS.F ht⟩) hS.2.2 (Nat.le_of_ble_eq_true rfl) (Nat.le_of_ble_eq_true rfl)
set_option maxHeartbeats 400000000 in
set_option maxRecDepth 100000 in
theorem cM_finish_31 (l : Launch) (hl9 : l.stackTraces = false) (D : va_G) (cT : Nat → ClassId) (aK aV : Nat → Nat) (sz : Nat) (a0 : Nat) (a1 : Nat) (a2 : Nat) (a3 : Nat) (a4 : Nat) (x5 : Int32) (x6 : Int32) (x11 : Int32) (v12 : Value) (v13 : Value) (x14 : Int32) (v15 : Value) (v16 : Value) (v17 : Value) (v18 : Value) (v19 : Value) (v20 : Value) (v21 : Value) (v22 : Value) (v23 : Value) (v24 : Value) (v25 : Value) (v26 : Value) (v27 : Value) (v28 : Value) (v29 : Value) (v30 : Value) (v31 : Value) (v32 : Value) (v33 : Value) (v34 : Value) (v35 : Value) (v36 : Value) (v37 : Value) (v38 : Value) (v39 : Value) (f40 : Nat → Option Nat) (f42 : Nat → Int32) (f44 : Nat → Int32) (f49 : Nat → Option Nat) (h7 : ¬ x6 < 0) (h8 : ¬ 7 < x6) (h9 : x6 ≤ 7) (h10 : vp_in x6 8) (h41 : f40 x6.toNatClampNeg = some a3) (h43 : f42 x6.toNatClampNeg = 4) (h45 : f44 0 = 110) (h46 : f44 1 = 117) (h47 : f44 2 = 108) (h48 : f44 3 = 108) (h50 : f49 0 = none) : xMet l yM_finish wyM_finish 10 2 12 189 D cT aK aV sz [.ref a0, .int x5, .int 1, .int 13, .int x6, .int x11] [(a0, .inr (5, [v12, .ref a4, .int 0, v13, .int x14, v15, v16, v17, v18, v19, v20, v21, v22, v23, v24, v25, v26, v27, v28, v29, v30, v31, v32, v33, .ref a1, .ref a2, v34, v35, v36, v37, v38, v39])), (a1, .inl (cT 5, 8, .inr (.inr (.inr (.inr f40))))), (a2, .inl (cT 1, 8, .inl f42)), (a3, .inl (cT 0, 4096, .inl f44)), (a4, .inl (cT 4, 1024, .inr (.inr (.inr (.inr f49)))))] (fun A => va_Qv (fun _ : Unit => True) (fun _ t => ∃ (r1 : Nat), xB D xcl cT A [(a0, .inr (5, [.int 2, .ref a4, .int 1, v13, .int x14, v15, v16, v17, .int 1, v19, v20, v21, v22, v23, v24, .ref a3, .int 4, .int 4, .int 0, .int 100, v30, v31, v32, v33, .ref a1, .ref a2, v34, v35, v36, v37, .int 1, v39])), (a1, .inl (cT 5, 8, .inr (.inr (.inr (.inr f40))))), (a2, .inl (cT 1, 8, .inl f42)), (a3, .inl (cT 0, 4096, .inl f44)), (a4, .inl (cT 4, 1024, .inr (.inr (.inr (.inr (va_up f49 0 (some r1))))))), (r1, .inr (6, [.int 0, .long 0, .int 0, .int 0, .int 0, .int 1]))] t) A) := by
  refine va_MetW (cc := prog_13_method_90_code) (maxL := 10) (ret := none) (hh := [(0, 128, 131, 83), (0, 128, 149, 86)]) (by decide) rfl ?_
  intro p e s m args below meth c s₁ B hml hv
  obtain ⟨rfl, hsz, hZ, hP, hK, hD0⟩ := hv
  have hx := B.exec
  have hb := B.bytes
  have hr := B.returns
  have hts := atoms_spec (ws := wyM_finish) B.pre
  have htx := fun w h => hts w (List.mem_cons_of_mem _ h)
  have hown : s.vm.findClass "ValueBenchModel" = some m.cls := findClass_of_methodNamed B.named
  have hlocks := B.notSynchronized
  subst hsz
  have hD := hD0.self (sz := s.heap.size)
  generalize hAe : va_A [(a0, .inr (5, [v12, .ref a4, .int 0, v13, .int x14, v15, v16, v17, v18, v19, v20, v21, v22, v23, v24, v25, v26, v27, v28, v29, v30, v31, v32, v33, .ref a1, .ref a2, v34, v35, v36, v37, v38, v39])), (a1, .inl (cT 5, 8, .inr (.inr (.inr (.inr f40))))), (a2, .inl (cT 1, 8, .inl f42)), (a3, .inl (cT 0, 4096, .inl f44)), (a4, .inl (cT 4, 1024, .inr (.inr (.inr (.inr f49)))))] s.heap.size = A at hD hZ ⊢
  have hA : ∀ q : Nat, s.heap.size ≤ q → A q := fun q h => by rw [← hAe]; exact Or.inr h
  have hS : va_S A s.heap s.heap [] := va_S.rf
  have hP : va_P D xcl [(a0, .inr (5, [v12, .ref a4, .int 0, v13, .int x14, v15, v16, v17, v18, v19, v20, v21, v22, v23, v24, v25, v26, v27, v28, v29, v30, v31, v32, v33, .ref a1, .ref a2, v34, v35, v36, v37, v38, v39])), (a1, .inl (cT 5, 8, .inr (.inr (.inr (.inr f40))))), (a2, .inl (cT 1, 8, .inl f42)), (a3, .inl (cT 0, 4096, .inl f44)), (a4, .inl (cT 4, 1024, .inr (.inr (.inr (.inr f49)))))] s.heap := hP
  have hl := lv_entry ([.ref a0, .int x5, .int 1, .int 13, .int x6, .int x11]) (n := 10) (Nat.le_of_ble_eq_true rfl)
  rw [lg_entry_eq]
  generalize (lg_sl ([.ref a0, .int x5, .int 1, .int 13, .int x6, .int x11]) ++ List.replicate (10 - (lg_sl ([.ref a0, .int x5, .int 1, .int 13, .int x6, .int x11])).length) Slot.unset).toArray = ls at hl ⊢
  have hl : lv_has ls 10 [(0, .ref a0), (1, .int x5), (2, .int 1), (3, .int 13), (4, .int x6), (5, .int x11)] := hl
  have htab := vx_table (x := yM_finish) B (hts _ List.mem_cons_self)
  refine lv_aload_n hx hb dM_finish_0 rfl (lv_at hl 0 rfl) ?_
  refine lv_iload hx hb dM_finish_1 (lv_at hl 4 rfl) ?_
  obtain ⟨hPc, hDc, hFc⟩ := xcut (wc := [(a0, .inr (5, [v12, .ref a4, .int 0, v13, .int x14, v15, v16, v17, v18, v19, v20, v21, v22, v23, v24, v25, v26, v27, v28, v29, v30, v31, v32, v33, .ref a1, .ref a2, v34, v35, v36, v37, v38, v39])), (a1, .inl (cT 5, 8, .inr (.inr (.inr (.inr f40))))), (a2, .inl (cT 1, 8, .inl f42)), (a3, .inl (cT 0, 4096, .inl f44)), (a4, .inl (cT 4, 1024, .inr (.inr (.inr (.inr f49)))))]) hP hD hS hA [0, 1, 2, 3, 4] rfl rfl (by decide)
  refine va_callr (va_runV (C := "ValueBenchModel") (As := [.int x6]) (rest := []) ⟨hx, hb, hml, hown, htx⟩ (cM_register_3 l hl9 D cT aK aV s.heap.size a0 a1 a2 a3 a4 x6 v12 v13 (.int x14) v15 v16 v17 v18 v19 v20 v21 v22 v23 v24 v25 v26 v27 v28 v29 v30 v31 v32 v33 v34 v35 v36 v37 v38 v39 f40 f42 f44 f49 h7 h8 h9 h10 (by first | rfl | exact h41 | exact h43 | exact h45 | exact h46 | exact h47 | exact h48 | exact h50) (by first | rfl | exact h41 | exact h43 | exact h45 | exact h46 | exact h47 | exact h48 | exact h50) (by first | rfl | exact h41 | exact h43 | exact h45 | exact h46 | exact h47 | exact h48 | exact h50) (by first | rfl | exact h41 | exact h43 | exact h45 | exact h46 | exact h47 | exact h48 | exact h50) (by first | rfl | exact h41 | exact h43 | exact h45 | exact h46 | exact h47 | exact h48 | exact h50) (by first | rfl | exact h41 | exact h43 | exact h45 | exact h46 | exact h47 | exact h48 | exact h50) (by first | rfl | exact h41 | exact h43 | exact h45 | exact h46 | exact h47 | exact h48 | exact h50)) ⟨callB_of 1 htx (xw_goodC kw_6_170) rfl rfl rfl (htx _ kw_1_5) (htx _ kw_6_167) ⟨by decide, by decide, by decide +kernel⟩ ⟨Nat.le_of_ble_eq_true rfl, Nat.le_of_ble_eq_true rfl⟩, (htx _ kw_6_169), (htx _ kp_M_register)⟩ ⟨xPre_blind, va_recv hK hP (ci := 5) rfl (q0 := 0) rfl, (fun U hU hW => ⟨rfl, xPre_of hZ hS hFc hPc hDc hK U hU hW⟩)⟩ rfl rfl hl.1 rfl (lv_room (Nat.le_of_ble_eq_true rfl)) dM_finish_3 ⟨Nat.le_of_ble_eq_true rfl, Nat.le_of_ble_eq_true rfl⟩) hS (fun q _ h => hFc q h) hFc (fun u9 r1 t H1 locs ht hvm hr9 hB hz1 hk1 hS => ?_)
  obtain ⟨hP1, hK1, hD1⟩ := hB
  rw [ht] at hP1
  obtain ⟨hP, hD⟩ := xjoin (W := [(a0, .inr (5, [v12, .ref a4, .int 1, v13, .int x14, v15, v16, v17, v18, v19, v20, v21, v22, v23, v24, .ref a3, .int 4, .int 4, .int 0, .int 100, v30, v31, v32, v33, .ref a1, .ref a2, v34, v35, v36, v37, v38, v39])), (a1, .inl (cT 5, 8, .inr (.inr (.inr (.inr f40))))), (a2, .inl (cT 1, 8, .inl f42)), (a3, .inl (cT 0, 4096, .inl f44)), (a4, .inl (cT 4, 1024, .inr (.inr (.inr (.inr (va_up f49 0 (some r1))))))), (r1, .inr (6, [.int 0, .long 0, .int 0, .int 0, .int 0, .int 1]))]) hP hD [0, 1, 2, 3, 4] [] 0 rfl rfl (by decide) (by decide) hk1 hFc hP1 hD1
  generalize H1 = H at hP hS ⊢
  refine W.eq (g2 := F0 m 6 ls [.ref r1]) rfl ?_
  refine lv_astore (lv' := [(6, .ref r1), (0, .ref a0), (1, .int x5), (2, .int 1), (3, .int 13), (4, .int x6), (5, .int x11)]) hx hb dM_finish_6 hl (by decide) rfl (fun ls hl => ?_)
  refine lv_iload_n hx hb dM_finish_8 rfl (lv_at hl 3 rfl) ?_
  refine lv_iconst (v := 1) hx hb dM_finish_9 (by decide) ?_
  refine lv_icmp_ne (tgt := 17) hx hb dM_finish_10 (by decide) (fun h => ((by revert h; decide : False)).elim) (fun _ => ?_)
  refine lv_null hx hb dM_finish_13 ?_
  refine lv_goto (tgt := 23) hx hb dM_finish_14 (by decide) ?_
  refine lv_astoreN (lv' := [(7, .null), (6, .ref r1), (0, .ref a0), (1, .int x5), (2, .int 1), (3, .int 13), (4, .int x6), (5, .int x11)]) hx hb dM_finish_23 hl (by decide) rfl (fun ls hl => ?_)
  refine lv_iload_n hx hb dM_finish_25 rfl (lv_at hl 4 rfl) ?_
  refine lv_if_ne (tgt := 43) hx hb dM_finish_26 (by decide) (fun _ => ?_) (fun h => ((by revert h; decide : False)).elim)
  refine lv_iload_n hx hb dM_finish_43 rfl (lv_at hl 4 rfl) ?_
  refine lv_iconst (v := 1) hx hb dM_finish_44 (by decide) ?_
  refine lv_icmp_ne (tgt := 60) hx hb dM_finish_45 (by decide) (fun h => ((by revert h; decide : False)).elim) (fun _ => ?_)
  refine lv_aload_n hx hb dM_finish_48 rfl (lv_at hl 2 rfl) ?_
  refine lv_iload_n hx hb dM_finish_49 rfl (lv_at hl 5 rfl) ?_
  refine lv_aload hx hb dM_finish_50 (lv_at hl 1 rfl) ?_
  obtain ⟨hPc, hDc, hFc⟩ := xcut (wc := [(a0, .inr (5, [v12, .ref a4, .int 1, v13, .int x14, v15, v16, v17, v18, v19, v20, v21, v22, v23, v24, .ref a3, .int 4, .int 4, .int 0, .int 100, v30, v31, v32, v33, .ref a1, .ref a2, v34, v35, v36, v37, v38, v39])), (r1, .inr (6, [.int 0, .long 0, .int 0, .int 0, .int 0, .int 1]))]) hP hD hS hA [0, 5] rfl rfl (by decide)
  refine xx_thr (vx_runV (C := "ValueBenchModel") (As := [.int 13, .ref r1]) (rest := []) ⟨hx, hb, hml, hown, htx⟩ (cM_one1_13 l hl9 D cT aK aV H.size a0 r1 v12 (.ref a4) (.int 1) v13 x14 v15 v16 v17 v18 v19 v20 v21 v22 v23 v24 (.ref a3) (.int 4) (.int 4) (.int 0) (.int 100) v30 v31 v32 v33 (.ref a1) (.ref a2) v34 v35 v36 v37 v38 v39 (.long 0) (.int 0) (.int 0) (.int 0) (.int 1)) ⟨callB_of 2 htx (xw_goodC kw_6_237) rfl rfl rfl (htx _ kw_1_5) (htx _ kw_6_234) ⟨by decide, by decide, by decide +kernel⟩ ⟨Nat.le_of_ble_eq_true rfl, Nat.le_of_ble_eq_true rfl⟩, (htx _ kw_6_236), (htx _ kp_M_one1)⟩ ⟨xPre_blind, va_recv hK hP (ci := 5) rfl (q0 := 0) rfl, (fun U hU hW => ⟨rfl, xPre_of hZ hS hFc hPc hDc hK U hU hW⟩)⟩ rfl rfl hl.1 rfl (lv_room (Nat.le_of_ble_eq_true rfl)) dM_finish_52 ⟨Nat.le_of_ble_eq_true rfl, Nat.le_of_ble_eq_true rfl⟩) hS hFc (fun q _ h => hFc q h) (fun E ce q9 u9 t H1 locs ht hvm _ hB hz1 hk1 hS hce hcv hcl => ?_)
  obtain ⟨rfl, hP1, hK1, hD1⟩ := hB
  rw [ht] at hP1
  obtain ⟨hP, hD⟩ := xjoin (W := [(a1, .inl (cT 5, 8, .inr (.inr (.inr (.inr f40))))), (a2, .inl (cT 1, 8, .inl f42)), (a3, .inl (cT 0, 4096, .inl f44)), (a4, .inl (cT 4, 1024, .inr (.inr (.inr (.inr (va_up f49 0 (some r1))))))), (a0, .inr (5, [v12, .ref a4, .int 1, v13, .int x14, v15, v16, v17, .int 1, v19, v20, v21, v22, v23, v24, .ref a3, .int 4, .int 4, .int 0, .int 100, v30, v31, v32, v33, .ref a1, .ref a2, v34, v35, v36, v37, v38, v39])), (r1, .inr (6, [.int 0, .long 0, .int 0, .int 0, .int 0, .int 1]))]) hP hD [0, 5] [1, 2, 3, 4] 4 rfl rfl (by decide) (by decide) hk1 hFc hP1 hD1
  generalize H1 = H at hP hS hce ⊢
  refine vx_catch (own := "ValueBenchModel") (name := "java/lang/ArithmeticException") (E := "java/lang/ArithmeticException") hown [] ⟨0, 128, 131, 83⟩ [⟨0, 128, 149, 86⟩] (by rw [htab]; rfl) (fun z hz => nomatch hz) (by decide) (by decide) (htx _ kw_6_94) ((hZ.2.2.2.2.2.1 "java/lang/ArithmeticException" (List.mem_of_getElem? (i := 3) rfl)).use rfl) hce hcv hcl ?_
  refine lv_astore (lv' := [(6, .ref q9), (7, .null), (0, .ref a0), (1, .int x5), (2, .int 1), (3, .int 13), (4, .int x6), (5, .int x11)]) hx hb dM_finish_131 hl (by decide) rfl (fun ls hl => ?_)
  refine lv_aload_n hx hb dM_finish_133 rfl (lv_at hl 2 rfl) ?_
  refine lv_aload_n hx hb dM_finish_134 rfl (lv_at hl 2 rfl) ?_
  refine va_get (D := D) (ci := 5) (v := .int 1) (C := "ValueBenchModel") (T := TM) (N := 32) hx hb htx inM hown hK hP 4 rfl rfl 8 (by decide) (htx _ kw_5_95) (fun _ h9 => h9) rfl dM_finish_135 ?_
  refine va_put (D := D) (ci := 5) (v := .int 1) (ty := .int) (C := "ValueBenchModel") (T := TM) (N := 32) hx hb htx inM tyM tyM_ok nmM hown hK hP hD hS 4 rfl rfl 30 (by decide) (htx _ kw_5_117) (fun _ h9 => h9) rfl (by decide +kernel) rfl rfl (Nat.le_of_ble_eq_true rfl) dM_finish_138 (fun H locs hP hD hS => ?_)
  obtain ⟨hP, hD⟩ : xPD D xcl A [(a1, .inl (cT 5, 8, .inr (.inr (.inr (.inr f40))))), (a2, .inl (cT 1, 8, .inl f42)), (a3, .inl (cT 0, 4096, .inl f44)), (a4, .inl (cT 4, 1024, .inr (.inr (.inr (.inr (va_up f49 0 (some r1))))))), (a0, .inr (5, [v12, .ref a4, .int 1, v13, .int x14, v15, v16, v17, .int 1, v19, v20, v21, v22, v23, v24, .ref a3, .int 4, .int 4, .int 0, .int 100, v30, v31, v32, v33, .ref a1, .ref a2, v34, v35, v36, v37, .int 1, v39])), (r1, .inr (6, [.int 0, .long 0, .int 0, .int 0, .int 0, .int 1]))] H := ⟨hP, hD⟩
  refine lv_aload_n hx hb dM_finish_141 rfl (lv_at hl 2 rfl) ?_
  refine lv_iconst (v := 2) hx hb dM_finish_142 (by decide) ?_
  refine va_put (D := D) (ci := 5) (v := .int 2) (ty := .int) (C := "ValueBenchModel") (T := TM) (N := 32) hx hb htx inM tyM tyM_ok nmM hown hK hP hD hS 4 rfl rfl 0 (by decide) (htx _ kw_5_87) (fun _ h9 => h9) rfl (by decide +kernel) rfl rfl (Nat.le_of_ble_eq_true rfl) dM_finish_143 (fun H locs hP hD hS => ?_)
  obtain ⟨hP, hD⟩ : xPD D xcl A [(a1, .inl (cT 5, 8, .inr (.inr (.inr (.inr f40))))), (a2, .inl (cT 1, 8, .inl f42)), (a3, .inl (cT 0, 4096, .inl f44)), (a4, .inl (cT 4, 1024, .inr (.inr (.inr (.inr (va_up f49 0 (some r1))))))), (a0, .inr (5, [.int 2, .ref a4, .int 1, v13, .int x14, v15, v16, v17, .int 1, v19, v20, v21, v22, v23, v24, .ref a3, .int 4, .int 4, .int 0, .int 100, v30, v31, v32, v33, .ref a1, .ref a2, v34, v35, v36, v37, .int 1, v39])), (r1, .inr (6, [.int 0, .long 0, .int 0, .int 0, .int 0, .int 1]))] H := ⟨hP, hD⟩
  refine lv_goto (tgt := 156) hx hb dM_finish_146 (by decide) ?_
  obtain ⟨hP9, hD9⟩ := xsub (wc := [(a0, .inr (5, [.int 2, .ref a4, .int 1, v13, .int x14, v15, v16, v17, .int 1, v19, v20, v21, v22, v23, v24, .ref a3, .int 4, .int 4, .int 0, .int 100, v30, v31, v32, v33, .ref a1, .ref a2, v34, v35, v36, v37, .int 1, v39])), (a1, .inl (cT 5, 8, .inr (.inr (.inr (.inr f40))))), (a2, .inl (cT 1, 8, .inl f42)), (a3, .inl (cT 0, 4096, .inl f44)), (a4, .inl (cT 4, 1024, .inr (.inr (.inr (.inr (va_up f49 0 (some r1))))))), (r1, .inr (6, [.int 0, .long 0, .int 0, .int 0, .int 0, .int 1]))]) hP hD [4, 0, 1, 2, 3, 5] rfl rfl (by decide)
  refine W.widen (k := 2) (n := 12) (Nat.le_of_ble_eq_true rfl) (Nat.le_of_ble_eq_true rfl) ?_
  exact W.vret hx hb hr (fun t ht hW => ⟨⟨(), rfl, trivial, r1, by rw [ht]; exact hP9, va_K.moved hW.alike hK, hD9⟩, hS.F ht⟩) hS.2.2 dM_finish_156
set_option maxHeartbeats 400000000 in
set_option maxRecDepth 100000 in
theorem cM_one0_24 (l : Launch) (hl9 : l.stackTraces = false) (D : va_G) (cT : Nat → ClassId) (aK aV : Nat → Nat) (sz : Nat) (a0 : Nat) (a1 : Nat) (a2 : Nat) (a3 : Nat) (a4 : Nat) (x5 : Int32) (x10 : Int32) (v15 : Value) (v16 : Value) (v17 : Value) (v18 : Value) (v19 : Value) (v20 : Value) (v21 : Value) (v22 : Value) (v23 : Value) (v24 : Value) (v25 : Value) (v26 : Value) (v27 : Value) (v28 : Value) (v29 : Value) (v30 : Value) (v31 : Value) (v32 : Value) (v33 : Value) (v34 : Value) (v35 : Value) (v36 : Value) (v37 : Value) (v38 : Value) (v39 : Value) (v40 : Value) (v41 : Value) (v42 : Value) (v43 : Value) (f44 : Nat → Option Nat) (f46 : Nat → Int32) (f48 : Nat → Int32) (f53 : Nat → Option Nat) (h6 : ¬ x5 < 0) (h7 : ¬ 7 < x5) (h8 : x5 ≤ 7) (h9 : vp_in x5 8) (h11 : ¬ x10 < 0) (h12 : ¬ 7 < x10) (h13 : x10 ≤ 7) (h14 : vp_in x10 8) (h45 : f44 x10.toNatClampNeg = some a3) (h47 : f46 x10.toNatClampNeg = 4) (h49 : f48 0 = 110) (h50 : f48 1 = 117) (h51 : f48 2 = 108) (h52 : f48 3 = 108) (h54 : f53 0 = none) : xMet l yM_one0 wyM_one0 11 2 12 218 D cT aK aV sz [.ref a0, .int x5, .int 13, .int x10] [(a0, .inr (5, [v15, .ref a4, v16, v17, v18, v19, v20, v21, v22, v23, v24, v25, v26, v27, v28, v29, v30, v31, v32, v33, v34, v35, v36, v37, .ref a1, .ref a2, v38, v39, v40, v41, v42, v43])), (a1, .inl (cT 5, 8, .inr (.inr (.inr (.inr f44))))), (a2, .inl (cT 1, 8, .inl f46)), (a3, .inl (cT 0, 4096, .inl f48)), (a4, .inl (cT 4, 1024, .inr (.inr (.inr (.inr f53)))))] (fun A => va_Qv (fun _ : Unit => True) (fun _ t => ∃ (q3 : Nat), xB D xcl cT A [(a0, .inr (5, [.int 2, .ref a4, .int 1, v17, .int 0, v19, v20, .int 0, .int 1, .int 0, v24, v25, .int 0, v27, v28, .ref a3, .int 4, .int 4, .int 0, .int 100, v34, v35, .int 0, .int 1000000000, .ref a1, .ref a2, v38, v39, v40, v41, .int 1, v43])), (a1, .inl (cT 5, 8, .inr (.inr (.inr (.inr f44))))), (a2, .inl (cT 1, 8, .inl f46)), (a3, .inl (cT 0, 4096, .inl f48)), (a4, .inl (cT 4, 1024, .inr (.inr (.inr (.inr (va_up f53 0 (some q3))))))), (q3, .inr (6, [.int 0, .long 0, .int 0, .int 0, .int 0, .int 1]))] t) A) := by
  refine Met.ofW (cc := prog_13_method_92_code) (maxL := 4) (ret := none) (by decide) rfl ?_
  intro p e s m args below meth c s₁ B hml hv
  obtain ⟨rfl, hsz, hZ, hP, hK, hD0⟩ := hv
  have hx := B.exec
  have hb := B.bytes
  have hr := B.returns
  have hts := atoms_spec (ws := wyM_one0) B.pre
  have htx := fun w h => hts w (List.mem_cons_of_mem _ h)
  have hown : s.vm.findClass "ValueBenchModel" = some m.cls := findClass_of_methodNamed B.named
  have hlocks := B.notSynchronized
  subst hsz
  have hD := hD0.self (sz := s.heap.size)
  generalize hAe : va_A [(a0, .inr (5, [v15, .ref a4, v16, v17, v18, v19, v20, v21, v22, v23, v24, v25, v26, v27, v28, v29, v30, v31, v32, v33, v34, v35, v36, v37, .ref a1, .ref a2, v38, v39, v40, v41, v42, v43])), (a1, .inl (cT 5, 8, .inr (.inr (.inr (.inr f44))))), (a2, .inl (cT 1, 8, .inl f46)), (a3, .inl (cT 0, 4096, .inl f48)), (a4, .inl (cT 4, 1024, .inr (.inr (.inr (.inr f53)))))] s.heap.size = A at hD hZ ⊢
  have hA : ∀ q : Nat, s.heap.size ≤ q → A q := fun q h => by rw [← hAe]; exact Or.inr h
  have hS : va_S A s.heap s.heap [] := va_S.rf
  have hP : va_P D xcl [(a0, .inr (5, [v15, .ref a4, v16, v17, v18, v19, v20, v21, v22, v23, v24, v25, v26, v27, v28, v29, v30, v31, v32, v33, v34, v35, v36, v37, .ref a1, .ref a2, v38, v39, v40, v41, v42, v43])), (a1, .inl (cT 5, 8, .inr (.inr (.inr (.inr f44))))), (a2, .inl (cT 1, 8, .inl f46)), (a3, .inl (cT 0, 4096, .inl f48)), (a4, .inl (cT 4, 1024, .inr (.inr (.inr (.inr f53)))))] s.heap := hP
  have hl := lv_entry ([.ref a0, .int x5, .int 13, .int x10]) (n := 4) (Nat.le_of_ble_eq_true rfl)
  rw [lg_entry_eq]
  generalize (lg_sl ([.ref a0, .int x5, .int 13, .int x10]) ++ List.replicate (4 - (lg_sl ([.ref a0, .int x5, .int 13, .int x10])).length) Slot.unset).toArray = ls at hl ⊢
  have hl : lv_has ls 4 [(0, .ref a0), (1, .int x5), (2, .int 13), (3, .int x10)] := hl
  refine lv_aload_n hx hb dM_one0_0 rfl (lv_at hl 0 rfl) ?_
  obtain ⟨hPc, hDc, hFc⟩ := xcut (wc := [(a0, .inr (5, [v15, .ref a4, v16, v17, v18, v19, v20, v21, v22, v23, v24, v25, v26, v27, v28, v29, v30, v31, v32, v33, v34, v35, v36, v37, .ref a1, .ref a2, v38, v39, v40, v41, v42, v43]))]) hP hD hS hA [0] rfl rfl (by decide)
  refine va_callv (va_runV (C := "ValueBenchModel") (As := []) (rest := []) ⟨hx, hb, hml, hown, htx⟩ (cM_begin_0 l hl9 D cT aK aV s.heap.size a0 v15 (.ref a4) v16 v17 v18 v19 v20 v21 v22 v23 v24 v25 v26 v27 v28 v29 v30 v31 v32 v33 v34 v35 v36 v37 (.ref a1) (.ref a2) v38 v39 v40 v41 v42 v43) ⟨callB_of 0 htx (xw_goodC kw_5_209) rfl rfl rfl (htx _ kw_1_5) (htx _ kw_5_206) ⟨by decide, by decide, by decide +kernel⟩ ⟨Nat.le_of_ble_eq_true rfl, Nat.le_of_ble_eq_true rfl⟩, (htx _ kw_5_208), (htx _ kp_M_begin)⟩ ⟨xPre_blind, va_recv hK hP (ci := 5) rfl (q0 := 0) rfl, (fun U hU hW => ⟨rfl, xPre_of hZ hS hFc hPc hDc hK U hU hW⟩)⟩ rfl rfl hl.1 rfl (lv_room (Nat.le_of_ble_eq_true rfl)) dM_one0_1 ⟨Nat.le_of_ble_eq_true rfl, Nat.le_of_ble_eq_true rfl⟩) hS (fun q _ h => hFc q h) hFc (fun u9 t H1 locs ht hvm hr9 hB hz1 hk1 hS => ?_)
  obtain ⟨hP1, hK1, hD1⟩ := hB
  rw [ht] at hP1
  obtain ⟨hP, hD⟩ := xjoin (W := [(a1, .inl (cT 5, 8, .inr (.inr (.inr (.inr f44))))), (a2, .inl (cT 1, 8, .inl f46)), (a3, .inl (cT 0, 4096, .inl f48)), (a4, .inl (cT 4, 1024, .inr (.inr (.inr (.inr f53))))), (a0, .inr (5, [.int 0, .ref a4, .int 0, v17, .int 0, v19, v20, .int 0, v22, .int 0, v24, v25, .int 0, v27, v28, v29, v30, v31, v32, v33, v34, v35, .int 0, .int 1000000000, .ref a1, .ref a2, v38, v39, v40, v41, v42, v43]))]) hP hD [0] [1, 2, 3, 4] 4 rfl rfl (by decide) (by decide) hk1 hFc hP1 hD1
  generalize H1 = H at hP hS ⊢
  refine lv_aload_n hx hb dM_one0_4 rfl (lv_at hl 0 rfl) ?_
  refine lv_iload_n hx hb dM_one0_5 rfl (lv_at hl 1 rfl) ?_
  obtain ⟨hPc, hDc, hFc⟩ := xcut (wc := []) hP hD hS hA [] rfl rfl (by decide)
  refine va_calli (va_runV (C := "ValueBenchModel") (As := [.int x5]) (rest := []) ⟨hx, hb, hml, hown, htx⟩ (cM_out_2 l hl9 D cT aK aV H.size a0 x5 h6 h7 h8 h9) ⟨callB_of 1 htx (xw_goodC kw_5_217) rfl rfl rfl (htx _ kw_1_5) (htx _ kw_5_214) ⟨by decide, by decide, by decide +kernel⟩ ⟨Nat.le_of_ble_eq_true rfl, Nat.le_of_ble_eq_true rfl⟩, (htx _ kw_5_216), (htx _ kp_M_out)⟩ ⟨xPre_blind, va_recv hK hP (ci := 5) rfl (q0 := 4) rfl, (fun U hU hW => ⟨rfl, xPre_of hZ hS hFc hPc hDc hK U hU hW⟩)⟩ rfl rfl hl.1 rfl (lv_room (Nat.le_of_ble_eq_true rfl)) dM_one0_6 ⟨Nat.le_of_ble_eq_true rfl, Nat.le_of_ble_eq_true rfl⟩) hS (fun q _ h => hFc q h) hFc (fun r1 u9 t H1 locs ht hvm hr9 hB hz1 hk1 hS => ?_)
  obtain ⟨hP1, hK1, hD1⟩ := hB
  rw [ht] at hP1
  obtain ⟨hP, hD⟩ := xjoin (W := [(a1, .inl (cT 5, 8, .inr (.inr (.inr (.inr f44))))), (a2, .inl (cT 1, 8, .inl f46)), (a3, .inl (cT 0, 4096, .inl f48)), (a4, .inl (cT 4, 1024, .inr (.inr (.inr (.inr f53))))), (a0, .inr (5, [.int 0, .ref a4, .int 0, v17, .int 0, v19, v20, .int 0, v22, .int 0, v24, v25, .int 0, v27, v28, v29, v30, v31, v32, v33, v34, v35, .int 0, .int 1000000000, .ref a1, .ref a2, v38, v39, v40, v41, v42, v43]))]) hP hD [] [0, 1, 2, 3, 4] 5 rfl rfl (by decide) (by decide) hk1 hFc hP1 hD1
  generalize H1 = H at hP hS ⊢
  rw [hr9]
  refine W.eq (g2 := F0 m 9 ls [.int 0]) rfl ?_
  refine lv_if_ne (tgt := 30) hx hb dM_one0_9 (by decide) (fun h => ((by revert h; decide : False)).elim) (fun _ => ?_)
  refine lv_iload_n hx hb dM_one0_12 rfl (lv_at hl 2 rfl) ?_
  refine lv_if_lt (tgt := 30) hx hb dM_one0_13 (by decide) (fun h => ((by revert h; decide : False)).elim) (fun _ => ?_)
  refine lv_iload_n hx hb dM_one0_16 rfl (lv_at hl 2 rfl) ?_
  refine lv_bipush (v := 13) hx hb dM_one0_17 (by decide) ?_
  refine lv_icmp_gt (tgt := 30) hx hb dM_one0_19 (by decide) (fun h => ((by revert h; decide : False)).elim) (fun _ => ?_)
  refine lv_aload_n hx hb dM_one0_22 rfl (lv_at hl 0 rfl) ?_
  refine lv_iload_n hx hb dM_one0_23 rfl (lv_at hl 3 rfl) ?_
  obtain ⟨hPc, hDc, hFc⟩ := xcut (wc := []) hP hD hS hA [] rfl rfl (by decide)
  refine va_calli (va_runV (C := "ValueBenchModel") (As := [.int x10]) (rest := []) ⟨hx, hb, hml, hown, htx⟩ (cM_out_2 l hl9 D cT aK aV H.size a0 x10 h11 h12 h13 h14) ⟨callB_of 1 htx (xw_goodC kw_5_217) rfl rfl rfl (htx _ kw_1_5) (htx _ kw_5_214) ⟨by decide, by decide, by decide +kernel⟩ ⟨Nat.le_of_ble_eq_true rfl, Nat.le_of_ble_eq_true rfl⟩, (htx _ kw_5_216), (htx _ kp_M_out)⟩ ⟨xPre_blind, va_recv hK hP (ci := 5) rfl (q0 := 4) rfl, (fun U hU hW => ⟨rfl, xPre_of hZ hS hFc hPc hDc hK U hU hW⟩)⟩ rfl rfl hl.1 rfl (lv_room (Nat.le_of_ble_eq_true rfl)) dM_one0_24 ⟨Nat.le_of_ble_eq_true rfl, Nat.le_of_ble_eq_true rfl⟩) hS (fun q _ h => hFc q h) hFc (fun r2 u9 t H1 locs ht hvm hr9 hB hz1 hk1 hS => ?_)
  obtain ⟨hP1, hK1, hD1⟩ := hB
  rw [ht] at hP1
  obtain ⟨hP, hD⟩ := xjoin (W := [(a1, .inl (cT 5, 8, .inr (.inr (.inr (.inr f44))))), (a2, .inl (cT 1, 8, .inl f46)), (a3, .inl (cT 0, 4096, .inl f48)), (a4, .inl (cT 4, 1024, .inr (.inr (.inr (.inr f53))))), (a0, .inr (5, [.int 0, .ref a4, .int 0, v17, .int 0, v19, v20, .int 0, v22, .int 0, v24, v25, .int 0, v27, v28, v29, v30, v31, v32, v33, v34, v35, .int 0, .int 1000000000, .ref a1, .ref a2, v38, v39, v40, v41, v42, v43]))]) hP hD [] [0, 1, 2, 3, 4] 5 rfl rfl (by decide) (by decide) hk1 hFc hP1 hD1
  generalize H1 = H at hP hS ⊢
  rw [hr9]
  refine W.eq (g2 := F0 m 27 ls [.int 0]) rfl ?_
  refine lv_if_eq (tgt := 38) hx hb dM_one0_27 (by decide) (fun _ => ?_) (fun h => ((by revert h; decide : False)).elim)
  refine lv_aload_n hx hb dM_one0_38 rfl (lv_at hl 0 rfl) ?_
  refine lv_iload_n hx hb dM_one0_39 rfl (lv_at hl 1 rfl) ?_
  refine lv_iconst (v := 1) hx hb dM_one0_40 (by decide) ?_
  refine lv_iload_n hx hb dM_one0_41 rfl (lv_at hl 2 rfl) ?_
  refine lv_iload_n hx hb dM_one0_42 rfl (lv_at hl 3 rfl) ?_
  refine lv_iload_n hx hb dM_one0_43 rfl (lv_at hl 3 rfl) ?_
  obtain ⟨hPc, hDc, hFc⟩ := xcut (wc := [(a0, .inr (5, [.int 0, .ref a4, .int 0, v17, .int 0, v19, v20, .int 0, v22, .int 0, v24, v25, .int 0, v27, v28, v29, v30, v31, v32, v33, v34, v35, .int 0, .int 1000000000, .ref a1, .ref a2, v38, v39, v40, v41, v42, v43])), (a1, .inl (cT 5, 8, .inr (.inr (.inr (.inr f44))))), (a2, .inl (cT 1, 8, .inl f46)), (a3, .inl (cT 0, 4096, .inl f48)), (a4, .inl (cT 4, 1024, .inr (.inr (.inr (.inr f53)))))]) hP hD hS hA [4, 0, 1, 2, 3] rfl rfl (by decide)
  refine va_callv (vx_runVW (C := "ValueBenchModel") (As := [.int x5, .int 1, .int 13, .int x10, .int x10]) (rest := []) ⟨hx, hb, hml, hown, htx⟩ (cM_finish_31 l hl9 D cT aK aV H.size a0 a1 a2 a3 a4 x5 x10 x10 (.int 0) v17 0 v19 v20 (.int 0) v22 (.int 0) v24 v25 (.int 0) v27 v28 v29 v30 v31 v32 v33 v34 v35 (.int 0) (.int 1000000000) v38 v39 v40 v41 v42 v43 f44 f46 f48 f53 h11 h12 h13 h14 (by first | rfl | exact h45 | exact h47 | exact h49 | exact h50 | exact h51 | exact h52 | exact h54) (by first | rfl | exact h45 | exact h47 | exact h49 | exact h50 | exact h51 | exact h52 | exact h54) (by first | rfl | exact h45 | exact h47 | exact h49 | exact h50 | exact h51 | exact h52 | exact h54) (by first | rfl | exact h45 | exact h47 | exact h49 | exact h50 | exact h51 | exact h52 | exact h54) (by first | rfl | exact h45 | exact h47 | exact h49 | exact h50 | exact h51 | exact h52 | exact h54) (by first | rfl | exact h45 | exact h47 | exact h49 | exact h50 | exact h51 | exact h52 | exact h54) (by first | rfl | exact h45 | exact h47 | exact h49 | exact h50 | exact h51 | exact h52 | exact h54)) (xcVW 5 htx (xw_goodC kw_6_195) rfl rfl rfl (htx _ kw_1_5) (htx _ kw_6_192) ⟨by decide, by decide, by decide +kernel⟩ ⟨Nat.le_of_ble_eq_true rfl, Nat.le_of_ble_eq_true rfl⟩ (htx _ kw_6_194) (htx _ kp_M_finish)) ⟨xPre_blind, va_recv hK hP (ci := 5) rfl (q0 := 4) rfl, (fun U hU hW => ⟨rfl, xPre_of hZ hS hFc hPc hDc hK U hU hW⟩)⟩ rfl rfl hl.1 rfl (lv_room (Nat.le_of_ble_eq_true rfl)) dM_one0_44 ⟨Nat.le_of_ble_eq_true rfl, Nat.le_of_ble_eq_true rfl⟩) hS (fun q _ h => hFc q h) hFc (fun u9 t H1 locs ht hvm hr9 hB hz1 hk1 hS => ?_)
  obtain ⟨q3, hP1, hK1, hD1⟩ := hB
  rw [ht] at hP1
  obtain ⟨hP, hD⟩ := xjoin (W := [(a0, .inr (5, [.int 2, .ref a4, .int 1, v17, .int 0, v19, v20, .int 0, .int 1, .int 0, v24, v25, .int 0, v27, v28, .ref a3, .int 4, .int 4, .int 0, .int 100, v34, v35, .int 0, .int 1000000000, .ref a1, .ref a2, v38, v39, v40, v41, .int 1, v43])), (a1, .inl (cT 5, 8, .inr (.inr (.inr (.inr f44))))), (a2, .inl (cT 1, 8, .inl f46)), (a3, .inl (cT 0, 4096, .inl f48)), (a4, .inl (cT 4, 1024, .inr (.inr (.inr (.inr (va_up f53 0 (some q3))))))), (q3, .inr (6, [.int 0, .long 0, .int 0, .int 0, .int 0, .int 1]))]) hP hD [4, 0, 1, 2, 3] [] 0 rfl rfl (by decide) (by decide) hk1 hFc hP1 hD1
  generalize H1 = H at hP hS ⊢
  obtain ⟨hP9, hD9⟩ := xsub (wc := [(a0, .inr (5, [.int 2, .ref a4, .int 1, v17, .int 0, v19, v20, .int 0, .int 1, .int 0, v24, v25, .int 0, v27, v28, .ref a3, .int 4, .int 4, .int 0, .int 100, v34, v35, .int 0, .int 1000000000, .ref a1, .ref a2, v38, v39, v40, v41, .int 1, v43])), (a1, .inl (cT 5, 8, .inr (.inr (.inr (.inr f44))))), (a2, .inl (cT 1, 8, .inl f46)), (a3, .inl (cT 0, 4096, .inl f48)), (a4, .inl (cT 4, 1024, .inr (.inr (.inr (.inr (va_up f53 0 (some q3))))))), (q3, .inr (6, [.int 0, .long 0, .int 0, .int 0, .int 0, .int 1]))]) hP hD [0, 1, 2, 3, 4, 5] rfl rfl (by decide)
  refine W.widen (k := 2) (n := 12) (Nat.le_of_ble_eq_true rfl) (Nat.le_of_ble_eq_true rfl) ?_
  exact W.vret hx hb hr (fun t ht hW => ⟨⟨(), rfl, trivial, q3, by rw [ht]; exact hP9, va_K.moved hW.alike hK, hD9⟩, hS.F ht⟩) hS.2.2 dM_one0_47
set_option maxHeartbeats 400000000 in
set_option maxRecDepth 100000 in
theorem cB_two_0 (l : Launch) (hl9 : l.stackTraces = false) (D : va_G) (cT : Nat → ClassId) (aK aV : Nat → Nat) (sz : Nat) (b0 : Nat) (x1 : Int32) (x3 : Int32) (x4 : Int32) (x5 : Int32) (h2 : x1 < 0) : xMetX l yB_two wyB_two 7 1 6 120 D cT aK aV sz [.ref b0, .int x1, .int x3, .int x4, .int x5] [] "java/lang/IllegalArgumentException" (fun A t => xB D xcl cT A [] t) := by
  refine vx_ofW (cc := prog_1_method_10_code) (maxL := 5) (ret := none) (by decide) rfl ?_
  intro p e s m args below meth c s₁ B hml hne hv
  obtain ⟨rfl, hsz, hZ, hP, hK, hD0⟩ := hv
  have hx := B.exec
  have hb := B.bytes
  have hr := B.returns
  have hts := atoms_spec (ws := wyB_two) B.pre
  have htx := fun w h => hts w (List.mem_cons_of_mem _ h)
  have hown : s.vm.findClass "ValueBench" = some m.cls := findClass_of_methodNamed B.named
  have hlocks := B.notSynchronized
  subst hsz
  have hD := hD0.self (sz := s.heap.size)
  generalize hAe : va_A [] s.heap.size = A at hD hZ ⊢
  have hA : ∀ q : Nat, s.heap.size ≤ q → A q := fun q h => by rw [← hAe]; exact Or.inr h
  have hS : va_S A s.heap s.heap [] := va_S.rf
  have hP : va_P D xcl [] s.heap := hP
  have hl := lv_entry ([.ref b0, .int x1, .int x3, .int x4, .int x5]) (n := 5) (Nat.le_of_ble_eq_true rfl)
  rw [lg_entry_eq]
  generalize (lg_sl ([.ref b0, .int x1, .int x3, .int x4, .int x5]) ++ List.replicate (5 - (lg_sl ([.ref b0, .int x1, .int x3, .int x4, .int x5])).length) Slot.unset).toArray = ls at hl ⊢
  have hl : lv_has ls 5 [(0, .ref b0), (1, .int x1), (2, .int x3), (3, .int x4), (4, .int x5)] := hl
  refine lv_iload_n hx hb dB_two_0 rfl (lv_at hl 1 rfl) ?_
  obtain ⟨hPc, hDc, hFc⟩ := xcut (wc := []) hP hD hS hA [] rfl rfl (by decide)
  refine va_calli (va_runS (As := [.int x1]) (rest := []) ⟨hx, hb, hml, hown, htx⟩ (cB_isRegister_0 l hl9 D cT aK aV s.heap.size x1 h2) ⟨callB_of 1 htx (xw_goodC kw_2_18) rfl rfl rfl (htx _ kw_1_1) (htx _ kw_2_16) ⟨by decide, by decide, by decide +kernel⟩ ⟨Nat.le_of_ble_eq_true rfl, Nat.le_of_ble_eq_true rfl⟩, htx _ kw_2_17⟩ ⟨xPre_blind, (fun U hU hW => ⟨rfl, xPre_of hZ hS hFc hPc hDc hK U hU hW⟩)⟩ rfl rfl hl.1 rfl (lv_room (Nat.le_of_ble_eq_true rfl)) dB_two_1 ⟨Nat.le_of_ble_eq_true rfl, Nat.le_of_ble_eq_true rfl⟩) hS (fun q _ h => hFc q h) hFc (fun r1 u9 t H1 locs ht hvm hr9 hB hz1 hk1 hS => ?_)
  obtain ⟨hP1, hK1, hD1⟩ := hB
  rw [ht] at hP1
  obtain ⟨hP, hD⟩ := xjoin (W := []) hP hD [] [] 0 rfl rfl (by decide) (by decide) hk1 hFc hP1 hD1
  generalize H1 = H at hP hS ⊢
  rw [hr9]
  refine W.eq (g2 := F0 m 4 ls [.int 0]) rfl ?_
  refine lv_if_eq (tgt := 35) hx hb dB_two_4 (by decide) (fun _ => ?_) (fun h => ((by revert h; decide : False)).elim)
  refine lv_iconst (v := 0) hx hb dB_two_35 (by decide) ?_
  obtain ⟨hPc, hDc, hFc⟩ := xcut (wc := []) hP hD hS hA [] rfl rfl (by decide)
  refine xx_thr (vx_runS (As := [.int 0]) (rest := []) ⟨hx, hb, hml, hown, htx⟩ (cB_demand_0 l hl9 D cT aK aV H.size) ⟨callB_of 1 htx (xw_goodC kw_1_221) rfl rfl rfl (htx _ kw_1_1) (htx _ kw_1_219) ⟨by decide, by decide, by decide +kernel⟩ ⟨Nat.le_of_ble_eq_true rfl, Nat.le_of_ble_eq_true rfl⟩, htx _ kw_1_220⟩ ⟨xPre_blind, (fun U hU hW => ⟨rfl, xPre_of hZ hS hFc hPc hDc hK U hU hW⟩)⟩ rfl rfl hl.1 rfl (lv_room (Nat.le_of_ble_eq_true rfl)) dB_two_36 ⟨Nat.le_of_ble_eq_true rfl, Nat.le_of_ble_eq_true rfl⟩) hS hFc (fun q _ h => hFc q h) (fun E ce q9 u9 t H1 locs ht hvm _ hB hz1 hk1 hS hce hcv hcl => ?_)
  obtain ⟨rfl, hP1, hK1, hD1⟩ := hB
  rw [ht] at hP1
  obtain ⟨hP, hD⟩ := xjoin (W := []) hP hD [] [] 0 rfl rfl (by decide) (by decide) hk1 hFc hP1 hD1
  generalize H1 = H at hP hS hce ⊢
  obtain ⟨hP9, hD9⟩ := xsub (wc := []) hP hD [] rfl rfl (by decide)
  exact vx_out (E := "java/lang/IllegalArgumentException") (fun x h => (hne x h).elim) hlocks hce hcv hcl (fun t ht ha => ⟨(), trivial, ⟨rfl, by rw [ht]; exact hP9, va_K.moved ha hK, hD9⟩, hS.F ht⟩) hS.2.2 (Nat.le_of_ble_eq_true rfl) (Nat.le_of_ble_eq_true rfl)
set_option maxHeartbeats 400000000 in
set_option maxRecDepth 100000 in
theorem cL_two_0 (l : Launch) (hl9 : l.stackTraces = false) (D : va_G) (cT : Nat → ClassId) (aK aV : Nat → Nat) (sz : Nat) (a0 : Nat) (x1 : Int32) (x3 : Int32) (x4 : Int32) (x5 : Int32) (v6 : Value) (v7 : Value) (v8 : Value) (v9 : Value) (v10 : Value) (v11 : Value) (v12 : Value) (v13 : Value) (h2 : x1 < 0) : xMet l yL_two wyL_two 8 1 6 144 D cT aK aV sz [.ref a0, .int x1, .int x3, .int x4, .int x5] [(a0, .inr (0, [v6, v7, v8, v9, v10, v11, v12, v13]))] (fun A => va_Qi (fun (r : Int32) (_ : Unit) => r = 1) (fun _ t => xB D xcl cT A [(a0, .inr (0, [v6, v7, v8, v9, v10, v11, v12, v13]))] t) A) := by
  refine va_MetW (cc := method_11_code) (maxL := 6) (ret := (some .int)) (hh := [(0, 9, 12, 19), (0, 9, 16, 33), (0, 9, 20, 13)]) (by decide) rfl ?_
  intro p e s m args below meth c s₁ B hml hv
  obtain ⟨rfl, hsz, hZ, hP, hK, hD0⟩ := hv
  have hx := B.exec
  have hb := B.bytes
  have hr := B.returns
  have hts := atoms_spec (ws := wyL_two) B.pre
  have htx := fun w h => hts w (List.mem_cons_of_mem _ h)
  have hown : s.vm.findClass "ValueBenchLaw" = some m.cls := findClass_of_methodNamed B.named
  have hlocks := B.notSynchronized
  subst hsz
  have hD := hD0.self (sz := s.heap.size)
  generalize hAe : va_A [(a0, .inr (0, [v6, v7, v8, v9, v10, v11, v12, v13]))] s.heap.size = A at hD hZ ⊢
  have hA : ∀ q : Nat, s.heap.size ≤ q → A q := fun q h => by rw [← hAe]; exact Or.inr h
  have hS : va_S A s.heap s.heap [] := va_S.rf
  have hP : va_P D xcl [(a0, .inr (0, [v6, v7, v8, v9, v10, v11, v12, v13]))] s.heap := hP
  have hl := lv_entry ([.ref a0, .int x1, .int x3, .int x4, .int x5]) (n := 6) (Nat.le_of_ble_eq_true rfl)
  rw [lg_entry_eq]
  generalize (lg_sl ([.ref a0, .int x1, .int x3, .int x4, .int x5]) ++ List.replicate (6 - (lg_sl ([.ref a0, .int x1, .int x3, .int x4, .int x5])).length) Slot.unset).toArray = ls at hl ⊢
  have hl : lv_has ls 6 [(0, .ref a0), (1, .int x1), (2, .int x3), (3, .int x4), (4, .int x5)] := hl
  have htab := vx_table (x := yL_two) B (hts _ List.mem_cons_self)
  refine lv_aload_n hx hb dL_two_0 rfl (lv_at hl 0 rfl) ?_
  refine lv_iload_n hx hb dL_two_1 rfl (lv_at hl 1 rfl) ?_
  refine lv_iload_n hx hb dL_two_2 rfl (lv_at hl 2 rfl) ?_
  refine lv_iload_n hx hb dL_two_3 rfl (lv_at hl 3 rfl) ?_
  refine lv_iload hx hb dL_two_4 (lv_at hl 4 rfl) ?_
  obtain ⟨hPc, hDc, hFc⟩ := xcut (wc := []) hP hD hS hA [] rfl rfl (by decide)
  refine xx_thr (vx_runV (C := "ValueBench") (As := [.int x1, .int x3, .int x4, .int x5]) (rest := []) ⟨hx, hb, hml, hown, htx⟩ (cB_two_0 l hl9 D cT aK aV s.heap.size a0 x1 x3 x4 x5 h2) ⟨callB_of 4 htx (xw_goodC kw_4_143) rfl rfl rfl (htx _ kw_1_1) (htx _ kw_4_140) ⟨by decide, by decide, by decide +kernel⟩ ⟨Nat.le_of_ble_eq_true rfl, Nat.le_of_ble_eq_true rfl⟩, (htx _ kw_4_141), (htx _ kw_4_142)⟩ ⟨xPre_blind, va_recv hK hP (ci := 0) rfl (q0 := 0) rfl, (fun U hU hW => ⟨rfl, xPre_of hZ hS hFc hPc hDc hK U hU hW⟩)⟩ rfl rfl hl.1 rfl (lv_room (Nat.le_of_ble_eq_true rfl)) dL_two_6 ⟨Nat.le_of_ble_eq_true rfl, Nat.le_of_ble_eq_true rfl⟩) hS hFc (fun q _ h => hFc q h) (fun E ce q9 u9 t H1 locs ht hvm _ hB hz1 hk1 hS hce hcv hcl => ?_)
  obtain ⟨rfl, hP1, hK1, hD1⟩ := hB
  rw [ht] at hP1
  obtain ⟨hP, hD⟩ := xjoin (W := [(a0, .inr (0, [v6, v7, v8, v9, v10, v11, v12, v13]))]) hP hD [] [0] 1 rfl rfl (by decide) (by decide) hk1 hFc hP1 hD1
  generalize H1 = H at hP hS hce ⊢
  refine vx_catch (own := "ValueBenchLaw") (name := "java/lang/IllegalArgumentException") (E := "java/lang/IllegalArgumentException") hown [] ⟨0, 9, 12, 19⟩ [⟨0, 9, 16, 33⟩, ⟨0, 9, 20, 13⟩] (by rw [htab]; rfl) (fun z hz => nomatch hz) (by decide) (by decide) (htx _ kw_1_211) ((hZ.2.2.2.2.2.1 "java/lang/IllegalArgumentException" (List.mem_of_getElem? (i := 1) rfl)).use rfl) hce hcv hcl ?_
  refine lv_astore (lv' := [(5, .ref q9), (0, .ref a0), (1, .int x1), (2, .int x3), (3, .int x4), (4, .int x5)]) hx hb dL_two_12 hl (by decide) rfl (fun ls hl => ?_)
  refine lv_iconst (v := 1) hx hb dL_two_14 (by decide) ?_
  obtain ⟨hP9, hD9⟩ := xsub (wc := [(a0, .inr (0, [v6, v7, v8, v9, v10, v11, v12, v13]))]) hP hD [0] rfl rfl (by decide)
  refine W.widen (k := 1) (n := 6) (Nat.le_of_ble_eq_true rfl) (Nat.le_of_ble_eq_true rfl) ?_
  exact W.iret (v := 1) hx hb hr (fun t ht hW => ⟨⟨1, (), rfl, rfl, by rw [ht]; exact hP9, va_K.moved hW.alike hK, hD9⟩, hS.F ht⟩) hS.2.2 dL_two_15
set_option maxHeartbeats 400000000 in
set_option maxRecDepth 100000 in
theorem cM_two0_0 (l : Launch) (hl9 : l.stackTraces = false) (D : va_G) (cT : Nat → ClassId) (aK aV : Nat → Nat) (sz : Nat) (a0 : Nat) (x1 : Int32) (x3 : Int32) (x4 : Int32) (x5 : Int32) (v6 : Value) (v7 : Value) (v8 : Value) (v9 : Value) (v10 : Value) (v11 : Value) (v12 : Value) (v13 : Value) (v14 : Value) (v15 : Value) (v16 : Value) (v17 : Value) (v18 : Value) (v19 : Value) (v20 : Value) (v21 : Value) (v22 : Value) (v23 : Value) (v24 : Value) (v25 : Value) (v26 : Value) (v27 : Value) (v28 : Value) (v29 : Value) (v30 : Value) (v31 : Value) (v32 : Value) (v33 : Value) (v34 : Value) (v35 : Value) (v36 : Value) (v37 : Value) (h2 : x1 < 0) : xMet l yM_two0 wyM_two0 2 0 0 40 D cT aK aV sz [.ref a0, .int x1, .int x3, .int x4, .int x5] [(a0, .inr (5, [v6, v7, v8, v9, v10, v11, v12, v13, v14, v15, v16, v17, v18, v19, v20, v21, v22, v23, v24, v25, v26, v27, v28, v29, v30, v31, v32, v33, v34, v35, v36, v37]))] (fun A => va_Qv (fun _ : Unit => True) (fun _ t => xB D xcl cT A [(a0, .inr (5, [.int 1, v7, .int 0, v9, .int 0, v11, v12, .int 0, v14, .int 0, v16, v17, .int 0, v19, v20, v21, v22, v23, v24, v25, v26, v27, .int 0, .int 1000000000, v30, v31, v32, v33, v34, v35, v36, v37]))] t) A) := by
  refine Met.ofW (cc := prog_13_method_93_code) (maxL := 5) (ret := none) (by decide) rfl ?_
  intro p e s m args below meth c s₁ B hml hv
  obtain ⟨rfl, hsz, hZ, hP, hK, hD0⟩ := hv
  have hx := B.exec
  have hb := B.bytes
  have hr := B.returns
  have hts := atoms_spec (ws := wyM_two0) B.pre
  have htx := fun w h => hts w (List.mem_cons_of_mem _ h)
  have hown : s.vm.findClass "ValueBenchModel" = some m.cls := findClass_of_methodNamed B.named
  have hlocks := B.notSynchronized
  subst hsz
  have hD := hD0.self (sz := s.heap.size)
  generalize hAe : va_A [(a0, .inr (5, [v6, v7, v8, v9, v10, v11, v12, v13, v14, v15, v16, v17, v18, v19, v20, v21, v22, v23, v24, v25, v26, v27, v28, v29, v30, v31, v32, v33, v34, v35, v36, v37]))] s.heap.size = A at hD hZ ⊢
  have hA : ∀ q : Nat, s.heap.size ≤ q → A q := fun q h => by rw [← hAe]; exact Or.inr h
  have hS : va_S A s.heap s.heap [] := va_S.rf
  have hP : va_P D xcl [(a0, .inr (5, [v6, v7, v8, v9, v10, v11, v12, v13, v14, v15, v16, v17, v18, v19, v20, v21, v22, v23, v24, v25, v26, v27, v28, v29, v30, v31, v32, v33, v34, v35, v36, v37]))] s.heap := hP
  have hl := lv_entry ([.ref a0, .int x1, .int x3, .int x4, .int x5]) (n := 5) (Nat.le_of_ble_eq_true rfl)
  rw [lg_entry_eq]
  generalize (lg_sl ([.ref a0, .int x1, .int x3, .int x4, .int x5]) ++ List.replicate (5 - (lg_sl ([.ref a0, .int x1, .int x3, .int x4, .int x5])).length) Slot.unset).toArray = ls at hl ⊢
  have hl : lv_has ls 5 [(0, .ref a0), (1, .int x1), (2, .int x3), (3, .int x4), (4, .int x5)] := hl
  refine lv_aload_n hx hb dM_two0_0 rfl (lv_at hl 0 rfl) ?_
  obtain ⟨hPc, hDc, hFc⟩ := xcut (wc := [(a0, .inr (5, [v6, v7, v8, v9, v10, v11, v12, v13, v14, v15, v16, v17, v18, v19, v20, v21, v22, v23, v24, v25, v26, v27, v28, v29, v30, v31, v32, v33, v34, v35, v36, v37]))]) hP hD hS hA [0] rfl rfl (by decide)
  refine va_callv (va_runV (C := "ValueBenchModel") (As := []) (rest := []) ⟨hx, hb, hml, hown, htx⟩ (cM_begin_0 l hl9 D cT aK aV s.heap.size a0 v6 v7 v8 v9 v10 v11 v12 v13 v14 v15 v16 v17 v18 v19 v20 v21 v22 v23 v24 v25 v26 v27 v28 v29 v30 v31 v32 v33 v34 v35 v36 v37) ⟨callB_of 0 htx (xw_goodC kw_5_209) rfl rfl rfl (htx _ kw_1_5) (htx _ kw_5_206) ⟨by decide, by decide, by decide +kernel⟩ ⟨Nat.le_of_ble_eq_true rfl, Nat.le_of_ble_eq_true rfl⟩, (htx _ kw_5_208), (htx _ kp_M_begin)⟩ ⟨xPre_blind, va_recv hK hP (ci := 5) rfl (q0 := 0) rfl, (fun U hU hW => ⟨rfl, xPre_of hZ hS hFc hPc hDc hK U hU hW⟩)⟩ rfl rfl hl.1 rfl (lv_room (Nat.le_of_ble_eq_true rfl)) dM_two0_1 ⟨Nat.le_of_ble_eq_true rfl, Nat.le_of_ble_eq_true rfl⟩) hS (fun q _ h => hFc q h) hFc (fun u9 t H1 locs ht hvm hr9 hB hz1 hk1 hS => ?_)
  obtain ⟨hP1, hK1, hD1⟩ := hB
  rw [ht] at hP1
  obtain ⟨hP, hD⟩ := xjoin (W := [(a0, .inr (5, [.int 0, v7, .int 0, v9, .int 0, v11, v12, .int 0, v14, .int 0, v16, v17, .int 0, v19, v20, v21, v22, v23, v24, v25, v26, v27, .int 0, .int 1000000000, v30, v31, v32, v33, v34, v35, v36, v37]))]) hP hD [0] [] 0 rfl rfl (by decide) (by decide) hk1 hFc hP1 hD1
  generalize H1 = H at hP hS ⊢
  refine lv_aload_n hx hb dM_two0_4 rfl (lv_at hl 0 rfl) ?_
  refine lv_iload_n hx hb dM_two0_5 rfl (lv_at hl 1 rfl) ?_
  obtain ⟨hPc, hDc, hFc⟩ := xcut (wc := []) hP hD hS hA [] rfl rfl (by decide)
  refine va_calli (va_runV (C := "ValueBenchModel") (As := [.int x1]) (rest := []) ⟨hx, hb, hml, hown, htx⟩ (cM_out_0 l hl9 D cT aK aV H.size a0 x1 h2) ⟨callB_of 1 htx (xw_goodC kw_5_217) rfl rfl rfl (htx _ kw_1_5) (htx _ kw_5_214) ⟨by decide, by decide, by decide +kernel⟩ ⟨Nat.le_of_ble_eq_true rfl, Nat.le_of_ble_eq_true rfl⟩, (htx _ kw_5_216), (htx _ kp_M_out)⟩ ⟨xPre_blind, va_recv hK hP (ci := 5) rfl (q0 := 0) rfl, (fun U hU hW => ⟨rfl, xPre_of hZ hS hFc hPc hDc hK U hU hW⟩)⟩ rfl rfl hl.1 rfl (lv_room (Nat.le_of_ble_eq_true rfl)) dM_two0_6 ⟨Nat.le_of_ble_eq_true rfl, Nat.le_of_ble_eq_true rfl⟩) hS (fun q _ h => hFc q h) hFc (fun r1 u9 t H1 locs ht hvm hr9 hB hz1 hk1 hS => ?_)
  obtain ⟨hP1, hK1, hD1⟩ := hB
  rw [ht] at hP1
  obtain ⟨hP, hD⟩ := xjoin (W := [(a0, .inr (5, [.int 0, v7, .int 0, v9, .int 0, v11, v12, .int 0, v14, .int 0, v16, v17, .int 0, v19, v20, v21, v22, v23, v24, v25, v26, v27, .int 0, .int 1000000000, v30, v31, v32, v33, v34, v35, v36, v37]))]) hP hD [] [0] 1 rfl rfl (by decide) (by decide) hk1 hFc hP1 hD1
  generalize H1 = H at hP hS ⊢
  rw [hr9]
  refine W.eq (g2 := F0 m 9 ls [.int 1]) rfl ?_
  refine lv_if_ne (tgt := 39) hx hb dM_two0_9 (by decide) (fun _ => ?_) (fun h => ((by revert h; decide : False)).elim)
  refine lv_aload_n hx hb dM_two0_39 rfl (lv_at hl 0 rfl) ?_
  refine lv_iconst (v := 1) hx hb dM_two0_40 (by decide) ?_
  refine va_put (D := D) (ci := 5) (v := .int 1) (ty := .int) (C := "ValueBenchModel") (T := TM) (N := 32) hx hb htx inM tyM tyM_ok nmM hown hK hP hD hS 0 rfl rfl 0 (by decide) (htx _ kw_5_87) (fun _ h9 => h9) rfl (by decide +kernel) rfl rfl (Nat.le_of_ble_eq_true rfl) dM_two0_41 (fun H locs hP hD hS => ?_)
  obtain ⟨hP, hD⟩ : xPD D xcl A [(a0, .inr (5, [.int 1, v7, .int 0, v9, .int 0, v11, v12, .int 0, v14, .int 0, v16, v17, .int 0, v19, v20, v21, v22, v23, v24, v25, v26, v27, .int 0, .int 1000000000, v30, v31, v32, v33, v34, v35, v36, v37]))] H := ⟨hP, hD⟩
  refine lv_goto (tgt := 57) hx hb dM_two0_44 (by decide) ?_
  obtain ⟨hP9, hD9⟩ := xsub (wc := [(a0, .inr (5, [.int 1, v7, .int 0, v9, .int 0, v11, v12, .int 0, v14, .int 0, v16, v17, .int 0, v19, v20, v21, v22, v23, v24, v25, v26, v27, .int 0, .int 1000000000, v30, v31, v32, v33, v34, v35, v36, v37]))]) hP hD [0] rfl rfl (by decide)
  refine W.widen (k := 0) (n := 0) (Nat.le_of_ble_eq_true rfl) (Nat.le_of_ble_eq_true rfl) ?_
  exact W.vret hx hb hr (fun t ht hW => ⟨⟨(), rfl, trivial, by rw [ht]; exact hP9, va_K.moved hW.alike hK, hD9⟩, hS.F ht⟩) hS.2.2 dM_two0_57
set_option maxHeartbeats 400000000 in
set_option maxRecDepth 100000 in
theorem cB_two_1 (l : Launch) (hl9 : l.stackTraces = false) (D : va_G) (cT : Nat → ClassId) (aK aV : Nat → Nat) (sz : Nat) (b0 : Nat) (x1 : Int32) (x5 : Int32) (x6 : Int32) (x7 : Int32) (h2 : ¬ x1 < 0) (h3 : 7 < x1) (h4 : ¬ x1 ≤ 7) : xMetX l yB_two wyB_two 7 1 6 120 D cT aK aV sz [.ref b0, .int x1, .int x5, .int x6, .int x7] [] "java/lang/IllegalArgumentException" (fun A t => xB D xcl cT A [] t) := by
  refine vx_ofW (cc := prog_1_method_10_code) (maxL := 5) (ret := none) (by decide) rfl ?_
  intro p e s m args below meth c s₁ B hml hne hv
  obtain ⟨rfl, hsz, hZ, hP, hK, hD0⟩ := hv
  have hx := B.exec
  have hb := B.bytes
  have hr := B.returns
  have hts := atoms_spec (ws := wyB_two) B.pre
  have htx := fun w h => hts w (List.mem_cons_of_mem _ h)
  have hown : s.vm.findClass "ValueBench" = some m.cls := findClass_of_methodNamed B.named
  have hlocks := B.notSynchronized
  subst hsz
  have hD := hD0.self (sz := s.heap.size)
  generalize hAe : va_A [] s.heap.size = A at hD hZ ⊢
  have hA : ∀ q : Nat, s.heap.size ≤ q → A q := fun q h => by rw [← hAe]; exact Or.inr h
  have hS : va_S A s.heap s.heap [] := va_S.rf
  have hP : va_P D xcl [] s.heap := hP
  have hl := lv_entry ([.ref b0, .int x1, .int x5, .int x6, .int x7]) (n := 5) (Nat.le_of_ble_eq_true rfl)
  rw [lg_entry_eq]
  generalize (lg_sl ([.ref b0, .int x1, .int x5, .int x6, .int x7]) ++ List.replicate (5 - (lg_sl ([.ref b0, .int x1, .int x5, .int x6, .int x7])).length) Slot.unset).toArray = ls at hl ⊢
  have hl : lv_has ls 5 [(0, .ref b0), (1, .int x1), (2, .int x5), (3, .int x6), (4, .int x7)] := hl
  refine lv_iload_n hx hb dB_two_0 rfl (lv_at hl 1 rfl) ?_
  obtain ⟨hPc, hDc, hFc⟩ := xcut (wc := []) hP hD hS hA [] rfl rfl (by decide)
  refine va_calli (va_runS (As := [.int x1]) (rest := []) ⟨hx, hb, hml, hown, htx⟩ (cB_isRegister_1 l hl9 D cT aK aV s.heap.size x1 h2 h3 h4) ⟨callB_of 1 htx (xw_goodC kw_2_18) rfl rfl rfl (htx _ kw_1_1) (htx _ kw_2_16) ⟨by decide, by decide, by decide +kernel⟩ ⟨Nat.le_of_ble_eq_true rfl, Nat.le_of_ble_eq_true rfl⟩, htx _ kw_2_17⟩ ⟨xPre_blind, (fun U hU hW => ⟨rfl, xPre_of hZ hS hFc hPc hDc hK U hU hW⟩)⟩ rfl rfl hl.1 rfl (lv_room (Nat.le_of_ble_eq_true rfl)) dB_two_1 ⟨Nat.le_of_ble_eq_true rfl, Nat.le_of_ble_eq_true rfl⟩) hS (fun q _ h => hFc q h) hFc (fun r1 u9 t H1 locs ht hvm hr9 hB hz1 hk1 hS => ?_)
  obtain ⟨hP1, hK1, hD1⟩ := hB
  rw [ht] at hP1
  obtain ⟨hP, hD⟩ := xjoin (W := []) hP hD [] [] 0 rfl rfl (by decide) (by decide) hk1 hFc hP1 hD1
  generalize H1 = H at hP hS ⊢
  rw [hr9]
  refine W.eq (g2 := F0 m 4 ls [.int 0]) rfl ?_
  refine lv_if_eq (tgt := 35) hx hb dB_two_4 (by decide) (fun _ => ?_) (fun h => ((by revert h; decide : False)).elim)
  refine lv_iconst (v := 0) hx hb dB_two_35 (by decide) ?_
  obtain ⟨hPc, hDc, hFc⟩ := xcut (wc := []) hP hD hS hA [] rfl rfl (by decide)
  refine xx_thr (vx_runS (As := [.int 0]) (rest := []) ⟨hx, hb, hml, hown, htx⟩ (cB_demand_0 l hl9 D cT aK aV H.size) ⟨callB_of 1 htx (xw_goodC kw_1_221) rfl rfl rfl (htx _ kw_1_1) (htx _ kw_1_219) ⟨by decide, by decide, by decide +kernel⟩ ⟨Nat.le_of_ble_eq_true rfl, Nat.le_of_ble_eq_true rfl⟩, htx _ kw_1_220⟩ ⟨xPre_blind, (fun U hU hW => ⟨rfl, xPre_of hZ hS hFc hPc hDc hK U hU hW⟩)⟩ rfl rfl hl.1 rfl (lv_room (Nat.le_of_ble_eq_true rfl)) dB_two_36 ⟨Nat.le_of_ble_eq_true rfl, Nat.le_of_ble_eq_true rfl⟩) hS hFc (fun q _ h => hFc q h) (fun E ce q9 u9 t H1 locs ht hvm _ hB hz1 hk1 hS hce hcv hcl => ?_)
  obtain ⟨rfl, hP1, hK1, hD1⟩ := hB
  rw [ht] at hP1
  obtain ⟨hP, hD⟩ := xjoin (W := []) hP hD [] [] 0 rfl rfl (by decide) (by decide) hk1 hFc hP1 hD1
  generalize H1 = H at hP hS hce ⊢
  obtain ⟨hP9, hD9⟩ := xsub (wc := []) hP hD [] rfl rfl (by decide)
  exact vx_out (E := "java/lang/IllegalArgumentException") (fun x h => (hne x h).elim) hlocks hce hcv hcl (fun t ht ha => ⟨(), trivial, ⟨rfl, by rw [ht]; exact hP9, va_K.moved ha hK, hD9⟩, hS.F ht⟩) hS.2.2 (Nat.le_of_ble_eq_true rfl) (Nat.le_of_ble_eq_true rfl)
set_option maxHeartbeats 400000000 in
set_option maxRecDepth 100000 in
theorem cL_two_1 (l : Launch) (hl9 : l.stackTraces = false) (D : va_G) (cT : Nat → ClassId) (aK aV : Nat → Nat) (sz : Nat) (a0 : Nat) (x1 : Int32) (x5 : Int32) (x6 : Int32) (x7 : Int32) (v8 : Value) (v9 : Value) (v10 : Value) (v11 : Value) (v12 : Value) (v13 : Value) (v14 : Value) (v15 : Value) (h2 : ¬ x1 < 0) (h3 : 7 < x1) (h4 : ¬ x1 ≤ 7) : xMet l yL_two wyL_two 8 1 6 144 D cT aK aV sz [.ref a0, .int x1, .int x5, .int x6, .int x7] [(a0, .inr (0, [v8, v9, v10, v11, v12, v13, v14, v15]))] (fun A => va_Qi (fun (r : Int32) (_ : Unit) => r = 1) (fun _ t => xB D xcl cT A [(a0, .inr (0, [v8, v9, v10, v11, v12, v13, v14, v15]))] t) A) := by
  refine va_MetW (cc := method_11_code) (maxL := 6) (ret := (some .int)) (hh := [(0, 9, 12, 19), (0, 9, 16, 33), (0, 9, 20, 13)]) (by decide) rfl ?_
  intro p e s m args below meth c s₁ B hml hv
  obtain ⟨rfl, hsz, hZ, hP, hK, hD0⟩ := hv
  have hx := B.exec
  have hb := B.bytes
  have hr := B.returns
  have hts := atoms_spec (ws := wyL_two) B.pre
  have htx := fun w h => hts w (List.mem_cons_of_mem _ h)
  have hown : s.vm.findClass "ValueBenchLaw" = some m.cls := findClass_of_methodNamed B.named
  have hlocks := B.notSynchronized
  subst hsz
  have hD := hD0.self (sz := s.heap.size)
  generalize hAe : va_A [(a0, .inr (0, [v8, v9, v10, v11, v12, v13, v14, v15]))] s.heap.size = A at hD hZ ⊢
  have hA : ∀ q : Nat, s.heap.size ≤ q → A q := fun q h => by rw [← hAe]; exact Or.inr h
  have hS : va_S A s.heap s.heap [] := va_S.rf
  have hP : va_P D xcl [(a0, .inr (0, [v8, v9, v10, v11, v12, v13, v14, v15]))] s.heap := hP
  have hl := lv_entry ([.ref a0, .int x1, .int x5, .int x6, .int x7]) (n := 6) (Nat.le_of_ble_eq_true rfl)
  rw [lg_entry_eq]
  generalize (lg_sl ([.ref a0, .int x1, .int x5, .int x6, .int x7]) ++ List.replicate (6 - (lg_sl ([.ref a0, .int x1, .int x5, .int x6, .int x7])).length) Slot.unset).toArray = ls at hl ⊢
  have hl : lv_has ls 6 [(0, .ref a0), (1, .int x1), (2, .int x5), (3, .int x6), (4, .int x7)] := hl
  have htab := vx_table (x := yL_two) B (hts _ List.mem_cons_self)
  refine lv_aload_n hx hb dL_two_0 rfl (lv_at hl 0 rfl) ?_
  refine lv_iload_n hx hb dL_two_1 rfl (lv_at hl 1 rfl) ?_
  refine lv_iload_n hx hb dL_two_2 rfl (lv_at hl 2 rfl) ?_
  refine lv_iload_n hx hb dL_two_3 rfl (lv_at hl 3 rfl) ?_
  refine lv_iload hx hb dL_two_4 (lv_at hl 4 rfl) ?_
  obtain ⟨hPc, hDc, hFc⟩ := xcut (wc := []) hP hD hS hA [] rfl rfl (by decide)
  refine xx_thr (vx_runV (C := "ValueBench") (As := [.int x1, .int x5, .int x6, .int x7]) (rest := []) ⟨hx, hb, hml, hown, htx⟩ (cB_two_1 l hl9 D cT aK aV s.heap.size a0 x1 x5 x6 x7 h2 h3 h4) ⟨callB_of 4 htx (xw_goodC kw_4_143) rfl rfl rfl (htx _ kw_1_1) (htx _ kw_4_140) ⟨by decide, by decide, by decide +kernel⟩ ⟨Nat.le_of_ble_eq_true rfl, Nat.le_of_ble_eq_true rfl⟩, (htx _ kw_4_141), (htx _ kw_4_142)⟩ ⟨xPre_blind, va_recv hK hP (ci := 0) rfl (q0 := 0) rfl, (fun U hU hW => ⟨rfl, xPre_of hZ hS hFc hPc hDc hK U hU hW⟩)⟩ rfl rfl hl.1 rfl (lv_room (Nat.le_of_ble_eq_true rfl)) dL_two_6 ⟨Nat.le_of_ble_eq_true rfl, Nat.le_of_ble_eq_true rfl⟩) hS hFc (fun q _ h => hFc q h) (fun E ce q9 u9 t H1 locs ht hvm _ hB hz1 hk1 hS hce hcv hcl => ?_)
  obtain ⟨rfl, hP1, hK1, hD1⟩ := hB
  rw [ht] at hP1
  obtain ⟨hP, hD⟩ := xjoin (W := [(a0, .inr (0, [v8, v9, v10, v11, v12, v13, v14, v15]))]) hP hD [] [0] 1 rfl rfl (by decide) (by decide) hk1 hFc hP1 hD1
  generalize H1 = H at hP hS hce ⊢
  refine vx_catch (own := "ValueBenchLaw") (name := "java/lang/IllegalArgumentException") (E := "java/lang/IllegalArgumentException") hown [] ⟨0, 9, 12, 19⟩ [⟨0, 9, 16, 33⟩, ⟨0, 9, 20, 13⟩] (by rw [htab]; rfl) (fun z hz => nomatch hz) (by decide) (by decide) (htx _ kw_1_211) ((hZ.2.2.2.2.2.1 "java/lang/IllegalArgumentException" (List.mem_of_getElem? (i := 1) rfl)).use rfl) hce hcv hcl ?_
  refine lv_astore (lv' := [(5, .ref q9), (0, .ref a0), (1, .int x1), (2, .int x5), (3, .int x6), (4, .int x7)]) hx hb dL_two_12 hl (by decide) rfl (fun ls hl => ?_)
  refine lv_iconst (v := 1) hx hb dL_two_14 (by decide) ?_
  obtain ⟨hP9, hD9⟩ := xsub (wc := [(a0, .inr (0, [v8, v9, v10, v11, v12, v13, v14, v15]))]) hP hD [0] rfl rfl (by decide)
  refine W.widen (k := 1) (n := 6) (Nat.le_of_ble_eq_true rfl) (Nat.le_of_ble_eq_true rfl) ?_
  exact W.iret (v := 1) hx hb hr (fun t ht hW => ⟨⟨1, (), rfl, rfl, by rw [ht]; exact hP9, va_K.moved hW.alike hK, hD9⟩, hS.F ht⟩) hS.2.2 dL_two_15
set_option maxHeartbeats 400000000 in
set_option maxRecDepth 100000 in
theorem cM_two0_1 (l : Launch) (hl9 : l.stackTraces = false) (D : va_G) (cT : Nat → ClassId) (aK aV : Nat → Nat) (sz : Nat) (a0 : Nat) (x1 : Int32) (x5 : Int32) (x6 : Int32) (x7 : Int32) (v8 : Value) (v9 : Value) (v10 : Value) (v11 : Value) (v12 : Value) (v13 : Value) (v14 : Value) (v15 : Value) (v16 : Value) (v17 : Value) (v18 : Value) (v19 : Value) (v20 : Value) (v21 : Value) (v22 : Value) (v23 : Value) (v24 : Value) (v25 : Value) (v26 : Value) (v27 : Value) (v28 : Value) (v29 : Value) (v30 : Value) (v31 : Value) (v32 : Value) (v33 : Value) (v34 : Value) (v35 : Value) (v36 : Value) (v37 : Value) (v38 : Value) (v39 : Value) (h2 : ¬ x1 < 0) (h3 : 7 < x1) (h4 : ¬ x1 ≤ 7) : xMet l yM_two0 wyM_two0 2 0 0 40 D cT aK aV sz [.ref a0, .int x1, .int x5, .int x6, .int x7] [(a0, .inr (5, [v8, v9, v10, v11, v12, v13, v14, v15, v16, v17, v18, v19, v20, v21, v22, v23, v24, v25, v26, v27, v28, v29, v30, v31, v32, v33, v34, v35, v36, v37, v38, v39]))] (fun A => va_Qv (fun _ : Unit => True) (fun _ t => xB D xcl cT A [(a0, .inr (5, [.int 1, v9, .int 0, v11, .int 0, v13, v14, .int 0, v16, .int 0, v18, v19, .int 0, v21, v22, v23, v24, v25, v26, v27, v28, v29, .int 0, .int 1000000000, v32, v33, v34, v35, v36, v37, v38, v39]))] t) A) := by
  refine Met.ofW (cc := prog_13_method_93_code) (maxL := 5) (ret := none) (by decide) rfl ?_
  intro p e s m args below meth c s₁ B hml hv
  obtain ⟨rfl, hsz, hZ, hP, hK, hD0⟩ := hv
  have hx := B.exec
  have hb := B.bytes
  have hr := B.returns
  have hts := atoms_spec (ws := wyM_two0) B.pre
  have htx := fun w h => hts w (List.mem_cons_of_mem _ h)
  have hown : s.vm.findClass "ValueBenchModel" = some m.cls := findClass_of_methodNamed B.named
  have hlocks := B.notSynchronized
  subst hsz
  have hD := hD0.self (sz := s.heap.size)
  generalize hAe : va_A [(a0, .inr (5, [v8, v9, v10, v11, v12, v13, v14, v15, v16, v17, v18, v19, v20, v21, v22, v23, v24, v25, v26, v27, v28, v29, v30, v31, v32, v33, v34, v35, v36, v37, v38, v39]))] s.heap.size = A at hD hZ ⊢
  have hA : ∀ q : Nat, s.heap.size ≤ q → A q := fun q h => by rw [← hAe]; exact Or.inr h
  have hS : va_S A s.heap s.heap [] := va_S.rf
  have hP : va_P D xcl [(a0, .inr (5, [v8, v9, v10, v11, v12, v13, v14, v15, v16, v17, v18, v19, v20, v21, v22, v23, v24, v25, v26, v27, v28, v29, v30, v31, v32, v33, v34, v35, v36, v37, v38, v39]))] s.heap := hP
  have hl := lv_entry ([.ref a0, .int x1, .int x5, .int x6, .int x7]) (n := 5) (Nat.le_of_ble_eq_true rfl)
  rw [lg_entry_eq]
  generalize (lg_sl ([.ref a0, .int x1, .int x5, .int x6, .int x7]) ++ List.replicate (5 - (lg_sl ([.ref a0, .int x1, .int x5, .int x6, .int x7])).length) Slot.unset).toArray = ls at hl ⊢
  have hl : lv_has ls 5 [(0, .ref a0), (1, .int x1), (2, .int x5), (3, .int x6), (4, .int x7)] := hl
  refine lv_aload_n hx hb dM_two0_0 rfl (lv_at hl 0 rfl) ?_
  obtain ⟨hPc, hDc, hFc⟩ := xcut (wc := [(a0, .inr (5, [v8, v9, v10, v11, v12, v13, v14, v15, v16, v17, v18, v19, v20, v21, v22, v23, v24, v25, v26, v27, v28, v29, v30, v31, v32, v33, v34, v35, v36, v37, v38, v39]))]) hP hD hS hA [0] rfl rfl (by decide)
  refine va_callv (va_runV (C := "ValueBenchModel") (As := []) (rest := []) ⟨hx, hb, hml, hown, htx⟩ (cM_begin_0 l hl9 D cT aK aV s.heap.size a0 v8 v9 v10 v11 v12 v13 v14 v15 v16 v17 v18 v19 v20 v21 v22 v23 v24 v25 v26 v27 v28 v29 v30 v31 v32 v33 v34 v35 v36 v37 v38 v39) ⟨callB_of 0 htx (xw_goodC kw_5_209) rfl rfl rfl (htx _ kw_1_5) (htx _ kw_5_206) ⟨by decide, by decide, by decide +kernel⟩ ⟨Nat.le_of_ble_eq_true rfl, Nat.le_of_ble_eq_true rfl⟩, (htx _ kw_5_208), (htx _ kp_M_begin)⟩ ⟨xPre_blind, va_recv hK hP (ci := 5) rfl (q0 := 0) rfl, (fun U hU hW => ⟨rfl, xPre_of hZ hS hFc hPc hDc hK U hU hW⟩)⟩ rfl rfl hl.1 rfl (lv_room (Nat.le_of_ble_eq_true rfl)) dM_two0_1 ⟨Nat.le_of_ble_eq_true rfl, Nat.le_of_ble_eq_true rfl⟩) hS (fun q _ h => hFc q h) hFc (fun u9 t H1 locs ht hvm hr9 hB hz1 hk1 hS => ?_)
  obtain ⟨hP1, hK1, hD1⟩ := hB
  rw [ht] at hP1
  obtain ⟨hP, hD⟩ := xjoin (W := [(a0, .inr (5, [.int 0, v9, .int 0, v11, .int 0, v13, v14, .int 0, v16, .int 0, v18, v19, .int 0, v21, v22, v23, v24, v25, v26, v27, v28, v29, .int 0, .int 1000000000, v32, v33, v34, v35, v36, v37, v38, v39]))]) hP hD [0] [] 0 rfl rfl (by decide) (by decide) hk1 hFc hP1 hD1
  generalize H1 = H at hP hS ⊢
  refine lv_aload_n hx hb dM_two0_4 rfl (lv_at hl 0 rfl) ?_
  refine lv_iload_n hx hb dM_two0_5 rfl (lv_at hl 1 rfl) ?_
  obtain ⟨hPc, hDc, hFc⟩ := xcut (wc := []) hP hD hS hA [] rfl rfl (by decide)
  refine va_calli (va_runV (C := "ValueBenchModel") (As := [.int x1]) (rest := []) ⟨hx, hb, hml, hown, htx⟩ (cM_out_1 l hl9 D cT aK aV H.size a0 x1 h2 h3 h4) ⟨callB_of 1 htx (xw_goodC kw_5_217) rfl rfl rfl (htx _ kw_1_5) (htx _ kw_5_214) ⟨by decide, by decide, by decide +kernel⟩ ⟨Nat.le_of_ble_eq_true rfl, Nat.le_of_ble_eq_true rfl⟩, (htx _ kw_5_216), (htx _ kp_M_out)⟩ ⟨xPre_blind, va_recv hK hP (ci := 5) rfl (q0 := 0) rfl, (fun U hU hW => ⟨rfl, xPre_of hZ hS hFc hPc hDc hK U hU hW⟩)⟩ rfl rfl hl.1 rfl (lv_room (Nat.le_of_ble_eq_true rfl)) dM_two0_6 ⟨Nat.le_of_ble_eq_true rfl, Nat.le_of_ble_eq_true rfl⟩) hS (fun q _ h => hFc q h) hFc (fun r1 u9 t H1 locs ht hvm hr9 hB hz1 hk1 hS => ?_)
  obtain ⟨hP1, hK1, hD1⟩ := hB
  rw [ht] at hP1
  obtain ⟨hP, hD⟩ := xjoin (W := [(a0, .inr (5, [.int 0, v9, .int 0, v11, .int 0, v13, v14, .int 0, v16, .int 0, v18, v19, .int 0, v21, v22, v23, v24, v25, v26, v27, v28, v29, .int 0, .int 1000000000, v32, v33, v34, v35, v36, v37, v38, v39]))]) hP hD [] [0] 1 rfl rfl (by decide) (by decide) hk1 hFc hP1 hD1
  generalize H1 = H at hP hS ⊢
  rw [hr9]
  refine W.eq (g2 := F0 m 9 ls [.int 1]) rfl ?_
  refine lv_if_ne (tgt := 39) hx hb dM_two0_9 (by decide) (fun _ => ?_) (fun h => ((by revert h; decide : False)).elim)
  refine lv_aload_n hx hb dM_two0_39 rfl (lv_at hl 0 rfl) ?_
  refine lv_iconst (v := 1) hx hb dM_two0_40 (by decide) ?_
  refine va_put (D := D) (ci := 5) (v := .int 1) (ty := .int) (C := "ValueBenchModel") (T := TM) (N := 32) hx hb htx inM tyM tyM_ok nmM hown hK hP hD hS 0 rfl rfl 0 (by decide) (htx _ kw_5_87) (fun _ h9 => h9) rfl (by decide +kernel) rfl rfl (Nat.le_of_ble_eq_true rfl) dM_two0_41 (fun H locs hP hD hS => ?_)
  obtain ⟨hP, hD⟩ : xPD D xcl A [(a0, .inr (5, [.int 1, v9, .int 0, v11, .int 0, v13, v14, .int 0, v16, .int 0, v18, v19, .int 0, v21, v22, v23, v24, v25, v26, v27, v28, v29, .int 0, .int 1000000000, v32, v33, v34, v35, v36, v37, v38, v39]))] H := ⟨hP, hD⟩
  refine lv_goto (tgt := 57) hx hb dM_two0_44 (by decide) ?_
  obtain ⟨hP9, hD9⟩ := xsub (wc := [(a0, .inr (5, [.int 1, v9, .int 0, v11, .int 0, v13, v14, .int 0, v16, .int 0, v18, v19, .int 0, v21, v22, v23, v24, v25, v26, v27, v28, v29, .int 0, .int 1000000000, v32, v33, v34, v35, v36, v37, v38, v39]))]) hP hD [0] rfl rfl (by decide)
  refine W.widen (k := 0) (n := 0) (Nat.le_of_ble_eq_true rfl) (Nat.le_of_ble_eq_true rfl) ?_
  exact W.vret hx hb hr (fun t ht hW => ⟨⟨(), rfl, trivial, by rw [ht]; exact hP9, va_K.moved hW.alike hK, hD9⟩, hS.F ht⟩) hS.2.2 dM_two0_57
set_option maxHeartbeats 400000000 in
set_option maxRecDepth 100000 in
theorem cB_two_2 (l : Launch) (hl9 : l.stackTraces = false) (D : va_G) (cT : Nat → ClassId) (aK aV : Nat → Nat) (sz : Nat) (b0 : Nat) (x1 : Int32) (x6 : Int32) (x8 : Int32) (x9 : Int32) (h2 : ¬ x1 < 0) (h3 : ¬ 7 < x1) (h4 : x1 ≤ 7) (h5 : vp_in x1 8) (h7 : x6 < 0) : xMetX l yB_two wyB_two 7 1 6 120 D cT aK aV sz [.ref b0, .int x1, .int x6, .int x8, .int x9] [] "java/lang/IllegalArgumentException" (fun A t => xB D xcl cT A [] t) := by
  refine vx_ofW (cc := prog_1_method_10_code) (maxL := 5) (ret := none) (by decide) rfl ?_
  intro p e s m args below meth c s₁ B hml hne hv
  obtain ⟨rfl, hsz, hZ, hP, hK, hD0⟩ := hv
  have hx := B.exec
  have hb := B.bytes
  have hr := B.returns
  have hts := atoms_spec (ws := wyB_two) B.pre
  have htx := fun w h => hts w (List.mem_cons_of_mem _ h)
  have hown : s.vm.findClass "ValueBench" = some m.cls := findClass_of_methodNamed B.named
  have hlocks := B.notSynchronized
  subst hsz
  have hD := hD0.self (sz := s.heap.size)
  generalize hAe : va_A [] s.heap.size = A at hD hZ ⊢
  have hA : ∀ q : Nat, s.heap.size ≤ q → A q := fun q h => by rw [← hAe]; exact Or.inr h
  have hS : va_S A s.heap s.heap [] := va_S.rf
  have hP : va_P D xcl [] s.heap := hP
  have hl := lv_entry ([.ref b0, .int x1, .int x6, .int x8, .int x9]) (n := 5) (Nat.le_of_ble_eq_true rfl)
  rw [lg_entry_eq]
  generalize (lg_sl ([.ref b0, .int x1, .int x6, .int x8, .int x9]) ++ List.replicate (5 - (lg_sl ([.ref b0, .int x1, .int x6, .int x8, .int x9])).length) Slot.unset).toArray = ls at hl ⊢
  have hl : lv_has ls 5 [(0, .ref b0), (1, .int x1), (2, .int x6), (3, .int x8), (4, .int x9)] := hl
  refine lv_iload_n hx hb dB_two_0 rfl (lv_at hl 1 rfl) ?_
  obtain ⟨hPc, hDc, hFc⟩ := xcut (wc := []) hP hD hS hA [] rfl rfl (by decide)
  refine va_calli (va_runS (As := [.int x1]) (rest := []) ⟨hx, hb, hml, hown, htx⟩ (cB_isRegister_2 l hl9 D cT aK aV s.heap.size x1 h2 h3 h4 h5) ⟨callB_of 1 htx (xw_goodC kw_2_18) rfl rfl rfl (htx _ kw_1_1) (htx _ kw_2_16) ⟨by decide, by decide, by decide +kernel⟩ ⟨Nat.le_of_ble_eq_true rfl, Nat.le_of_ble_eq_true rfl⟩, htx _ kw_2_17⟩ ⟨xPre_blind, (fun U hU hW => ⟨rfl, xPre_of hZ hS hFc hPc hDc hK U hU hW⟩)⟩ rfl rfl hl.1 rfl (lv_room (Nat.le_of_ble_eq_true rfl)) dB_two_1 ⟨Nat.le_of_ble_eq_true rfl, Nat.le_of_ble_eq_true rfl⟩) hS (fun q _ h => hFc q h) hFc (fun r1 u9 t H1 locs ht hvm hr9 hB hz1 hk1 hS => ?_)
  obtain ⟨hP1, hK1, hD1⟩ := hB
  rw [ht] at hP1
  obtain ⟨hP, hD⟩ := xjoin (W := []) hP hD [] [] 0 rfl rfl (by decide) (by decide) hk1 hFc hP1 hD1
  generalize H1 = H at hP hS ⊢
  rw [hr9]
  refine W.eq (g2 := F0 m 4 ls [.int 1]) rfl ?_
  refine lv_if_eq (tgt := 35) hx hb dB_two_4 (by decide) (fun h => ((by revert h; decide : False)).elim) (fun _ => ?_)
  refine lv_iload_n hx hb dB_two_7 rfl (lv_at hl 2 rfl) ?_
  refine lv_bipush (v := 9) hx hb dB_two_8 (by decide) ?_
  obtain ⟨hPc, hDc, hFc⟩ := xcut (wc := []) hP hD hS hA [] rfl rfl (by decide)
  refine va_calli (va_runS (As := [.int x6, .int 9]) (rest := []) ⟨hx, hb, hml, hown, htx⟩ (cB_isWithin_0 l hl9 D cT aK aV H.size x6 9 h7) ⟨callB_of 2 htx (xw_goodC kw_1_218) rfl rfl rfl (htx _ kw_1_1) (htx _ kw_1_216) ⟨by decide, by decide, by decide +kernel⟩ ⟨Nat.le_of_ble_eq_true rfl, Nat.le_of_ble_eq_true rfl⟩, htx _ kw_1_217⟩ ⟨xPre_blind, (fun U hU hW => ⟨rfl, xPre_of hZ hS hFc hPc hDc hK U hU hW⟩)⟩ rfl rfl hl.1 rfl (lv_room (Nat.le_of_ble_eq_true rfl)) dB_two_10 ⟨Nat.le_of_ble_eq_true rfl, Nat.le_of_ble_eq_true rfl⟩) hS (fun q _ h => hFc q h) hFc (fun r2 u9 t H1 locs ht hvm hr9 hB hz1 hk1 hS => ?_)
  obtain ⟨hP1, hK1, hD1⟩ := hB
  rw [ht] at hP1
  obtain ⟨hP, hD⟩ := xjoin (W := []) hP hD [] [] 0 rfl rfl (by decide) (by decide) hk1 hFc hP1 hD1
  generalize H1 = H at hP hS ⊢
  rw [hr9]
  refine W.eq (g2 := F0 m 13 ls [.int 0]) rfl ?_
  refine lv_if_eq (tgt := 35) hx hb dB_two_13 (by decide) (fun _ => ?_) (fun h => ((by revert h; decide : False)).elim)
  refine lv_iconst (v := 0) hx hb dB_two_35 (by decide) ?_
  obtain ⟨hPc, hDc, hFc⟩ := xcut (wc := []) hP hD hS hA [] rfl rfl (by decide)
  refine xx_thr (vx_runS (As := [.int 0]) (rest := []) ⟨hx, hb, hml, hown, htx⟩ (cB_demand_0 l hl9 D cT aK aV H.size) ⟨callB_of 1 htx (xw_goodC kw_1_221) rfl rfl rfl (htx _ kw_1_1) (htx _ kw_1_219) ⟨by decide, by decide, by decide +kernel⟩ ⟨Nat.le_of_ble_eq_true rfl, Nat.le_of_ble_eq_true rfl⟩, htx _ kw_1_220⟩ ⟨xPre_blind, (fun U hU hW => ⟨rfl, xPre_of hZ hS hFc hPc hDc hK U hU hW⟩)⟩ rfl rfl hl.1 rfl (lv_room (Nat.le_of_ble_eq_true rfl)) dB_two_36 ⟨Nat.le_of_ble_eq_true rfl, Nat.le_of_ble_eq_true rfl⟩) hS hFc (fun q _ h => hFc q h) (fun E ce q9 u9 t H1 locs ht hvm _ hB hz1 hk1 hS hce hcv hcl => ?_)
  obtain ⟨rfl, hP1, hK1, hD1⟩ := hB
  rw [ht] at hP1
  obtain ⟨hP, hD⟩ := xjoin (W := []) hP hD [] [] 0 rfl rfl (by decide) (by decide) hk1 hFc hP1 hD1
  generalize H1 = H at hP hS hce ⊢
  obtain ⟨hP9, hD9⟩ := xsub (wc := []) hP hD [] rfl rfl (by decide)
  exact vx_out (E := "java/lang/IllegalArgumentException") (fun x h => (hne x h).elim) hlocks hce hcv hcl (fun t ht ha => ⟨(), trivial, ⟨rfl, by rw [ht]; exact hP9, va_K.moved ha hK, hD9⟩, hS.F ht⟩) hS.2.2 (Nat.le_of_ble_eq_true rfl) (Nat.le_of_ble_eq_true rfl)
set_option maxHeartbeats 400000000 in
set_option maxRecDepth 100000 in
theorem cL_two_2 (l : Launch) (hl9 : l.stackTraces = false) (D : va_G) (cT : Nat → ClassId) (aK aV : Nat → Nat) (sz : Nat) (a0 : Nat) (x1 : Int32) (x6 : Int32) (x8 : Int32) (x9 : Int32) (v10 : Value) (v11 : Value) (v12 : Value) (v13 : Value) (v14 : Value) (v15 : Value) (v16 : Value) (v17 : Value) (h2 : ¬ x1 < 0) (h3 : ¬ 7 < x1) (h4 : x1 ≤ 7) (h5 : vp_in x1 8) (h7 : x6 < 0) : xMet l yL_two wyL_two 8 1 6 144 D cT aK aV sz [.ref a0, .int x1, .int x6, .int x8, .int x9] [(a0, .inr (0, [v10, v11, v12, v13, v14, v15, v16, v17]))] (fun A => va_Qi (fun (r : Int32) (_ : Unit) => r = 1) (fun _ t => xB D xcl cT A [(a0, .inr (0, [v10, v11, v12, v13, v14, v15, v16, v17]))] t) A) := by
  refine va_MetW (cc := method_11_code) (maxL := 6) (ret := (some .int)) (hh := [(0, 9, 12, 19), (0, 9, 16, 33), (0, 9, 20, 13)]) (by decide) rfl ?_
  intro p e s m args below meth c s₁ B hml hv
  obtain ⟨rfl, hsz, hZ, hP, hK, hD0⟩ := hv
  have hx := B.exec
  have hb := B.bytes
  have hr := B.returns
  have hts := atoms_spec (ws := wyL_two) B.pre
  have htx := fun w h => hts w (List.mem_cons_of_mem _ h)
  have hown : s.vm.findClass "ValueBenchLaw" = some m.cls := findClass_of_methodNamed B.named
  have hlocks := B.notSynchronized
  subst hsz
  have hD := hD0.self (sz := s.heap.size)
  generalize hAe : va_A [(a0, .inr (0, [v10, v11, v12, v13, v14, v15, v16, v17]))] s.heap.size = A at hD hZ ⊢
  have hA : ∀ q : Nat, s.heap.size ≤ q → A q := fun q h => by rw [← hAe]; exact Or.inr h
  have hS : va_S A s.heap s.heap [] := va_S.rf
  have hP : va_P D xcl [(a0, .inr (0, [v10, v11, v12, v13, v14, v15, v16, v17]))] s.heap := hP
  have hl := lv_entry ([.ref a0, .int x1, .int x6, .int x8, .int x9]) (n := 6) (Nat.le_of_ble_eq_true rfl)
  rw [lg_entry_eq]
  generalize (lg_sl ([.ref a0, .int x1, .int x6, .int x8, .int x9]) ++ List.replicate (6 - (lg_sl ([.ref a0, .int x1, .int x6, .int x8, .int x9])).length) Slot.unset).toArray = ls at hl ⊢
  have hl : lv_has ls 6 [(0, .ref a0), (1, .int x1), (2, .int x6), (3, .int x8), (4, .int x9)] := hl
  have htab := vx_table (x := yL_two) B (hts _ List.mem_cons_self)
  refine lv_aload_n hx hb dL_two_0 rfl (lv_at hl 0 rfl) ?_
  refine lv_iload_n hx hb dL_two_1 rfl (lv_at hl 1 rfl) ?_
  refine lv_iload_n hx hb dL_two_2 rfl (lv_at hl 2 rfl) ?_
  refine lv_iload_n hx hb dL_two_3 rfl (lv_at hl 3 rfl) ?_
  refine lv_iload hx hb dL_two_4 (lv_at hl 4 rfl) ?_
  obtain ⟨hPc, hDc, hFc⟩ := xcut (wc := []) hP hD hS hA [] rfl rfl (by decide)
  refine xx_thr (vx_runV (C := "ValueBench") (As := [.int x1, .int x6, .int x8, .int x9]) (rest := []) ⟨hx, hb, hml, hown, htx⟩ (cB_two_2 l hl9 D cT aK aV s.heap.size a0 x1 x6 x8 x9 h2 h3 h4 h5 h7) ⟨callB_of 4 htx (xw_goodC kw_4_143) rfl rfl rfl (htx _ kw_1_1) (htx _ kw_4_140) ⟨by decide, by decide, by decide +kernel⟩ ⟨Nat.le_of_ble_eq_true rfl, Nat.le_of_ble_eq_true rfl⟩, (htx _ kw_4_141), (htx _ kw_4_142)⟩ ⟨xPre_blind, va_recv hK hP (ci := 0) rfl (q0 := 0) rfl, (fun U hU hW => ⟨rfl, xPre_of hZ hS hFc hPc hDc hK U hU hW⟩)⟩ rfl rfl hl.1 rfl (lv_room (Nat.le_of_ble_eq_true rfl)) dL_two_6 ⟨Nat.le_of_ble_eq_true rfl, Nat.le_of_ble_eq_true rfl⟩) hS hFc (fun q _ h => hFc q h) (fun E ce q9 u9 t H1 locs ht hvm _ hB hz1 hk1 hS hce hcv hcl => ?_)
  obtain ⟨rfl, hP1, hK1, hD1⟩ := hB
  rw [ht] at hP1
  obtain ⟨hP, hD⟩ := xjoin (W := [(a0, .inr (0, [v10, v11, v12, v13, v14, v15, v16, v17]))]) hP hD [] [0] 1 rfl rfl (by decide) (by decide) hk1 hFc hP1 hD1
  generalize H1 = H at hP hS hce ⊢
  refine vx_catch (own := "ValueBenchLaw") (name := "java/lang/IllegalArgumentException") (E := "java/lang/IllegalArgumentException") hown [] ⟨0, 9, 12, 19⟩ [⟨0, 9, 16, 33⟩, ⟨0, 9, 20, 13⟩] (by rw [htab]; rfl) (fun z hz => nomatch hz) (by decide) (by decide) (htx _ kw_1_211) ((hZ.2.2.2.2.2.1 "java/lang/IllegalArgumentException" (List.mem_of_getElem? (i := 1) rfl)).use rfl) hce hcv hcl ?_
  refine lv_astore (lv' := [(5, .ref q9), (0, .ref a0), (1, .int x1), (2, .int x6), (3, .int x8), (4, .int x9)]) hx hb dL_two_12 hl (by decide) rfl (fun ls hl => ?_)
  refine lv_iconst (v := 1) hx hb dL_two_14 (by decide) ?_
  obtain ⟨hP9, hD9⟩ := xsub (wc := [(a0, .inr (0, [v10, v11, v12, v13, v14, v15, v16, v17]))]) hP hD [0] rfl rfl (by decide)
  refine W.widen (k := 1) (n := 6) (Nat.le_of_ble_eq_true rfl) (Nat.le_of_ble_eq_true rfl) ?_
  exact W.iret (v := 1) hx hb hr (fun t ht hW => ⟨⟨1, (), rfl, rfl, by rw [ht]; exact hP9, va_K.moved hW.alike hK, hD9⟩, hS.F ht⟩) hS.2.2 dL_two_15
set_option maxHeartbeats 400000000 in
set_option maxRecDepth 100000 in
theorem cM_two0_2 (l : Launch) (hl9 : l.stackTraces = false) (D : va_G) (cT : Nat → ClassId) (aK aV : Nat → Nat) (sz : Nat) (a0 : Nat) (x1 : Int32) (x6 : Int32) (x8 : Int32) (x9 : Int32) (v10 : Value) (v11 : Value) (v12 : Value) (v13 : Value) (v14 : Value) (v15 : Value) (v16 : Value) (v17 : Value) (v18 : Value) (v19 : Value) (v20 : Value) (v21 : Value) (v22 : Value) (v23 : Value) (v24 : Value) (v25 : Value) (v26 : Value) (v27 : Value) (v28 : Value) (v29 : Value) (v30 : Value) (v31 : Value) (v32 : Value) (v33 : Value) (v34 : Value) (v35 : Value) (v36 : Value) (v37 : Value) (v38 : Value) (v39 : Value) (v40 : Value) (v41 : Value) (h2 : ¬ x1 < 0) (h3 : ¬ 7 < x1) (h4 : x1 ≤ 7) (h5 : vp_in x1 8) (h7 : x6 < 0) : xMet l yM_two0 wyM_two0 2 0 0 40 D cT aK aV sz [.ref a0, .int x1, .int x6, .int x8, .int x9] [(a0, .inr (5, [v10, v11, v12, v13, v14, v15, v16, v17, v18, v19, v20, v21, v22, v23, v24, v25, v26, v27, v28, v29, v30, v31, v32, v33, v34, v35, v36, v37, v38, v39, v40, v41]))] (fun A => va_Qv (fun _ : Unit => True) (fun _ t => xB D xcl cT A [(a0, .inr (5, [.int 1, v11, .int 0, v13, .int 0, v15, v16, .int 0, v18, .int 0, v20, v21, .int 0, v23, v24, v25, v26, v27, v28, v29, v30, v31, .int 0, .int 1000000000, v34, v35, v36, v37, v38, v39, v40, v41]))] t) A) := by
  refine Met.ofW (cc := prog_13_method_93_code) (maxL := 5) (ret := none) (by decide) rfl ?_
  intro p e s m args below meth c s₁ B hml hv
  obtain ⟨rfl, hsz, hZ, hP, hK, hD0⟩ := hv
  have hx := B.exec
  have hb := B.bytes
  have hr := B.returns
  have hts := atoms_spec (ws := wyM_two0) B.pre
  have htx := fun w h => hts w (List.mem_cons_of_mem _ h)
  have hown : s.vm.findClass "ValueBenchModel" = some m.cls := findClass_of_methodNamed B.named
  have hlocks := B.notSynchronized
  subst hsz
  have hD := hD0.self (sz := s.heap.size)
  generalize hAe : va_A [(a0, .inr (5, [v10, v11, v12, v13, v14, v15, v16, v17, v18, v19, v20, v21, v22, v23, v24, v25, v26, v27, v28, v29, v30, v31, v32, v33, v34, v35, v36, v37, v38, v39, v40, v41]))] s.heap.size = A at hD hZ ⊢
  have hA : ∀ q : Nat, s.heap.size ≤ q → A q := fun q h => by rw [← hAe]; exact Or.inr h
  have hS : va_S A s.heap s.heap [] := va_S.rf
  have hP : va_P D xcl [(a0, .inr (5, [v10, v11, v12, v13, v14, v15, v16, v17, v18, v19, v20, v21, v22, v23, v24, v25, v26, v27, v28, v29, v30, v31, v32, v33, v34, v35, v36, v37, v38, v39, v40, v41]))] s.heap := hP
  have hl := lv_entry ([.ref a0, .int x1, .int x6, .int x8, .int x9]) (n := 5) (Nat.le_of_ble_eq_true rfl)
  rw [lg_entry_eq]
  generalize (lg_sl ([.ref a0, .int x1, .int x6, .int x8, .int x9]) ++ List.replicate (5 - (lg_sl ([.ref a0, .int x1, .int x6, .int x8, .int x9])).length) Slot.unset).toArray = ls at hl ⊢
  have hl : lv_has ls 5 [(0, .ref a0), (1, .int x1), (2, .int x6), (3, .int x8), (4, .int x9)] := hl
  refine lv_aload_n hx hb dM_two0_0 rfl (lv_at hl 0 rfl) ?_
  obtain ⟨hPc, hDc, hFc⟩ := xcut (wc := [(a0, .inr (5, [v10, v11, v12, v13, v14, v15, v16, v17, v18, v19, v20, v21, v22, v23, v24, v25, v26, v27, v28, v29, v30, v31, v32, v33, v34, v35, v36, v37, v38, v39, v40, v41]))]) hP hD hS hA [0] rfl rfl (by decide)
  refine va_callv (va_runV (C := "ValueBenchModel") (As := []) (rest := []) ⟨hx, hb, hml, hown, htx⟩ (cM_begin_0 l hl9 D cT aK aV s.heap.size a0 v10 v11 v12 v13 v14 v15 v16 v17 v18 v19 v20 v21 v22 v23 v24 v25 v26 v27 v28 v29 v30 v31 v32 v33 v34 v35 v36 v37 v38 v39 v40 v41) ⟨callB_of 0 htx (xw_goodC kw_5_209) rfl rfl rfl (htx _ kw_1_5) (htx _ kw_5_206) ⟨by decide, by decide, by decide +kernel⟩ ⟨Nat.le_of_ble_eq_true rfl, Nat.le_of_ble_eq_true rfl⟩, (htx _ kw_5_208), (htx _ kp_M_begin)⟩ ⟨xPre_blind, va_recv hK hP (ci := 5) rfl (q0 := 0) rfl, (fun U hU hW => ⟨rfl, xPre_of hZ hS hFc hPc hDc hK U hU hW⟩)⟩ rfl rfl hl.1 rfl (lv_room (Nat.le_of_ble_eq_true rfl)) dM_two0_1 ⟨Nat.le_of_ble_eq_true rfl, Nat.le_of_ble_eq_true rfl⟩) hS (fun q _ h => hFc q h) hFc (fun u9 t H1 locs ht hvm hr9 hB hz1 hk1 hS => ?_)
  obtain ⟨hP1, hK1, hD1⟩ := hB
  rw [ht] at hP1
  obtain ⟨hP, hD⟩ := xjoin (W := [(a0, .inr (5, [.int 0, v11, .int 0, v13, .int 0, v15, v16, .int 0, v18, .int 0, v20, v21, .int 0, v23, v24, v25, v26, v27, v28, v29, v30, v31, .int 0, .int 1000000000, v34, v35, v36, v37, v38, v39, v40, v41]))]) hP hD [0] [] 0 rfl rfl (by decide) (by decide) hk1 hFc hP1 hD1
  generalize H1 = H at hP hS ⊢
  refine lv_aload_n hx hb dM_two0_4 rfl (lv_at hl 0 rfl) ?_
  refine lv_iload_n hx hb dM_two0_5 rfl (lv_at hl 1 rfl) ?_
  obtain ⟨hPc, hDc, hFc⟩ := xcut (wc := []) hP hD hS hA [] rfl rfl (by decide)
  refine va_calli (va_runV (C := "ValueBenchModel") (As := [.int x1]) (rest := []) ⟨hx, hb, hml, hown, htx⟩ (cM_out_2 l hl9 D cT aK aV H.size a0 x1 h2 h3 h4 h5) ⟨callB_of 1 htx (xw_goodC kw_5_217) rfl rfl rfl (htx _ kw_1_5) (htx _ kw_5_214) ⟨by decide, by decide, by decide +kernel⟩ ⟨Nat.le_of_ble_eq_true rfl, Nat.le_of_ble_eq_true rfl⟩, (htx _ kw_5_216), (htx _ kp_M_out)⟩ ⟨xPre_blind, va_recv hK hP (ci := 5) rfl (q0 := 0) rfl, (fun U hU hW => ⟨rfl, xPre_of hZ hS hFc hPc hDc hK U hU hW⟩)⟩ rfl rfl hl.1 rfl (lv_room (Nat.le_of_ble_eq_true rfl)) dM_two0_6 ⟨Nat.le_of_ble_eq_true rfl, Nat.le_of_ble_eq_true rfl⟩) hS (fun q _ h => hFc q h) hFc (fun r1 u9 t H1 locs ht hvm hr9 hB hz1 hk1 hS => ?_)
  obtain ⟨hP1, hK1, hD1⟩ := hB
  rw [ht] at hP1
  obtain ⟨hP, hD⟩ := xjoin (W := [(a0, .inr (5, [.int 0, v11, .int 0, v13, .int 0, v15, v16, .int 0, v18, .int 0, v20, v21, .int 0, v23, v24, v25, v26, v27, v28, v29, v30, v31, .int 0, .int 1000000000, v34, v35, v36, v37, v38, v39, v40, v41]))]) hP hD [] [0] 1 rfl rfl (by decide) (by decide) hk1 hFc hP1 hD1
  generalize H1 = H at hP hS ⊢
  rw [hr9]
  refine W.eq (g2 := F0 m 9 ls [.int 0]) rfl ?_
  refine lv_if_ne (tgt := 39) hx hb dM_two0_9 (by decide) (fun h => ((by revert h; decide : False)).elim) (fun _ => ?_)
  refine lv_iload_n hx hb dM_two0_12 rfl (lv_at hl 2 rfl) ?_
  refine lv_if_lt (tgt := 39) hx hb dM_two0_13 (by decide) (fun _ => ?_) (fun h => by first | exact absurd h h7 | exact absurd h7 h)
  refine lv_aload_n hx hb dM_two0_39 rfl (lv_at hl 0 rfl) ?_
  refine lv_iconst (v := 1) hx hb dM_two0_40 (by decide) ?_
  refine va_put (D := D) (ci := 5) (v := .int 1) (ty := .int) (C := "ValueBenchModel") (T := TM) (N := 32) hx hb htx inM tyM tyM_ok nmM hown hK hP hD hS 0 rfl rfl 0 (by decide) (htx _ kw_5_87) (fun _ h9 => h9) rfl (by decide +kernel) rfl rfl (Nat.le_of_ble_eq_true rfl) dM_two0_41 (fun H locs hP hD hS => ?_)
  obtain ⟨hP, hD⟩ : xPD D xcl A [(a0, .inr (5, [.int 1, v11, .int 0, v13, .int 0, v15, v16, .int 0, v18, .int 0, v20, v21, .int 0, v23, v24, v25, v26, v27, v28, v29, v30, v31, .int 0, .int 1000000000, v34, v35, v36, v37, v38, v39, v40, v41]))] H := ⟨hP, hD⟩
  refine lv_goto (tgt := 57) hx hb dM_two0_44 (by decide) ?_
  obtain ⟨hP9, hD9⟩ := xsub (wc := [(a0, .inr (5, [.int 1, v11, .int 0, v13, .int 0, v15, v16, .int 0, v18, .int 0, v20, v21, .int 0, v23, v24, v25, v26, v27, v28, v29, v30, v31, .int 0, .int 1000000000, v34, v35, v36, v37, v38, v39, v40, v41]))]) hP hD [0] rfl rfl (by decide)
  refine W.widen (k := 0) (n := 0) (Nat.le_of_ble_eq_true rfl) (Nat.le_of_ble_eq_true rfl) ?_
  exact W.vret hx hb hr (fun t ht hW => ⟨⟨(), rfl, trivial, by rw [ht]; exact hP9, va_K.moved hW.alike hK, hD9⟩, hS.F ht⟩) hS.2.2 dM_two0_57
set_option maxHeartbeats 400000000 in
set_option maxRecDepth 100000 in
theorem cB_isWithin_28 (l : Launch) (hl9 : l.stackTraces = false) (D : va_G) (cT : Nat → ClassId) (aK aV : Nat → Nat) (sz : Nat) (x0 : Int32) (h1 : ¬ x0 < 0) (h2 : 9 < x0) (h3 : ¬ x0 ≤ 9) : xMet l yB_isWithin wyB_isWithin 0 0 0 0 D cT aK aV sz [.int x0, .int 9] [] (fun A => va_Qi (fun (r : Int32) (_ : Unit) => r = 0) (fun _ t => xB D xcl cT A [] t) A) := by
  refine Met.ofW (cc := prog_1_method_15_code) (maxL := 2) (ret := (some .boolean)) (by decide) rfl ?_
  intro p e s m args below meth c s₁ B hml hv
  obtain ⟨rfl, hsz, hZ, hP, hK, hD0⟩ := hv
  have hx := B.exec
  have hb := B.bytes
  have hr := B.returns
  have hts := atoms_spec (ws := wyB_isWithin) B.pre
  have htx := fun w h => hts w (List.mem_cons_of_mem _ h)
  have hown : s.vm.findClass "ValueBench" = some m.cls := findClass_of_methodNamed B.named
  have hlocks := B.notSynchronized
  subst hsz
  have hD := hD0.self (sz := s.heap.size)
  generalize hAe : va_A [] s.heap.size = A at hD hZ ⊢
  have hA : ∀ q : Nat, s.heap.size ≤ q → A q := fun q h => by rw [← hAe]; exact Or.inr h
  have hS : va_S A s.heap s.heap [] := va_S.rf
  have hP : va_P D xcl [] s.heap := hP
  have hl := lv_entry ([.int x0, .int 9]) (n := 2) (Nat.le_of_ble_eq_true rfl)
  rw [lg_entry_eq]
  generalize (lg_sl ([.int x0, .int 9]) ++ List.replicate (2 - (lg_sl ([.int x0, .int 9])).length) Slot.unset).toArray = ls at hl ⊢
  have hl : lv_has ls 2 [(0, .int x0), (1, .int 9)] := hl
  refine lv_iload_n hx hb dB_isWithin_0 rfl (lv_at hl 0 rfl) ?_
  refine lv_if_lt (tgt := 13) hx hb dB_isWithin_1 (by decide) (fun h => by first | exact absurd h h1 | exact absurd h h2 | exact absurd h h3 | exact absurd h1 h | exact absurd h2 h | exact absurd h3 h) (fun _ => ?_)
  refine lv_iload_n hx hb dB_isWithin_4 rfl (lv_at hl 0 rfl) ?_
  refine lv_iload_n hx hb dB_isWithin_5 rfl (lv_at hl 1 rfl) ?_
  refine lv_icmp_gt (tgt := 13) hx hb dB_isWithin_6 (by decide) (fun _ => ?_) (fun h => by first | exact absurd h h1 | exact absurd h h2 | exact absurd h h3 | exact absurd h1 h | exact absurd h2 h | exact absurd h3 h)
  refine lv_iconst (v := 0) hx hb dB_isWithin_13 (by decide) ?_
  obtain ⟨hP9, hD9⟩ := xsub (wc := []) hP hD [] rfl rfl (by decide)
  refine W.widen (k := 0) (n := 0) (Nat.le_of_ble_eq_true rfl) (Nat.le_of_ble_eq_true rfl) ?_
  exact W.zret (v := 0) hx hb hr rfl (fun t ht hW => ⟨⟨0, (), rfl, rfl, by rw [ht]; exact hP9, va_K.moved hW.alike hK, hD9⟩, hS.F ht⟩) hS.2.2 dB_isWithin_14
set_option maxHeartbeats 400000000 in
set_option maxRecDepth 100000 in
theorem cB_two_3 (l : Launch) (hl9 : l.stackTraces = false) (D : va_G) (cT : Nat → ClassId) (aK aV : Nat → Nat) (sz : Nat) (b0 : Nat) (x1 : Int32) (x6 : Int32) (x10 : Int32) (x11 : Int32) (h2 : ¬ x1 < 0) (h3 : ¬ 7 < x1) (h4 : x1 ≤ 7) (h5 : vp_in x1 8) (h7 : ¬ x6 < 0) (h8 : 9 < x6) (h9 : ¬ x6 ≤ 9) : xMetX l yB_two wyB_two 7 1 6 120 D cT aK aV sz [.ref b0, .int x1, .int x6, .int x10, .int x11] [] "java/lang/IllegalArgumentException" (fun A t => xB D xcl cT A [] t) := by
  refine vx_ofW (cc := prog_1_method_10_code) (maxL := 5) (ret := none) (by decide) rfl ?_
  intro p e s m args below meth c s₁ B hml hne hv
  obtain ⟨rfl, hsz, hZ, hP, hK, hD0⟩ := hv
  have hx := B.exec
  have hb := B.bytes
  have hr := B.returns
  have hts := atoms_spec (ws := wyB_two) B.pre
  have htx := fun w h => hts w (List.mem_cons_of_mem _ h)
  have hown : s.vm.findClass "ValueBench" = some m.cls := findClass_of_methodNamed B.named
  have hlocks := B.notSynchronized
  subst hsz
  have hD := hD0.self (sz := s.heap.size)
  generalize hAe : va_A [] s.heap.size = A at hD hZ ⊢
  have hA : ∀ q : Nat, s.heap.size ≤ q → A q := fun q h => by rw [← hAe]; exact Or.inr h
  have hS : va_S A s.heap s.heap [] := va_S.rf
  have hP : va_P D xcl [] s.heap := hP
  have hl := lv_entry ([.ref b0, .int x1, .int x6, .int x10, .int x11]) (n := 5) (Nat.le_of_ble_eq_true rfl)
  rw [lg_entry_eq]
  generalize (lg_sl ([.ref b0, .int x1, .int x6, .int x10, .int x11]) ++ List.replicate (5 - (lg_sl ([.ref b0, .int x1, .int x6, .int x10, .int x11])).length) Slot.unset).toArray = ls at hl ⊢
  have hl : lv_has ls 5 [(0, .ref b0), (1, .int x1), (2, .int x6), (3, .int x10), (4, .int x11)] := hl
  refine lv_iload_n hx hb dB_two_0 rfl (lv_at hl 1 rfl) ?_
  obtain ⟨hPc, hDc, hFc⟩ := xcut (wc := []) hP hD hS hA [] rfl rfl (by decide)
  refine va_calli (va_runS (As := [.int x1]) (rest := []) ⟨hx, hb, hml, hown, htx⟩ (cB_isRegister_2 l hl9 D cT aK aV s.heap.size x1 h2 h3 h4 h5) ⟨callB_of 1 htx (xw_goodC kw_2_18) rfl rfl rfl (htx _ kw_1_1) (htx _ kw_2_16) ⟨by decide, by decide, by decide +kernel⟩ ⟨Nat.le_of_ble_eq_true rfl, Nat.le_of_ble_eq_true rfl⟩, htx _ kw_2_17⟩ ⟨xPre_blind, (fun U hU hW => ⟨rfl, xPre_of hZ hS hFc hPc hDc hK U hU hW⟩)⟩ rfl rfl hl.1 rfl (lv_room (Nat.le_of_ble_eq_true rfl)) dB_two_1 ⟨Nat.le_of_ble_eq_true rfl, Nat.le_of_ble_eq_true rfl⟩) hS (fun q _ h => hFc q h) hFc (fun r1 u9 t H1 locs ht hvm hr9 hB hz1 hk1 hS => ?_)
  obtain ⟨hP1, hK1, hD1⟩ := hB
  rw [ht] at hP1
  obtain ⟨hP, hD⟩ := xjoin (W := []) hP hD [] [] 0 rfl rfl (by decide) (by decide) hk1 hFc hP1 hD1
  generalize H1 = H at hP hS ⊢
  rw [hr9]
  refine W.eq (g2 := F0 m 4 ls [.int 1]) rfl ?_
  refine lv_if_eq (tgt := 35) hx hb dB_two_4 (by decide) (fun h => ((by revert h; decide : False)).elim) (fun _ => ?_)
  refine lv_iload_n hx hb dB_two_7 rfl (lv_at hl 2 rfl) ?_
  refine lv_bipush (v := 9) hx hb dB_two_8 (by decide) ?_
  obtain ⟨hPc, hDc, hFc⟩ := xcut (wc := []) hP hD hS hA [] rfl rfl (by decide)
  refine va_calli (va_runS (As := [.int x6, .int 9]) (rest := []) ⟨hx, hb, hml, hown, htx⟩ (cB_isWithin_28 l hl9 D cT aK aV H.size x6 h7 h8 h9) ⟨callB_of 2 htx (xw_goodC kw_1_218) rfl rfl rfl (htx _ kw_1_1) (htx _ kw_1_216) ⟨by decide, by decide, by decide +kernel⟩ ⟨Nat.le_of_ble_eq_true rfl, Nat.le_of_ble_eq_true rfl⟩, htx _ kw_1_217⟩ ⟨xPre_blind, (fun U hU hW => ⟨rfl, xPre_of hZ hS hFc hPc hDc hK U hU hW⟩)⟩ rfl rfl hl.1 rfl (lv_room (Nat.le_of_ble_eq_true rfl)) dB_two_10 ⟨Nat.le_of_ble_eq_true rfl, Nat.le_of_ble_eq_true rfl⟩) hS (fun q _ h => hFc q h) hFc (fun r2 u9 t H1 locs ht hvm hr9 hB hz1 hk1 hS => ?_)
  obtain ⟨hP1, hK1, hD1⟩ := hB
  rw [ht] at hP1
  obtain ⟨hP, hD⟩ := xjoin (W := []) hP hD [] [] 0 rfl rfl (by decide) (by decide) hk1 hFc hP1 hD1
  generalize H1 = H at hP hS ⊢
  rw [hr9]
  refine W.eq (g2 := F0 m 13 ls [.int 0]) rfl ?_
  refine lv_if_eq (tgt := 35) hx hb dB_two_13 (by decide) (fun _ => ?_) (fun h => ((by revert h; decide : False)).elim)
  refine lv_iconst (v := 0) hx hb dB_two_35 (by decide) ?_
  obtain ⟨hPc, hDc, hFc⟩ := xcut (wc := []) hP hD hS hA [] rfl rfl (by decide)
  refine xx_thr (vx_runS (As := [.int 0]) (rest := []) ⟨hx, hb, hml, hown, htx⟩ (cB_demand_0 l hl9 D cT aK aV H.size) ⟨callB_of 1 htx (xw_goodC kw_1_221) rfl rfl rfl (htx _ kw_1_1) (htx _ kw_1_219) ⟨by decide, by decide, by decide +kernel⟩ ⟨Nat.le_of_ble_eq_true rfl, Nat.le_of_ble_eq_true rfl⟩, htx _ kw_1_220⟩ ⟨xPre_blind, (fun U hU hW => ⟨rfl, xPre_of hZ hS hFc hPc hDc hK U hU hW⟩)⟩ rfl rfl hl.1 rfl (lv_room (Nat.le_of_ble_eq_true rfl)) dB_two_36 ⟨Nat.le_of_ble_eq_true rfl, Nat.le_of_ble_eq_true rfl⟩) hS hFc (fun q _ h => hFc q h) (fun E ce q9 u9 t H1 locs ht hvm _ hB hz1 hk1 hS hce hcv hcl => ?_)
  obtain ⟨rfl, hP1, hK1, hD1⟩ := hB
  rw [ht] at hP1
  obtain ⟨hP, hD⟩ := xjoin (W := []) hP hD [] [] 0 rfl rfl (by decide) (by decide) hk1 hFc hP1 hD1
  generalize H1 = H at hP hS hce ⊢
  obtain ⟨hP9, hD9⟩ := xsub (wc := []) hP hD [] rfl rfl (by decide)
  exact vx_out (E := "java/lang/IllegalArgumentException") (fun x h => (hne x h).elim) hlocks hce hcv hcl (fun t ht ha => ⟨(), trivial, ⟨rfl, by rw [ht]; exact hP9, va_K.moved ha hK, hD9⟩, hS.F ht⟩) hS.2.2 (Nat.le_of_ble_eq_true rfl) (Nat.le_of_ble_eq_true rfl)
set_option maxHeartbeats 400000000 in
set_option maxRecDepth 100000 in
theorem cL_two_3 (l : Launch) (hl9 : l.stackTraces = false) (D : va_G) (cT : Nat → ClassId) (aK aV : Nat → Nat) (sz : Nat) (a0 : Nat) (x1 : Int32) (x6 : Int32) (x10 : Int32) (x11 : Int32) (v12 : Value) (v13 : Value) (v14 : Value) (v15 : Value) (v16 : Value) (v17 : Value) (v18 : Value) (v19 : Value) (h2 : ¬ x1 < 0) (h3 : ¬ 7 < x1) (h4 : x1 ≤ 7) (h5 : vp_in x1 8) (h7 : ¬ x6 < 0) (h8 : 9 < x6) (h9 : ¬ x6 ≤ 9) : xMet l yL_two wyL_two 8 1 6 144 D cT aK aV sz [.ref a0, .int x1, .int x6, .int x10, .int x11] [(a0, .inr (0, [v12, v13, v14, v15, v16, v17, v18, v19]))] (fun A => va_Qi (fun (r : Int32) (_ : Unit) => r = 1) (fun _ t => xB D xcl cT A [(a0, .inr (0, [v12, v13, v14, v15, v16, v17, v18, v19]))] t) A) := by
  refine va_MetW (cc := method_11_code) (maxL := 6) (ret := (some .int)) (hh := [(0, 9, 12, 19), (0, 9, 16, 33), (0, 9, 20, 13)]) (by decide) rfl ?_
  intro p e s m args below meth c s₁ B hml hv
  obtain ⟨rfl, hsz, hZ, hP, hK, hD0⟩ := hv
  have hx := B.exec
  have hb := B.bytes
  have hr := B.returns
  have hts := atoms_spec (ws := wyL_two) B.pre
  have htx := fun w h => hts w (List.mem_cons_of_mem _ h)
  have hown : s.vm.findClass "ValueBenchLaw" = some m.cls := findClass_of_methodNamed B.named
  have hlocks := B.notSynchronized
  subst hsz
  have hD := hD0.self (sz := s.heap.size)
  generalize hAe : va_A [(a0, .inr (0, [v12, v13, v14, v15, v16, v17, v18, v19]))] s.heap.size = A at hD hZ ⊢
  have hA : ∀ q : Nat, s.heap.size ≤ q → A q := fun q h => by rw [← hAe]; exact Or.inr h
  have hS : va_S A s.heap s.heap [] := va_S.rf
  have hP : va_P D xcl [(a0, .inr (0, [v12, v13, v14, v15, v16, v17, v18, v19]))] s.heap := hP
  have hl := lv_entry ([.ref a0, .int x1, .int x6, .int x10, .int x11]) (n := 6) (Nat.le_of_ble_eq_true rfl)
  rw [lg_entry_eq]
  generalize (lg_sl ([.ref a0, .int x1, .int x6, .int x10, .int x11]) ++ List.replicate (6 - (lg_sl ([.ref a0, .int x1, .int x6, .int x10, .int x11])).length) Slot.unset).toArray = ls at hl ⊢
  have hl : lv_has ls 6 [(0, .ref a0), (1, .int x1), (2, .int x6), (3, .int x10), (4, .int x11)] := hl
  have htab := vx_table (x := yL_two) B (hts _ List.mem_cons_self)
  refine lv_aload_n hx hb dL_two_0 rfl (lv_at hl 0 rfl) ?_
  refine lv_iload_n hx hb dL_two_1 rfl (lv_at hl 1 rfl) ?_
  refine lv_iload_n hx hb dL_two_2 rfl (lv_at hl 2 rfl) ?_
  refine lv_iload_n hx hb dL_two_3 rfl (lv_at hl 3 rfl) ?_
  refine lv_iload hx hb dL_two_4 (lv_at hl 4 rfl) ?_
  obtain ⟨hPc, hDc, hFc⟩ := xcut (wc := []) hP hD hS hA [] rfl rfl (by decide)
  refine xx_thr (vx_runV (C := "ValueBench") (As := [.int x1, .int x6, .int x10, .int x11]) (rest := []) ⟨hx, hb, hml, hown, htx⟩ (cB_two_3 l hl9 D cT aK aV s.heap.size a0 x1 x6 x10 x11 h2 h3 h4 h5 h7 h8 h9) ⟨callB_of 4 htx (xw_goodC kw_4_143) rfl rfl rfl (htx _ kw_1_1) (htx _ kw_4_140) ⟨by decide, by decide, by decide +kernel⟩ ⟨Nat.le_of_ble_eq_true rfl, Nat.le_of_ble_eq_true rfl⟩, (htx _ kw_4_141), (htx _ kw_4_142)⟩ ⟨xPre_blind, va_recv hK hP (ci := 0) rfl (q0 := 0) rfl, (fun U hU hW => ⟨rfl, xPre_of hZ hS hFc hPc hDc hK U hU hW⟩)⟩ rfl rfl hl.1 rfl (lv_room (Nat.le_of_ble_eq_true rfl)) dL_two_6 ⟨Nat.le_of_ble_eq_true rfl, Nat.le_of_ble_eq_true rfl⟩) hS hFc (fun q _ h => hFc q h) (fun E ce q9 u9 t H1 locs ht hvm _ hB hz1 hk1 hS hce hcv hcl => ?_)
  obtain ⟨rfl, hP1, hK1, hD1⟩ := hB
  rw [ht] at hP1
  obtain ⟨hP, hD⟩ := xjoin (W := [(a0, .inr (0, [v12, v13, v14, v15, v16, v17, v18, v19]))]) hP hD [] [0] 1 rfl rfl (by decide) (by decide) hk1 hFc hP1 hD1
  generalize H1 = H at hP hS hce ⊢
  refine vx_catch (own := "ValueBenchLaw") (name := "java/lang/IllegalArgumentException") (E := "java/lang/IllegalArgumentException") hown [] ⟨0, 9, 12, 19⟩ [⟨0, 9, 16, 33⟩, ⟨0, 9, 20, 13⟩] (by rw [htab]; rfl) (fun z hz => nomatch hz) (by decide) (by decide) (htx _ kw_1_211) ((hZ.2.2.2.2.2.1 "java/lang/IllegalArgumentException" (List.mem_of_getElem? (i := 1) rfl)).use rfl) hce hcv hcl ?_
  refine lv_astore (lv' := [(5, .ref q9), (0, .ref a0), (1, .int x1), (2, .int x6), (3, .int x10), (4, .int x11)]) hx hb dL_two_12 hl (by decide) rfl (fun ls hl => ?_)
  refine lv_iconst (v := 1) hx hb dL_two_14 (by decide) ?_
  obtain ⟨hP9, hD9⟩ := xsub (wc := [(a0, .inr (0, [v12, v13, v14, v15, v16, v17, v18, v19]))]) hP hD [0] rfl rfl (by decide)
  refine W.widen (k := 1) (n := 6) (Nat.le_of_ble_eq_true rfl) (Nat.le_of_ble_eq_true rfl) ?_
  exact W.iret (v := 1) hx hb hr (fun t ht hW => ⟨⟨1, (), rfl, rfl, by rw [ht]; exact hP9, va_K.moved hW.alike hK, hD9⟩, hS.F ht⟩) hS.2.2 dL_two_15
set_option maxHeartbeats 400000000 in
set_option maxRecDepth 100000 in
theorem cM_two0_3 (l : Launch) (hl9 : l.stackTraces = false) (D : va_G) (cT : Nat → ClassId) (aK aV : Nat → Nat) (sz : Nat) (a0 : Nat) (x1 : Int32) (x6 : Int32) (x10 : Int32) (x11 : Int32) (v12 : Value) (v13 : Value) (v14 : Value) (v15 : Value) (v16 : Value) (v17 : Value) (v18 : Value) (v19 : Value) (v20 : Value) (v21 : Value) (v22 : Value) (v23 : Value) (v24 : Value) (v25 : Value) (v26 : Value) (v27 : Value) (v28 : Value) (v29 : Value) (v30 : Value) (v31 : Value) (v32 : Value) (v33 : Value) (v34 : Value) (v35 : Value) (v36 : Value) (v37 : Value) (v38 : Value) (v39 : Value) (v40 : Value) (v41 : Value) (v42 : Value) (v43 : Value) (h2 : ¬ x1 < 0) (h3 : ¬ 7 < x1) (h4 : x1 ≤ 7) (h5 : vp_in x1 8) (h7 : ¬ x6 < 0) (h8 : 9 < x6) (h9 : ¬ x6 ≤ 9) : xMet l yM_two0 wyM_two0 2 0 0 40 D cT aK aV sz [.ref a0, .int x1, .int x6, .int x10, .int x11] [(a0, .inr (5, [v12, v13, v14, v15, v16, v17, v18, v19, v20, v21, v22, v23, v24, v25, v26, v27, v28, v29, v30, v31, v32, v33, v34, v35, v36, v37, v38, v39, v40, v41, v42, v43]))] (fun A => va_Qv (fun _ : Unit => True) (fun _ t => xB D xcl cT A [(a0, .inr (5, [.int 1, v13, .int 0, v15, .int 0, v17, v18, .int 0, v20, .int 0, v22, v23, .int 0, v25, v26, v27, v28, v29, v30, v31, v32, v33, .int 0, .int 1000000000, v36, v37, v38, v39, v40, v41, v42, v43]))] t) A) := by
  refine Met.ofW (cc := prog_13_method_93_code) (maxL := 5) (ret := none) (by decide) rfl ?_
  intro p e s m args below meth c s₁ B hml hv
  obtain ⟨rfl, hsz, hZ, hP, hK, hD0⟩ := hv
  have hx := B.exec
  have hb := B.bytes
  have hr := B.returns
  have hts := atoms_spec (ws := wyM_two0) B.pre
  have htx := fun w h => hts w (List.mem_cons_of_mem _ h)
  have hown : s.vm.findClass "ValueBenchModel" = some m.cls := findClass_of_methodNamed B.named
  have hlocks := B.notSynchronized
  subst hsz
  have hD := hD0.self (sz := s.heap.size)
  generalize hAe : va_A [(a0, .inr (5, [v12, v13, v14, v15, v16, v17, v18, v19, v20, v21, v22, v23, v24, v25, v26, v27, v28, v29, v30, v31, v32, v33, v34, v35, v36, v37, v38, v39, v40, v41, v42, v43]))] s.heap.size = A at hD hZ ⊢
  have hA : ∀ q : Nat, s.heap.size ≤ q → A q := fun q h => by rw [← hAe]; exact Or.inr h
  have hS : va_S A s.heap s.heap [] := va_S.rf
  have hP : va_P D xcl [(a0, .inr (5, [v12, v13, v14, v15, v16, v17, v18, v19, v20, v21, v22, v23, v24, v25, v26, v27, v28, v29, v30, v31, v32, v33, v34, v35, v36, v37, v38, v39, v40, v41, v42, v43]))] s.heap := hP
  have hl := lv_entry ([.ref a0, .int x1, .int x6, .int x10, .int x11]) (n := 5) (Nat.le_of_ble_eq_true rfl)
  rw [lg_entry_eq]
  generalize (lg_sl ([.ref a0, .int x1, .int x6, .int x10, .int x11]) ++ List.replicate (5 - (lg_sl ([.ref a0, .int x1, .int x6, .int x10, .int x11])).length) Slot.unset).toArray = ls at hl ⊢
  have hl : lv_has ls 5 [(0, .ref a0), (1, .int x1), (2, .int x6), (3, .int x10), (4, .int x11)] := hl
  refine lv_aload_n hx hb dM_two0_0 rfl (lv_at hl 0 rfl) ?_
  obtain ⟨hPc, hDc, hFc⟩ := xcut (wc := [(a0, .inr (5, [v12, v13, v14, v15, v16, v17, v18, v19, v20, v21, v22, v23, v24, v25, v26, v27, v28, v29, v30, v31, v32, v33, v34, v35, v36, v37, v38, v39, v40, v41, v42, v43]))]) hP hD hS hA [0] rfl rfl (by decide)
  refine va_callv (va_runV (C := "ValueBenchModel") (As := []) (rest := []) ⟨hx, hb, hml, hown, htx⟩ (cM_begin_0 l hl9 D cT aK aV s.heap.size a0 v12 v13 v14 v15 v16 v17 v18 v19 v20 v21 v22 v23 v24 v25 v26 v27 v28 v29 v30 v31 v32 v33 v34 v35 v36 v37 v38 v39 v40 v41 v42 v43) ⟨callB_of 0 htx (xw_goodC kw_5_209) rfl rfl rfl (htx _ kw_1_5) (htx _ kw_5_206) ⟨by decide, by decide, by decide +kernel⟩ ⟨Nat.le_of_ble_eq_true rfl, Nat.le_of_ble_eq_true rfl⟩, (htx _ kw_5_208), (htx _ kp_M_begin)⟩ ⟨xPre_blind, va_recv hK hP (ci := 5) rfl (q0 := 0) rfl, (fun U hU hW => ⟨rfl, xPre_of hZ hS hFc hPc hDc hK U hU hW⟩)⟩ rfl rfl hl.1 rfl (lv_room (Nat.le_of_ble_eq_true rfl)) dM_two0_1 ⟨Nat.le_of_ble_eq_true rfl, Nat.le_of_ble_eq_true rfl⟩) hS (fun q _ h => hFc q h) hFc (fun u9 t H1 locs ht hvm hr9 hB hz1 hk1 hS => ?_)
  obtain ⟨hP1, hK1, hD1⟩ := hB
  rw [ht] at hP1
  obtain ⟨hP, hD⟩ := xjoin (W := [(a0, .inr (5, [.int 0, v13, .int 0, v15, .int 0, v17, v18, .int 0, v20, .int 0, v22, v23, .int 0, v25, v26, v27, v28, v29, v30, v31, v32, v33, .int 0, .int 1000000000, v36, v37, v38, v39, v40, v41, v42, v43]))]) hP hD [0] [] 0 rfl rfl (by decide) (by decide) hk1 hFc hP1 hD1
  generalize H1 = H at hP hS ⊢
  refine lv_aload_n hx hb dM_two0_4 rfl (lv_at hl 0 rfl) ?_
  refine lv_iload_n hx hb dM_two0_5 rfl (lv_at hl 1 rfl) ?_
  obtain ⟨hPc, hDc, hFc⟩ := xcut (wc := []) hP hD hS hA [] rfl rfl (by decide)
  refine va_calli (va_runV (C := "ValueBenchModel") (As := [.int x1]) (rest := []) ⟨hx, hb, hml, hown, htx⟩ (cM_out_2 l hl9 D cT aK aV H.size a0 x1 h2 h3 h4 h5) ⟨callB_of 1 htx (xw_goodC kw_5_217) rfl rfl rfl (htx _ kw_1_5) (htx _ kw_5_214) ⟨by decide, by decide, by decide +kernel⟩ ⟨Nat.le_of_ble_eq_true rfl, Nat.le_of_ble_eq_true rfl⟩, (htx _ kw_5_216), (htx _ kp_M_out)⟩ ⟨xPre_blind, va_recv hK hP (ci := 5) rfl (q0 := 0) rfl, (fun U hU hW => ⟨rfl, xPre_of hZ hS hFc hPc hDc hK U hU hW⟩)⟩ rfl rfl hl.1 rfl (lv_room (Nat.le_of_ble_eq_true rfl)) dM_two0_6 ⟨Nat.le_of_ble_eq_true rfl, Nat.le_of_ble_eq_true rfl⟩) hS (fun q _ h => hFc q h) hFc (fun r1 u9 t H1 locs ht hvm hr9 hB hz1 hk1 hS => ?_)
  obtain ⟨hP1, hK1, hD1⟩ := hB
  rw [ht] at hP1
  obtain ⟨hP, hD⟩ := xjoin (W := [(a0, .inr (5, [.int 0, v13, .int 0, v15, .int 0, v17, v18, .int 0, v20, .int 0, v22, v23, .int 0, v25, v26, v27, v28, v29, v30, v31, v32, v33, .int 0, .int 1000000000, v36, v37, v38, v39, v40, v41, v42, v43]))]) hP hD [] [0] 1 rfl rfl (by decide) (by decide) hk1 hFc hP1 hD1
  generalize H1 = H at hP hS ⊢
  rw [hr9]
  refine W.eq (g2 := F0 m 9 ls [.int 0]) rfl ?_
  refine lv_if_ne (tgt := 39) hx hb dM_two0_9 (by decide) (fun h => ((by revert h; decide : False)).elim) (fun _ => ?_)
  refine lv_iload_n hx hb dM_two0_12 rfl (lv_at hl 2 rfl) ?_
  refine lv_if_lt (tgt := 39) hx hb dM_two0_13 (by decide) (fun h => by first | exact absurd h h7 | exact absurd h h8 | exact absurd h h9 | exact absurd h7 h | exact absurd h8 h | exact absurd h9 h) (fun _ => ?_)
  refine lv_iload_n hx hb dM_two0_16 rfl (lv_at hl 2 rfl) ?_
  refine lv_bipush (v := 9) hx hb dM_two0_17 (by decide) ?_
  refine lv_icmp_gt (tgt := 39) hx hb dM_two0_19 (by decide) (fun _ => ?_) (fun h => by first | exact absurd h h7 | exact absurd h h8 | exact absurd h h9 | exact absurd h7 h | exact absurd h8 h | exact absurd h9 h)
  refine lv_aload_n hx hb dM_two0_39 rfl (lv_at hl 0 rfl) ?_
  refine lv_iconst (v := 1) hx hb dM_two0_40 (by decide) ?_
  refine va_put (D := D) (ci := 5) (v := .int 1) (ty := .int) (C := "ValueBenchModel") (T := TM) (N := 32) hx hb htx inM tyM tyM_ok nmM hown hK hP hD hS 0 rfl rfl 0 (by decide) (htx _ kw_5_87) (fun _ h9 => h9) rfl (by decide +kernel) rfl rfl (Nat.le_of_ble_eq_true rfl) dM_two0_41 (fun H locs hP hD hS => ?_)
  obtain ⟨hP, hD⟩ : xPD D xcl A [(a0, .inr (5, [.int 1, v13, .int 0, v15, .int 0, v17, v18, .int 0, v20, .int 0, v22, v23, .int 0, v25, v26, v27, v28, v29, v30, v31, v32, v33, .int 0, .int 1000000000, v36, v37, v38, v39, v40, v41, v42, v43]))] H := ⟨hP, hD⟩
  refine lv_goto (tgt := 57) hx hb dM_two0_44 (by decide) ?_
  obtain ⟨hP9, hD9⟩ := xsub (wc := [(a0, .inr (5, [.int 1, v13, .int 0, v15, .int 0, v17, v18, .int 0, v20, .int 0, v22, v23, .int 0, v25, v26, v27, v28, v29, v30, v31, v32, v33, .int 0, .int 1000000000, v36, v37, v38, v39, v40, v41, v42, v43]))]) hP hD [0] rfl rfl (by decide)
  refine W.widen (k := 0) (n := 0) (Nat.le_of_ble_eq_true rfl) (Nat.le_of_ble_eq_true rfl) ?_
  exact W.vret hx hb hr (fun t ht hW => ⟨⟨(), rfl, trivial, by rw [ht]; exact hP9, va_K.moved hW.alike hK, hD9⟩, hS.F ht⟩) hS.2.2 dM_two0_57
set_option maxHeartbeats 400000000 in
set_option maxRecDepth 100000 in
theorem cB_isWithin_29 (l : Launch) (hl9 : l.stackTraces = false) (D : va_G) (cT : Nat → ClassId) (aK aV : Nat → Nat) (sz : Nat) (x0 : Int32) (h1 : ¬ x0 < 0) (h2 : ¬ 9 < x0) (h3 : x0 ≤ 9) : xMet l yB_isWithin wyB_isWithin 0 0 0 0 D cT aK aV sz [.int x0, .int 9] [] (fun A => va_Qi (fun (r : Int32) (_ : Unit) => r = 1) (fun _ t => xB D xcl cT A [] t) A) := by
  refine Met.ofW (cc := prog_1_method_15_code) (maxL := 2) (ret := (some .boolean)) (by decide) rfl ?_
  intro p e s m args below meth c s₁ B hml hv
  obtain ⟨rfl, hsz, hZ, hP, hK, hD0⟩ := hv
  have hx := B.exec
  have hb := B.bytes
  have hr := B.returns
  have hts := atoms_spec (ws := wyB_isWithin) B.pre
  have htx := fun w h => hts w (List.mem_cons_of_mem _ h)
  have hown : s.vm.findClass "ValueBench" = some m.cls := findClass_of_methodNamed B.named
  have hlocks := B.notSynchronized
  subst hsz
  have hD := hD0.self (sz := s.heap.size)
  generalize hAe : va_A [] s.heap.size = A at hD hZ ⊢
  have hA : ∀ q : Nat, s.heap.size ≤ q → A q := fun q h => by rw [← hAe]; exact Or.inr h
  have hS : va_S A s.heap s.heap [] := va_S.rf
  have hP : va_P D xcl [] s.heap := hP
  have hl := lv_entry ([.int x0, .int 9]) (n := 2) (Nat.le_of_ble_eq_true rfl)
  rw [lg_entry_eq]
  generalize (lg_sl ([.int x0, .int 9]) ++ List.replicate (2 - (lg_sl ([.int x0, .int 9])).length) Slot.unset).toArray = ls at hl ⊢
  have hl : lv_has ls 2 [(0, .int x0), (1, .int 9)] := hl
  refine lv_iload_n hx hb dB_isWithin_0 rfl (lv_at hl 0 rfl) ?_
  refine lv_if_lt (tgt := 13) hx hb dB_isWithin_1 (by decide) (fun h => by first | exact absurd h h1 | exact absurd h h2 | exact absurd h h3 | exact absurd h1 h | exact absurd h2 h | exact absurd h3 h) (fun _ => ?_)
  refine lv_iload_n hx hb dB_isWithin_4 rfl (lv_at hl 0 rfl) ?_
  refine lv_iload_n hx hb dB_isWithin_5 rfl (lv_at hl 1 rfl) ?_
  refine lv_icmp_gt (tgt := 13) hx hb dB_isWithin_6 (by decide) (fun h => by first | exact absurd h h1 | exact absurd h h2 | exact absurd h h3 | exact absurd h1 h | exact absurd h2 h | exact absurd h3 h) (fun _ => ?_)
  refine lv_iconst (v := 1) hx hb dB_isWithin_9 (by decide) ?_
  refine lv_goto (tgt := 14) hx hb dB_isWithin_10 (by decide) ?_
  obtain ⟨hP9, hD9⟩ := xsub (wc := []) hP hD [] rfl rfl (by decide)
  refine W.widen (k := 0) (n := 0) (Nat.le_of_ble_eq_true rfl) (Nat.le_of_ble_eq_true rfl) ?_
  exact W.zret (v := 1) hx hb hr rfl (fun t ht hW => ⟨⟨1, (), rfl, rfl, by rw [ht]; exact hP9, va_K.moved hW.alike hK, hD9⟩, hS.F ht⟩) hS.2.2 dB_isWithin_14
set_option maxHeartbeats 400000000 in
set_option maxRecDepth 100000 in
theorem cB_two_4 (l : Launch) (hl9 : l.stackTraces = false) (D : va_G) (cT : Nat → ClassId) (aK aV : Nat → Nat) (sz : Nat) (b0 : Nat) (x1 : Int32) (x6 : Int32) (x10 : Int32) (x12 : Int32) (h2 : ¬ x1 < 0) (h3 : ¬ 7 < x1) (h4 : x1 ≤ 7) (h5 : vp_in x1 8) (h7 : ¬ x6 < 0) (h8 : ¬ 9 < x6) (h9 : x6 ≤ 9) (h11 : x10 < 0) : xMetX l yB_two wyB_two 7 1 6 120 D cT aK aV sz [.ref b0, .int x1, .int x6, .int x10, .int x12] [] "java/lang/IllegalArgumentException" (fun A t => xB D xcl cT A [] t) := by
  refine vx_ofW (cc := prog_1_method_10_code) (maxL := 5) (ret := none) (by decide) rfl ?_
  intro p e s m args below meth c s₁ B hml hne hv
  obtain ⟨rfl, hsz, hZ, hP, hK, hD0⟩ := hv
  have hx := B.exec
  have hb := B.bytes
  have hr := B.returns
  have hts := atoms_spec (ws := wyB_two) B.pre
  have htx := fun w h => hts w (List.mem_cons_of_mem _ h)
  have hown : s.vm.findClass "ValueBench" = some m.cls := findClass_of_methodNamed B.named
  have hlocks := B.notSynchronized
  subst hsz
  have hD := hD0.self (sz := s.heap.size)
  generalize hAe : va_A [] s.heap.size = A at hD hZ ⊢
  have hA : ∀ q : Nat, s.heap.size ≤ q → A q := fun q h => by rw [← hAe]; exact Or.inr h
  have hS : va_S A s.heap s.heap [] := va_S.rf
  have hP : va_P D xcl [] s.heap := hP
  have hl := lv_entry ([.ref b0, .int x1, .int x6, .int x10, .int x12]) (n := 5) (Nat.le_of_ble_eq_true rfl)
  rw [lg_entry_eq]
  generalize (lg_sl ([.ref b0, .int x1, .int x6, .int x10, .int x12]) ++ List.replicate (5 - (lg_sl ([.ref b0, .int x1, .int x6, .int x10, .int x12])).length) Slot.unset).toArray = ls at hl ⊢
  have hl : lv_has ls 5 [(0, .ref b0), (1, .int x1), (2, .int x6), (3, .int x10), (4, .int x12)] := hl
  refine lv_iload_n hx hb dB_two_0 rfl (lv_at hl 1 rfl) ?_
  obtain ⟨hPc, hDc, hFc⟩ := xcut (wc := []) hP hD hS hA [] rfl rfl (by decide)
  refine va_calli (va_runS (As := [.int x1]) (rest := []) ⟨hx, hb, hml, hown, htx⟩ (cB_isRegister_2 l hl9 D cT aK aV s.heap.size x1 h2 h3 h4 h5) ⟨callB_of 1 htx (xw_goodC kw_2_18) rfl rfl rfl (htx _ kw_1_1) (htx _ kw_2_16) ⟨by decide, by decide, by decide +kernel⟩ ⟨Nat.le_of_ble_eq_true rfl, Nat.le_of_ble_eq_true rfl⟩, htx _ kw_2_17⟩ ⟨xPre_blind, (fun U hU hW => ⟨rfl, xPre_of hZ hS hFc hPc hDc hK U hU hW⟩)⟩ rfl rfl hl.1 rfl (lv_room (Nat.le_of_ble_eq_true rfl)) dB_two_1 ⟨Nat.le_of_ble_eq_true rfl, Nat.le_of_ble_eq_true rfl⟩) hS (fun q _ h => hFc q h) hFc (fun r1 u9 t H1 locs ht hvm hr9 hB hz1 hk1 hS => ?_)
  obtain ⟨hP1, hK1, hD1⟩ := hB
  rw [ht] at hP1
  obtain ⟨hP, hD⟩ := xjoin (W := []) hP hD [] [] 0 rfl rfl (by decide) (by decide) hk1 hFc hP1 hD1
  generalize H1 = H at hP hS ⊢
  rw [hr9]
  refine W.eq (g2 := F0 m 4 ls [.int 1]) rfl ?_
  refine lv_if_eq (tgt := 35) hx hb dB_two_4 (by decide) (fun h => ((by revert h; decide : False)).elim) (fun _ => ?_)
  refine lv_iload_n hx hb dB_two_7 rfl (lv_at hl 2 rfl) ?_
  refine lv_bipush (v := 9) hx hb dB_two_8 (by decide) ?_
  obtain ⟨hPc, hDc, hFc⟩ := xcut (wc := []) hP hD hS hA [] rfl rfl (by decide)
  refine va_calli (va_runS (As := [.int x6, .int 9]) (rest := []) ⟨hx, hb, hml, hown, htx⟩ (cB_isWithin_29 l hl9 D cT aK aV H.size x6 h7 h8 h9) ⟨callB_of 2 htx (xw_goodC kw_1_218) rfl rfl rfl (htx _ kw_1_1) (htx _ kw_1_216) ⟨by decide, by decide, by decide +kernel⟩ ⟨Nat.le_of_ble_eq_true rfl, Nat.le_of_ble_eq_true rfl⟩, htx _ kw_1_217⟩ ⟨xPre_blind, (fun U hU hW => ⟨rfl, xPre_of hZ hS hFc hPc hDc hK U hU hW⟩)⟩ rfl rfl hl.1 rfl (lv_room (Nat.le_of_ble_eq_true rfl)) dB_two_10 ⟨Nat.le_of_ble_eq_true rfl, Nat.le_of_ble_eq_true rfl⟩) hS (fun q _ h => hFc q h) hFc (fun r2 u9 t H1 locs ht hvm hr9 hB hz1 hk1 hS => ?_)
  obtain ⟨hP1, hK1, hD1⟩ := hB
  rw [ht] at hP1
  obtain ⟨hP, hD⟩ := xjoin (W := []) hP hD [] [] 0 rfl rfl (by decide) (by decide) hk1 hFc hP1 hD1
  generalize H1 = H at hP hS ⊢
  rw [hr9]
  refine W.eq (g2 := F0 m 13 ls [.int 1]) rfl ?_
  refine lv_if_eq (tgt := 35) hx hb dB_two_13 (by decide) (fun h => ((by revert h; decide : False)).elim) (fun _ => ?_)
  refine lv_iload_n hx hb dB_two_16 rfl (lv_at hl 3 rfl) ?_
  obtain ⟨hPc, hDc, hFc⟩ := xcut (wc := []) hP hD hS hA [] rfl rfl (by decide)
  refine va_calli (va_runS (As := [.int x10]) (rest := []) ⟨hx, hb, hml, hown, htx⟩ (cB_isRegister_0 l hl9 D cT aK aV H.size x10 h11) ⟨callB_of 1 htx (xw_goodC kw_2_18) rfl rfl rfl (htx _ kw_1_1) (htx _ kw_2_16) ⟨by decide, by decide, by decide +kernel⟩ ⟨Nat.le_of_ble_eq_true rfl, Nat.le_of_ble_eq_true rfl⟩, htx _ kw_2_17⟩ ⟨xPre_blind, (fun U hU hW => ⟨rfl, xPre_of hZ hS hFc hPc hDc hK U hU hW⟩)⟩ rfl rfl hl.1 rfl (lv_room (Nat.le_of_ble_eq_true rfl)) dB_two_17 ⟨Nat.le_of_ble_eq_true rfl, Nat.le_of_ble_eq_true rfl⟩) hS (fun q _ h => hFc q h) hFc (fun r3 u9 t H1 locs ht hvm hr9 hB hz1 hk1 hS => ?_)
  obtain ⟨hP1, hK1, hD1⟩ := hB
  rw [ht] at hP1
  obtain ⟨hP, hD⟩ := xjoin (W := []) hP hD [] [] 0 rfl rfl (by decide) (by decide) hk1 hFc hP1 hD1
  generalize H1 = H at hP hS ⊢
  rw [hr9]
  refine W.eq (g2 := F0 m 20 ls [.int 0]) rfl ?_
  refine lv_if_eq (tgt := 35) hx hb dB_two_20 (by decide) (fun _ => ?_) (fun h => ((by revert h; decide : False)).elim)
  refine lv_iconst (v := 0) hx hb dB_two_35 (by decide) ?_
  obtain ⟨hPc, hDc, hFc⟩ := xcut (wc := []) hP hD hS hA [] rfl rfl (by decide)
  refine xx_thr (vx_runS (As := [.int 0]) (rest := []) ⟨hx, hb, hml, hown, htx⟩ (cB_demand_0 l hl9 D cT aK aV H.size) ⟨callB_of 1 htx (xw_goodC kw_1_221) rfl rfl rfl (htx _ kw_1_1) (htx _ kw_1_219) ⟨by decide, by decide, by decide +kernel⟩ ⟨Nat.le_of_ble_eq_true rfl, Nat.le_of_ble_eq_true rfl⟩, htx _ kw_1_220⟩ ⟨xPre_blind, (fun U hU hW => ⟨rfl, xPre_of hZ hS hFc hPc hDc hK U hU hW⟩)⟩ rfl rfl hl.1 rfl (lv_room (Nat.le_of_ble_eq_true rfl)) dB_two_36 ⟨Nat.le_of_ble_eq_true rfl, Nat.le_of_ble_eq_true rfl⟩) hS hFc (fun q _ h => hFc q h) (fun E ce q9 u9 t H1 locs ht hvm _ hB hz1 hk1 hS hce hcv hcl => ?_)
  obtain ⟨rfl, hP1, hK1, hD1⟩ := hB
  rw [ht] at hP1
  obtain ⟨hP, hD⟩ := xjoin (W := []) hP hD [] [] 0 rfl rfl (by decide) (by decide) hk1 hFc hP1 hD1
  generalize H1 = H at hP hS hce ⊢
  obtain ⟨hP9, hD9⟩ := xsub (wc := []) hP hD [] rfl rfl (by decide)
  exact vx_out (E := "java/lang/IllegalArgumentException") (fun x h => (hne x h).elim) hlocks hce hcv hcl (fun t ht ha => ⟨(), trivial, ⟨rfl, by rw [ht]; exact hP9, va_K.moved ha hK, hD9⟩, hS.F ht⟩) hS.2.2 (Nat.le_of_ble_eq_true rfl) (Nat.le_of_ble_eq_true rfl)
set_option maxHeartbeats 400000000 in
set_option maxRecDepth 100000 in
theorem cL_two_4 (l : Launch) (hl9 : l.stackTraces = false) (D : va_G) (cT : Nat → ClassId) (aK aV : Nat → Nat) (sz : Nat) (a0 : Nat) (x1 : Int32) (x6 : Int32) (x10 : Int32) (x12 : Int32) (v13 : Value) (v14 : Value) (v15 : Value) (v16 : Value) (v17 : Value) (v18 : Value) (v19 : Value) (v20 : Value) (h2 : ¬ x1 < 0) (h3 : ¬ 7 < x1) (h4 : x1 ≤ 7) (h5 : vp_in x1 8) (h7 : ¬ x6 < 0) (h8 : ¬ 9 < x6) (h9 : x6 ≤ 9) (h11 : x10 < 0) : xMet l yL_two wyL_two 8 1 6 144 D cT aK aV sz [.ref a0, .int x1, .int x6, .int x10, .int x12] [(a0, .inr (0, [v13, v14, v15, v16, v17, v18, v19, v20]))] (fun A => va_Qi (fun (r : Int32) (_ : Unit) => r = 1) (fun _ t => xB D xcl cT A [(a0, .inr (0, [v13, v14, v15, v16, v17, v18, v19, v20]))] t) A) := by
  refine va_MetW (cc := method_11_code) (maxL := 6) (ret := (some .int)) (hh := [(0, 9, 12, 19), (0, 9, 16, 33), (0, 9, 20, 13)]) (by decide) rfl ?_
  intro p e s m args below meth c s₁ B hml hv
  obtain ⟨rfl, hsz, hZ, hP, hK, hD0⟩ := hv
  have hx := B.exec
  have hb := B.bytes
  have hr := B.returns
  have hts := atoms_spec (ws := wyL_two) B.pre
  have htx := fun w h => hts w (List.mem_cons_of_mem _ h)
  have hown : s.vm.findClass "ValueBenchLaw" = some m.cls := findClass_of_methodNamed B.named
  have hlocks := B.notSynchronized
  subst hsz
  have hD := hD0.self (sz := s.heap.size)
  generalize hAe : va_A [(a0, .inr (0, [v13, v14, v15, v16, v17, v18, v19, v20]))] s.heap.size = A at hD hZ ⊢
  have hA : ∀ q : Nat, s.heap.size ≤ q → A q := fun q h => by rw [← hAe]; exact Or.inr h
  have hS : va_S A s.heap s.heap [] := va_S.rf
  have hP : va_P D xcl [(a0, .inr (0, [v13, v14, v15, v16, v17, v18, v19, v20]))] s.heap := hP
  have hl := lv_entry ([.ref a0, .int x1, .int x6, .int x10, .int x12]) (n := 6) (Nat.le_of_ble_eq_true rfl)
  rw [lg_entry_eq]
  generalize (lg_sl ([.ref a0, .int x1, .int x6, .int x10, .int x12]) ++ List.replicate (6 - (lg_sl ([.ref a0, .int x1, .int x6, .int x10, .int x12])).length) Slot.unset).toArray = ls at hl ⊢
  have hl : lv_has ls 6 [(0, .ref a0), (1, .int x1), (2, .int x6), (3, .int x10), (4, .int x12)] := hl
  have htab := vx_table (x := yL_two) B (hts _ List.mem_cons_self)
  refine lv_aload_n hx hb dL_two_0 rfl (lv_at hl 0 rfl) ?_
  refine lv_iload_n hx hb dL_two_1 rfl (lv_at hl 1 rfl) ?_
  refine lv_iload_n hx hb dL_two_2 rfl (lv_at hl 2 rfl) ?_
  refine lv_iload_n hx hb dL_two_3 rfl (lv_at hl 3 rfl) ?_
  refine lv_iload hx hb dL_two_4 (lv_at hl 4 rfl) ?_
  obtain ⟨hPc, hDc, hFc⟩ := xcut (wc := []) hP hD hS hA [] rfl rfl (by decide)
  refine xx_thr (vx_runV (C := "ValueBench") (As := [.int x1, .int x6, .int x10, .int x12]) (rest := []) ⟨hx, hb, hml, hown, htx⟩ (cB_two_4 l hl9 D cT aK aV s.heap.size a0 x1 x6 x10 x12 h2 h3 h4 h5 h7 h8 h9 h11) ⟨callB_of 4 htx (xw_goodC kw_4_143) rfl rfl rfl (htx _ kw_1_1) (htx _ kw_4_140) ⟨by decide, by decide, by decide +kernel⟩ ⟨Nat.le_of_ble_eq_true rfl, Nat.le_of_ble_eq_true rfl⟩, (htx _ kw_4_141), (htx _ kw_4_142)⟩ ⟨xPre_blind, va_recv hK hP (ci := 0) rfl (q0 := 0) rfl, (fun U hU hW => ⟨rfl, xPre_of hZ hS hFc hPc hDc hK U hU hW⟩)⟩ rfl rfl hl.1 rfl (lv_room (Nat.le_of_ble_eq_true rfl)) dL_two_6 ⟨Nat.le_of_ble_eq_true rfl, Nat.le_of_ble_eq_true rfl⟩) hS hFc (fun q _ h => hFc q h) (fun E ce q9 u9 t H1 locs ht hvm _ hB hz1 hk1 hS hce hcv hcl => ?_)
  obtain ⟨rfl, hP1, hK1, hD1⟩ := hB
  rw [ht] at hP1
  obtain ⟨hP, hD⟩ := xjoin (W := [(a0, .inr (0, [v13, v14, v15, v16, v17, v18, v19, v20]))]) hP hD [] [0] 1 rfl rfl (by decide) (by decide) hk1 hFc hP1 hD1
  generalize H1 = H at hP hS hce ⊢
  refine vx_catch (own := "ValueBenchLaw") (name := "java/lang/IllegalArgumentException") (E := "java/lang/IllegalArgumentException") hown [] ⟨0, 9, 12, 19⟩ [⟨0, 9, 16, 33⟩, ⟨0, 9, 20, 13⟩] (by rw [htab]; rfl) (fun z hz => nomatch hz) (by decide) (by decide) (htx _ kw_1_211) ((hZ.2.2.2.2.2.1 "java/lang/IllegalArgumentException" (List.mem_of_getElem? (i := 1) rfl)).use rfl) hce hcv hcl ?_
  refine lv_astore (lv' := [(5, .ref q9), (0, .ref a0), (1, .int x1), (2, .int x6), (3, .int x10), (4, .int x12)]) hx hb dL_two_12 hl (by decide) rfl (fun ls hl => ?_)
  refine lv_iconst (v := 1) hx hb dL_two_14 (by decide) ?_
  obtain ⟨hP9, hD9⟩ := xsub (wc := [(a0, .inr (0, [v13, v14, v15, v16, v17, v18, v19, v20]))]) hP hD [0] rfl rfl (by decide)
  refine W.widen (k := 1) (n := 6) (Nat.le_of_ble_eq_true rfl) (Nat.le_of_ble_eq_true rfl) ?_
  exact W.iret (v := 1) hx hb hr (fun t ht hW => ⟨⟨1, (), rfl, rfl, by rw [ht]; exact hP9, va_K.moved hW.alike hK, hD9⟩, hS.F ht⟩) hS.2.2 dL_two_15
set_option maxHeartbeats 400000000 in
set_option maxRecDepth 100000 in
theorem cM_two0_4 (l : Launch) (hl9 : l.stackTraces = false) (D : va_G) (cT : Nat → ClassId) (aK aV : Nat → Nat) (sz : Nat) (a0 : Nat) (x1 : Int32) (x6 : Int32) (x10 : Int32) (x12 : Int32) (v13 : Value) (v14 : Value) (v15 : Value) (v16 : Value) (v17 : Value) (v18 : Value) (v19 : Value) (v20 : Value) (v21 : Value) (v22 : Value) (v23 : Value) (v24 : Value) (v25 : Value) (v26 : Value) (v27 : Value) (v28 : Value) (v29 : Value) (v30 : Value) (v31 : Value) (v32 : Value) (v33 : Value) (v34 : Value) (v35 : Value) (v36 : Value) (v37 : Value) (v38 : Value) (v39 : Value) (v40 : Value) (v41 : Value) (v42 : Value) (v43 : Value) (v44 : Value) (h2 : ¬ x1 < 0) (h3 : ¬ 7 < x1) (h4 : x1 ≤ 7) (h5 : vp_in x1 8) (h7 : ¬ x6 < 0) (h8 : ¬ 9 < x6) (h9 : x6 ≤ 9) (h11 : x10 < 0) : xMet l yM_two0 wyM_two0 2 0 0 40 D cT aK aV sz [.ref a0, .int x1, .int x6, .int x10, .int x12] [(a0, .inr (5, [v13, v14, v15, v16, v17, v18, v19, v20, v21, v22, v23, v24, v25, v26, v27, v28, v29, v30, v31, v32, v33, v34, v35, v36, v37, v38, v39, v40, v41, v42, v43, v44]))] (fun A => va_Qv (fun _ : Unit => True) (fun _ t => xB D xcl cT A [(a0, .inr (5, [.int 1, v14, .int 0, v16, .int 0, v18, v19, .int 0, v21, .int 0, v23, v24, .int 0, v26, v27, v28, v29, v30, v31, v32, v33, v34, .int 0, .int 1000000000, v37, v38, v39, v40, v41, v42, v43, v44]))] t) A) := by
  refine Met.ofW (cc := prog_13_method_93_code) (maxL := 5) (ret := none) (by decide) rfl ?_
  intro p e s m args below meth c s₁ B hml hv
  obtain ⟨rfl, hsz, hZ, hP, hK, hD0⟩ := hv
  have hx := B.exec
  have hb := B.bytes
  have hr := B.returns
  have hts := atoms_spec (ws := wyM_two0) B.pre
  have htx := fun w h => hts w (List.mem_cons_of_mem _ h)
  have hown : s.vm.findClass "ValueBenchModel" = some m.cls := findClass_of_methodNamed B.named
  have hlocks := B.notSynchronized
  subst hsz
  have hD := hD0.self (sz := s.heap.size)
  generalize hAe : va_A [(a0, .inr (5, [v13, v14, v15, v16, v17, v18, v19, v20, v21, v22, v23, v24, v25, v26, v27, v28, v29, v30, v31, v32, v33, v34, v35, v36, v37, v38, v39, v40, v41, v42, v43, v44]))] s.heap.size = A at hD hZ ⊢
  have hA : ∀ q : Nat, s.heap.size ≤ q → A q := fun q h => by rw [← hAe]; exact Or.inr h
  have hS : va_S A s.heap s.heap [] := va_S.rf
  have hP : va_P D xcl [(a0, .inr (5, [v13, v14, v15, v16, v17, v18, v19, v20, v21, v22, v23, v24, v25, v26, v27, v28, v29, v30, v31, v32, v33, v34, v35, v36, v37, v38, v39, v40, v41, v42, v43, v44]))] s.heap := hP
  have hl := lv_entry ([.ref a0, .int x1, .int x6, .int x10, .int x12]) (n := 5) (Nat.le_of_ble_eq_true rfl)
  rw [lg_entry_eq]
  generalize (lg_sl ([.ref a0, .int x1, .int x6, .int x10, .int x12]) ++ List.replicate (5 - (lg_sl ([.ref a0, .int x1, .int x6, .int x10, .int x12])).length) Slot.unset).toArray = ls at hl ⊢
  have hl : lv_has ls 5 [(0, .ref a0), (1, .int x1), (2, .int x6), (3, .int x10), (4, .int x12)] := hl
  refine lv_aload_n hx hb dM_two0_0 rfl (lv_at hl 0 rfl) ?_
  obtain ⟨hPc, hDc, hFc⟩ := xcut (wc := [(a0, .inr (5, [v13, v14, v15, v16, v17, v18, v19, v20, v21, v22, v23, v24, v25, v26, v27, v28, v29, v30, v31, v32, v33, v34, v35, v36, v37, v38, v39, v40, v41, v42, v43, v44]))]) hP hD hS hA [0] rfl rfl (by decide)
  refine va_callv (va_runV (C := "ValueBenchModel") (As := []) (rest := []) ⟨hx, hb, hml, hown, htx⟩ (cM_begin_0 l hl9 D cT aK aV s.heap.size a0 v13 v14 v15 v16 v17 v18 v19 v20 v21 v22 v23 v24 v25 v26 v27 v28 v29 v30 v31 v32 v33 v34 v35 v36 v37 v38 v39 v40 v41 v42 v43 v44) ⟨callB_of 0 htx (xw_goodC kw_5_209) rfl rfl rfl (htx _ kw_1_5) (htx _ kw_5_206) ⟨by decide, by decide, by decide +kernel⟩ ⟨Nat.le_of_ble_eq_true rfl, Nat.le_of_ble_eq_true rfl⟩, (htx _ kw_5_208), (htx _ kp_M_begin)⟩ ⟨xPre_blind, va_recv hK hP (ci := 5) rfl (q0 := 0) rfl, (fun U hU hW => ⟨rfl, xPre_of hZ hS hFc hPc hDc hK U hU hW⟩)⟩ rfl rfl hl.1 rfl (lv_room (Nat.le_of_ble_eq_true rfl)) dM_two0_1 ⟨Nat.le_of_ble_eq_true rfl, Nat.le_of_ble_eq_true rfl⟩) hS (fun q _ h => hFc q h) hFc (fun u9 t H1 locs ht hvm hr9 hB hz1 hk1 hS => ?_)
  obtain ⟨hP1, hK1, hD1⟩ := hB
  rw [ht] at hP1
  obtain ⟨hP, hD⟩ := xjoin (W := [(a0, .inr (5, [.int 0, v14, .int 0, v16, .int 0, v18, v19, .int 0, v21, .int 0, v23, v24, .int 0, v26, v27, v28, v29, v30, v31, v32, v33, v34, .int 0, .int 1000000000, v37, v38, v39, v40, v41, v42, v43, v44]))]) hP hD [0] [] 0 rfl rfl (by decide) (by decide) hk1 hFc hP1 hD1
  generalize H1 = H at hP hS ⊢
  refine lv_aload_n hx hb dM_two0_4 rfl (lv_at hl 0 rfl) ?_
  refine lv_iload_n hx hb dM_two0_5 rfl (lv_at hl 1 rfl) ?_
  obtain ⟨hPc, hDc, hFc⟩ := xcut (wc := []) hP hD hS hA [] rfl rfl (by decide)
  refine va_calli (va_runV (C := "ValueBenchModel") (As := [.int x1]) (rest := []) ⟨hx, hb, hml, hown, htx⟩ (cM_out_2 l hl9 D cT aK aV H.size a0 x1 h2 h3 h4 h5) ⟨callB_of 1 htx (xw_goodC kw_5_217) rfl rfl rfl (htx _ kw_1_5) (htx _ kw_5_214) ⟨by decide, by decide, by decide +kernel⟩ ⟨Nat.le_of_ble_eq_true rfl, Nat.le_of_ble_eq_true rfl⟩, (htx _ kw_5_216), (htx _ kp_M_out)⟩ ⟨xPre_blind, va_recv hK hP (ci := 5) rfl (q0 := 0) rfl, (fun U hU hW => ⟨rfl, xPre_of hZ hS hFc hPc hDc hK U hU hW⟩)⟩ rfl rfl hl.1 rfl (lv_room (Nat.le_of_ble_eq_true rfl)) dM_two0_6 ⟨Nat.le_of_ble_eq_true rfl, Nat.le_of_ble_eq_true rfl⟩) hS (fun q _ h => hFc q h) hFc (fun r1 u9 t H1 locs ht hvm hr9 hB hz1 hk1 hS => ?_)
  obtain ⟨hP1, hK1, hD1⟩ := hB
  rw [ht] at hP1
  obtain ⟨hP, hD⟩ := xjoin (W := [(a0, .inr (5, [.int 0, v14, .int 0, v16, .int 0, v18, v19, .int 0, v21, .int 0, v23, v24, .int 0, v26, v27, v28, v29, v30, v31, v32, v33, v34, .int 0, .int 1000000000, v37, v38, v39, v40, v41, v42, v43, v44]))]) hP hD [] [0] 1 rfl rfl (by decide) (by decide) hk1 hFc hP1 hD1
  generalize H1 = H at hP hS ⊢
  rw [hr9]
  refine W.eq (g2 := F0 m 9 ls [.int 0]) rfl ?_
  refine lv_if_ne (tgt := 39) hx hb dM_two0_9 (by decide) (fun h => ((by revert h; decide : False)).elim) (fun _ => ?_)
  refine lv_iload_n hx hb dM_two0_12 rfl (lv_at hl 2 rfl) ?_
  refine lv_if_lt (tgt := 39) hx hb dM_two0_13 (by decide) (fun h => by first | exact absurd h h7 | exact absurd h h8 | exact absurd h h9 | exact absurd h7 h | exact absurd h8 h | exact absurd h9 h) (fun _ => ?_)
  refine lv_iload_n hx hb dM_two0_16 rfl (lv_at hl 2 rfl) ?_
  refine lv_bipush (v := 9) hx hb dM_two0_17 (by decide) ?_
  refine lv_icmp_gt (tgt := 39) hx hb dM_two0_19 (by decide) (fun h => by first | exact absurd h h7 | exact absurd h h8 | exact absurd h h9 | exact absurd h7 h | exact absurd h8 h | exact absurd h9 h) (fun _ => ?_)
  refine lv_aload_n hx hb dM_two0_22 rfl (lv_at hl 0 rfl) ?_
  refine lv_iload_n hx hb dM_two0_23 rfl (lv_at hl 3 rfl) ?_
  obtain ⟨hPc, hDc, hFc⟩ := xcut (wc := []) hP hD hS hA [] rfl rfl (by decide)
  refine va_calli (va_runV (C := "ValueBenchModel") (As := [.int x10]) (rest := []) ⟨hx, hb, hml, hown, htx⟩ (cM_out_0 l hl9 D cT aK aV H.size a0 x10 h11) ⟨callB_of 1 htx (xw_goodC kw_5_217) rfl rfl rfl (htx _ kw_1_5) (htx _ kw_5_214) ⟨by decide, by decide, by decide +kernel⟩ ⟨Nat.le_of_ble_eq_true rfl, Nat.le_of_ble_eq_true rfl⟩, (htx _ kw_5_216), (htx _ kp_M_out)⟩ ⟨xPre_blind, va_recv hK hP (ci := 5) rfl (q0 := 0) rfl, (fun U hU hW => ⟨rfl, xPre_of hZ hS hFc hPc hDc hK U hU hW⟩)⟩ rfl rfl hl.1 rfl (lv_room (Nat.le_of_ble_eq_true rfl)) dM_two0_24 ⟨Nat.le_of_ble_eq_true rfl, Nat.le_of_ble_eq_true rfl⟩) hS (fun q _ h => hFc q h) hFc (fun r2 u9 t H1 locs ht hvm hr9 hB hz1 hk1 hS => ?_)
  obtain ⟨hP1, hK1, hD1⟩ := hB
  rw [ht] at hP1
  obtain ⟨hP, hD⟩ := xjoin (W := [(a0, .inr (5, [.int 0, v14, .int 0, v16, .int 0, v18, v19, .int 0, v21, .int 0, v23, v24, .int 0, v26, v27, v28, v29, v30, v31, v32, v33, v34, .int 0, .int 1000000000, v37, v38, v39, v40, v41, v42, v43, v44]))]) hP hD [] [0] 1 rfl rfl (by decide) (by decide) hk1 hFc hP1 hD1
  generalize H1 = H at hP hS ⊢
  rw [hr9]
  refine W.eq (g2 := F0 m 27 ls [.int 1]) rfl ?_
  refine lv_if_ne (tgt := 39) hx hb dM_two0_27 (by decide) (fun _ => ?_) (fun h => ((by revert h; decide : False)).elim)
  refine lv_aload_n hx hb dM_two0_39 rfl (lv_at hl 0 rfl) ?_
  refine lv_iconst (v := 1) hx hb dM_two0_40 (by decide) ?_
  refine va_put (D := D) (ci := 5) (v := .int 1) (ty := .int) (C := "ValueBenchModel") (T := TM) (N := 32) hx hb htx inM tyM tyM_ok nmM hown hK hP hD hS 0 rfl rfl 0 (by decide) (htx _ kw_5_87) (fun _ h9 => h9) rfl (by decide +kernel) rfl rfl (Nat.le_of_ble_eq_true rfl) dM_two0_41 (fun H locs hP hD hS => ?_)
  obtain ⟨hP, hD⟩ : xPD D xcl A [(a0, .inr (5, [.int 1, v14, .int 0, v16, .int 0, v18, v19, .int 0, v21, .int 0, v23, v24, .int 0, v26, v27, v28, v29, v30, v31, v32, v33, v34, .int 0, .int 1000000000, v37, v38, v39, v40, v41, v42, v43, v44]))] H := ⟨hP, hD⟩
  refine lv_goto (tgt := 57) hx hb dM_two0_44 (by decide) ?_
  obtain ⟨hP9, hD9⟩ := xsub (wc := [(a0, .inr (5, [.int 1, v14, .int 0, v16, .int 0, v18, v19, .int 0, v21, .int 0, v23, v24, .int 0, v26, v27, v28, v29, v30, v31, v32, v33, v34, .int 0, .int 1000000000, v37, v38, v39, v40, v41, v42, v43, v44]))]) hP hD [0] rfl rfl (by decide)
  refine W.widen (k := 0) (n := 0) (Nat.le_of_ble_eq_true rfl) (Nat.le_of_ble_eq_true rfl) ?_
  exact W.vret hx hb hr (fun t ht hW => ⟨⟨(), rfl, trivial, by rw [ht]; exact hP9, va_K.moved hW.alike hK, hD9⟩, hS.F ht⟩) hS.2.2 dM_two0_57
set_option maxHeartbeats 400000000 in
set_option maxRecDepth 100000 in
theorem cB_two_5 (l : Launch) (hl9 : l.stackTraces = false) (D : va_G) (cT : Nat → ClassId) (aK aV : Nat → Nat) (sz : Nat) (b0 : Nat) (x1 : Int32) (x6 : Int32) (x10 : Int32) (x14 : Int32) (h2 : ¬ x1 < 0) (h3 : ¬ 7 < x1) (h4 : x1 ≤ 7) (h5 : vp_in x1 8) (h7 : ¬ x6 < 0) (h8 : ¬ 9 < x6) (h9 : x6 ≤ 9) (h11 : ¬ x10 < 0) (h12 : 7 < x10) (h13 : ¬ x10 ≤ 7) : xMetX l yB_two wyB_two 7 1 6 120 D cT aK aV sz [.ref b0, .int x1, .int x6, .int x10, .int x14] [] "java/lang/IllegalArgumentException" (fun A t => xB D xcl cT A [] t) := by
  refine vx_ofW (cc := prog_1_method_10_code) (maxL := 5) (ret := none) (by decide) rfl ?_
  intro p e s m args below meth c s₁ B hml hne hv
  obtain ⟨rfl, hsz, hZ, hP, hK, hD0⟩ := hv
  have hx := B.exec
  have hb := B.bytes
  have hr := B.returns
  have hts := atoms_spec (ws := wyB_two) B.pre
  have htx := fun w h => hts w (List.mem_cons_of_mem _ h)
  have hown : s.vm.findClass "ValueBench" = some m.cls := findClass_of_methodNamed B.named
  have hlocks := B.notSynchronized
  subst hsz
  have hD := hD0.self (sz := s.heap.size)
  generalize hAe : va_A [] s.heap.size = A at hD hZ ⊢
  have hA : ∀ q : Nat, s.heap.size ≤ q → A q := fun q h => by rw [← hAe]; exact Or.inr h
  have hS : va_S A s.heap s.heap [] := va_S.rf
  have hP : va_P D xcl [] s.heap := hP
  have hl := lv_entry ([.ref b0, .int x1, .int x6, .int x10, .int x14]) (n := 5) (Nat.le_of_ble_eq_true rfl)
  rw [lg_entry_eq]
  generalize (lg_sl ([.ref b0, .int x1, .int x6, .int x10, .int x14]) ++ List.replicate (5 - (lg_sl ([.ref b0, .int x1, .int x6, .int x10, .int x14])).length) Slot.unset).toArray = ls at hl ⊢
  have hl : lv_has ls 5 [(0, .ref b0), (1, .int x1), (2, .int x6), (3, .int x10), (4, .int x14)] := hl
  refine lv_iload_n hx hb dB_two_0 rfl (lv_at hl 1 rfl) ?_
  obtain ⟨hPc, hDc, hFc⟩ := xcut (wc := []) hP hD hS hA [] rfl rfl (by decide)
  refine va_calli (va_runS (As := [.int x1]) (rest := []) ⟨hx, hb, hml, hown, htx⟩ (cB_isRegister_2 l hl9 D cT aK aV s.heap.size x1 h2 h3 h4 h5) ⟨callB_of 1 htx (xw_goodC kw_2_18) rfl rfl rfl (htx _ kw_1_1) (htx _ kw_2_16) ⟨by decide, by decide, by decide +kernel⟩ ⟨Nat.le_of_ble_eq_true rfl, Nat.le_of_ble_eq_true rfl⟩, htx _ kw_2_17⟩ ⟨xPre_blind, (fun U hU hW => ⟨rfl, xPre_of hZ hS hFc hPc hDc hK U hU hW⟩)⟩ rfl rfl hl.1 rfl (lv_room (Nat.le_of_ble_eq_true rfl)) dB_two_1 ⟨Nat.le_of_ble_eq_true rfl, Nat.le_of_ble_eq_true rfl⟩) hS (fun q _ h => hFc q h) hFc (fun r1 u9 t H1 locs ht hvm hr9 hB hz1 hk1 hS => ?_)
  obtain ⟨hP1, hK1, hD1⟩ := hB
  rw [ht] at hP1
  obtain ⟨hP, hD⟩ := xjoin (W := []) hP hD [] [] 0 rfl rfl (by decide) (by decide) hk1 hFc hP1 hD1
  generalize H1 = H at hP hS ⊢
  rw [hr9]
  refine W.eq (g2 := F0 m 4 ls [.int 1]) rfl ?_
  refine lv_if_eq (tgt := 35) hx hb dB_two_4 (by decide) (fun h => ((by revert h; decide : False)).elim) (fun _ => ?_)
  refine lv_iload_n hx hb dB_two_7 rfl (lv_at hl 2 rfl) ?_
  refine lv_bipush (v := 9) hx hb dB_two_8 (by decide) ?_
  obtain ⟨hPc, hDc, hFc⟩ := xcut (wc := []) hP hD hS hA [] rfl rfl (by decide)
  refine va_calli (va_runS (As := [.int x6, .int 9]) (rest := []) ⟨hx, hb, hml, hown, htx⟩ (cB_isWithin_29 l hl9 D cT aK aV H.size x6 h7 h8 h9) ⟨callB_of 2 htx (xw_goodC kw_1_218) rfl rfl rfl (htx _ kw_1_1) (htx _ kw_1_216) ⟨by decide, by decide, by decide +kernel⟩ ⟨Nat.le_of_ble_eq_true rfl, Nat.le_of_ble_eq_true rfl⟩, htx _ kw_1_217⟩ ⟨xPre_blind, (fun U hU hW => ⟨rfl, xPre_of hZ hS hFc hPc hDc hK U hU hW⟩)⟩ rfl rfl hl.1 rfl (lv_room (Nat.le_of_ble_eq_true rfl)) dB_two_10 ⟨Nat.le_of_ble_eq_true rfl, Nat.le_of_ble_eq_true rfl⟩) hS (fun q _ h => hFc q h) hFc (fun r2 u9 t H1 locs ht hvm hr9 hB hz1 hk1 hS => ?_)
  obtain ⟨hP1, hK1, hD1⟩ := hB
  rw [ht] at hP1
  obtain ⟨hP, hD⟩ := xjoin (W := []) hP hD [] [] 0 rfl rfl (by decide) (by decide) hk1 hFc hP1 hD1
  generalize H1 = H at hP hS ⊢
  rw [hr9]
  refine W.eq (g2 := F0 m 13 ls [.int 1]) rfl ?_
  refine lv_if_eq (tgt := 35) hx hb dB_two_13 (by decide) (fun h => ((by revert h; decide : False)).elim) (fun _ => ?_)
  refine lv_iload_n hx hb dB_two_16 rfl (lv_at hl 3 rfl) ?_
  obtain ⟨hPc, hDc, hFc⟩ := xcut (wc := []) hP hD hS hA [] rfl rfl (by decide)
  refine va_calli (va_runS (As := [.int x10]) (rest := []) ⟨hx, hb, hml, hown, htx⟩ (cB_isRegister_1 l hl9 D cT aK aV H.size x10 h11 h12 h13) ⟨callB_of 1 htx (xw_goodC kw_2_18) rfl rfl rfl (htx _ kw_1_1) (htx _ kw_2_16) ⟨by decide, by decide, by decide +kernel⟩ ⟨Nat.le_of_ble_eq_true rfl, Nat.le_of_ble_eq_true rfl⟩, htx _ kw_2_17⟩ ⟨xPre_blind, (fun U hU hW => ⟨rfl, xPre_of hZ hS hFc hPc hDc hK U hU hW⟩)⟩ rfl rfl hl.1 rfl (lv_room (Nat.le_of_ble_eq_true rfl)) dB_two_17 ⟨Nat.le_of_ble_eq_true rfl, Nat.le_of_ble_eq_true rfl⟩) hS (fun q _ h => hFc q h) hFc (fun r3 u9 t H1 locs ht hvm hr9 hB hz1 hk1 hS => ?_)
  obtain ⟨hP1, hK1, hD1⟩ := hB
  rw [ht] at hP1
  obtain ⟨hP, hD⟩ := xjoin (W := []) hP hD [] [] 0 rfl rfl (by decide) (by decide) hk1 hFc hP1 hD1
  generalize H1 = H at hP hS ⊢
  rw [hr9]
  refine W.eq (g2 := F0 m 20 ls [.int 0]) rfl ?_
  refine lv_if_eq (tgt := 35) hx hb dB_two_20 (by decide) (fun _ => ?_) (fun h => ((by revert h; decide : False)).elim)
  refine lv_iconst (v := 0) hx hb dB_two_35 (by decide) ?_
  obtain ⟨hPc, hDc, hFc⟩ := xcut (wc := []) hP hD hS hA [] rfl rfl (by decide)
  refine xx_thr (vx_runS (As := [.int 0]) (rest := []) ⟨hx, hb, hml, hown, htx⟩ (cB_demand_0 l hl9 D cT aK aV H.size) ⟨callB_of 1 htx (xw_goodC kw_1_221) rfl rfl rfl (htx _ kw_1_1) (htx _ kw_1_219) ⟨by decide, by decide, by decide +kernel⟩ ⟨Nat.le_of_ble_eq_true rfl, Nat.le_of_ble_eq_true rfl⟩, htx _ kw_1_220⟩ ⟨xPre_blind, (fun U hU hW => ⟨rfl, xPre_of hZ hS hFc hPc hDc hK U hU hW⟩)⟩ rfl rfl hl.1 rfl (lv_room (Nat.le_of_ble_eq_true rfl)) dB_two_36 ⟨Nat.le_of_ble_eq_true rfl, Nat.le_of_ble_eq_true rfl⟩) hS hFc (fun q _ h => hFc q h) (fun E ce q9 u9 t H1 locs ht hvm _ hB hz1 hk1 hS hce hcv hcl => ?_)
  obtain ⟨rfl, hP1, hK1, hD1⟩ := hB
  rw [ht] at hP1
  obtain ⟨hP, hD⟩ := xjoin (W := []) hP hD [] [] 0 rfl rfl (by decide) (by decide) hk1 hFc hP1 hD1
  generalize H1 = H at hP hS hce ⊢
  obtain ⟨hP9, hD9⟩ := xsub (wc := []) hP hD [] rfl rfl (by decide)
  exact vx_out (E := "java/lang/IllegalArgumentException") (fun x h => (hne x h).elim) hlocks hce hcv hcl (fun t ht ha => ⟨(), trivial, ⟨rfl, by rw [ht]; exact hP9, va_K.moved ha hK, hD9⟩, hS.F ht⟩) hS.2.2 (Nat.le_of_ble_eq_true rfl) (Nat.le_of_ble_eq_true rfl)
set_option maxHeartbeats 400000000 in
set_option maxRecDepth 100000 in
theorem cL_two_5 (l : Launch) (hl9 : l.stackTraces = false) (D : va_G) (cT : Nat → ClassId) (aK aV : Nat → Nat) (sz : Nat) (a0 : Nat) (x1 : Int32) (x6 : Int32) (x10 : Int32) (x14 : Int32) (v15 : Value) (v16 : Value) (v17 : Value) (v18 : Value) (v19 : Value) (v20 : Value) (v21 : Value) (v22 : Value) (h2 : ¬ x1 < 0) (h3 : ¬ 7 < x1) (h4 : x1 ≤ 7) (h5 : vp_in x1 8) (h7 : ¬ x6 < 0) (h8 : ¬ 9 < x6) (h9 : x6 ≤ 9) (h11 : ¬ x10 < 0) (h12 : 7 < x10) (h13 : ¬ x10 ≤ 7) : xMet l yL_two wyL_two 8 1 6 144 D cT aK aV sz [.ref a0, .int x1, .int x6, .int x10, .int x14] [(a0, .inr (0, [v15, v16, v17, v18, v19, v20, v21, v22]))] (fun A => va_Qi (fun (r : Int32) (_ : Unit) => r = 1) (fun _ t => xB D xcl cT A [(a0, .inr (0, [v15, v16, v17, v18, v19, v20, v21, v22]))] t) A) := by
  refine va_MetW (cc := method_11_code) (maxL := 6) (ret := (some .int)) (hh := [(0, 9, 12, 19), (0, 9, 16, 33), (0, 9, 20, 13)]) (by decide) rfl ?_
  intro p e s m args below meth c s₁ B hml hv
  obtain ⟨rfl, hsz, hZ, hP, hK, hD0⟩ := hv
  have hx := B.exec
  have hb := B.bytes
  have hr := B.returns
  have hts := atoms_spec (ws := wyL_two) B.pre
  have htx := fun w h => hts w (List.mem_cons_of_mem _ h)
  have hown : s.vm.findClass "ValueBenchLaw" = some m.cls := findClass_of_methodNamed B.named
  have hlocks := B.notSynchronized
  subst hsz
  have hD := hD0.self (sz := s.heap.size)
  generalize hAe : va_A [(a0, .inr (0, [v15, v16, v17, v18, v19, v20, v21, v22]))] s.heap.size = A at hD hZ ⊢
  have hA : ∀ q : Nat, s.heap.size ≤ q → A q := fun q h => by rw [← hAe]; exact Or.inr h
  have hS : va_S A s.heap s.heap [] := va_S.rf
  have hP : va_P D xcl [(a0, .inr (0, [v15, v16, v17, v18, v19, v20, v21, v22]))] s.heap := hP
  have hl := lv_entry ([.ref a0, .int x1, .int x6, .int x10, .int x14]) (n := 6) (Nat.le_of_ble_eq_true rfl)
  rw [lg_entry_eq]
  generalize (lg_sl ([.ref a0, .int x1, .int x6, .int x10, .int x14]) ++ List.replicate (6 - (lg_sl ([.ref a0, .int x1, .int x6, .int x10, .int x14])).length) Slot.unset).toArray = ls at hl ⊢
  have hl : lv_has ls 6 [(0, .ref a0), (1, .int x1), (2, .int x6), (3, .int x10), (4, .int x14)] := hl
  have htab := vx_table (x := yL_two) B (hts _ List.mem_cons_self)
  refine lv_aload_n hx hb dL_two_0 rfl (lv_at hl 0 rfl) ?_
  refine lv_iload_n hx hb dL_two_1 rfl (lv_at hl 1 rfl) ?_
  refine lv_iload_n hx hb dL_two_2 rfl (lv_at hl 2 rfl) ?_
  refine lv_iload_n hx hb dL_two_3 rfl (lv_at hl 3 rfl) ?_
  refine lv_iload hx hb dL_two_4 (lv_at hl 4 rfl) ?_
  obtain ⟨hPc, hDc, hFc⟩ := xcut (wc := []) hP hD hS hA [] rfl rfl (by decide)
  refine xx_thr (vx_runV (C := "ValueBench") (As := [.int x1, .int x6, .int x10, .int x14]) (rest := []) ⟨hx, hb, hml, hown, htx⟩ (cB_two_5 l hl9 D cT aK aV s.heap.size a0 x1 x6 x10 x14 h2 h3 h4 h5 h7 h8 h9 h11 h12 h13) ⟨callB_of 4 htx (xw_goodC kw_4_143) rfl rfl rfl (htx _ kw_1_1) (htx _ kw_4_140) ⟨by decide, by decide, by decide +kernel⟩ ⟨Nat.le_of_ble_eq_true rfl, Nat.le_of_ble_eq_true rfl⟩, (htx _ kw_4_141), (htx _ kw_4_142)⟩ ⟨xPre_blind, va_recv hK hP (ci := 0) rfl (q0 := 0) rfl, (fun U hU hW => ⟨rfl, xPre_of hZ hS hFc hPc hDc hK U hU hW⟩)⟩ rfl rfl hl.1 rfl (lv_room (Nat.le_of_ble_eq_true rfl)) dL_two_6 ⟨Nat.le_of_ble_eq_true rfl, Nat.le_of_ble_eq_true rfl⟩) hS hFc (fun q _ h => hFc q h) (fun E ce q9 u9 t H1 locs ht hvm _ hB hz1 hk1 hS hce hcv hcl => ?_)
  obtain ⟨rfl, hP1, hK1, hD1⟩ := hB
  rw [ht] at hP1
  obtain ⟨hP, hD⟩ := xjoin (W := [(a0, .inr (0, [v15, v16, v17, v18, v19, v20, v21, v22]))]) hP hD [] [0] 1 rfl rfl (by decide) (by decide) hk1 hFc hP1 hD1
  generalize H1 = H at hP hS hce ⊢
  refine vx_catch (own := "ValueBenchLaw") (name := "java/lang/IllegalArgumentException") (E := "java/lang/IllegalArgumentException") hown [] ⟨0, 9, 12, 19⟩ [⟨0, 9, 16, 33⟩, ⟨0, 9, 20, 13⟩] (by rw [htab]; rfl) (fun z hz => nomatch hz) (by decide) (by decide) (htx _ kw_1_211) ((hZ.2.2.2.2.2.1 "java/lang/IllegalArgumentException" (List.mem_of_getElem? (i := 1) rfl)).use rfl) hce hcv hcl ?_
  refine lv_astore (lv' := [(5, .ref q9), (0, .ref a0), (1, .int x1), (2, .int x6), (3, .int x10), (4, .int x14)]) hx hb dL_two_12 hl (by decide) rfl (fun ls hl => ?_)
  refine lv_iconst (v := 1) hx hb dL_two_14 (by decide) ?_
  obtain ⟨hP9, hD9⟩ := xsub (wc := [(a0, .inr (0, [v15, v16, v17, v18, v19, v20, v21, v22]))]) hP hD [0] rfl rfl (by decide)
  refine W.widen (k := 1) (n := 6) (Nat.le_of_ble_eq_true rfl) (Nat.le_of_ble_eq_true rfl) ?_
  exact W.iret (v := 1) hx hb hr (fun t ht hW => ⟨⟨1, (), rfl, rfl, by rw [ht]; exact hP9, va_K.moved hW.alike hK, hD9⟩, hS.F ht⟩) hS.2.2 dL_two_15
set_option maxHeartbeats 400000000 in
set_option maxRecDepth 100000 in
theorem cM_two0_5 (l : Launch) (hl9 : l.stackTraces = false) (D : va_G) (cT : Nat → ClassId) (aK aV : Nat → Nat) (sz : Nat) (a0 : Nat) (x1 : Int32) (x6 : Int32) (x10 : Int32) (x14 : Int32) (v15 : Value) (v16 : Value) (v17 : Value) (v18 : Value) (v19 : Value) (v20 : Value) (v21 : Value) (v22 : Value) (v23 : Value) (v24 : Value) (v25 : Value) (v26 : Value) (v27 : Value) (v28 : Value) (v29 : Value) (v30 : Value) (v31 : Value) (v32 : Value) (v33 : Value) (v34 : Value) (v35 : Value) (v36 : Value) (v37 : Value) (v38 : Value) (v39 : Value) (v40 : Value) (v41 : Value) (v42 : Value) (v43 : Value) (v44 : Value) (v45 : Value) (v46 : Value) (h2 : ¬ x1 < 0) (h3 : ¬ 7 < x1) (h4 : x1 ≤ 7) (h5 : vp_in x1 8) (h7 : ¬ x6 < 0) (h8 : ¬ 9 < x6) (h9 : x6 ≤ 9) (h11 : ¬ x10 < 0) (h12 : 7 < x10) (h13 : ¬ x10 ≤ 7) : xMet l yM_two0 wyM_two0 2 0 0 40 D cT aK aV sz [.ref a0, .int x1, .int x6, .int x10, .int x14] [(a0, .inr (5, [v15, v16, v17, v18, v19, v20, v21, v22, v23, v24, v25, v26, v27, v28, v29, v30, v31, v32, v33, v34, v35, v36, v37, v38, v39, v40, v41, v42, v43, v44, v45, v46]))] (fun A => va_Qv (fun _ : Unit => True) (fun _ t => xB D xcl cT A [(a0, .inr (5, [.int 1, v16, .int 0, v18, .int 0, v20, v21, .int 0, v23, .int 0, v25, v26, .int 0, v28, v29, v30, v31, v32, v33, v34, v35, v36, .int 0, .int 1000000000, v39, v40, v41, v42, v43, v44, v45, v46]))] t) A) := by
  refine Met.ofW (cc := prog_13_method_93_code) (maxL := 5) (ret := none) (by decide) rfl ?_
  intro p e s m args below meth c s₁ B hml hv
  obtain ⟨rfl, hsz, hZ, hP, hK, hD0⟩ := hv
  have hx := B.exec
  have hb := B.bytes
  have hr := B.returns
  have hts := atoms_spec (ws := wyM_two0) B.pre
  have htx := fun w h => hts w (List.mem_cons_of_mem _ h)
  have hown : s.vm.findClass "ValueBenchModel" = some m.cls := findClass_of_methodNamed B.named
  have hlocks := B.notSynchronized
  subst hsz
  have hD := hD0.self (sz := s.heap.size)
  generalize hAe : va_A [(a0, .inr (5, [v15, v16, v17, v18, v19, v20, v21, v22, v23, v24, v25, v26, v27, v28, v29, v30, v31, v32, v33, v34, v35, v36, v37, v38, v39, v40, v41, v42, v43, v44, v45, v46]))] s.heap.size = A at hD hZ ⊢
  have hA : ∀ q : Nat, s.heap.size ≤ q → A q := fun q h => by rw [← hAe]; exact Or.inr h
  have hS : va_S A s.heap s.heap [] := va_S.rf
  have hP : va_P D xcl [(a0, .inr (5, [v15, v16, v17, v18, v19, v20, v21, v22, v23, v24, v25, v26, v27, v28, v29, v30, v31, v32, v33, v34, v35, v36, v37, v38, v39, v40, v41, v42, v43, v44, v45, v46]))] s.heap := hP
  have hl := lv_entry ([.ref a0, .int x1, .int x6, .int x10, .int x14]) (n := 5) (Nat.le_of_ble_eq_true rfl)
  rw [lg_entry_eq]
  generalize (lg_sl ([.ref a0, .int x1, .int x6, .int x10, .int x14]) ++ List.replicate (5 - (lg_sl ([.ref a0, .int x1, .int x6, .int x10, .int x14])).length) Slot.unset).toArray = ls at hl ⊢
  have hl : lv_has ls 5 [(0, .ref a0), (1, .int x1), (2, .int x6), (3, .int x10), (4, .int x14)] := hl
  refine lv_aload_n hx hb dM_two0_0 rfl (lv_at hl 0 rfl) ?_
  obtain ⟨hPc, hDc, hFc⟩ := xcut (wc := [(a0, .inr (5, [v15, v16, v17, v18, v19, v20, v21, v22, v23, v24, v25, v26, v27, v28, v29, v30, v31, v32, v33, v34, v35, v36, v37, v38, v39, v40, v41, v42, v43, v44, v45, v46]))]) hP hD hS hA [0] rfl rfl (by decide)
  refine va_callv (va_runV (C := "ValueBenchModel") (As := []) (rest := []) ⟨hx, hb, hml, hown, htx⟩ (cM_begin_0 l hl9 D cT aK aV s.heap.size a0 v15 v16 v17 v18 v19 v20 v21 v22 v23 v24 v25 v26 v27 v28 v29 v30 v31 v32 v33 v34 v35 v36 v37 v38 v39 v40 v41 v42 v43 v44 v45 v46) ⟨callB_of 0 htx (xw_goodC kw_5_209) rfl rfl rfl (htx _ kw_1_5) (htx _ kw_5_206) ⟨by decide, by decide, by decide +kernel⟩ ⟨Nat.le_of_ble_eq_true rfl, Nat.le_of_ble_eq_true rfl⟩, (htx _ kw_5_208), (htx _ kp_M_begin)⟩ ⟨xPre_blind, va_recv hK hP (ci := 5) rfl (q0 := 0) rfl, (fun U hU hW => ⟨rfl, xPre_of hZ hS hFc hPc hDc hK U hU hW⟩)⟩ rfl rfl hl.1 rfl (lv_room (Nat.le_of_ble_eq_true rfl)) dM_two0_1 ⟨Nat.le_of_ble_eq_true rfl, Nat.le_of_ble_eq_true rfl⟩) hS (fun q _ h => hFc q h) hFc (fun u9 t H1 locs ht hvm hr9 hB hz1 hk1 hS => ?_)
  obtain ⟨hP1, hK1, hD1⟩ := hB
  rw [ht] at hP1
  obtain ⟨hP, hD⟩ := xjoin (W := [(a0, .inr (5, [.int 0, v16, .int 0, v18, .int 0, v20, v21, .int 0, v23, .int 0, v25, v26, .int 0, v28, v29, v30, v31, v32, v33, v34, v35, v36, .int 0, .int 1000000000, v39, v40, v41, v42, v43, v44, v45, v46]))]) hP hD [0] [] 0 rfl rfl (by decide) (by decide) hk1 hFc hP1 hD1
  generalize H1 = H at hP hS ⊢
  refine lv_aload_n hx hb dM_two0_4 rfl (lv_at hl 0 rfl) ?_
  refine lv_iload_n hx hb dM_two0_5 rfl (lv_at hl 1 rfl) ?_
  obtain ⟨hPc, hDc, hFc⟩ := xcut (wc := []) hP hD hS hA [] rfl rfl (by decide)
  refine va_calli (va_runV (C := "ValueBenchModel") (As := [.int x1]) (rest := []) ⟨hx, hb, hml, hown, htx⟩ (cM_out_2 l hl9 D cT aK aV H.size a0 x1 h2 h3 h4 h5) ⟨callB_of 1 htx (xw_goodC kw_5_217) rfl rfl rfl (htx _ kw_1_5) (htx _ kw_5_214) ⟨by decide, by decide, by decide +kernel⟩ ⟨Nat.le_of_ble_eq_true rfl, Nat.le_of_ble_eq_true rfl⟩, (htx _ kw_5_216), (htx _ kp_M_out)⟩ ⟨xPre_blind, va_recv hK hP (ci := 5) rfl (q0 := 0) rfl, (fun U hU hW => ⟨rfl, xPre_of hZ hS hFc hPc hDc hK U hU hW⟩)⟩ rfl rfl hl.1 rfl (lv_room (Nat.le_of_ble_eq_true rfl)) dM_two0_6 ⟨Nat.le_of_ble_eq_true rfl, Nat.le_of_ble_eq_true rfl⟩) hS (fun q _ h => hFc q h) hFc (fun r1 u9 t H1 locs ht hvm hr9 hB hz1 hk1 hS => ?_)
  obtain ⟨hP1, hK1, hD1⟩ := hB
  rw [ht] at hP1
  obtain ⟨hP, hD⟩ := xjoin (W := [(a0, .inr (5, [.int 0, v16, .int 0, v18, .int 0, v20, v21, .int 0, v23, .int 0, v25, v26, .int 0, v28, v29, v30, v31, v32, v33, v34, v35, v36, .int 0, .int 1000000000, v39, v40, v41, v42, v43, v44, v45, v46]))]) hP hD [] [0] 1 rfl rfl (by decide) (by decide) hk1 hFc hP1 hD1
  generalize H1 = H at hP hS ⊢
  rw [hr9]
  refine W.eq (g2 := F0 m 9 ls [.int 0]) rfl ?_
  refine lv_if_ne (tgt := 39) hx hb dM_two0_9 (by decide) (fun h => ((by revert h; decide : False)).elim) (fun _ => ?_)
  refine lv_iload_n hx hb dM_two0_12 rfl (lv_at hl 2 rfl) ?_
  refine lv_if_lt (tgt := 39) hx hb dM_two0_13 (by decide) (fun h => by first | exact absurd h h7 | exact absurd h h8 | exact absurd h h9 | exact absurd h7 h | exact absurd h8 h | exact absurd h9 h) (fun _ => ?_)
  refine lv_iload_n hx hb dM_two0_16 rfl (lv_at hl 2 rfl) ?_
  refine lv_bipush (v := 9) hx hb dM_two0_17 (by decide) ?_
  refine lv_icmp_gt (tgt := 39) hx hb dM_two0_19 (by decide) (fun h => by first | exact absurd h h7 | exact absurd h h8 | exact absurd h h9 | exact absurd h7 h | exact absurd h8 h | exact absurd h9 h) (fun _ => ?_)
  refine lv_aload_n hx hb dM_two0_22 rfl (lv_at hl 0 rfl) ?_
  refine lv_iload_n hx hb dM_two0_23 rfl (lv_at hl 3 rfl) ?_
  obtain ⟨hPc, hDc, hFc⟩ := xcut (wc := []) hP hD hS hA [] rfl rfl (by decide)
  refine va_calli (va_runV (C := "ValueBenchModel") (As := [.int x10]) (rest := []) ⟨hx, hb, hml, hown, htx⟩ (cM_out_1 l hl9 D cT aK aV H.size a0 x10 h11 h12 h13) ⟨callB_of 1 htx (xw_goodC kw_5_217) rfl rfl rfl (htx _ kw_1_5) (htx _ kw_5_214) ⟨by decide, by decide, by decide +kernel⟩ ⟨Nat.le_of_ble_eq_true rfl, Nat.le_of_ble_eq_true rfl⟩, (htx _ kw_5_216), (htx _ kp_M_out)⟩ ⟨xPre_blind, va_recv hK hP (ci := 5) rfl (q0 := 0) rfl, (fun U hU hW => ⟨rfl, xPre_of hZ hS hFc hPc hDc hK U hU hW⟩)⟩ rfl rfl hl.1 rfl (lv_room (Nat.le_of_ble_eq_true rfl)) dM_two0_24 ⟨Nat.le_of_ble_eq_true rfl, Nat.le_of_ble_eq_true rfl⟩) hS (fun q _ h => hFc q h) hFc (fun r2 u9 t H1 locs ht hvm hr9 hB hz1 hk1 hS => ?_)
  obtain ⟨hP1, hK1, hD1⟩ := hB
  rw [ht] at hP1
  obtain ⟨hP, hD⟩ := xjoin (W := [(a0, .inr (5, [.int 0, v16, .int 0, v18, .int 0, v20, v21, .int 0, v23, .int 0, v25, v26, .int 0, v28, v29, v30, v31, v32, v33, v34, v35, v36, .int 0, .int 1000000000, v39, v40, v41, v42, v43, v44, v45, v46]))]) hP hD [] [0] 1 rfl rfl (by decide) (by decide) hk1 hFc hP1 hD1
  generalize H1 = H at hP hS ⊢
  rw [hr9]
  refine W.eq (g2 := F0 m 27 ls [.int 1]) rfl ?_
  refine lv_if_ne (tgt := 39) hx hb dM_two0_27 (by decide) (fun _ => ?_) (fun h => ((by revert h; decide : False)).elim)
  refine lv_aload_n hx hb dM_two0_39 rfl (lv_at hl 0 rfl) ?_
  refine lv_iconst (v := 1) hx hb dM_two0_40 (by decide) ?_
  refine va_put (D := D) (ci := 5) (v := .int 1) (ty := .int) (C := "ValueBenchModel") (T := TM) (N := 32) hx hb htx inM tyM tyM_ok nmM hown hK hP hD hS 0 rfl rfl 0 (by decide) (htx _ kw_5_87) (fun _ h9 => h9) rfl (by decide +kernel) rfl rfl (Nat.le_of_ble_eq_true rfl) dM_two0_41 (fun H locs hP hD hS => ?_)
  obtain ⟨hP, hD⟩ : xPD D xcl A [(a0, .inr (5, [.int 1, v16, .int 0, v18, .int 0, v20, v21, .int 0, v23, .int 0, v25, v26, .int 0, v28, v29, v30, v31, v32, v33, v34, v35, v36, .int 0, .int 1000000000, v39, v40, v41, v42, v43, v44, v45, v46]))] H := ⟨hP, hD⟩
  refine lv_goto (tgt := 57) hx hb dM_two0_44 (by decide) ?_
  obtain ⟨hP9, hD9⟩ := xsub (wc := [(a0, .inr (5, [.int 1, v16, .int 0, v18, .int 0, v20, v21, .int 0, v23, .int 0, v25, v26, .int 0, v28, v29, v30, v31, v32, v33, v34, v35, v36, .int 0, .int 1000000000, v39, v40, v41, v42, v43, v44, v45, v46]))]) hP hD [0] rfl rfl (by decide)
  refine W.widen (k := 0) (n := 0) (Nat.le_of_ble_eq_true rfl) (Nat.le_of_ble_eq_true rfl) ?_
  exact W.vret hx hb hr (fun t ht hW => ⟨⟨(), rfl, trivial, by rw [ht]; exact hP9, va_K.moved hW.alike hK, hD9⟩, hS.F ht⟩) hS.2.2 dM_two0_57
set_option maxHeartbeats 400000000 in
set_option maxRecDepth 100000 in
theorem cB_two_6 (l : Launch) (hl9 : l.stackTraces = false) (D : va_G) (cT : Nat → ClassId) (aK aV : Nat → Nat) (sz : Nat) (b0 : Nat) (x1 : Int32) (x6 : Int32) (x10 : Int32) (x15 : Int32) (h2 : ¬ x1 < 0) (h3 : ¬ 7 < x1) (h4 : x1 ≤ 7) (h5 : vp_in x1 8) (h7 : ¬ x6 < 0) (h8 : ¬ 9 < x6) (h9 : x6 ≤ 9) (h11 : ¬ x10 < 0) (h12 : ¬ 7 < x10) (h13 : x10 ≤ 7) (h14 : vp_in x10 8) (h16 : x15 < 0) : xMetX l yB_two wyB_two 7 1 6 120 D cT aK aV sz [.ref b0, .int x1, .int x6, .int x10, .int x15] [] "java/lang/IllegalArgumentException" (fun A t => xB D xcl cT A [] t) := by
  refine vx_ofW (cc := prog_1_method_10_code) (maxL := 5) (ret := none) (by decide) rfl ?_
  intro p e s m args below meth c s₁ B hml hne hv
  obtain ⟨rfl, hsz, hZ, hP, hK, hD0⟩ := hv
  have hx := B.exec
  have hb := B.bytes
  have hr := B.returns
  have hts := atoms_spec (ws := wyB_two) B.pre
  have htx := fun w h => hts w (List.mem_cons_of_mem _ h)
  have hown : s.vm.findClass "ValueBench" = some m.cls := findClass_of_methodNamed B.named
  have hlocks := B.notSynchronized
  subst hsz
  have hD := hD0.self (sz := s.heap.size)
  generalize hAe : va_A [] s.heap.size = A at hD hZ ⊢
  have hA : ∀ q : Nat, s.heap.size ≤ q → A q := fun q h => by rw [← hAe]; exact Or.inr h
  have hS : va_S A s.heap s.heap [] := va_S.rf
  have hP : va_P D xcl [] s.heap := hP
  have hl := lv_entry ([.ref b0, .int x1, .int x6, .int x10, .int x15]) (n := 5) (Nat.le_of_ble_eq_true rfl)
  rw [lg_entry_eq]
  generalize (lg_sl ([.ref b0, .int x1, .int x6, .int x10, .int x15]) ++ List.replicate (5 - (lg_sl ([.ref b0, .int x1, .int x6, .int x10, .int x15])).length) Slot.unset).toArray = ls at hl ⊢
  have hl : lv_has ls 5 [(0, .ref b0), (1, .int x1), (2, .int x6), (3, .int x10), (4, .int x15)] := hl
  refine lv_iload_n hx hb dB_two_0 rfl (lv_at hl 1 rfl) ?_
  obtain ⟨hPc, hDc, hFc⟩ := xcut (wc := []) hP hD hS hA [] rfl rfl (by decide)
  refine va_calli (va_runS (As := [.int x1]) (rest := []) ⟨hx, hb, hml, hown, htx⟩ (cB_isRegister_2 l hl9 D cT aK aV s.heap.size x1 h2 h3 h4 h5) ⟨callB_of 1 htx (xw_goodC kw_2_18) rfl rfl rfl (htx _ kw_1_1) (htx _ kw_2_16) ⟨by decide, by decide, by decide +kernel⟩ ⟨Nat.le_of_ble_eq_true rfl, Nat.le_of_ble_eq_true rfl⟩, htx _ kw_2_17⟩ ⟨xPre_blind, (fun U hU hW => ⟨rfl, xPre_of hZ hS hFc hPc hDc hK U hU hW⟩)⟩ rfl rfl hl.1 rfl (lv_room (Nat.le_of_ble_eq_true rfl)) dB_two_1 ⟨Nat.le_of_ble_eq_true rfl, Nat.le_of_ble_eq_true rfl⟩) hS (fun q _ h => hFc q h) hFc (fun r1 u9 t H1 locs ht hvm hr9 hB hz1 hk1 hS => ?_)
  obtain ⟨hP1, hK1, hD1⟩ := hB
  rw [ht] at hP1
  obtain ⟨hP, hD⟩ := xjoin (W := []) hP hD [] [] 0 rfl rfl (by decide) (by decide) hk1 hFc hP1 hD1
  generalize H1 = H at hP hS ⊢
  rw [hr9]
  refine W.eq (g2 := F0 m 4 ls [.int 1]) rfl ?_
  refine lv_if_eq (tgt := 35) hx hb dB_two_4 (by decide) (fun h => ((by revert h; decide : False)).elim) (fun _ => ?_)
  refine lv_iload_n hx hb dB_two_7 rfl (lv_at hl 2 rfl) ?_
  refine lv_bipush (v := 9) hx hb dB_two_8 (by decide) ?_
  obtain ⟨hPc, hDc, hFc⟩ := xcut (wc := []) hP hD hS hA [] rfl rfl (by decide)
  refine va_calli (va_runS (As := [.int x6, .int 9]) (rest := []) ⟨hx, hb, hml, hown, htx⟩ (cB_isWithin_29 l hl9 D cT aK aV H.size x6 h7 h8 h9) ⟨callB_of 2 htx (xw_goodC kw_1_218) rfl rfl rfl (htx _ kw_1_1) (htx _ kw_1_216) ⟨by decide, by decide, by decide +kernel⟩ ⟨Nat.le_of_ble_eq_true rfl, Nat.le_of_ble_eq_true rfl⟩, htx _ kw_1_217⟩ ⟨xPre_blind, (fun U hU hW => ⟨rfl, xPre_of hZ hS hFc hPc hDc hK U hU hW⟩)⟩ rfl rfl hl.1 rfl (lv_room (Nat.le_of_ble_eq_true rfl)) dB_two_10 ⟨Nat.le_of_ble_eq_true rfl, Nat.le_of_ble_eq_true rfl⟩) hS (fun q _ h => hFc q h) hFc (fun r2 u9 t H1 locs ht hvm hr9 hB hz1 hk1 hS => ?_)
  obtain ⟨hP1, hK1, hD1⟩ := hB
  rw [ht] at hP1
  obtain ⟨hP, hD⟩ := xjoin (W := []) hP hD [] [] 0 rfl rfl (by decide) (by decide) hk1 hFc hP1 hD1
  generalize H1 = H at hP hS ⊢
  rw [hr9]
  refine W.eq (g2 := F0 m 13 ls [.int 1]) rfl ?_
  refine lv_if_eq (tgt := 35) hx hb dB_two_13 (by decide) (fun h => ((by revert h; decide : False)).elim) (fun _ => ?_)
  refine lv_iload_n hx hb dB_two_16 rfl (lv_at hl 3 rfl) ?_
  obtain ⟨hPc, hDc, hFc⟩ := xcut (wc := []) hP hD hS hA [] rfl rfl (by decide)
  refine va_calli (va_runS (As := [.int x10]) (rest := []) ⟨hx, hb, hml, hown, htx⟩ (cB_isRegister_2 l hl9 D cT aK aV H.size x10 h11 h12 h13 h14) ⟨callB_of 1 htx (xw_goodC kw_2_18) rfl rfl rfl (htx _ kw_1_1) (htx _ kw_2_16) ⟨by decide, by decide, by decide +kernel⟩ ⟨Nat.le_of_ble_eq_true rfl, Nat.le_of_ble_eq_true rfl⟩, htx _ kw_2_17⟩ ⟨xPre_blind, (fun U hU hW => ⟨rfl, xPre_of hZ hS hFc hPc hDc hK U hU hW⟩)⟩ rfl rfl hl.1 rfl (lv_room (Nat.le_of_ble_eq_true rfl)) dB_two_17 ⟨Nat.le_of_ble_eq_true rfl, Nat.le_of_ble_eq_true rfl⟩) hS (fun q _ h => hFc q h) hFc (fun r3 u9 t H1 locs ht hvm hr9 hB hz1 hk1 hS => ?_)
  obtain ⟨hP1, hK1, hD1⟩ := hB
  rw [ht] at hP1
  obtain ⟨hP, hD⟩ := xjoin (W := []) hP hD [] [] 0 rfl rfl (by decide) (by decide) hk1 hFc hP1 hD1
  generalize H1 = H at hP hS ⊢
  rw [hr9]
  refine W.eq (g2 := F0 m 20 ls [.int 1]) rfl ?_
  refine lv_if_eq (tgt := 35) hx hb dB_two_20 (by decide) (fun h => ((by revert h; decide : False)).elim) (fun _ => ?_)
  refine lv_iload hx hb dB_two_23 (lv_at hl 4 rfl) ?_
  obtain ⟨hPc, hDc, hFc⟩ := xcut (wc := []) hP hD hS hA [] rfl rfl (by decide)
  refine va_calli (va_runS (As := [.int x15]) (rest := []) ⟨hx, hb, hml, hown, htx⟩ (cB_isRegister_0 l hl9 D cT aK aV H.size x15 h16) ⟨callB_of 1 htx (xw_goodC kw_2_18) rfl rfl rfl (htx _ kw_1_1) (htx _ kw_2_16) ⟨by decide, by decide, by decide +kernel⟩ ⟨Nat.le_of_ble_eq_true rfl, Nat.le_of_ble_eq_true rfl⟩, htx _ kw_2_17⟩ ⟨xPre_blind, (fun U hU hW => ⟨rfl, xPre_of hZ hS hFc hPc hDc hK U hU hW⟩)⟩ rfl rfl hl.1 rfl (lv_room (Nat.le_of_ble_eq_true rfl)) dB_two_25 ⟨Nat.le_of_ble_eq_true rfl, Nat.le_of_ble_eq_true rfl⟩) hS (fun q _ h => hFc q h) hFc (fun r4 u9 t H1 locs ht hvm hr9 hB hz1 hk1 hS => ?_)
  obtain ⟨hP1, hK1, hD1⟩ := hB
  rw [ht] at hP1
  obtain ⟨hP, hD⟩ := xjoin (W := []) hP hD [] [] 0 rfl rfl (by decide) (by decide) hk1 hFc hP1 hD1
  generalize H1 = H at hP hS ⊢
  rw [hr9]
  refine W.eq (g2 := F0 m 28 ls [.int 0]) rfl ?_
  refine lv_if_eq (tgt := 35) hx hb dB_two_28 (by decide) (fun _ => ?_) (fun h => ((by revert h; decide : False)).elim)
  refine lv_iconst (v := 0) hx hb dB_two_35 (by decide) ?_
  obtain ⟨hPc, hDc, hFc⟩ := xcut (wc := []) hP hD hS hA [] rfl rfl (by decide)
  refine xx_thr (vx_runS (As := [.int 0]) (rest := []) ⟨hx, hb, hml, hown, htx⟩ (cB_demand_0 l hl9 D cT aK aV H.size) ⟨callB_of 1 htx (xw_goodC kw_1_221) rfl rfl rfl (htx _ kw_1_1) (htx _ kw_1_219) ⟨by decide, by decide, by decide +kernel⟩ ⟨Nat.le_of_ble_eq_true rfl, Nat.le_of_ble_eq_true rfl⟩, htx _ kw_1_220⟩ ⟨xPre_blind, (fun U hU hW => ⟨rfl, xPre_of hZ hS hFc hPc hDc hK U hU hW⟩)⟩ rfl rfl hl.1 rfl (lv_room (Nat.le_of_ble_eq_true rfl)) dB_two_36 ⟨Nat.le_of_ble_eq_true rfl, Nat.le_of_ble_eq_true rfl⟩) hS hFc (fun q _ h => hFc q h) (fun E ce q9 u9 t H1 locs ht hvm _ hB hz1 hk1 hS hce hcv hcl => ?_)
  obtain ⟨rfl, hP1, hK1, hD1⟩ := hB
  rw [ht] at hP1
  obtain ⟨hP, hD⟩ := xjoin (W := []) hP hD [] [] 0 rfl rfl (by decide) (by decide) hk1 hFc hP1 hD1
  generalize H1 = H at hP hS hce ⊢
  obtain ⟨hP9, hD9⟩ := xsub (wc := []) hP hD [] rfl rfl (by decide)
  exact vx_out (E := "java/lang/IllegalArgumentException") (fun x h => (hne x h).elim) hlocks hce hcv hcl (fun t ht ha => ⟨(), trivial, ⟨rfl, by rw [ht]; exact hP9, va_K.moved ha hK, hD9⟩, hS.F ht⟩) hS.2.2 (Nat.le_of_ble_eq_true rfl) (Nat.le_of_ble_eq_true rfl)
set_option maxHeartbeats 400000000 in
set_option maxRecDepth 100000 in
theorem cL_two_6 (l : Launch) (hl9 : l.stackTraces = false) (D : va_G) (cT : Nat → ClassId) (aK aV : Nat → Nat) (sz : Nat) (a0 : Nat) (x1 : Int32) (x6 : Int32) (x10 : Int32) (x15 : Int32) (v17 : Value) (v18 : Value) (v19 : Value) (v20 : Value) (v21 : Value) (v22 : Value) (v23 : Value) (v24 : Value) (h2 : ¬ x1 < 0) (h3 : ¬ 7 < x1) (h4 : x1 ≤ 7) (h5 : vp_in x1 8) (h7 : ¬ x6 < 0) (h8 : ¬ 9 < x6) (h9 : x6 ≤ 9) (h11 : ¬ x10 < 0) (h12 : ¬ 7 < x10) (h13 : x10 ≤ 7) (h14 : vp_in x10 8) (h16 : x15 < 0) : xMet l yL_two wyL_two 8 1 6 144 D cT aK aV sz [.ref a0, .int x1, .int x6, .int x10, .int x15] [(a0, .inr (0, [v17, v18, v19, v20, v21, v22, v23, v24]))] (fun A => va_Qi (fun (r : Int32) (_ : Unit) => r = 1) (fun _ t => xB D xcl cT A [(a0, .inr (0, [v17, v18, v19, v20, v21, v22, v23, v24]))] t) A) := by
  refine va_MetW (cc := method_11_code) (maxL := 6) (ret := (some .int)) (hh := [(0, 9, 12, 19), (0, 9, 16, 33), (0, 9, 20, 13)]) (by decide) rfl ?_
  intro p e s m args below meth c s₁ B hml hv
  obtain ⟨rfl, hsz, hZ, hP, hK, hD0⟩ := hv
  have hx := B.exec
  have hb := B.bytes
  have hr := B.returns
  have hts := atoms_spec (ws := wyL_two) B.pre
  have htx := fun w h => hts w (List.mem_cons_of_mem _ h)
  have hown : s.vm.findClass "ValueBenchLaw" = some m.cls := findClass_of_methodNamed B.named
  have hlocks := B.notSynchronized
  subst hsz
  have hD := hD0.self (sz := s.heap.size)
  generalize hAe : va_A [(a0, .inr (0, [v17, v18, v19, v20, v21, v22, v23, v24]))] s.heap.size = A at hD hZ ⊢
  have hA : ∀ q : Nat, s.heap.size ≤ q → A q := fun q h => by rw [← hAe]; exact Or.inr h
  have hS : va_S A s.heap s.heap [] := va_S.rf
  have hP : va_P D xcl [(a0, .inr (0, [v17, v18, v19, v20, v21, v22, v23, v24]))] s.heap := hP
  have hl := lv_entry ([.ref a0, .int x1, .int x6, .int x10, .int x15]) (n := 6) (Nat.le_of_ble_eq_true rfl)
  rw [lg_entry_eq]
  generalize (lg_sl ([.ref a0, .int x1, .int x6, .int x10, .int x15]) ++ List.replicate (6 - (lg_sl ([.ref a0, .int x1, .int x6, .int x10, .int x15])).length) Slot.unset).toArray = ls at hl ⊢
  have hl : lv_has ls 6 [(0, .ref a0), (1, .int x1), (2, .int x6), (3, .int x10), (4, .int x15)] := hl
  have htab := vx_table (x := yL_two) B (hts _ List.mem_cons_self)
  refine lv_aload_n hx hb dL_two_0 rfl (lv_at hl 0 rfl) ?_
  refine lv_iload_n hx hb dL_two_1 rfl (lv_at hl 1 rfl) ?_
  refine lv_iload_n hx hb dL_two_2 rfl (lv_at hl 2 rfl) ?_
  refine lv_iload_n hx hb dL_two_3 rfl (lv_at hl 3 rfl) ?_
  refine lv_iload hx hb dL_two_4 (lv_at hl 4 rfl) ?_
  obtain ⟨hPc, hDc, hFc⟩ := xcut (wc := []) hP hD hS hA [] rfl rfl (by decide)
  refine xx_thr (vx_runV (C := "ValueBench") (As := [.int x1, .int x6, .int x10, .int x15]) (rest := []) ⟨hx, hb, hml, hown, htx⟩ (cB_two_6 l hl9 D cT aK aV s.heap.size a0 x1 x6 x10 x15 h2 h3 h4 h5 h7 h8 h9 h11 h12 h13 h14 h16) ⟨callB_of 4 htx (xw_goodC kw_4_143) rfl rfl rfl (htx _ kw_1_1) (htx _ kw_4_140) ⟨by decide, by decide, by decide +kernel⟩ ⟨Nat.le_of_ble_eq_true rfl, Nat.le_of_ble_eq_true rfl⟩, (htx _ kw_4_141), (htx _ kw_4_142)⟩ ⟨xPre_blind, va_recv hK hP (ci := 0) rfl (q0 := 0) rfl, (fun U hU hW => ⟨rfl, xPre_of hZ hS hFc hPc hDc hK U hU hW⟩)⟩ rfl rfl hl.1 rfl (lv_room (Nat.le_of_ble_eq_true rfl)) dL_two_6 ⟨Nat.le_of_ble_eq_true rfl, Nat.le_of_ble_eq_true rfl⟩) hS hFc (fun q _ h => hFc q h) (fun E ce q9 u9 t H1 locs ht hvm _ hB hz1 hk1 hS hce hcv hcl => ?_)
  obtain ⟨rfl, hP1, hK1, hD1⟩ := hB
  rw [ht] at hP1
  obtain ⟨hP, hD⟩ := xjoin (W := [(a0, .inr (0, [v17, v18, v19, v20, v21, v22, v23, v24]))]) hP hD [] [0] 1 rfl rfl (by decide) (by decide) hk1 hFc hP1 hD1
  generalize H1 = H at hP hS hce ⊢
  refine vx_catch (own := "ValueBenchLaw") (name := "java/lang/IllegalArgumentException") (E := "java/lang/IllegalArgumentException") hown [] ⟨0, 9, 12, 19⟩ [⟨0, 9, 16, 33⟩, ⟨0, 9, 20, 13⟩] (by rw [htab]; rfl) (fun z hz => nomatch hz) (by decide) (by decide) (htx _ kw_1_211) ((hZ.2.2.2.2.2.1 "java/lang/IllegalArgumentException" (List.mem_of_getElem? (i := 1) rfl)).use rfl) hce hcv hcl ?_
  refine lv_astore (lv' := [(5, .ref q9), (0, .ref a0), (1, .int x1), (2, .int x6), (3, .int x10), (4, .int x15)]) hx hb dL_two_12 hl (by decide) rfl (fun ls hl => ?_)
  refine lv_iconst (v := 1) hx hb dL_two_14 (by decide) ?_
  obtain ⟨hP9, hD9⟩ := xsub (wc := [(a0, .inr (0, [v17, v18, v19, v20, v21, v22, v23, v24]))]) hP hD [0] rfl rfl (by decide)
  refine W.widen (k := 1) (n := 6) (Nat.le_of_ble_eq_true rfl) (Nat.le_of_ble_eq_true rfl) ?_
  exact W.iret (v := 1) hx hb hr (fun t ht hW => ⟨⟨1, (), rfl, rfl, by rw [ht]; exact hP9, va_K.moved hW.alike hK, hD9⟩, hS.F ht⟩) hS.2.2 dL_two_15
set_option maxHeartbeats 400000000 in
set_option maxRecDepth 100000 in
theorem cM_two0_6 (l : Launch) (hl9 : l.stackTraces = false) (D : va_G) (cT : Nat → ClassId) (aK aV : Nat → Nat) (sz : Nat) (a0 : Nat) (x1 : Int32) (x6 : Int32) (x10 : Int32) (x15 : Int32) (v17 : Value) (v18 : Value) (v19 : Value) (v20 : Value) (v21 : Value) (v22 : Value) (v23 : Value) (v24 : Value) (v25 : Value) (v26 : Value) (v27 : Value) (v28 : Value) (v29 : Value) (v30 : Value) (v31 : Value) (v32 : Value) (v33 : Value) (v34 : Value) (v35 : Value) (v36 : Value) (v37 : Value) (v38 : Value) (v39 : Value) (v40 : Value) (v41 : Value) (v42 : Value) (v43 : Value) (v44 : Value) (v45 : Value) (v46 : Value) (v47 : Value) (v48 : Value) (h2 : ¬ x1 < 0) (h3 : ¬ 7 < x1) (h4 : x1 ≤ 7) (h5 : vp_in x1 8) (h7 : ¬ x6 < 0) (h8 : ¬ 9 < x6) (h9 : x6 ≤ 9) (h11 : ¬ x10 < 0) (h12 : ¬ 7 < x10) (h13 : x10 ≤ 7) (h14 : vp_in x10 8) (h16 : x15 < 0) : xMet l yM_two0 wyM_two0 2 0 0 40 D cT aK aV sz [.ref a0, .int x1, .int x6, .int x10, .int x15] [(a0, .inr (5, [v17, v18, v19, v20, v21, v22, v23, v24, v25, v26, v27, v28, v29, v30, v31, v32, v33, v34, v35, v36, v37, v38, v39, v40, v41, v42, v43, v44, v45, v46, v47, v48]))] (fun A => va_Qv (fun _ : Unit => True) (fun _ t => xB D xcl cT A [(a0, .inr (5, [.int 1, v18, .int 0, v20, .int 0, v22, v23, .int 0, v25, .int 0, v27, v28, .int 0, v30, v31, v32, v33, v34, v35, v36, v37, v38, .int 0, .int 1000000000, v41, v42, v43, v44, v45, v46, v47, v48]))] t) A) := by
  refine Met.ofW (cc := prog_13_method_93_code) (maxL := 5) (ret := none) (by decide) rfl ?_
  intro p e s m args below meth c s₁ B hml hv
  obtain ⟨rfl, hsz, hZ, hP, hK, hD0⟩ := hv
  have hx := B.exec
  have hb := B.bytes
  have hr := B.returns
  have hts := atoms_spec (ws := wyM_two0) B.pre
  have htx := fun w h => hts w (List.mem_cons_of_mem _ h)
  have hown : s.vm.findClass "ValueBenchModel" = some m.cls := findClass_of_methodNamed B.named
  have hlocks := B.notSynchronized
  subst hsz
  have hD := hD0.self (sz := s.heap.size)
  generalize hAe : va_A [(a0, .inr (5, [v17, v18, v19, v20, v21, v22, v23, v24, v25, v26, v27, v28, v29, v30, v31, v32, v33, v34, v35, v36, v37, v38, v39, v40, v41, v42, v43, v44, v45, v46, v47, v48]))] s.heap.size = A at hD hZ ⊢
  have hA : ∀ q : Nat, s.heap.size ≤ q → A q := fun q h => by rw [← hAe]; exact Or.inr h
  have hS : va_S A s.heap s.heap [] := va_S.rf
  have hP : va_P D xcl [(a0, .inr (5, [v17, v18, v19, v20, v21, v22, v23, v24, v25, v26, v27, v28, v29, v30, v31, v32, v33, v34, v35, v36, v37, v38, v39, v40, v41, v42, v43, v44, v45, v46, v47, v48]))] s.heap := hP
  have hl := lv_entry ([.ref a0, .int x1, .int x6, .int x10, .int x15]) (n := 5) (Nat.le_of_ble_eq_true rfl)
  rw [lg_entry_eq]
  generalize (lg_sl ([.ref a0, .int x1, .int x6, .int x10, .int x15]) ++ List.replicate (5 - (lg_sl ([.ref a0, .int x1, .int x6, .int x10, .int x15])).length) Slot.unset).toArray = ls at hl ⊢
  have hl : lv_has ls 5 [(0, .ref a0), (1, .int x1), (2, .int x6), (3, .int x10), (4, .int x15)] := hl
  refine lv_aload_n hx hb dM_two0_0 rfl (lv_at hl 0 rfl) ?_
  obtain ⟨hPc, hDc, hFc⟩ := xcut (wc := [(a0, .inr (5, [v17, v18, v19, v20, v21, v22, v23, v24, v25, v26, v27, v28, v29, v30, v31, v32, v33, v34, v35, v36, v37, v38, v39, v40, v41, v42, v43, v44, v45, v46, v47, v48]))]) hP hD hS hA [0] rfl rfl (by decide)
  refine va_callv (va_runV (C := "ValueBenchModel") (As := []) (rest := []) ⟨hx, hb, hml, hown, htx⟩ (cM_begin_0 l hl9 D cT aK aV s.heap.size a0 v17 v18 v19 v20 v21 v22 v23 v24 v25 v26 v27 v28 v29 v30 v31 v32 v33 v34 v35 v36 v37 v38 v39 v40 v41 v42 v43 v44 v45 v46 v47 v48) ⟨callB_of 0 htx (xw_goodC kw_5_209) rfl rfl rfl (htx _ kw_1_5) (htx _ kw_5_206) ⟨by decide, by decide, by decide +kernel⟩ ⟨Nat.le_of_ble_eq_true rfl, Nat.le_of_ble_eq_true rfl⟩, (htx _ kw_5_208), (htx _ kp_M_begin)⟩ ⟨xPre_blind, va_recv hK hP (ci := 5) rfl (q0 := 0) rfl, (fun U hU hW => ⟨rfl, xPre_of hZ hS hFc hPc hDc hK U hU hW⟩)⟩ rfl rfl hl.1 rfl (lv_room (Nat.le_of_ble_eq_true rfl)) dM_two0_1 ⟨Nat.le_of_ble_eq_true rfl, Nat.le_of_ble_eq_true rfl⟩) hS (fun q _ h => hFc q h) hFc (fun u9 t H1 locs ht hvm hr9 hB hz1 hk1 hS => ?_)
  obtain ⟨hP1, hK1, hD1⟩ := hB
  rw [ht] at hP1
  obtain ⟨hP, hD⟩ := xjoin (W := [(a0, .inr (5, [.int 0, v18, .int 0, v20, .int 0, v22, v23, .int 0, v25, .int 0, v27, v28, .int 0, v30, v31, v32, v33, v34, v35, v36, v37, v38, .int 0, .int 1000000000, v41, v42, v43, v44, v45, v46, v47, v48]))]) hP hD [0] [] 0 rfl rfl (by decide) (by decide) hk1 hFc hP1 hD1
  generalize H1 = H at hP hS ⊢
  refine lv_aload_n hx hb dM_two0_4 rfl (lv_at hl 0 rfl) ?_
  refine lv_iload_n hx hb dM_two0_5 rfl (lv_at hl 1 rfl) ?_
  obtain ⟨hPc, hDc, hFc⟩ := xcut (wc := []) hP hD hS hA [] rfl rfl (by decide)
  refine va_calli (va_runV (C := "ValueBenchModel") (As := [.int x1]) (rest := []) ⟨hx, hb, hml, hown, htx⟩ (cM_out_2 l hl9 D cT aK aV H.size a0 x1 h2 h3 h4 h5) ⟨callB_of 1 htx (xw_goodC kw_5_217) rfl rfl rfl (htx _ kw_1_5) (htx _ kw_5_214) ⟨by decide, by decide, by decide +kernel⟩ ⟨Nat.le_of_ble_eq_true rfl, Nat.le_of_ble_eq_true rfl⟩, (htx _ kw_5_216), (htx _ kp_M_out)⟩ ⟨xPre_blind, va_recv hK hP (ci := 5) rfl (q0 := 0) rfl, (fun U hU hW => ⟨rfl, xPre_of hZ hS hFc hPc hDc hK U hU hW⟩)⟩ rfl rfl hl.1 rfl (lv_room (Nat.le_of_ble_eq_true rfl)) dM_two0_6 ⟨Nat.le_of_ble_eq_true rfl, Nat.le_of_ble_eq_true rfl⟩) hS (fun q _ h => hFc q h) hFc (fun r1 u9 t H1 locs ht hvm hr9 hB hz1 hk1 hS => ?_)
  obtain ⟨hP1, hK1, hD1⟩ := hB
  rw [ht] at hP1
  obtain ⟨hP, hD⟩ := xjoin (W := [(a0, .inr (5, [.int 0, v18, .int 0, v20, .int 0, v22, v23, .int 0, v25, .int 0, v27, v28, .int 0, v30, v31, v32, v33, v34, v35, v36, v37, v38, .int 0, .int 1000000000, v41, v42, v43, v44, v45, v46, v47, v48]))]) hP hD [] [0] 1 rfl rfl (by decide) (by decide) hk1 hFc hP1 hD1
  generalize H1 = H at hP hS ⊢
  rw [hr9]
  refine W.eq (g2 := F0 m 9 ls [.int 0]) rfl ?_
  refine lv_if_ne (tgt := 39) hx hb dM_two0_9 (by decide) (fun h => ((by revert h; decide : False)).elim) (fun _ => ?_)
  refine lv_iload_n hx hb dM_two0_12 rfl (lv_at hl 2 rfl) ?_
  refine lv_if_lt (tgt := 39) hx hb dM_two0_13 (by decide) (fun h => by first | exact absurd h h7 | exact absurd h h8 | exact absurd h h9 | exact absurd h7 h | exact absurd h8 h | exact absurd h9 h) (fun _ => ?_)
  refine lv_iload_n hx hb dM_two0_16 rfl (lv_at hl 2 rfl) ?_
  refine lv_bipush (v := 9) hx hb dM_two0_17 (by decide) ?_
  refine lv_icmp_gt (tgt := 39) hx hb dM_two0_19 (by decide) (fun h => by first | exact absurd h h7 | exact absurd h h8 | exact absurd h h9 | exact absurd h7 h | exact absurd h8 h | exact absurd h9 h) (fun _ => ?_)
  refine lv_aload_n hx hb dM_two0_22 rfl (lv_at hl 0 rfl) ?_
  refine lv_iload_n hx hb dM_two0_23 rfl (lv_at hl 3 rfl) ?_
  obtain ⟨hPc, hDc, hFc⟩ := xcut (wc := []) hP hD hS hA [] rfl rfl (by decide)
  refine va_calli (va_runV (C := "ValueBenchModel") (As := [.int x10]) (rest := []) ⟨hx, hb, hml, hown, htx⟩ (cM_out_2 l hl9 D cT aK aV H.size a0 x10 h11 h12 h13 h14) ⟨callB_of 1 htx (xw_goodC kw_5_217) rfl rfl rfl (htx _ kw_1_5) (htx _ kw_5_214) ⟨by decide, by decide, by decide +kernel⟩ ⟨Nat.le_of_ble_eq_true rfl, Nat.le_of_ble_eq_true rfl⟩, (htx _ kw_5_216), (htx _ kp_M_out)⟩ ⟨xPre_blind, va_recv hK hP (ci := 5) rfl (q0 := 0) rfl, (fun U hU hW => ⟨rfl, xPre_of hZ hS hFc hPc hDc hK U hU hW⟩)⟩ rfl rfl hl.1 rfl (lv_room (Nat.le_of_ble_eq_true rfl)) dM_two0_24 ⟨Nat.le_of_ble_eq_true rfl, Nat.le_of_ble_eq_true rfl⟩) hS (fun q _ h => hFc q h) hFc (fun r2 u9 t H1 locs ht hvm hr9 hB hz1 hk1 hS => ?_)
  obtain ⟨hP1, hK1, hD1⟩ := hB
  rw [ht] at hP1
  obtain ⟨hP, hD⟩ := xjoin (W := [(a0, .inr (5, [.int 0, v18, .int 0, v20, .int 0, v22, v23, .int 0, v25, .int 0, v27, v28, .int 0, v30, v31, v32, v33, v34, v35, v36, v37, v38, .int 0, .int 1000000000, v41, v42, v43, v44, v45, v46, v47, v48]))]) hP hD [] [0] 1 rfl rfl (by decide) (by decide) hk1 hFc hP1 hD1
  generalize H1 = H at hP hS ⊢
  rw [hr9]
  refine W.eq (g2 := F0 m 27 ls [.int 0]) rfl ?_
  refine lv_if_ne (tgt := 39) hx hb dM_two0_27 (by decide) (fun h => ((by revert h; decide : False)).elim) (fun _ => ?_)
  refine lv_aload_n hx hb dM_two0_30 rfl (lv_at hl 0 rfl) ?_
  refine lv_iload hx hb dM_two0_31 (lv_at hl 4 rfl) ?_
  obtain ⟨hPc, hDc, hFc⟩ := xcut (wc := []) hP hD hS hA [] rfl rfl (by decide)
  refine va_calli (va_runV (C := "ValueBenchModel") (As := [.int x15]) (rest := []) ⟨hx, hb, hml, hown, htx⟩ (cM_out_0 l hl9 D cT aK aV H.size a0 x15 h16) ⟨callB_of 1 htx (xw_goodC kw_5_217) rfl rfl rfl (htx _ kw_1_5) (htx _ kw_5_214) ⟨by decide, by decide, by decide +kernel⟩ ⟨Nat.le_of_ble_eq_true rfl, Nat.le_of_ble_eq_true rfl⟩, (htx _ kw_5_216), (htx _ kp_M_out)⟩ ⟨xPre_blind, va_recv hK hP (ci := 5) rfl (q0 := 0) rfl, (fun U hU hW => ⟨rfl, xPre_of hZ hS hFc hPc hDc hK U hU hW⟩)⟩ rfl rfl hl.1 rfl (lv_room (Nat.le_of_ble_eq_true rfl)) dM_two0_33 ⟨Nat.le_of_ble_eq_true rfl, Nat.le_of_ble_eq_true rfl⟩) hS (fun q _ h => hFc q h) hFc (fun r3 u9 t H1 locs ht hvm hr9 hB hz1 hk1 hS => ?_)
  obtain ⟨hP1, hK1, hD1⟩ := hB
  rw [ht] at hP1
  obtain ⟨hP, hD⟩ := xjoin (W := [(a0, .inr (5, [.int 0, v18, .int 0, v20, .int 0, v22, v23, .int 0, v25, .int 0, v27, v28, .int 0, v30, v31, v32, v33, v34, v35, v36, v37, v38, .int 0, .int 1000000000, v41, v42, v43, v44, v45, v46, v47, v48]))]) hP hD [] [0] 1 rfl rfl (by decide) (by decide) hk1 hFc hP1 hD1
  generalize H1 = H at hP hS ⊢
  rw [hr9]
  refine W.eq (g2 := F0 m 36 ls [.int 1]) rfl ?_
  refine lv_if_eq (tgt := 47) hx hb dM_two0_36 (by decide) (fun h => ((by revert h; decide : False)).elim) (fun _ => ?_)
  refine lv_aload_n hx hb dM_two0_39 rfl (lv_at hl 0 rfl) ?_
  refine lv_iconst (v := 1) hx hb dM_two0_40 (by decide) ?_
  refine va_put (D := D) (ci := 5) (v := .int 1) (ty := .int) (C := "ValueBenchModel") (T := TM) (N := 32) hx hb htx inM tyM tyM_ok nmM hown hK hP hD hS 0 rfl rfl 0 (by decide) (htx _ kw_5_87) (fun _ h9 => h9) rfl (by decide +kernel) rfl rfl (Nat.le_of_ble_eq_true rfl) dM_two0_41 (fun H locs hP hD hS => ?_)
  obtain ⟨hP, hD⟩ : xPD D xcl A [(a0, .inr (5, [.int 1, v18, .int 0, v20, .int 0, v22, v23, .int 0, v25, .int 0, v27, v28, .int 0, v30, v31, v32, v33, v34, v35, v36, v37, v38, .int 0, .int 1000000000, v41, v42, v43, v44, v45, v46, v47, v48]))] H := ⟨hP, hD⟩
  refine lv_goto (tgt := 57) hx hb dM_two0_44 (by decide) ?_
  obtain ⟨hP9, hD9⟩ := xsub (wc := [(a0, .inr (5, [.int 1, v18, .int 0, v20, .int 0, v22, v23, .int 0, v25, .int 0, v27, v28, .int 0, v30, v31, v32, v33, v34, v35, v36, v37, v38, .int 0, .int 1000000000, v41, v42, v43, v44, v45, v46, v47, v48]))]) hP hD [0] rfl rfl (by decide)
  refine W.widen (k := 0) (n := 0) (Nat.le_of_ble_eq_true rfl) (Nat.le_of_ble_eq_true rfl) ?_
  exact W.vret hx hb hr (fun t ht hW => ⟨⟨(), rfl, trivial, by rw [ht]; exact hP9, va_K.moved hW.alike hK, hD9⟩, hS.F ht⟩) hS.2.2 dM_two0_57
set_option maxHeartbeats 400000000 in
set_option maxRecDepth 100000 in
theorem cB_two_7 (l : Launch) (hl9 : l.stackTraces = false) (D : va_G) (cT : Nat → ClassId) (aK aV : Nat → Nat) (sz : Nat) (b0 : Nat) (x1 : Int32) (x6 : Int32) (x10 : Int32) (x15 : Int32) (h2 : ¬ x1 < 0) (h3 : ¬ 7 < x1) (h4 : x1 ≤ 7) (h5 : vp_in x1 8) (h7 : ¬ x6 < 0) (h8 : ¬ 9 < x6) (h9 : x6 ≤ 9) (h11 : ¬ x10 < 0) (h12 : ¬ 7 < x10) (h13 : x10 ≤ 7) (h14 : vp_in x10 8) (h16 : ¬ x15 < 0) (h17 : 7 < x15) (h18 : ¬ x15 ≤ 7) : xMetX l yB_two wyB_two 7 1 6 120 D cT aK aV sz [.ref b0, .int x1, .int x6, .int x10, .int x15] [] "java/lang/IllegalArgumentException" (fun A t => xB D xcl cT A [] t) := by
  refine vx_ofW (cc := prog_1_method_10_code) (maxL := 5) (ret := none) (by decide) rfl ?_
  intro p e s m args below meth c s₁ B hml hne hv
  obtain ⟨rfl, hsz, hZ, hP, hK, hD0⟩ := hv
  have hx := B.exec
  have hb := B.bytes
  have hr := B.returns
  have hts := atoms_spec (ws := wyB_two) B.pre
  have htx := fun w h => hts w (List.mem_cons_of_mem _ h)
  have hown : s.vm.findClass "ValueBench" = some m.cls := findClass_of_methodNamed B.named
  have hlocks := B.notSynchronized
  subst hsz
  have hD := hD0.self (sz := s.heap.size)
  generalize hAe : va_A [] s.heap.size = A at hD hZ ⊢
  have hA : ∀ q : Nat, s.heap.size ≤ q → A q := fun q h => by rw [← hAe]; exact Or.inr h
  have hS : va_S A s.heap s.heap [] := va_S.rf
  have hP : va_P D xcl [] s.heap := hP
  have hl := lv_entry ([.ref b0, .int x1, .int x6, .int x10, .int x15]) (n := 5) (Nat.le_of_ble_eq_true rfl)
  rw [lg_entry_eq]
  generalize (lg_sl ([.ref b0, .int x1, .int x6, .int x10, .int x15]) ++ List.replicate (5 - (lg_sl ([.ref b0, .int x1, .int x6, .int x10, .int x15])).length) Slot.unset).toArray = ls at hl ⊢
  have hl : lv_has ls 5 [(0, .ref b0), (1, .int x1), (2, .int x6), (3, .int x10), (4, .int x15)] := hl
  refine lv_iload_n hx hb dB_two_0 rfl (lv_at hl 1 rfl) ?_
  obtain ⟨hPc, hDc, hFc⟩ := xcut (wc := []) hP hD hS hA [] rfl rfl (by decide)
  refine va_calli (va_runS (As := [.int x1]) (rest := []) ⟨hx, hb, hml, hown, htx⟩ (cB_isRegister_2 l hl9 D cT aK aV s.heap.size x1 h2 h3 h4 h5) ⟨callB_of 1 htx (xw_goodC kw_2_18) rfl rfl rfl (htx _ kw_1_1) (htx _ kw_2_16) ⟨by decide, by decide, by decide +kernel⟩ ⟨Nat.le_of_ble_eq_true rfl, Nat.le_of_ble_eq_true rfl⟩, htx _ kw_2_17⟩ ⟨xPre_blind, (fun U hU hW => ⟨rfl, xPre_of hZ hS hFc hPc hDc hK U hU hW⟩)⟩ rfl rfl hl.1 rfl (lv_room (Nat.le_of_ble_eq_true rfl)) dB_two_1 ⟨Nat.le_of_ble_eq_true rfl, Nat.le_of_ble_eq_true rfl⟩) hS (fun q _ h => hFc q h) hFc (fun r1 u9 t H1 locs ht hvm hr9 hB hz1 hk1 hS => ?_)
  obtain ⟨hP1, hK1, hD1⟩ := hB
  rw [ht] at hP1
  obtain ⟨hP, hD⟩ := xjoin (W := []) hP hD [] [] 0 rfl rfl (by decide) (by decide) hk1 hFc hP1 hD1
  generalize H1 = H at hP hS ⊢
  rw [hr9]
  refine W.eq (g2 := F0 m 4 ls [.int 1]) rfl ?_
  refine lv_if_eq (tgt := 35) hx hb dB_two_4 (by decide) (fun h => ((by revert h; decide : False)).elim) (fun _ => ?_)
  refine lv_iload_n hx hb dB_two_7 rfl (lv_at hl 2 rfl) ?_
  refine lv_bipush (v := 9) hx hb dB_two_8 (by decide) ?_
  obtain ⟨hPc, hDc, hFc⟩ := xcut (wc := []) hP hD hS hA [] rfl rfl (by decide)
  refine va_calli (va_runS (As := [.int x6, .int 9]) (rest := []) ⟨hx, hb, hml, hown, htx⟩ (cB_isWithin_29 l hl9 D cT aK aV H.size x6 h7 h8 h9) ⟨callB_of 2 htx (xw_goodC kw_1_218) rfl rfl rfl (htx _ kw_1_1) (htx _ kw_1_216) ⟨by decide, by decide, by decide +kernel⟩ ⟨Nat.le_of_ble_eq_true rfl, Nat.le_of_ble_eq_true rfl⟩, htx _ kw_1_217⟩ ⟨xPre_blind, (fun U hU hW => ⟨rfl, xPre_of hZ hS hFc hPc hDc hK U hU hW⟩)⟩ rfl rfl hl.1 rfl (lv_room (Nat.le_of_ble_eq_true rfl)) dB_two_10 ⟨Nat.le_of_ble_eq_true rfl, Nat.le_of_ble_eq_true rfl⟩) hS (fun q _ h => hFc q h) hFc (fun r2 u9 t H1 locs ht hvm hr9 hB hz1 hk1 hS => ?_)
  obtain ⟨hP1, hK1, hD1⟩ := hB
  rw [ht] at hP1
  obtain ⟨hP, hD⟩ := xjoin (W := []) hP hD [] [] 0 rfl rfl (by decide) (by decide) hk1 hFc hP1 hD1
  generalize H1 = H at hP hS ⊢
  rw [hr9]
  refine W.eq (g2 := F0 m 13 ls [.int 1]) rfl ?_
  refine lv_if_eq (tgt := 35) hx hb dB_two_13 (by decide) (fun h => ((by revert h; decide : False)).elim) (fun _ => ?_)
  refine lv_iload_n hx hb dB_two_16 rfl (lv_at hl 3 rfl) ?_
  obtain ⟨hPc, hDc, hFc⟩ := xcut (wc := []) hP hD hS hA [] rfl rfl (by decide)
  refine va_calli (va_runS (As := [.int x10]) (rest := []) ⟨hx, hb, hml, hown, htx⟩ (cB_isRegister_2 l hl9 D cT aK aV H.size x10 h11 h12 h13 h14) ⟨callB_of 1 htx (xw_goodC kw_2_18) rfl rfl rfl (htx _ kw_1_1) (htx _ kw_2_16) ⟨by decide, by decide, by decide +kernel⟩ ⟨Nat.le_of_ble_eq_true rfl, Nat.le_of_ble_eq_true rfl⟩, htx _ kw_2_17⟩ ⟨xPre_blind, (fun U hU hW => ⟨rfl, xPre_of hZ hS hFc hPc hDc hK U hU hW⟩)⟩ rfl rfl hl.1 rfl (lv_room (Nat.le_of_ble_eq_true rfl)) dB_two_17 ⟨Nat.le_of_ble_eq_true rfl, Nat.le_of_ble_eq_true rfl⟩) hS (fun q _ h => hFc q h) hFc (fun r3 u9 t H1 locs ht hvm hr9 hB hz1 hk1 hS => ?_)
  obtain ⟨hP1, hK1, hD1⟩ := hB
  rw [ht] at hP1
  obtain ⟨hP, hD⟩ := xjoin (W := []) hP hD [] [] 0 rfl rfl (by decide) (by decide) hk1 hFc hP1 hD1
  generalize H1 = H at hP hS ⊢
  rw [hr9]
  refine W.eq (g2 := F0 m 20 ls [.int 1]) rfl ?_
  refine lv_if_eq (tgt := 35) hx hb dB_two_20 (by decide) (fun h => ((by revert h; decide : False)).elim) (fun _ => ?_)
  refine lv_iload hx hb dB_two_23 (lv_at hl 4 rfl) ?_
  obtain ⟨hPc, hDc, hFc⟩ := xcut (wc := []) hP hD hS hA [] rfl rfl (by decide)
  refine va_calli (va_runS (As := [.int x15]) (rest := []) ⟨hx, hb, hml, hown, htx⟩ (cB_isRegister_1 l hl9 D cT aK aV H.size x15 h16 h17 h18) ⟨callB_of 1 htx (xw_goodC kw_2_18) rfl rfl rfl (htx _ kw_1_1) (htx _ kw_2_16) ⟨by decide, by decide, by decide +kernel⟩ ⟨Nat.le_of_ble_eq_true rfl, Nat.le_of_ble_eq_true rfl⟩, htx _ kw_2_17⟩ ⟨xPre_blind, (fun U hU hW => ⟨rfl, xPre_of hZ hS hFc hPc hDc hK U hU hW⟩)⟩ rfl rfl hl.1 rfl (lv_room (Nat.le_of_ble_eq_true rfl)) dB_two_25 ⟨Nat.le_of_ble_eq_true rfl, Nat.le_of_ble_eq_true rfl⟩) hS (fun q _ h => hFc q h) hFc (fun r4 u9 t H1 locs ht hvm hr9 hB hz1 hk1 hS => ?_)
  obtain ⟨hP1, hK1, hD1⟩ := hB
  rw [ht] at hP1
  obtain ⟨hP, hD⟩ := xjoin (W := []) hP hD [] [] 0 rfl rfl (by decide) (by decide) hk1 hFc hP1 hD1
  generalize H1 = H at hP hS ⊢
  rw [hr9]
  refine W.eq (g2 := F0 m 28 ls [.int 0]) rfl ?_
  refine lv_if_eq (tgt := 35) hx hb dB_two_28 (by decide) (fun _ => ?_) (fun h => ((by revert h; decide : False)).elim)
  refine lv_iconst (v := 0) hx hb dB_two_35 (by decide) ?_
  obtain ⟨hPc, hDc, hFc⟩ := xcut (wc := []) hP hD hS hA [] rfl rfl (by decide)
  refine xx_thr (vx_runS (As := [.int 0]) (rest := []) ⟨hx, hb, hml, hown, htx⟩ (cB_demand_0 l hl9 D cT aK aV H.size) ⟨callB_of 1 htx (xw_goodC kw_1_221) rfl rfl rfl (htx _ kw_1_1) (htx _ kw_1_219) ⟨by decide, by decide, by decide +kernel⟩ ⟨Nat.le_of_ble_eq_true rfl, Nat.le_of_ble_eq_true rfl⟩, htx _ kw_1_220⟩ ⟨xPre_blind, (fun U hU hW => ⟨rfl, xPre_of hZ hS hFc hPc hDc hK U hU hW⟩)⟩ rfl rfl hl.1 rfl (lv_room (Nat.le_of_ble_eq_true rfl)) dB_two_36 ⟨Nat.le_of_ble_eq_true rfl, Nat.le_of_ble_eq_true rfl⟩) hS hFc (fun q _ h => hFc q h) (fun E ce q9 u9 t H1 locs ht hvm _ hB hz1 hk1 hS hce hcv hcl => ?_)
  obtain ⟨rfl, hP1, hK1, hD1⟩ := hB
  rw [ht] at hP1
  obtain ⟨hP, hD⟩ := xjoin (W := []) hP hD [] [] 0 rfl rfl (by decide) (by decide) hk1 hFc hP1 hD1
  generalize H1 = H at hP hS hce ⊢
  obtain ⟨hP9, hD9⟩ := xsub (wc := []) hP hD [] rfl rfl (by decide)
  exact vx_out (E := "java/lang/IllegalArgumentException") (fun x h => (hne x h).elim) hlocks hce hcv hcl (fun t ht ha => ⟨(), trivial, ⟨rfl, by rw [ht]; exact hP9, va_K.moved ha hK, hD9⟩, hS.F ht⟩) hS.2.2 (Nat.le_of_ble_eq_true rfl) (Nat.le_of_ble_eq_true rfl)
set_option maxHeartbeats 400000000 in
set_option maxRecDepth 100000 in
theorem cL_two_7 (l : Launch) (hl9 : l.stackTraces = false) (D : va_G) (cT : Nat → ClassId) (aK aV : Nat → Nat) (sz : Nat) (a0 : Nat) (x1 : Int32) (x6 : Int32) (x10 : Int32) (x15 : Int32) (v19 : Value) (v20 : Value) (v21 : Value) (v22 : Value) (v23 : Value) (v24 : Value) (v25 : Value) (v26 : Value) (h2 : ¬ x1 < 0) (h3 : ¬ 7 < x1) (h4 : x1 ≤ 7) (h5 : vp_in x1 8) (h7 : ¬ x6 < 0) (h8 : ¬ 9 < x6) (h9 : x6 ≤ 9) (h11 : ¬ x10 < 0) (h12 : ¬ 7 < x10) (h13 : x10 ≤ 7) (h14 : vp_in x10 8) (h16 : ¬ x15 < 0) (h17 : 7 < x15) (h18 : ¬ x15 ≤ 7) : xMet l yL_two wyL_two 8 1 6 144 D cT aK aV sz [.ref a0, .int x1, .int x6, .int x10, .int x15] [(a0, .inr (0, [v19, v20, v21, v22, v23, v24, v25, v26]))] (fun A => va_Qi (fun (r : Int32) (_ : Unit) => r = 1) (fun _ t => xB D xcl cT A [(a0, .inr (0, [v19, v20, v21, v22, v23, v24, v25, v26]))] t) A) := by
  refine va_MetW (cc := method_11_code) (maxL := 6) (ret := (some .int)) (hh := [(0, 9, 12, 19), (0, 9, 16, 33), (0, 9, 20, 13)]) (by decide) rfl ?_
  intro p e s m args below meth c s₁ B hml hv
  obtain ⟨rfl, hsz, hZ, hP, hK, hD0⟩ := hv
  have hx := B.exec
  have hb := B.bytes
  have hr := B.returns
  have hts := atoms_spec (ws := wyL_two) B.pre
  have htx := fun w h => hts w (List.mem_cons_of_mem _ h)
  have hown : s.vm.findClass "ValueBenchLaw" = some m.cls := findClass_of_methodNamed B.named
  have hlocks := B.notSynchronized
  subst hsz
  have hD := hD0.self (sz := s.heap.size)
  generalize hAe : va_A [(a0, .inr (0, [v19, v20, v21, v22, v23, v24, v25, v26]))] s.heap.size = A at hD hZ ⊢
  have hA : ∀ q : Nat, s.heap.size ≤ q → A q := fun q h => by rw [← hAe]; exact Or.inr h
  have hS : va_S A s.heap s.heap [] := va_S.rf
  have hP : va_P D xcl [(a0, .inr (0, [v19, v20, v21, v22, v23, v24, v25, v26]))] s.heap := hP
  have hl := lv_entry ([.ref a0, .int x1, .int x6, .int x10, .int x15]) (n := 6) (Nat.le_of_ble_eq_true rfl)
  rw [lg_entry_eq]
  generalize (lg_sl ([.ref a0, .int x1, .int x6, .int x10, .int x15]) ++ List.replicate (6 - (lg_sl ([.ref a0, .int x1, .int x6, .int x10, .int x15])).length) Slot.unset).toArray = ls at hl ⊢
  have hl : lv_has ls 6 [(0, .ref a0), (1, .int x1), (2, .int x6), (3, .int x10), (4, .int x15)] := hl
  have htab := vx_table (x := yL_two) B (hts _ List.mem_cons_self)
  refine lv_aload_n hx hb dL_two_0 rfl (lv_at hl 0 rfl) ?_
  refine lv_iload_n hx hb dL_two_1 rfl (lv_at hl 1 rfl) ?_
  refine lv_iload_n hx hb dL_two_2 rfl (lv_at hl 2 rfl) ?_
  refine lv_iload_n hx hb dL_two_3 rfl (lv_at hl 3 rfl) ?_
  refine lv_iload hx hb dL_two_4 (lv_at hl 4 rfl) ?_
  obtain ⟨hPc, hDc, hFc⟩ := xcut (wc := []) hP hD hS hA [] rfl rfl (by decide)
  refine xx_thr (vx_runV (C := "ValueBench") (As := [.int x1, .int x6, .int x10, .int x15]) (rest := []) ⟨hx, hb, hml, hown, htx⟩ (cB_two_7 l hl9 D cT aK aV s.heap.size a0 x1 x6 x10 x15 h2 h3 h4 h5 h7 h8 h9 h11 h12 h13 h14 h16 h17 h18) ⟨callB_of 4 htx (xw_goodC kw_4_143) rfl rfl rfl (htx _ kw_1_1) (htx _ kw_4_140) ⟨by decide, by decide, by decide +kernel⟩ ⟨Nat.le_of_ble_eq_true rfl, Nat.le_of_ble_eq_true rfl⟩, (htx _ kw_4_141), (htx _ kw_4_142)⟩ ⟨xPre_blind, va_recv hK hP (ci := 0) rfl (q0 := 0) rfl, (fun U hU hW => ⟨rfl, xPre_of hZ hS hFc hPc hDc hK U hU hW⟩)⟩ rfl rfl hl.1 rfl (lv_room (Nat.le_of_ble_eq_true rfl)) dL_two_6 ⟨Nat.le_of_ble_eq_true rfl, Nat.le_of_ble_eq_true rfl⟩) hS hFc (fun q _ h => hFc q h) (fun E ce q9 u9 t H1 locs ht hvm _ hB hz1 hk1 hS hce hcv hcl => ?_)
  obtain ⟨rfl, hP1, hK1, hD1⟩ := hB
  rw [ht] at hP1
  obtain ⟨hP, hD⟩ := xjoin (W := [(a0, .inr (0, [v19, v20, v21, v22, v23, v24, v25, v26]))]) hP hD [] [0] 1 rfl rfl (by decide) (by decide) hk1 hFc hP1 hD1
  generalize H1 = H at hP hS hce ⊢
  refine vx_catch (own := "ValueBenchLaw") (name := "java/lang/IllegalArgumentException") (E := "java/lang/IllegalArgumentException") hown [] ⟨0, 9, 12, 19⟩ [⟨0, 9, 16, 33⟩, ⟨0, 9, 20, 13⟩] (by rw [htab]; rfl) (fun z hz => nomatch hz) (by decide) (by decide) (htx _ kw_1_211) ((hZ.2.2.2.2.2.1 "java/lang/IllegalArgumentException" (List.mem_of_getElem? (i := 1) rfl)).use rfl) hce hcv hcl ?_
  refine lv_astore (lv' := [(5, .ref q9), (0, .ref a0), (1, .int x1), (2, .int x6), (3, .int x10), (4, .int x15)]) hx hb dL_two_12 hl (by decide) rfl (fun ls hl => ?_)
  refine lv_iconst (v := 1) hx hb dL_two_14 (by decide) ?_
  obtain ⟨hP9, hD9⟩ := xsub (wc := [(a0, .inr (0, [v19, v20, v21, v22, v23, v24, v25, v26]))]) hP hD [0] rfl rfl (by decide)
  refine W.widen (k := 1) (n := 6) (Nat.le_of_ble_eq_true rfl) (Nat.le_of_ble_eq_true rfl) ?_
  exact W.iret (v := 1) hx hb hr (fun t ht hW => ⟨⟨1, (), rfl, rfl, by rw [ht]; exact hP9, va_K.moved hW.alike hK, hD9⟩, hS.F ht⟩) hS.2.2 dL_two_15
set_option maxHeartbeats 400000000 in
set_option maxRecDepth 100000 in
theorem cM_two0_7 (l : Launch) (hl9 : l.stackTraces = false) (D : va_G) (cT : Nat → ClassId) (aK aV : Nat → Nat) (sz : Nat) (a0 : Nat) (x1 : Int32) (x6 : Int32) (x10 : Int32) (x15 : Int32) (v19 : Value) (v20 : Value) (v21 : Value) (v22 : Value) (v23 : Value) (v24 : Value) (v25 : Value) (v26 : Value) (v27 : Value) (v28 : Value) (v29 : Value) (v30 : Value) (v31 : Value) (v32 : Value) (v33 : Value) (v34 : Value) (v35 : Value) (v36 : Value) (v37 : Value) (v38 : Value) (v39 : Value) (v40 : Value) (v41 : Value) (v42 : Value) (v43 : Value) (v44 : Value) (v45 : Value) (v46 : Value) (v47 : Value) (v48 : Value) (v49 : Value) (v50 : Value) (h2 : ¬ x1 < 0) (h3 : ¬ 7 < x1) (h4 : x1 ≤ 7) (h5 : vp_in x1 8) (h7 : ¬ x6 < 0) (h8 : ¬ 9 < x6) (h9 : x6 ≤ 9) (h11 : ¬ x10 < 0) (h12 : ¬ 7 < x10) (h13 : x10 ≤ 7) (h14 : vp_in x10 8) (h16 : ¬ x15 < 0) (h17 : 7 < x15) (h18 : ¬ x15 ≤ 7) : xMet l yM_two0 wyM_two0 2 0 0 40 D cT aK aV sz [.ref a0, .int x1, .int x6, .int x10, .int x15] [(a0, .inr (5, [v19, v20, v21, v22, v23, v24, v25, v26, v27, v28, v29, v30, v31, v32, v33, v34, v35, v36, v37, v38, v39, v40, v41, v42, v43, v44, v45, v46, v47, v48, v49, v50]))] (fun A => va_Qv (fun _ : Unit => True) (fun _ t => xB D xcl cT A [(a0, .inr (5, [.int 1, v20, .int 0, v22, .int 0, v24, v25, .int 0, v27, .int 0, v29, v30, .int 0, v32, v33, v34, v35, v36, v37, v38, v39, v40, .int 0, .int 1000000000, v43, v44, v45, v46, v47, v48, v49, v50]))] t) A) := by
  refine Met.ofW (cc := prog_13_method_93_code) (maxL := 5) (ret := none) (by decide) rfl ?_
  intro p e s m args below meth c s₁ B hml hv
  obtain ⟨rfl, hsz, hZ, hP, hK, hD0⟩ := hv
  have hx := B.exec
  have hb := B.bytes
  have hr := B.returns
  have hts := atoms_spec (ws := wyM_two0) B.pre
  have htx := fun w h => hts w (List.mem_cons_of_mem _ h)
  have hown : s.vm.findClass "ValueBenchModel" = some m.cls := findClass_of_methodNamed B.named
  have hlocks := B.notSynchronized
  subst hsz
  have hD := hD0.self (sz := s.heap.size)
  generalize hAe : va_A [(a0, .inr (5, [v19, v20, v21, v22, v23, v24, v25, v26, v27, v28, v29, v30, v31, v32, v33, v34, v35, v36, v37, v38, v39, v40, v41, v42, v43, v44, v45, v46, v47, v48, v49, v50]))] s.heap.size = A at hD hZ ⊢
  have hA : ∀ q : Nat, s.heap.size ≤ q → A q := fun q h => by rw [← hAe]; exact Or.inr h
  have hS : va_S A s.heap s.heap [] := va_S.rf
  have hP : va_P D xcl [(a0, .inr (5, [v19, v20, v21, v22, v23, v24, v25, v26, v27, v28, v29, v30, v31, v32, v33, v34, v35, v36, v37, v38, v39, v40, v41, v42, v43, v44, v45, v46, v47, v48, v49, v50]))] s.heap := hP
  have hl := lv_entry ([.ref a0, .int x1, .int x6, .int x10, .int x15]) (n := 5) (Nat.le_of_ble_eq_true rfl)
  rw [lg_entry_eq]
  generalize (lg_sl ([.ref a0, .int x1, .int x6, .int x10, .int x15]) ++ List.replicate (5 - (lg_sl ([.ref a0, .int x1, .int x6, .int x10, .int x15])).length) Slot.unset).toArray = ls at hl ⊢
  have hl : lv_has ls 5 [(0, .ref a0), (1, .int x1), (2, .int x6), (3, .int x10), (4, .int x15)] := hl
  refine lv_aload_n hx hb dM_two0_0 rfl (lv_at hl 0 rfl) ?_
  obtain ⟨hPc, hDc, hFc⟩ := xcut (wc := [(a0, .inr (5, [v19, v20, v21, v22, v23, v24, v25, v26, v27, v28, v29, v30, v31, v32, v33, v34, v35, v36, v37, v38, v39, v40, v41, v42, v43, v44, v45, v46, v47, v48, v49, v50]))]) hP hD hS hA [0] rfl rfl (by decide)
  refine va_callv (va_runV (C := "ValueBenchModel") (As := []) (rest := []) ⟨hx, hb, hml, hown, htx⟩ (cM_begin_0 l hl9 D cT aK aV s.heap.size a0 v19 v20 v21 v22 v23 v24 v25 v26 v27 v28 v29 v30 v31 v32 v33 v34 v35 v36 v37 v38 v39 v40 v41 v42 v43 v44 v45 v46 v47 v48 v49 v50) ⟨callB_of 0 htx (xw_goodC kw_5_209) rfl rfl rfl (htx _ kw_1_5) (htx _ kw_5_206) ⟨by decide, by decide, by decide +kernel⟩ ⟨Nat.le_of_ble_eq_true rfl, Nat.le_of_ble_eq_true rfl⟩, (htx _ kw_5_208), (htx _ kp_M_begin)⟩ ⟨xPre_blind, va_recv hK hP (ci := 5) rfl (q0 := 0) rfl, (fun U hU hW => ⟨rfl, xPre_of hZ hS hFc hPc hDc hK U hU hW⟩)⟩ rfl rfl hl.1 rfl (lv_room (Nat.le_of_ble_eq_true rfl)) dM_two0_1 ⟨Nat.le_of_ble_eq_true rfl, Nat.le_of_ble_eq_true rfl⟩) hS (fun q _ h => hFc q h) hFc (fun u9 t H1 locs ht hvm hr9 hB hz1 hk1 hS => ?_)
  obtain ⟨hP1, hK1, hD1⟩ := hB
  rw [ht] at hP1
  obtain ⟨hP, hD⟩ := xjoin (W := [(a0, .inr (5, [.int 0, v20, .int 0, v22, .int 0, v24, v25, .int 0, v27, .int 0, v29, v30, .int 0, v32, v33, v34, v35, v36, v37, v38, v39, v40, .int 0, .int 1000000000, v43, v44, v45, v46, v47, v48, v49, v50]))]) hP hD [0] [] 0 rfl rfl (by decide) (by decide) hk1 hFc hP1 hD1
  generalize H1 = H at hP hS ⊢
  refine lv_aload_n hx hb dM_two0_4 rfl (lv_at hl 0 rfl) ?_
  refine lv_iload_n hx hb dM_two0_5 rfl (lv_at hl 1 rfl) ?_
  obtain ⟨hPc, hDc, hFc⟩ := xcut (wc := []) hP hD hS hA [] rfl rfl (by decide)
  refine va_calli (va_runV (C := "ValueBenchModel") (As := [.int x1]) (rest := []) ⟨hx, hb, hml, hown, htx⟩ (cM_out_2 l hl9 D cT aK aV H.size a0 x1 h2 h3 h4 h5) ⟨callB_of 1 htx (xw_goodC kw_5_217) rfl rfl rfl (htx _ kw_1_5) (htx _ kw_5_214) ⟨by decide, by decide, by decide +kernel⟩ ⟨Nat.le_of_ble_eq_true rfl, Nat.le_of_ble_eq_true rfl⟩, (htx _ kw_5_216), (htx _ kp_M_out)⟩ ⟨xPre_blind, va_recv hK hP (ci := 5) rfl (q0 := 0) rfl, (fun U hU hW => ⟨rfl, xPre_of hZ hS hFc hPc hDc hK U hU hW⟩)⟩ rfl rfl hl.1 rfl (lv_room (Nat.le_of_ble_eq_true rfl)) dM_two0_6 ⟨Nat.le_of_ble_eq_true rfl, Nat.le_of_ble_eq_true rfl⟩) hS (fun q _ h => hFc q h) hFc (fun r1 u9 t H1 locs ht hvm hr9 hB hz1 hk1 hS => ?_)
  obtain ⟨hP1, hK1, hD1⟩ := hB
  rw [ht] at hP1
  obtain ⟨hP, hD⟩ := xjoin (W := [(a0, .inr (5, [.int 0, v20, .int 0, v22, .int 0, v24, v25, .int 0, v27, .int 0, v29, v30, .int 0, v32, v33, v34, v35, v36, v37, v38, v39, v40, .int 0, .int 1000000000, v43, v44, v45, v46, v47, v48, v49, v50]))]) hP hD [] [0] 1 rfl rfl (by decide) (by decide) hk1 hFc hP1 hD1
  generalize H1 = H at hP hS ⊢
  rw [hr9]
  refine W.eq (g2 := F0 m 9 ls [.int 0]) rfl ?_
  refine lv_if_ne (tgt := 39) hx hb dM_two0_9 (by decide) (fun h => ((by revert h; decide : False)).elim) (fun _ => ?_)
  refine lv_iload_n hx hb dM_two0_12 rfl (lv_at hl 2 rfl) ?_
  refine lv_if_lt (tgt := 39) hx hb dM_two0_13 (by decide) (fun h => by first | exact absurd h h7 | exact absurd h h8 | exact absurd h h9 | exact absurd h7 h | exact absurd h8 h | exact absurd h9 h) (fun _ => ?_)
  refine lv_iload_n hx hb dM_two0_16 rfl (lv_at hl 2 rfl) ?_
  refine lv_bipush (v := 9) hx hb dM_two0_17 (by decide) ?_
  refine lv_icmp_gt (tgt := 39) hx hb dM_two0_19 (by decide) (fun h => by first | exact absurd h h7 | exact absurd h h8 | exact absurd h h9 | exact absurd h7 h | exact absurd h8 h | exact absurd h9 h) (fun _ => ?_)
  refine lv_aload_n hx hb dM_two0_22 rfl (lv_at hl 0 rfl) ?_
  refine lv_iload_n hx hb dM_two0_23 rfl (lv_at hl 3 rfl) ?_
  obtain ⟨hPc, hDc, hFc⟩ := xcut (wc := []) hP hD hS hA [] rfl rfl (by decide)
  refine va_calli (va_runV (C := "ValueBenchModel") (As := [.int x10]) (rest := []) ⟨hx, hb, hml, hown, htx⟩ (cM_out_2 l hl9 D cT aK aV H.size a0 x10 h11 h12 h13 h14) ⟨callB_of 1 htx (xw_goodC kw_5_217) rfl rfl rfl (htx _ kw_1_5) (htx _ kw_5_214) ⟨by decide, by decide, by decide +kernel⟩ ⟨Nat.le_of_ble_eq_true rfl, Nat.le_of_ble_eq_true rfl⟩, (htx _ kw_5_216), (htx _ kp_M_out)⟩ ⟨xPre_blind, va_recv hK hP (ci := 5) rfl (q0 := 0) rfl, (fun U hU hW => ⟨rfl, xPre_of hZ hS hFc hPc hDc hK U hU hW⟩)⟩ rfl rfl hl.1 rfl (lv_room (Nat.le_of_ble_eq_true rfl)) dM_two0_24 ⟨Nat.le_of_ble_eq_true rfl, Nat.le_of_ble_eq_true rfl⟩) hS (fun q _ h => hFc q h) hFc (fun r2 u9 t H1 locs ht hvm hr9 hB hz1 hk1 hS => ?_)
  obtain ⟨hP1, hK1, hD1⟩ := hB
  rw [ht] at hP1
  obtain ⟨hP, hD⟩ := xjoin (W := [(a0, .inr (5, [.int 0, v20, .int 0, v22, .int 0, v24, v25, .int 0, v27, .int 0, v29, v30, .int 0, v32, v33, v34, v35, v36, v37, v38, v39, v40, .int 0, .int 1000000000, v43, v44, v45, v46, v47, v48, v49, v50]))]) hP hD [] [0] 1 rfl rfl (by decide) (by decide) hk1 hFc hP1 hD1
  generalize H1 = H at hP hS ⊢
  rw [hr9]
  refine W.eq (g2 := F0 m 27 ls [.int 0]) rfl ?_
  refine lv_if_ne (tgt := 39) hx hb dM_two0_27 (by decide) (fun h => ((by revert h; decide : False)).elim) (fun _ => ?_)
  refine lv_aload_n hx hb dM_two0_30 rfl (lv_at hl 0 rfl) ?_
  refine lv_iload hx hb dM_two0_31 (lv_at hl 4 rfl) ?_
  obtain ⟨hPc, hDc, hFc⟩ := xcut (wc := []) hP hD hS hA [] rfl rfl (by decide)
  refine va_calli (va_runV (C := "ValueBenchModel") (As := [.int x15]) (rest := []) ⟨hx, hb, hml, hown, htx⟩ (cM_out_1 l hl9 D cT aK aV H.size a0 x15 h16 h17 h18) ⟨callB_of 1 htx (xw_goodC kw_5_217) rfl rfl rfl (htx _ kw_1_5) (htx _ kw_5_214) ⟨by decide, by decide, by decide +kernel⟩ ⟨Nat.le_of_ble_eq_true rfl, Nat.le_of_ble_eq_true rfl⟩, (htx _ kw_5_216), (htx _ kp_M_out)⟩ ⟨xPre_blind, va_recv hK hP (ci := 5) rfl (q0 := 0) rfl, (fun U hU hW => ⟨rfl, xPre_of hZ hS hFc hPc hDc hK U hU hW⟩)⟩ rfl rfl hl.1 rfl (lv_room (Nat.le_of_ble_eq_true rfl)) dM_two0_33 ⟨Nat.le_of_ble_eq_true rfl, Nat.le_of_ble_eq_true rfl⟩) hS (fun q _ h => hFc q h) hFc (fun r3 u9 t H1 locs ht hvm hr9 hB hz1 hk1 hS => ?_)
  obtain ⟨hP1, hK1, hD1⟩ := hB
  rw [ht] at hP1
  obtain ⟨hP, hD⟩ := xjoin (W := [(a0, .inr (5, [.int 0, v20, .int 0, v22, .int 0, v24, v25, .int 0, v27, .int 0, v29, v30, .int 0, v32, v33, v34, v35, v36, v37, v38, v39, v40, .int 0, .int 1000000000, v43, v44, v45, v46, v47, v48, v49, v50]))]) hP hD [] [0] 1 rfl rfl (by decide) (by decide) hk1 hFc hP1 hD1
  generalize H1 = H at hP hS ⊢
  rw [hr9]
  refine W.eq (g2 := F0 m 36 ls [.int 1]) rfl ?_
  refine lv_if_eq (tgt := 47) hx hb dM_two0_36 (by decide) (fun h => ((by revert h; decide : False)).elim) (fun _ => ?_)
  refine lv_aload_n hx hb dM_two0_39 rfl (lv_at hl 0 rfl) ?_
  refine lv_iconst (v := 1) hx hb dM_two0_40 (by decide) ?_
  refine va_put (D := D) (ci := 5) (v := .int 1) (ty := .int) (C := "ValueBenchModel") (T := TM) (N := 32) hx hb htx inM tyM tyM_ok nmM hown hK hP hD hS 0 rfl rfl 0 (by decide) (htx _ kw_5_87) (fun _ h9 => h9) rfl (by decide +kernel) rfl rfl (Nat.le_of_ble_eq_true rfl) dM_two0_41 (fun H locs hP hD hS => ?_)
  obtain ⟨hP, hD⟩ : xPD D xcl A [(a0, .inr (5, [.int 1, v20, .int 0, v22, .int 0, v24, v25, .int 0, v27, .int 0, v29, v30, .int 0, v32, v33, v34, v35, v36, v37, v38, v39, v40, .int 0, .int 1000000000, v43, v44, v45, v46, v47, v48, v49, v50]))] H := ⟨hP, hD⟩
  refine lv_goto (tgt := 57) hx hb dM_two0_44 (by decide) ?_
  obtain ⟨hP9, hD9⟩ := xsub (wc := [(a0, .inr (5, [.int 1, v20, .int 0, v22, .int 0, v24, v25, .int 0, v27, .int 0, v29, v30, .int 0, v32, v33, v34, v35, v36, v37, v38, v39, v40, .int 0, .int 1000000000, v43, v44, v45, v46, v47, v48, v49, v50]))]) hP hD [0] rfl rfl (by decide)
  refine W.widen (k := 0) (n := 0) (Nat.le_of_ble_eq_true rfl) (Nat.le_of_ble_eq_true rfl) ?_
  exact W.vret hx hb hr (fun t ht hW => ⟨⟨(), rfl, trivial, by rw [ht]; exact hP9, va_K.moved hW.alike hK, hD9⟩, hS.F ht⟩) hS.2.2 dM_two0_57
set_option maxHeartbeats 400000000 in
set_option maxRecDepth 100000 in
theorem cB_isWithin_30 (l : Launch) (hl9 : l.stackTraces = false) (D : va_G) (cT : Nat → ClassId) (aK aV : Nat → Nat) (sz : Nat) : xMet l yB_isWithin wyB_isWithin 0 0 0 0 D cT aK aV sz [.int 0, .int 9] [] (fun A => va_Qi (fun (r : Int32) (_ : Unit) => r = 1) (fun _ t => xB D xcl cT A [] t) A) := by
  refine Met.ofW (cc := prog_1_method_15_code) (maxL := 2) (ret := (some .boolean)) (by decide) rfl ?_
  intro p e s m args below meth c s₁ B hml hv
  obtain ⟨rfl, hsz, hZ, hP, hK, hD0⟩ := hv
  have hx := B.exec
  have hb := B.bytes
  have hr := B.returns
  have hts := atoms_spec (ws := wyB_isWithin) B.pre
  have htx := fun w h => hts w (List.mem_cons_of_mem _ h)
  have hown : s.vm.findClass "ValueBench" = some m.cls := findClass_of_methodNamed B.named
  have hlocks := B.notSynchronized
  subst hsz
  have hD := hD0.self (sz := s.heap.size)
  generalize hAe : va_A [] s.heap.size = A at hD hZ ⊢
  have hA : ∀ q : Nat, s.heap.size ≤ q → A q := fun q h => by rw [← hAe]; exact Or.inr h
  have hS : va_S A s.heap s.heap [] := va_S.rf
  have hP : va_P D xcl [] s.heap := hP
  have hl := lv_entry ([.int 0, .int 9]) (n := 2) (Nat.le_of_ble_eq_true rfl)
  rw [lg_entry_eq]
  generalize (lg_sl ([.int 0, .int 9]) ++ List.replicate (2 - (lg_sl ([.int 0, .int 9])).length) Slot.unset).toArray = ls at hl ⊢
  have hl : lv_has ls 2 [(0, .int 0), (1, .int 9)] := hl
  refine lv_iload_n hx hb dB_isWithin_0 rfl (lv_at hl 0 rfl) ?_
  refine lv_if_lt (tgt := 13) hx hb dB_isWithin_1 (by decide) (fun h => ((by revert h; decide : False)).elim) (fun _ => ?_)
  refine lv_iload_n hx hb dB_isWithin_4 rfl (lv_at hl 0 rfl) ?_
  refine lv_iload_n hx hb dB_isWithin_5 rfl (lv_at hl 1 rfl) ?_
  refine lv_icmp_gt (tgt := 13) hx hb dB_isWithin_6 (by decide) (fun h => ((by revert h; decide : False)).elim) (fun _ => ?_)
  refine lv_iconst (v := 1) hx hb dB_isWithin_9 (by decide) ?_
  refine lv_goto (tgt := 14) hx hb dB_isWithin_10 (by decide) ?_
  obtain ⟨hP9, hD9⟩ := xsub (wc := []) hP hD [] rfl rfl (by decide)
  refine W.widen (k := 0) (n := 0) (Nat.le_of_ble_eq_true rfl) (Nat.le_of_ble_eq_true rfl) ?_
  exact W.zret (v := 1) hx hb hr rfl (fun t ht hW => ⟨⟨1, (), rfl, rfl, by rw [ht]; exact hP9, va_K.moved hW.alike hK, hD9⟩, hS.F ht⟩) hS.2.2 dB_isWithin_14
set_option maxHeartbeats 400000000 in
set_option maxRecDepth 100000 in
theorem cH_has_0 (l : Launch) (hl9 : l.stackTraces = false) (D : va_G) (cT : Nat → ClassId) (aK aV : Nat → Nat) (sz : Nat) (a0 : Nat) (a1 : Nat) (b2 : Nat) (v3 : Value) (f4 : Nat → Int64) (h5 : f4 0 = 0) : xMet l yH_has wyH_has 2 0 0 43 D cT aK aV sz [.ref a0, .ref a0, .ref b2] [(a0, .inr (2, [.ref a1, .int 1, v3])), (a1, .inl (cT 2, 4096, .inr (.inl f4)))] (fun A => va_Qi (fun (r : Int32) (_ : Unit) => r = 1) (fun _ t => xB D xcl cT A [(a0, .inr (2, [.ref a1, .int 1, v3])), (a1, .inl (cT 2, 4096, .inr (.inl f4)))] t) A) := by
  refine Met.ofW (cc := prog_5_method_7_code) (maxL := 3) (ret := (some .int)) (by decide) rfl ?_
  intro p e s m args below meth c s₁ B hml hv
  obtain ⟨rfl, hsz, hZ, hP, hK, hD0⟩ := hv
  have hx := B.exec
  have hb := B.bytes
  have hr := B.returns
  have hts := atoms_spec (ws := wyH_has) B.pre
  have htx := fun w h => hts w (List.mem_cons_of_mem _ h)
  have hown : s.vm.findClass "ValueBench$Pairs" = some m.cls := findClass_of_methodNamed B.named
  have hlocks := B.notSynchronized
  subst hsz
  have hD := hD0.self (sz := s.heap.size)
  generalize hAe : va_A [(a0, .inr (2, [.ref a1, .int 1, v3])), (a1, .inl (cT 2, 4096, .inr (.inl f4)))] s.heap.size = A at hD hZ ⊢
  have hA : ∀ q : Nat, s.heap.size ≤ q → A q := fun q h => by rw [← hAe]; exact Or.inr h
  have hS : va_S A s.heap s.heap [] := va_S.rf
  have hP : va_P D xcl [(a0, .inr (2, [.ref a1, .int 1, v3])), (a1, .inl (cT 2, 4096, .inr (.inl f4)))] s.heap := hP
  have hl := lv_entry ([.ref a0, .ref a0, .ref b2]) (n := 3) (Nat.le_of_ble_eq_true rfl)
  rw [lg_entry_eq]
  generalize (lg_sl ([.ref a0, .ref a0, .ref b2]) ++ List.replicate (3 - (lg_sl ([.ref a0, .ref a0, .ref b2])).length) Slot.unset).toArray = ls at hl ⊢
  have hl : lv_has ls 3 [(0, .ref a0), (1, .ref a0), (2, .ref b2)] := hl
  refine lv_aload_n hx hb dH_has_0 rfl (lv_at hl 0 rfl) ?_
  refine lv_iconst (v := 0) hx hb dH_has_1 (by decide) ?_
  refine lv_bipush (v := 6) hx hb dH_has_2 (by decide) ?_
  obtain ⟨hPc, hDc, hFc⟩ := xcut (wc := [(a0, .inr (2, [.ref a1, .int 1, v3])), (a1, .inl (cT 2, 4096, .inr (.inl f4)))]) hP hD hS hA [0, 1] rfl rfl (by decide)
  refine va_calli (va_runV (C := "ValueBench$Row") (As := [.int 0, .int 6]) (rest := []) ⟨hx, hb, hml, hown, htx⟩ (cR_is_3 l hl9 D cT aK aV s.heap.size a0 a1 v3 f4 (by first | rfl | exact h5)) ⟨callB_of 2 htx (xw_goodC kw_3_75) rfl rfl rfl (htx _ kw_1_4) (htx _ kw_4_150) ⟨by decide, by decide, by decide +kernel⟩ ⟨Nat.le_of_ble_eq_true rfl, Nat.le_of_ble_eq_true rfl⟩, (htx _ kw_3_73), (htx _ kw_3_74)⟩ ⟨xPre_blind, va_recv hK hP (ci := 2) rfl (q0 := 0) rfl, (fun U hU hW => ⟨rfl, xPre_of hZ hS hFc hPc hDc hK U hU hW⟩)⟩ rfl rfl hl.1 rfl (lv_room (Nat.le_of_ble_eq_true rfl)) dH_has_4 ⟨Nat.le_of_ble_eq_true rfl, Nat.le_of_ble_eq_true rfl⟩) hS (fun q _ h => hFc q h) hFc (fun r1 u9 t H1 locs ht hvm hr9 hB hz1 hk1 hS => ?_)
  obtain ⟨hP1, hK1, hD1⟩ := hB
  rw [ht] at hP1
  obtain ⟨hP, hD⟩ := xjoin (W := [(a0, .inr (2, [.ref a1, .int 1, v3])), (a1, .inl (cT 2, 4096, .inr (.inl f4)))]) hP hD [0, 1] [] 0 rfl rfl (by decide) (by decide) hk1 hFc hP1 hD1
  generalize H1 = H at hP hS ⊢
  rw [hr9]
  refine W.eq (g2 := F0 m 7 ls [.int 0]) rfl ?_
  refine lv_if_eq (tgt := 40) hx hb dH_has_7 (by decide) (fun _ => ?_) (fun h => ((by revert h; decide : False)).elim)
  refine lv_aload_n hx hb dH_has_40 rfl (lv_at hl 0 rfl) ?_
  refine lv_iconst (v := 0) hx hb dH_has_41 (by decide) ?_
  refine lv_iconst (v := 5) hx hb dH_has_42 (by decide) ?_
  obtain ⟨hPc, hDc, hFc⟩ := xcut (wc := [(a0, .inr (2, [.ref a1, .int 1, v3])), (a1, .inl (cT 2, 4096, .inr (.inl f4)))]) hP hD hS hA [0, 1] rfl rfl (by decide)
  refine va_calli (va_runV (C := "ValueBench$Row") (As := [.int 0, .int 5]) (rest := []) ⟨hx, hb, hml, hown, htx⟩ (cR_is_2 l hl9 D cT aK aV H.size a0 a1 v3 f4 (by first | rfl | exact h5)) ⟨callB_of 2 htx (xw_goodC kw_3_75) rfl rfl rfl (htx _ kw_1_4) (htx _ kw_4_150) ⟨by decide, by decide, by decide +kernel⟩ ⟨Nat.le_of_ble_eq_true rfl, Nat.le_of_ble_eq_true rfl⟩, (htx _ kw_3_73), (htx _ kw_3_74)⟩ ⟨xPre_blind, va_recv hK hP (ci := 2) rfl (q0 := 0) rfl, (fun U hU hW => ⟨rfl, xPre_of hZ hS hFc hPc hDc hK U hU hW⟩)⟩ rfl rfl hl.1 rfl (lv_room (Nat.le_of_ble_eq_true rfl)) dH_has_43 ⟨Nat.le_of_ble_eq_true rfl, Nat.le_of_ble_eq_true rfl⟩) hS (fun q _ h => hFc q h) hFc (fun r2 u9 t H1 locs ht hvm hr9 hB hz1 hk1 hS => ?_)
  obtain ⟨hP1, hK1, hD1⟩ := hB
  rw [ht] at hP1
  obtain ⟨hP, hD⟩ := xjoin (W := [(a0, .inr (2, [.ref a1, .int 1, v3])), (a1, .inl (cT 2, 4096, .inr (.inl f4)))]) hP hD [0, 1] [] 0 rfl rfl (by decide) (by decide) hk1 hFc hP1 hD1
  generalize H1 = H at hP hS ⊢
  rw [hr9]
  refine W.eq (g2 := F0 m 46 ls [.int 0]) rfl ?_
  refine lv_if_eq (tgt := 93) hx hb dH_has_46 (by decide) (fun _ => ?_) (fun h => ((by revert h; decide : False)).elim)
  refine lv_iconst (v := 1) hx hb dH_has_93 (by decide) ?_
  obtain ⟨hP9, hD9⟩ := xsub (wc := [(a0, .inr (2, [.ref a1, .int 1, v3])), (a1, .inl (cT 2, 4096, .inr (.inl f4)))]) hP hD [0, 1] rfl rfl (by decide)
  refine W.widen (k := 0) (n := 0) (Nat.le_of_ble_eq_true rfl) (Nat.le_of_ble_eq_true rfl) ?_
  exact W.iret (v := 1) hx hb hr (fun t ht hW => ⟨⟨1, (), rfl, rfl, by rw [ht]; exact hP9, va_K.moved hW.alike hK, hD9⟩, hS.F ht⟩) hS.2.2 dH_has_94
set_option maxHeartbeats 400000000 in
set_option maxRecDepth 100000 in
theorem cH_apply_0 (l : Launch) (hl9 : l.stackTraces = false) (D : va_G) (cT : Nat → ClassId) (aK aV : Nat → Nat) (sz : Nat) (a0 : Nat) (a1 : Nat) (b2 : Nat) (b3 : Nat) (v4 : Value) (f5 : Nat → Int64) (h6 : f5 0 = 0) : xMet l yH_apply wyH_apply 3 0 0 65 D cT aK aV sz [.int 0, .ref a0, .ref a0, .ref b2, .ref b3] [(a0, .inr (2, [.ref a1, .int 1, v4])), (a1, .inl (cT 2, 4096, .inr (.inl f5)))] (fun A => va_Qi (fun (r : Int32) (_ : Unit) => r = 1) (fun _ t => xB D xcl cT A [(a0, .inr (2, [.ref a1, .int 1, v4])), (a1, .inl (cT 2, 4096, .inr (.inl f5)))] t) A) := by
  refine Met.ofW (cc := prog_5_method_2_code) (maxL := 5) (ret := (some .int)) (by decide) rfl ?_
  intro p e s m args below meth c s₁ B hml hv
  obtain ⟨rfl, hsz, hZ, hP, hK, hD0⟩ := hv
  have hx := B.exec
  have hb := B.bytes
  have hr := B.returns
  have hts := atoms_spec (ws := wyH_apply) B.pre
  have htx := fun w h => hts w (List.mem_cons_of_mem _ h)
  have hown : s.vm.findClass "ValueBench$Pairs" = some m.cls := findClass_of_methodNamed B.named
  have hlocks := B.notSynchronized
  subst hsz
  have hD := hD0.self (sz := s.heap.size)
  generalize hAe : va_A [(a0, .inr (2, [.ref a1, .int 1, v4])), (a1, .inl (cT 2, 4096, .inr (.inl f5)))] s.heap.size = A at hD hZ ⊢
  have hA : ∀ q : Nat, s.heap.size ≤ q → A q := fun q h => by rw [← hAe]; exact Or.inr h
  have hS : va_S A s.heap s.heap [] := va_S.rf
  have hP : va_P D xcl [(a0, .inr (2, [.ref a1, .int 1, v4])), (a1, .inl (cT 2, 4096, .inr (.inl f5)))] s.heap := hP
  have hl := lv_entry ([.int 0, .ref a0, .ref a0, .ref b2, .ref b3]) (n := 5) (Nat.le_of_ble_eq_true rfl)
  rw [lg_entry_eq]
  generalize (lg_sl ([.int 0, .ref a0, .ref a0, .ref b2, .ref b3]) ++ List.replicate (5 - (lg_sl ([.int 0, .ref a0, .ref a0, .ref b2, .ref b3])).length) Slot.unset).toArray = ls at hl ⊢
  have hl : lv_has ls 5 [(0, .int 0), (1, .ref a0), (2, .ref a0), (3, .ref b2), (4, .ref b3)] := hl
  refine lv_iload_n hx hb dH_apply_0 rfl (lv_at hl 0 rfl) ?_
  refine lv_tableIn (off := 51) (tgt := 52) hx hb dH_apply_1 (by decide) (by decide) (by decide) (by decide) ?_
  refine lv_aload_n hx hb dH_apply_52 rfl (lv_at hl 1 rfl) ?_
  refine lv_aload_n hx hb dH_apply_53 rfl (lv_at hl 2 rfl) ?_
  refine lv_aload hx hb dH_apply_54 (lv_at hl 4 rfl) ?_
  obtain ⟨hPc, hDc, hFc⟩ := xcut (wc := [(a0, .inr (2, [.ref a1, .int 1, v4])), (a1, .inl (cT 2, 4096, .inr (.inl f5)))]) hP hD hS hA [0, 1] rfl rfl (by decide)
  refine va_calli (va_runS (As := [.ref a0, .ref a0, .ref b3]) (rest := []) ⟨hx, hb, hml, hown, htx⟩ (cH_has_0 l hl9 D cT aK aV s.heap.size a0 a1 b3 v4 f5 (by first | rfl | exact h6)) ⟨callB_of 3 htx (xw_goodC kw_4_149) rfl rfl rfl (htx _ kw_1_27) (htx _ kw_4_147) ⟨by decide, by decide, by decide +kernel⟩ ⟨Nat.le_of_ble_eq_true rfl, Nat.le_of_ble_eq_true rfl⟩, htx _ kw_4_148⟩ ⟨xPre_blind, (fun U hU hW => ⟨rfl, xPre_of hZ hS hFc hPc hDc hK U hU hW⟩)⟩ rfl rfl hl.1 rfl (lv_room (Nat.le_of_ble_eq_true rfl)) dH_apply_56 ⟨Nat.le_of_ble_eq_true rfl, Nat.le_of_ble_eq_true rfl⟩) hS (fun q _ h => hFc q h) hFc (fun r1 u9 t H1 locs ht hvm hr9 hB hz1 hk1 hS => ?_)
  obtain ⟨hP1, hK1, hD1⟩ := hB
  rw [ht] at hP1
  obtain ⟨hP, hD⟩ := xjoin (W := [(a0, .inr (2, [.ref a1, .int 1, v4])), (a1, .inl (cT 2, 4096, .inr (.inl f5)))]) hP hD [0, 1] [] 0 rfl rfl (by decide) (by decide) hk1 hFc hP1 hD1
  generalize H1 = H at hP hS ⊢
  rw [hr9]
  refine W.eq (g2 := F0 m 59 ls [.int 1]) rfl ?_
  obtain ⟨hP9, hD9⟩ := xsub (wc := [(a0, .inr (2, [.ref a1, .int 1, v4])), (a1, .inl (cT 2, 4096, .inr (.inl f5)))]) hP hD [0, 1] rfl rfl (by decide)
  refine W.widen (k := 0) (n := 0) (Nat.le_of_ble_eq_true rfl) (Nat.le_of_ble_eq_true rfl) ?_
  exact W.iret (v := 1) hx hb hr (fun t ht hW => ⟨⟨1, (), rfl, rfl, by rw [ht]; exact hP9, va_K.moved hW.alike hK, hD9⟩, hS.F ht⟩) hS.2.2 dH_apply_59
set_option maxHeartbeats 400000000 in
set_option maxRecDepth 100000 in
theorem cB_two_8 (l : Launch) (hl9 : l.stackTraces = false) (D : va_G) (cT : Nat → ClassId) (aK aV : Nat → Nat) (sz : Nat) (a0 : Nat) (a1 : Nat) (a2 : Nat) (a3 : Nat) (a4 : Nat) (x5 : Int32) (x10 : Int32) (x15 : Int32) (v20 : Value) (v21 : Value) (b22 : Nat) (v23 : Value) (v24 : Value) (v25 : Value) (v26 : Value) (v27 : Value) (v28 : Value) (f29 : Nat → Option Nat) (v32 : Value) (f33 : Nat → Int64) (h6 : ¬ x5 < 0) (h7 : ¬ 7 < x5) (h8 : x5 ≤ 7) (h9 : vp_in x5 8) (h11 : ¬ x10 < 0) (h12 : ¬ 7 < x10) (h13 : x10 ≤ 7) (h14 : vp_in x10 8) (h16 : ¬ x15 < 0) (h17 : ¬ 7 < x15) (h18 : x15 ≤ 7) (h19 : vp_in x15 8) (h30 : f29 x10.toNatClampNeg = some a3) (h31 : f29 x15.toNatClampNeg = some a3) (h34 : f33 0 = 0) : xMetX l yB_two wyB_two 7 1 6 121 D cT aK aV sz [.ref a0, .int x5, .int 0, .int x10, .int x15] [(a0, .inr (0, [v20, v21, .ref b22, .ref a2, v23, .ref a1, v24, v25])), (a1, .inr (2, [v26, v27, v28])), (a2, .inl (cT 3, 8, .inr (.inr (.inr (.inr f29))))), (a3, .inr (2, [.ref a4, .int 1, v32])), (a4, .inl (cT 2, 4096, .inr (.inl f33)))] "java/lang/ArithmeticException" (fun A t => xB D xcl cT A [(a0, .inr (0, [v20, v21, .ref b22, .ref a2, v23, .ref a1, v24, .int 1])), (a1, .inr (2, [v26, .int 0, .int 0])), (a2, .inl (cT 3, 8, .inr (.inr (.inr (.inr f29))))), (a3, .inr (2, [.ref a4, .int 1, v32])), (a4, .inl (cT 2, 4096, .inr (.inl f33)))] t) := by
  refine vx_ofW (cc := prog_1_method_10_code) (maxL := 5) (ret := none) (by decide) rfl ?_
  intro p e s m args below meth c s₁ B hml hne hv
  obtain ⟨rfl, hsz, hZ, hP, hK, hD0⟩ := hv
  have hx := B.exec
  have hb := B.bytes
  have hr := B.returns
  have hts := atoms_spec (ws := wyB_two) B.pre
  have htx := fun w h => hts w (List.mem_cons_of_mem _ h)
  have hown : s.vm.findClass "ValueBench" = some m.cls := findClass_of_methodNamed B.named
  have hlocks := B.notSynchronized
  subst hsz
  have hD := hD0.self (sz := s.heap.size)
  generalize hAe : va_A [(a0, .inr (0, [v20, v21, .ref b22, .ref a2, v23, .ref a1, v24, v25])), (a1, .inr (2, [v26, v27, v28])), (a2, .inl (cT 3, 8, .inr (.inr (.inr (.inr f29))))), (a3, .inr (2, [.ref a4, .int 1, v32])), (a4, .inl (cT 2, 4096, .inr (.inl f33)))] s.heap.size = A at hD hZ ⊢
  have hA : ∀ q : Nat, s.heap.size ≤ q → A q := fun q h => by rw [← hAe]; exact Or.inr h
  have hS : va_S A s.heap s.heap [] := va_S.rf
  have hP : va_P D xcl [(a0, .inr (0, [v20, v21, .ref b22, .ref a2, v23, .ref a1, v24, v25])), (a1, .inr (2, [v26, v27, v28])), (a2, .inl (cT 3, 8, .inr (.inr (.inr (.inr f29))))), (a3, .inr (2, [.ref a4, .int 1, v32])), (a4, .inl (cT 2, 4096, .inr (.inl f33)))] s.heap := hP
  have hl := lv_entry ([.ref a0, .int x5, .int 0, .int x10, .int x15]) (n := 5) (Nat.le_of_ble_eq_true rfl)
  rw [lg_entry_eq]
  generalize (lg_sl ([.ref a0, .int x5, .int 0, .int x10, .int x15]) ++ List.replicate (5 - (lg_sl ([.ref a0, .int x5, .int 0, .int x10, .int x15])).length) Slot.unset).toArray = ls at hl ⊢
  have hl : lv_has ls 5 [(0, .ref a0), (1, .int x5), (2, .int 0), (3, .int x10), (4, .int x15)] := hl
  refine lv_iload_n hx hb dB_two_0 rfl (lv_at hl 1 rfl) ?_
  obtain ⟨hPc, hDc, hFc⟩ := xcut (wc := []) hP hD hS hA [] rfl rfl (by decide)
  refine va_calli (va_runS (As := [.int x5]) (rest := []) ⟨hx, hb, hml, hown, htx⟩ (cB_isRegister_2 l hl9 D cT aK aV s.heap.size x5 h6 h7 h8 h9) ⟨callB_of 1 htx (xw_goodC kw_2_18) rfl rfl rfl (htx _ kw_1_1) (htx _ kw_2_16) ⟨by decide, by decide, by decide +kernel⟩ ⟨Nat.le_of_ble_eq_true rfl, Nat.le_of_ble_eq_true rfl⟩, htx _ kw_2_17⟩ ⟨xPre_blind, (fun U hU hW => ⟨rfl, xPre_of hZ hS hFc hPc hDc hK U hU hW⟩)⟩ rfl rfl hl.1 rfl (lv_room (Nat.le_of_ble_eq_true rfl)) dB_two_1 ⟨Nat.le_of_ble_eq_true rfl, Nat.le_of_ble_eq_true rfl⟩) hS (fun q _ h => hFc q h) hFc (fun r1 u9 t H1 locs ht hvm hr9 hB hz1 hk1 hS => ?_)
  obtain ⟨hP1, hK1, hD1⟩ := hB
  rw [ht] at hP1
  obtain ⟨hP, hD⟩ := xjoin (W := [(a0, .inr (0, [v20, v21, .ref b22, .ref a2, v23, .ref a1, v24, v25])), (a1, .inr (2, [v26, v27, v28])), (a2, .inl (cT 3, 8, .inr (.inr (.inr (.inr f29))))), (a3, .inr (2, [.ref a4, .int 1, v32])), (a4, .inl (cT 2, 4096, .inr (.inl f33)))]) hP hD [] [0, 1, 2, 3, 4] 5 rfl rfl (by decide) (by decide) hk1 hFc hP1 hD1
  generalize H1 = H at hP hS ⊢
  rw [hr9]
  refine W.eq (g2 := F0 m 4 ls [.int 1]) rfl ?_
  refine lv_if_eq (tgt := 35) hx hb dB_two_4 (by decide) (fun h => ((by revert h; decide : False)).elim) (fun _ => ?_)
  refine lv_iload_n hx hb dB_two_7 rfl (lv_at hl 2 rfl) ?_
  refine lv_bipush (v := 9) hx hb dB_two_8 (by decide) ?_
  obtain ⟨hPc, hDc, hFc⟩ := xcut (wc := []) hP hD hS hA [] rfl rfl (by decide)
  refine va_calli (va_runS (As := [.int 0, .int 9]) (rest := []) ⟨hx, hb, hml, hown, htx⟩ (cB_isWithin_30 l hl9 D cT aK aV H.size) ⟨callB_of 2 htx (xw_goodC kw_1_218) rfl rfl rfl (htx _ kw_1_1) (htx _ kw_1_216) ⟨by decide, by decide, by decide +kernel⟩ ⟨Nat.le_of_ble_eq_true rfl, Nat.le_of_ble_eq_true rfl⟩, htx _ kw_1_217⟩ ⟨xPre_blind, (fun U hU hW => ⟨rfl, xPre_of hZ hS hFc hPc hDc hK U hU hW⟩)⟩ rfl rfl hl.1 rfl (lv_room (Nat.le_of_ble_eq_true rfl)) dB_two_10 ⟨Nat.le_of_ble_eq_true rfl, Nat.le_of_ble_eq_true rfl⟩) hS (fun q _ h => hFc q h) hFc (fun r2 u9 t H1 locs ht hvm hr9 hB hz1 hk1 hS => ?_)
  obtain ⟨hP1, hK1, hD1⟩ := hB
  rw [ht] at hP1
  obtain ⟨hP, hD⟩ := xjoin (W := [(a0, .inr (0, [v20, v21, .ref b22, .ref a2, v23, .ref a1, v24, v25])), (a1, .inr (2, [v26, v27, v28])), (a2, .inl (cT 3, 8, .inr (.inr (.inr (.inr f29))))), (a3, .inr (2, [.ref a4, .int 1, v32])), (a4, .inl (cT 2, 4096, .inr (.inl f33)))]) hP hD [] [0, 1, 2, 3, 4] 5 rfl rfl (by decide) (by decide) hk1 hFc hP1 hD1
  generalize H1 = H at hP hS ⊢
  rw [hr9]
  refine W.eq (g2 := F0 m 13 ls [.int 1]) rfl ?_
  refine lv_if_eq (tgt := 35) hx hb dB_two_13 (by decide) (fun h => ((by revert h; decide : False)).elim) (fun _ => ?_)
  refine lv_iload_n hx hb dB_two_16 rfl (lv_at hl 3 rfl) ?_
  obtain ⟨hPc, hDc, hFc⟩ := xcut (wc := []) hP hD hS hA [] rfl rfl (by decide)
  refine va_calli (va_runS (As := [.int x10]) (rest := []) ⟨hx, hb, hml, hown, htx⟩ (cB_isRegister_2 l hl9 D cT aK aV H.size x10 h11 h12 h13 h14) ⟨callB_of 1 htx (xw_goodC kw_2_18) rfl rfl rfl (htx _ kw_1_1) (htx _ kw_2_16) ⟨by decide, by decide, by decide +kernel⟩ ⟨Nat.le_of_ble_eq_true rfl, Nat.le_of_ble_eq_true rfl⟩, htx _ kw_2_17⟩ ⟨xPre_blind, (fun U hU hW => ⟨rfl, xPre_of hZ hS hFc hPc hDc hK U hU hW⟩)⟩ rfl rfl hl.1 rfl (lv_room (Nat.le_of_ble_eq_true rfl)) dB_two_17 ⟨Nat.le_of_ble_eq_true rfl, Nat.le_of_ble_eq_true rfl⟩) hS (fun q _ h => hFc q h) hFc (fun r3 u9 t H1 locs ht hvm hr9 hB hz1 hk1 hS => ?_)
  obtain ⟨hP1, hK1, hD1⟩ := hB
  rw [ht] at hP1
  obtain ⟨hP, hD⟩ := xjoin (W := [(a0, .inr (0, [v20, v21, .ref b22, .ref a2, v23, .ref a1, v24, v25])), (a1, .inr (2, [v26, v27, v28])), (a2, .inl (cT 3, 8, .inr (.inr (.inr (.inr f29))))), (a3, .inr (2, [.ref a4, .int 1, v32])), (a4, .inl (cT 2, 4096, .inr (.inl f33)))]) hP hD [] [0, 1, 2, 3, 4] 5 rfl rfl (by decide) (by decide) hk1 hFc hP1 hD1
  generalize H1 = H at hP hS ⊢
  rw [hr9]
  refine W.eq (g2 := F0 m 20 ls [.int 1]) rfl ?_
  refine lv_if_eq (tgt := 35) hx hb dB_two_20 (by decide) (fun h => ((by revert h; decide : False)).elim) (fun _ => ?_)
  refine lv_iload hx hb dB_two_23 (lv_at hl 4 rfl) ?_
  obtain ⟨hPc, hDc, hFc⟩ := xcut (wc := []) hP hD hS hA [] rfl rfl (by decide)
  refine va_calli (va_runS (As := [.int x15]) (rest := []) ⟨hx, hb, hml, hown, htx⟩ (cB_isRegister_2 l hl9 D cT aK aV H.size x15 h16 h17 h18 h19) ⟨callB_of 1 htx (xw_goodC kw_2_18) rfl rfl rfl (htx _ kw_1_1) (htx _ kw_2_16) ⟨by decide, by decide, by decide +kernel⟩ ⟨Nat.le_of_ble_eq_true rfl, Nat.le_of_ble_eq_true rfl⟩, htx _ kw_2_17⟩ ⟨xPre_blind, (fun U hU hW => ⟨rfl, xPre_of hZ hS hFc hPc hDc hK U hU hW⟩)⟩ rfl rfl hl.1 rfl (lv_room (Nat.le_of_ble_eq_true rfl)) dB_two_25 ⟨Nat.le_of_ble_eq_true rfl, Nat.le_of_ble_eq_true rfl⟩) hS (fun q _ h => hFc q h) hFc (fun r4 u9 t H1 locs ht hvm hr9 hB hz1 hk1 hS => ?_)
  obtain ⟨hP1, hK1, hD1⟩ := hB
  rw [ht] at hP1
  obtain ⟨hP, hD⟩ := xjoin (W := [(a0, .inr (0, [v20, v21, .ref b22, .ref a2, v23, .ref a1, v24, v25])), (a1, .inr (2, [v26, v27, v28])), (a2, .inl (cT 3, 8, .inr (.inr (.inr (.inr f29))))), (a3, .inr (2, [.ref a4, .int 1, v32])), (a4, .inl (cT 2, 4096, .inr (.inl f33)))]) hP hD [] [0, 1, 2, 3, 4] 5 rfl rfl (by decide) (by decide) hk1 hFc hP1 hD1
  generalize H1 = H at hP hS ⊢
  rw [hr9]
  refine W.eq (g2 := F0 m 28 ls [.int 1]) rfl ?_
  refine lv_if_eq (tgt := 35) hx hb dB_two_28 (by decide) (fun h => ((by revert h; decide : False)).elim) (fun _ => ?_)
  refine lv_iconst (v := 1) hx hb dB_two_31 (by decide) ?_
  refine lv_goto (tgt := 36) hx hb dB_two_32 (by decide) ?_
  obtain ⟨hPc, hDc, hFc⟩ := xcut (wc := []) hP hD hS hA [] rfl rfl (by decide)
  refine va_callv (va_runS (As := [.int 1]) (rest := []) ⟨hx, hb, hml, hown, htx⟩ (cB_demand_1 l hl9 D cT aK aV H.size) ⟨callB_of 1 htx (xw_goodC kw_1_221) rfl rfl rfl (htx _ kw_1_1) (htx _ kw_1_219) ⟨by decide, by decide, by decide +kernel⟩ ⟨Nat.le_of_ble_eq_true rfl, Nat.le_of_ble_eq_true rfl⟩, htx _ kw_1_220⟩ ⟨xPre_blind, (fun U hU hW => ⟨rfl, xPre_of hZ hS hFc hPc hDc hK U hU hW⟩)⟩ rfl rfl hl.1 rfl (lv_room (Nat.le_of_ble_eq_true rfl)) dB_two_36 ⟨Nat.le_of_ble_eq_true rfl, Nat.le_of_ble_eq_true rfl⟩) hS (fun q _ h => hFc q h) hFc (fun u9 t H1 locs ht hvm hr9 hB hz1 hk1 hS => ?_)
  obtain ⟨hP1, hK1, hD1⟩ := hB
  rw [ht] at hP1
  obtain ⟨hP, hD⟩ := xjoin (W := [(a0, .inr (0, [v20, v21, .ref b22, .ref a2, v23, .ref a1, v24, v25])), (a1, .inr (2, [v26, v27, v28])), (a2, .inl (cT 3, 8, .inr (.inr (.inr (.inr f29))))), (a3, .inr (2, [.ref a4, .int 1, v32])), (a4, .inl (cT 2, 4096, .inr (.inl f33)))]) hP hD [] [0, 1, 2, 3, 4] 5 rfl rfl (by decide) (by decide) hk1 hFc hP1 hD1
  generalize H1 = H at hP hS ⊢
  refine lv_aload_n hx hb dB_two_39 rfl (lv_at hl 0 rfl) ?_
  refine va_get (D := D) (ci := 0) (v := .ref a1) (C := "ValueBench") (T := TB) (N := 8) hx hb htx inB hown hK hP 0 rfl rfl 5 (by decide) (htx _ kw_1_100) (fun _ h9 => h9) rfl dB_two_40 ?_
  obtain ⟨hPc, hDc, hFc⟩ := xcut (wc := [(a1, .inr (2, [v26, v27, v28]))]) hP hD hS hA [1] rfl rfl (by decide)
  refine va_callv (va_runV (C := "ValueBench$Row") (As := []) (rest := []) ⟨hx, hb, hml, hown, htx⟩ (cR_clear_0 l hl9 D cT aK aV H.size a1 v26 v27 v28) ⟨callB_of 0 htx (xw_goodC kw_2_22) rfl rfl rfl (htx _ kw_1_4) (htx _ kw_2_19) ⟨by decide, by decide, by decide +kernel⟩ ⟨Nat.le_of_ble_eq_true rfl, Nat.le_of_ble_eq_true rfl⟩, (htx _ kw_2_20), (htx _ kw_2_21)⟩ ⟨xPre_blind, va_recv hK hP (ci := 2) rfl (q0 := 1) rfl, (fun U hU hW => ⟨rfl, xPre_of hZ hS hFc hPc hDc hK U hU hW⟩)⟩ rfl rfl hl.1 rfl (lv_room (Nat.le_of_ble_eq_true rfl)) dB_two_43 ⟨Nat.le_of_ble_eq_true rfl, Nat.le_of_ble_eq_true rfl⟩) hS (fun q _ h => hFc q h) hFc (fun u9 t H1 locs ht hvm hr9 hB hz1 hk1 hS => ?_)
  obtain ⟨hP1, hK1, hD1⟩ := hB
  rw [ht] at hP1
  obtain ⟨hP, hD⟩ := xjoin (W := [(a0, .inr (0, [v20, v21, .ref b22, .ref a2, v23, .ref a1, v24, v25])), (a2, .inl (cT 3, 8, .inr (.inr (.inr (.inr f29))))), (a3, .inr (2, [.ref a4, .int 1, v32])), (a4, .inl (cT 2, 4096, .inr (.inl f33))), (a1, .inr (2, [v26, .int 0, .int 0]))]) hP hD [1] [0, 2, 3, 4] 4 rfl rfl (by decide) (by decide) hk1 hFc hP1 hD1
  generalize H1 = H at hP hS ⊢
  refine lv_aload_n hx hb dB_two_46 rfl (lv_at hl 0 rfl) ?_
  refine lv_iload_n hx hb dB_two_47 rfl (lv_at hl 2 rfl) ?_
  refine lv_aload_n hx hb dB_two_48 rfl (lv_at hl 0 rfl) ?_
  refine va_get (D := D) (ci := 0) (v := .ref a2) (C := "ValueBench") (T := TB) (N := 8) hx hb htx inB hown hK hP 0 rfl rfl 3 (by decide) (htx _ kw_1_98) (fun _ h9 => h9) rfl dB_two_49 ?_
  refine lv_iload_n hx hb dB_two_52 rfl (lv_at hl 3 rfl) ?_
  refine va_aldq hx hb hK hP 1 3 rfl rfl h14 dB_two_53 ?_
  refine W.eq (g2 := F0 m 54 ls [va_rf (f29 x10.toNatClampNeg), .int 0, .ref a0]) rfl ?_
  rw [h30]
  refine W.eq (g2 := F0 m 54 ls [.ref a3, .int 0, .ref a0]) rfl ?_
  refine lv_aload_n hx hb dB_two_54 rfl (lv_at hl 0 rfl) ?_
  refine va_get (D := D) (ci := 0) (v := .ref a2) (C := "ValueBench") (T := TB) (N := 8) hx hb htx inB hown hK hP 0 rfl rfl 3 (by decide) (htx _ kw_1_98) (fun _ h9 => h9) rfl dB_two_55 ?_
  refine lv_iload hx hb dB_two_58 (lv_at hl 4 rfl) ?_
  refine va_aldq hx hb hK hP 1 3 rfl rfl h19 dB_two_60 ?_
  refine W.eq (g2 := F0 m 61 ls [va_rf (f29 x15.toNatClampNeg), .ref a3, .int 0, .ref a0]) rfl ?_
  rw [h31]
  refine W.eq (g2 := F0 m 61 ls [.ref a3, .ref a3, .int 0, .ref a0]) rfl ?_
  refine lv_aload_n hx hb dB_two_61 rfl (lv_at hl 0 rfl) ?_
  refine va_get (D := D) (ci := 0) (v := .ref b22) (C := "ValueBench") (T := TB) (N := 8) hx hb htx inB hown hK hP 0 rfl rfl 2 (by decide) (htx _ kw_1_97) (fun _ h9 => h9) rfl dB_two_62 ?_
  refine lv_aload_n hx hb dB_two_65 rfl (lv_at hl 0 rfl) ?_
  refine va_get (D := D) (ci := 0) (v := .ref a1) (C := "ValueBench") (T := TB) (N := 8) hx hb htx inB hown hK hP 0 rfl rfl 5 (by decide) (htx _ kw_1_100) (fun _ h9 => h9) rfl dB_two_66 ?_
  obtain ⟨hPc, hDc, hFc⟩ := xcut (wc := [(a3, .inr (2, [.ref a4, .int 1, v32])), (a4, .inl (cT 2, 4096, .inr (.inl f33)))]) hP hD hS hA [2, 3] rfl rfl (by decide)
  refine va_calli (va_runS (As := [.int 0, .ref a3, .ref a3, .ref b22, .ref a1]) (rest := [.ref a0]) ⟨hx, hb, hml, hown, htx⟩ (cH_apply_0 l hl9 D cT aK aV H.size a3 a4 b22 a1 v32 f33 (by first | rfl | exact h30 | exact h31 | exact h34)) ⟨callB_of 5 htx (xw_goodC kw_4_146) rfl rfl rfl (htx _ kw_1_27) (htx _ kw_4_144) ⟨by decide, by decide, by decide +kernel⟩ ⟨Nat.le_of_ble_eq_true rfl, Nat.le_of_ble_eq_true rfl⟩, htx _ kw_4_145⟩ ⟨xPre_blind, (fun U hU hW => ⟨rfl, xPre_of hZ hS hFc hPc hDc hK U hU hW⟩)⟩ rfl rfl hl.1 rfl (lv_room (Nat.le_of_ble_eq_true rfl)) dB_two_69 ⟨Nat.le_of_ble_eq_true rfl, Nat.le_of_ble_eq_true rfl⟩) hS (fun q _ h => hFc q h) hFc (fun r5 u9 t H1 locs ht hvm hr9 hB hz1 hk1 hS => ?_)
  obtain ⟨hP1, hK1, hD1⟩ := hB
  rw [ht] at hP1
  obtain ⟨hP, hD⟩ := xjoin (W := [(a0, .inr (0, [v20, v21, .ref b22, .ref a2, v23, .ref a1, v24, v25])), (a2, .inl (cT 3, 8, .inr (.inr (.inr (.inr f29))))), (a1, .inr (2, [v26, .int 0, .int 0])), (a3, .inr (2, [.ref a4, .int 1, v32])), (a4, .inl (cT 2, 4096, .inr (.inl f33)))]) hP hD [2, 3] [0, 1, 4] 3 rfl rfl (by decide) (by decide) hk1 hFc hP1 hD1
  generalize H1 = H at hP hS ⊢
  rw [hr9]
  refine W.eq (g2 := F0 m 72 ls [.int 1, .ref a0]) rfl ?_
  obtain ⟨hPc, hDc, hFc⟩ := xcut (wc := [(a0, .inr (0, [v20, v21, .ref b22, .ref a2, v23, .ref a1, v24, v25]))]) hP hD hS hA [0] rfl rfl (by decide)
  refine xx_thr (vx_runV (C := "ValueBench") (As := [.int 1]) (rest := []) ⟨hx, hb, hml, hown, htx⟩ (cB_demandDone_1 l hl9 D cT aK aV H.size a0 v20 v21 (.ref b22) (.ref a2) v23 (.ref a1) v24 v25) ⟨callB_of 1 htx (xw_goodC kw_3_222) rfl rfl rfl (htx _ kw_1_1) (htx _ kw_3_219) ⟨by decide, by decide, by decide +kernel⟩ ⟨Nat.le_of_ble_eq_true rfl, Nat.le_of_ble_eq_true rfl⟩, (htx _ kw_3_221), (htx _ kp_B_demandDone)⟩ ⟨xPre_blind, va_recv hK hP (ci := 0) rfl (q0 := 0) rfl, (fun U hU hW => ⟨rfl, xPre_of hZ hS hFc hPc hDc hK U hU hW⟩)⟩ rfl rfl hl.1 rfl (lv_room (Nat.le_of_ble_eq_true rfl)) dB_two_72 ⟨Nat.le_of_ble_eq_true rfl, Nat.le_of_ble_eq_true rfl⟩) hS hFc (fun q _ h => hFc q h) (fun E ce q9 u9 t H1 locs ht hvm _ hB hz1 hk1 hS hce hcv hcl => ?_)
  obtain ⟨rfl, hP1, hK1, hD1⟩ := hB
  rw [ht] at hP1
  obtain ⟨hP, hD⟩ := xjoin (W := [(a2, .inl (cT 3, 8, .inr (.inr (.inr (.inr f29))))), (a1, .inr (2, [v26, .int 0, .int 0])), (a3, .inr (2, [.ref a4, .int 1, v32])), (a4, .inl (cT 2, 4096, .inr (.inl f33))), (a0, .inr (0, [v20, v21, .ref b22, .ref a2, v23, .ref a1, v24, .int 1]))]) hP hD [0] [1, 2, 3, 4] 4 rfl rfl (by decide) (by decide) hk1 hFc hP1 hD1
  generalize H1 = H at hP hS hce ⊢
  obtain ⟨hP9, hD9⟩ := xsub (wc := [(a0, .inr (0, [v20, v21, .ref b22, .ref a2, v23, .ref a1, v24, .int 1])), (a1, .inr (2, [v26, .int 0, .int 0])), (a2, .inl (cT 3, 8, .inr (.inr (.inr (.inr f29))))), (a3, .inr (2, [.ref a4, .int 1, v32])), (a4, .inl (cT 2, 4096, .inr (.inl f33)))]) hP hD [4, 1, 0, 2, 3] rfl rfl (by decide)
  exact vx_out (E := "java/lang/ArithmeticException") (fun x h => (hne x h).elim) hlocks hce hcv hcl (fun t ht ha => ⟨(), trivial, ⟨rfl, by rw [ht]; exact hP9, va_K.moved ha hK, hD9⟩, hS.F ht⟩) hS.2.2 (Nat.le_of_ble_eq_true rfl) (Nat.le_of_ble_eq_true rfl)
set_option maxHeartbeats 400000000 in
set_option maxRecDepth 100000 in
theorem cL_two_8 (l : Launch) (hl9 : l.stackTraces = false) (D : va_G) (cT : Nat → ClassId) (aK aV : Nat → Nat) (sz : Nat) (a0 : Nat) (a1 : Nat) (a2 : Nat) (a3 : Nat) (a4 : Nat) (x5 : Int32) (x10 : Int32) (x15 : Int32) (v20 : Value) (v21 : Value) (b22 : Nat) (v23 : Value) (v24 : Value) (v25 : Value) (v26 : Value) (v27 : Value) (v28 : Value) (f29 : Nat → Option Nat) (v32 : Value) (f33 : Nat → Int64) (h6 : ¬ x5 < 0) (h7 : ¬ 7 < x5) (h8 : x5 ≤ 7) (h9 : vp_in x5 8) (h11 : ¬ x10 < 0) (h12 : ¬ 7 < x10) (h13 : x10 ≤ 7) (h14 : vp_in x10 8) (h16 : ¬ x15 < 0) (h17 : ¬ 7 < x15) (h18 : x15 ≤ 7) (h19 : vp_in x15 8) (h30 : f29 x10.toNatClampNeg = some a3) (h31 : f29 x15.toNatClampNeg = some a3) (h34 : f33 0 = 0) : xMet l yL_two wyL_two 8 1 6 145 D cT aK aV sz [.ref a0, .int x5, .int 0, .int x10, .int x15] [(a0, .inr (0, [v20, v21, .ref b22, .ref a2, v23, .ref a1, v24, v25])), (a1, .inr (2, [v26, v27, v28])), (a2, .inl (cT 3, 8, .inr (.inr (.inr (.inr f29))))), (a3, .inr (2, [.ref a4, .int 1, v32])), (a4, .inl (cT 2, 4096, .inr (.inl f33)))] (fun A => va_Qi (fun (r : Int32) (_ : Unit) => r = 2) (fun _ t => xB D xcl cT A [(a0, .inr (0, [v20, v21, .ref b22, .ref a2, v23, .ref a1, v24, .int 1])), (a1, .inr (2, [v26, .int 0, .int 0])), (a2, .inl (cT 3, 8, .inr (.inr (.inr (.inr f29))))), (a3, .inr (2, [.ref a4, .int 1, v32])), (a4, .inl (cT 2, 4096, .inr (.inl f33)))] t) A) := by
  refine va_MetW (cc := method_11_code) (maxL := 6) (ret := (some .int)) (hh := [(0, 9, 12, 19), (0, 9, 16, 33), (0, 9, 20, 13)]) (by decide) rfl ?_
  intro p e s m args below meth c s₁ B hml hv
  obtain ⟨rfl, hsz, hZ, hP, hK, hD0⟩ := hv
  have hx := B.exec
  have hb := B.bytes
  have hr := B.returns
  have hts := atoms_spec (ws := wyL_two) B.pre
  have htx := fun w h => hts w (List.mem_cons_of_mem _ h)
  have hown : s.vm.findClass "ValueBenchLaw" = some m.cls := findClass_of_methodNamed B.named
  have hlocks := B.notSynchronized
  subst hsz
  have hD := hD0.self (sz := s.heap.size)
  generalize hAe : va_A [(a0, .inr (0, [v20, v21, .ref b22, .ref a2, v23, .ref a1, v24, v25])), (a1, .inr (2, [v26, v27, v28])), (a2, .inl (cT 3, 8, .inr (.inr (.inr (.inr f29))))), (a3, .inr (2, [.ref a4, .int 1, v32])), (a4, .inl (cT 2, 4096, .inr (.inl f33)))] s.heap.size = A at hD hZ ⊢
  have hA : ∀ q : Nat, s.heap.size ≤ q → A q := fun q h => by rw [← hAe]; exact Or.inr h
  have hS : va_S A s.heap s.heap [] := va_S.rf
  have hP : va_P D xcl [(a0, .inr (0, [v20, v21, .ref b22, .ref a2, v23, .ref a1, v24, v25])), (a1, .inr (2, [v26, v27, v28])), (a2, .inl (cT 3, 8, .inr (.inr (.inr (.inr f29))))), (a3, .inr (2, [.ref a4, .int 1, v32])), (a4, .inl (cT 2, 4096, .inr (.inl f33)))] s.heap := hP
  have hl := lv_entry ([.ref a0, .int x5, .int 0, .int x10, .int x15]) (n := 6) (Nat.le_of_ble_eq_true rfl)
  rw [lg_entry_eq]
  generalize (lg_sl ([.ref a0, .int x5, .int 0, .int x10, .int x15]) ++ List.replicate (6 - (lg_sl ([.ref a0, .int x5, .int 0, .int x10, .int x15])).length) Slot.unset).toArray = ls at hl ⊢
  have hl : lv_has ls 6 [(0, .ref a0), (1, .int x5), (2, .int 0), (3, .int x10), (4, .int x15)] := hl
  have htab := vx_table (x := yL_two) B (hts _ List.mem_cons_self)
  refine lv_aload_n hx hb dL_two_0 rfl (lv_at hl 0 rfl) ?_
  refine lv_iload_n hx hb dL_two_1 rfl (lv_at hl 1 rfl) ?_
  refine lv_iload_n hx hb dL_two_2 rfl (lv_at hl 2 rfl) ?_
  refine lv_iload_n hx hb dL_two_3 rfl (lv_at hl 3 rfl) ?_
  refine lv_iload hx hb dL_two_4 (lv_at hl 4 rfl) ?_
  obtain ⟨hPc, hDc, hFc⟩ := xcut (wc := [(a0, .inr (0, [v20, v21, .ref b22, .ref a2, v23, .ref a1, v24, v25])), (a1, .inr (2, [v26, v27, v28])), (a2, .inl (cT 3, 8, .inr (.inr (.inr (.inr f29))))), (a3, .inr (2, [.ref a4, .int 1, v32])), (a4, .inl (cT 2, 4096, .inr (.inl f33)))]) hP hD hS hA [0, 1, 2, 3, 4] rfl rfl (by decide)
  refine xx_thr (vx_runV (C := "ValueBench") (As := [.int x5, .int 0, .int x10, .int x15]) (rest := []) ⟨hx, hb, hml, hown, htx⟩ (cB_two_8 l hl9 D cT aK aV s.heap.size a0 a1 a2 a3 a4 x5 x10 x15 v20 v21 b22 v23 v24 v25 v26 v27 v28 f29 v32 f33 h6 h7 h8 h9 h11 h12 h13 h14 h16 h17 h18 h19 (by first | rfl | exact h30 | exact h31 | exact h34) (by first | rfl | exact h30 | exact h31 | exact h34) (by first | rfl | exact h30 | exact h31 | exact h34)) ⟨callB_of 4 htx (xw_goodC kw_4_143) rfl rfl rfl (htx _ kw_1_1) (htx _ kw_4_140) ⟨by decide, by decide, by decide +kernel⟩ ⟨Nat.le_of_ble_eq_true rfl, Nat.le_of_ble_eq_true rfl⟩, (htx _ kw_4_141), (htx _ kw_4_142)⟩ ⟨xPre_blind, va_recv hK hP (ci := 0) rfl (q0 := 0) rfl, (fun U hU hW => ⟨rfl, xPre_of hZ hS hFc hPc hDc hK U hU hW⟩)⟩ rfl rfl hl.1 rfl (lv_room (Nat.le_of_ble_eq_true rfl)) dL_two_6 ⟨Nat.le_of_ble_eq_true rfl, Nat.le_of_ble_eq_true rfl⟩) hS hFc (fun q _ h => hFc q h) (fun E ce q9 u9 t H1 locs ht hvm _ hB hz1 hk1 hS hce hcv hcl => ?_)
  obtain ⟨rfl, hP1, hK1, hD1⟩ := hB
  rw [ht] at hP1
  obtain ⟨hP, hD⟩ := xjoin (W := [(a0, .inr (0, [v20, v21, .ref b22, .ref a2, v23, .ref a1, v24, .int 1])), (a1, .inr (2, [v26, .int 0, .int 0])), (a2, .inl (cT 3, 8, .inr (.inr (.inr (.inr f29))))), (a3, .inr (2, [.ref a4, .int 1, v32])), (a4, .inl (cT 2, 4096, .inr (.inl f33)))]) hP hD [0, 1, 2, 3, 4] [] 0 rfl rfl (by decide) (by decide) hk1 hFc hP1 hD1
  generalize H1 = H at hP hS hce ⊢
  refine vx_catch (own := "ValueBenchLaw") (name := "java/lang/ArithmeticException") (E := "java/lang/ArithmeticException") hown [⟨0, 9, 12, 19⟩] ⟨0, 9, 16, 33⟩ [⟨0, 9, 20, 13⟩] (by rw [htab]; rfl) (by intro z hz; rcases List.mem_cons.mp hz with rfl | hz; (exact Or.inr ⟨by decide, "java/lang/IllegalArgumentException", htx _ kw_1_211, hZ.2.2.2.2.2.2.2.1 ("java/lang/ArithmeticException", "java/lang/IllegalArgumentException") (List.mem_of_getElem? (i := 10) rfl)⟩); cases hz) (by decide) (by decide) (htx _ kw_3_98) ((hZ.2.2.2.2.2.1 "java/lang/ArithmeticException" (List.mem_of_getElem? (i := 3) rfl)).use rfl) hce hcv hcl ?_
  refine lv_astore (lv' := [(5, .ref q9), (0, .ref a0), (1, .int x5), (2, .int 0), (3, .int x10), (4, .int x15)]) hx hb dL_two_16 hl (by decide) rfl (fun ls hl => ?_)
  refine lv_iconst (v := 2) hx hb dL_two_18 (by decide) ?_
  obtain ⟨hP9, hD9⟩ := xsub (wc := [(a0, .inr (0, [v20, v21, .ref b22, .ref a2, v23, .ref a1, v24, .int 1])), (a1, .inr (2, [v26, .int 0, .int 0])), (a2, .inl (cT 3, 8, .inr (.inr (.inr (.inr f29))))), (a3, .inr (2, [.ref a4, .int 1, v32])), (a4, .inl (cT 2, 4096, .inr (.inl f33)))]) hP hD [0, 1, 2, 3, 4] rfl rfl (by decide)
  refine W.widen (k := 1) (n := 6) (Nat.le_of_ble_eq_true rfl) (Nat.le_of_ble_eq_true rfl) ?_
  exact W.iret (v := 2) hx hb hr (fun t ht hW => ⟨⟨2, (), rfl, rfl, by rw [ht]; exact hP9, va_K.moved hW.alike hK, hD9⟩, hS.F ht⟩) hS.2.2 dL_two_19
set_option maxHeartbeats 400000000 in
set_option maxRecDepth 100000 in
theorem cM_has_0 (l : Launch) (hl9 : l.stackTraces = false) (D : va_G) (cT : Nat → ClassId) (aK aV : Nat → Nat) (sz : Nat) (a0 : Nat) (a1 : Nat) (b2 : Nat) (v3 : Value) (v4 : Value) (v5 : Value) (v6 : Value) (v7 : Value) (v8 : Value) (v9 : Value) (v10 : Value) (v11 : Value) (v12 : Value) (v13 : Value) (v14 : Value) (v15 : Value) (v16 : Value) (v17 : Value) (v18 : Value) (v19 : Value) (v20 : Value) (v21 : Value) (v22 : Value) (v23 : Value) (v24 : Value) (v25 : Value) (v26 : Value) (v27 : Value) (v28 : Value) (v29 : Value) (v30 : Value) (v31 : Value) (v32 : Value) (v33 : Value) (v34 : Value) (v35 : Value) (v36 : Value) (v37 : Value) (v38 : Value) (v39 : Value) : xMetX l yM_has wyM_has 7 1 6 121 D cT aK aV sz [.ref a1, .ref a0, .ref b2] [(a0, .inr (6, [.int 0, v3, v4, v5, v6, v7])), (a1, .inr (5, [v8, v9, v10, v11, v12, v13, v14, v15, v16, v17, v18, v19, v20, v21, v22, v23, v24, v25, v26, v27, v28, v29, v30, v31, v32, v33, v34, v35, v36, v37, v38, v39]))] "java/lang/ArithmeticException" (fun A t => xB D xcl cT A [(a0, .inr (6, [.int 0, v3, v4, v5, v6, v7])), (a1, .inr (5, [v8, v9, v10, v11, v12, v13, v14, v15, .int 1, v17, v18, v19, v20, v21, v22, v23, v24, v25, v26, v27, v28, v29, v30, v31, v32, v33, v34, v35, v36, v37, v38, v39]))] t) := by
  refine vx_ofW (cc := prog_13_method_67_code) (maxL := 3) (ret := (some (.object "ValueBenchModel$V"))) (by decide) rfl ?_
  intro p e s m args below meth c s₁ B hml hne hv
  obtain ⟨rfl, hsz, hZ, hP, hK, hD0⟩ := hv
  have hx := B.exec
  have hb := B.bytes
  have hr := B.returns
  have hts := atoms_spec (ws := wyM_has) B.pre
  have htx := fun w h => hts w (List.mem_cons_of_mem _ h)
  have hown : s.vm.findClass "ValueBenchModel" = some m.cls := findClass_of_methodNamed B.named
  have hlocks := B.notSynchronized
  subst hsz
  have hD := hD0.self (sz := s.heap.size)
  generalize hAe : va_A [(a0, .inr (6, [.int 0, v3, v4, v5, v6, v7])), (a1, .inr (5, [v8, v9, v10, v11, v12, v13, v14, v15, v16, v17, v18, v19, v20, v21, v22, v23, v24, v25, v26, v27, v28, v29, v30, v31, v32, v33, v34, v35, v36, v37, v38, v39]))] s.heap.size = A at hD hZ ⊢
  have hA : ∀ q : Nat, s.heap.size ≤ q → A q := fun q h => by rw [← hAe]; exact Or.inr h
  have hS : va_S A s.heap s.heap [] := va_S.rf
  have hP : va_P D xcl [(a0, .inr (6, [.int 0, v3, v4, v5, v6, v7])), (a1, .inr (5, [v8, v9, v10, v11, v12, v13, v14, v15, v16, v17, v18, v19, v20, v21, v22, v23, v24, v25, v26, v27, v28, v29, v30, v31, v32, v33, v34, v35, v36, v37, v38, v39]))] s.heap := hP
  have hl := lv_entry ([.ref a1, .ref a0, .ref b2]) (n := 3) (Nat.le_of_ble_eq_true rfl)
  rw [lg_entry_eq]
  generalize (lg_sl ([.ref a1, .ref a0, .ref b2]) ++ List.replicate (3 - (lg_sl ([.ref a1, .ref a0, .ref b2])).length) Slot.unset).toArray = ls at hl ⊢
  have hl : lv_has ls 3 [(0, .ref a1), (1, .ref a0), (2, .ref b2)] := hl
  refine lv_aload_n hx hb dM_has_0 rfl (lv_at hl 1 rfl) ?_
  refine va_getN (D := D) (ci := 6) (v := .int 0) (C := "ValueBenchModel$V") (T := TV) (N := 6) hx hb htx inV hown hK hP 0 rfl rfl 0 (by decide) ((hZ.1 (93, "kind", "I") (List.mem_of_getElem? (i := 0) rfl)).use rfl) (fun _ h9 => h9) rfl dM_has_1 ?_
  refine lv_bipush (v := 6) hx hb dM_has_4 (by decide) ?_
  refine lv_icmp_ne (tgt := 36) hx hb dM_has_6 (by decide) (fun _ => ?_) (fun h => ((by revert h; decide : False)).elim)
  refine lv_aload_n hx hb dM_has_36 rfl (lv_at hl 1 rfl) ?_
  refine va_getN (D := D) (ci := 6) (v := .int 0) (C := "ValueBenchModel$V") (T := TV) (N := 6) hx hb htx inV hown hK hP 0 rfl rfl 0 (by decide) ((hZ.1 (93, "kind", "I") (List.mem_of_getElem? (i := 0) rfl)).use rfl) (fun _ h9 => h9) rfl dM_has_37 ?_
  refine lv_iconst (v := 5) hx hb dM_has_40 (by decide) ?_
  refine lv_icmp_ne (tgt := 84) hx hb dM_has_41 (by decide) (fun _ => ?_) (fun h => ((by revert h; decide : False)).elim)
  refine lv_aload_n hx hb dM_has_84 rfl (lv_at hl 0 rfl) ?_
  refine lv_iconst (v := 1) hx hb dM_has_85 (by decide) ?_
  obtain ⟨hPc, hDc, hFc⟩ := xcut (wc := [(a1, .inr (5, [v8, v9, v10, v11, v12, v13, v14, v15, v16, v17, v18, v19, v20, v21, v22, v23, v24, v25, v26, v27, v28, v29, v30, v31, v32, v33, v34, v35, v36, v37, v38, v39]))]) hP hD hS hA [1] rfl rfl (by decide)
  refine xx_thr (vx_runV (C := "ValueBenchModel") (As := [.int 1]) (rest := []) ⟨hx, hb, hml, hown, htx⟩ (cM_refuse_0 l hl9 D cT aK aV s.heap.size a1 1 v8 v9 v10 v11 v12 v13 v14 v15 v16 v17 v18 v19 v20 v21 v22 v23 v24 v25 v26 v27 v28 v29 v30 v31 v32 v33 v34 v35 v36 v37 v38 v39) ⟨callB_of 1 htx (xw_goodC kw_6_93) rfl rfl rfl (htx _ kw_1_5) (htx _ kw_6_90) ⟨by decide, by decide, by decide +kernel⟩ ⟨Nat.le_of_ble_eq_true rfl, Nat.le_of_ble_eq_true rfl⟩, (htx _ kw_6_92), (htx _ kp_M_refuse)⟩ ⟨xPre_blind, va_recv hK hP (ci := 5) rfl (q0 := 1) rfl, (fun U hU hW => ⟨rfl, xPre_of hZ hS hFc hPc hDc hK U hU hW⟩)⟩ rfl rfl hl.1 rfl (lv_room (Nat.le_of_ble_eq_true rfl)) dM_has_86 ⟨Nat.le_of_ble_eq_true rfl, Nat.le_of_ble_eq_true rfl⟩) hS hFc (fun q _ h => hFc q h) (fun E ce q9 u9 t H1 locs ht hvm _ hB hz1 hk1 hS hce hcv hcl => ?_)
  obtain ⟨rfl, hP1, hK1, hD1⟩ := hB
  rw [ht] at hP1
  obtain ⟨hP, hD⟩ := xjoin (W := [(a0, .inr (6, [.int 0, v3, v4, v5, v6, v7])), (a1, .inr (5, [v8, v9, v10, v11, v12, v13, v14, v15, .int 1, v17, v18, v19, v20, v21, v22, v23, v24, v25, v26, v27, v28, v29, v30, v31, v32, v33, v34, v35, v36, v37, v38, v39]))]) hP hD [1] [0] 1 rfl rfl (by decide) (by decide) hk1 hFc hP1 hD1
  generalize H1 = H at hP hS hce ⊢
  obtain ⟨hP9, hD9⟩ := xsub (wc := [(a0, .inr (6, [.int 0, v3, v4, v5, v6, v7])), (a1, .inr (5, [v8, v9, v10, v11, v12, v13, v14, v15, .int 1, v17, v18, v19, v20, v21, v22, v23, v24, v25, v26, v27, v28, v29, v30, v31, v32, v33, v34, v35, v36, v37, v38, v39]))]) hP hD [0, 1] rfl rfl (by decide)
  exact vx_out (E := "java/lang/ArithmeticException") (fun x h => (hne x h).elim) hlocks hce hcv hcl (fun t ht ha => ⟨(), trivial, ⟨rfl, by rw [ht]; exact hP9, va_K.moved ha hK, hD9⟩, hS.F ht⟩) hS.2.2 (Nat.le_of_ble_eq_true rfl) (Nat.le_of_ble_eq_true rfl)
set_option maxHeartbeats 400000000 in
set_option maxRecDepth 100000 in
theorem cM_two1_0 (l : Launch) (hl9 : l.stackTraces = false) (D : va_G) (cT : Nat → ClassId) (aK aV : Nat → Nat) (sz : Nat) (a0 : Nat) (a1 : Nat) (b2 : Nat) (v3 : Value) (v4 : Value) (v5 : Value) (v6 : Value) (v7 : Value) (v8 : Value) (v9 : Value) (v10 : Value) (v11 : Value) (v12 : Value) (v13 : Value) (v14 : Value) (v15 : Value) (v16 : Value) (v17 : Value) (v18 : Value) (v19 : Value) (v20 : Value) (v21 : Value) (v22 : Value) (v23 : Value) (v24 : Value) (v25 : Value) (v26 : Value) (v27 : Value) (v28 : Value) (v29 : Value) (v30 : Value) (v31 : Value) (v32 : Value) (v33 : Value) (v34 : Value) (v35 : Value) (v36 : Value) (v37 : Value) (v38 : Value) (v39 : Value) : xMetX l yM_two1 wyM_two1 8 1 6 143 D cT aK aV sz [.ref a0, .int 0, .ref a1, .ref b2] [(a0, .inr (5, [v3, v4, v5, v6, v7, v8, v9, v10, v11, v12, v13, v14, v15, v16, v17, v18, v19, v20, v21, v22, v23, v24, v25, v26, v27, v28, v29, v30, v31, v32, v33, v34])), (a1, .inr (6, [.int 0, v35, v36, v37, v38, v39]))] "java/lang/ArithmeticException" (fun A t => xB D xcl cT A [(a0, .inr (5, [v3, v4, v5, v6, v7, v8, v9, v10, .int 1, v12, v13, v14, v15, v16, v17, v18, v19, v20, v21, v22, v23, v24, v25, v26, v27, v28, v29, v30, v31, v32, v33, v34])), (a1, .inr (6, [.int 0, v35, v36, v37, v38, v39]))] t) := by
  refine vx_ofW (cc := prog_13_method_76_code) (maxL := 4) (ret := (some (.object "ValueBenchModel$V"))) (by decide) rfl ?_
  intro p e s m args below meth c s₁ B hml hne hv
  obtain ⟨rfl, hsz, hZ, hP, hK, hD0⟩ := hv
  have hx := B.exec
  have hb := B.bytes
  have hr := B.returns
  have hts := atoms_spec (ws := wyM_two1) B.pre
  have htx := fun w h => hts w (List.mem_cons_of_mem _ h)
  have hown : s.vm.findClass "ValueBenchModel" = some m.cls := findClass_of_methodNamed B.named
  have hlocks := B.notSynchronized
  subst hsz
  have hD := hD0.self (sz := s.heap.size)
  generalize hAe : va_A [(a0, .inr (5, [v3, v4, v5, v6, v7, v8, v9, v10, v11, v12, v13, v14, v15, v16, v17, v18, v19, v20, v21, v22, v23, v24, v25, v26, v27, v28, v29, v30, v31, v32, v33, v34])), (a1, .inr (6, [.int 0, v35, v36, v37, v38, v39]))] s.heap.size = A at hD hZ ⊢
  have hA : ∀ q : Nat, s.heap.size ≤ q → A q := fun q h => by rw [← hAe]; exact Or.inr h
  have hS : va_S A s.heap s.heap [] := va_S.rf
  have hP : va_P D xcl [(a0, .inr (5, [v3, v4, v5, v6, v7, v8, v9, v10, v11, v12, v13, v14, v15, v16, v17, v18, v19, v20, v21, v22, v23, v24, v25, v26, v27, v28, v29, v30, v31, v32, v33, v34])), (a1, .inr (6, [.int 0, v35, v36, v37, v38, v39]))] s.heap := hP
  have hl := lv_entry ([.ref a0, .int 0, .ref a1, .ref b2]) (n := 4) (Nat.le_of_ble_eq_true rfl)
  rw [lg_entry_eq]
  generalize (lg_sl ([.ref a0, .int 0, .ref a1, .ref b2]) ++ List.replicate (4 - (lg_sl ([.ref a0, .int 0, .ref a1, .ref b2])).length) Slot.unset).toArray = ls at hl ⊢
  have hl : lv_has ls 4 [(0, .ref a0), (1, .int 0), (2, .ref a1), (3, .ref b2)] := hl
  refine lv_iload_n hx hb dM_two1_0 rfl (lv_at hl 1 rfl) ?_
  refine lv_tableIn (off := 51) (tgt := 52) hx hb dM_two1_1 (by decide) (by decide) (by decide) (by decide) ?_
  refine lv_aload_n hx hb dM_two1_52 rfl (lv_at hl 0 rfl) ?_
  refine lv_aload_n hx hb dM_two1_53 rfl (lv_at hl 2 rfl) ?_
  refine lv_aload_n hx hb dM_two1_54 rfl (lv_at hl 3 rfl) ?_
  obtain ⟨hPc, hDc, hFc⟩ := xcut (wc := [(a1, .inr (6, [.int 0, v35, v36, v37, v38, v39])), (a0, .inr (5, [v3, v4, v5, v6, v7, v8, v9, v10, v11, v12, v13, v14, v15, v16, v17, v18, v19, v20, v21, v22, v23, v24, v25, v26, v27, v28, v29, v30, v31, v32, v33, v34]))]) hP hD hS hA [1, 0] rfl rfl (by decide)
  refine xx_thr (vx_runV (C := "ValueBenchModel") (As := [.ref a1, .ref b2]) (rest := []) ⟨hx, hb, hml, hown, htx⟩ (cM_has_0 l hl9 D cT aK aV s.heap.size a1 a0 b2 v35 v36 v37 v38 v39 v3 v4 v5 v6 v7 v8 v9 v10 v11 v12 v13 v14 v15 v16 v17 v18 v19 v20 v21 v22 v23 v24 v25 v26 v27 v28 v29 v30 v31 v32 v33 v34) ⟨callB_of 2 htx (xw_goodC kw_7_83) rfl rfl rfl (htx _ kw_1_5) (htx _ kw_7_80) ⟨by decide, by decide, by decide +kernel⟩ ⟨Nat.le_of_ble_eq_true rfl, Nat.le_of_ble_eq_true rfl⟩, (htx _ kw_7_82), (htx _ kp_M_has)⟩ ⟨xPre_blind, va_recv hK hP (ci := 5) rfl (q0 := 0) rfl, (fun U hU hW => ⟨rfl, xPre_of hZ hS hFc hPc hDc hK U hU hW⟩)⟩ rfl rfl hl.1 rfl (lv_room (Nat.le_of_ble_eq_true rfl)) dM_two1_55 ⟨Nat.le_of_ble_eq_true rfl, Nat.le_of_ble_eq_true rfl⟩) hS hFc (fun q _ h => hFc q h) (fun E ce q9 u9 t H1 locs ht hvm _ hB hz1 hk1 hS hce hcv hcl => ?_)
  obtain ⟨rfl, hP1, hK1, hD1⟩ := hB
  rw [ht] at hP1
  obtain ⟨hP, hD⟩ := xjoin (W := [(a1, .inr (6, [.int 0, v35, v36, v37, v38, v39])), (a0, .inr (5, [v3, v4, v5, v6, v7, v8, v9, v10, .int 1, v12, v13, v14, v15, v16, v17, v18, v19, v20, v21, v22, v23, v24, v25, v26, v27, v28, v29, v30, v31, v32, v33, v34]))]) hP hD [1, 0] [] 0 rfl rfl (by decide) (by decide) hk1 hFc hP1 hD1
  generalize H1 = H at hP hS hce ⊢
  obtain ⟨hP9, hD9⟩ := xsub (wc := [(a0, .inr (5, [v3, v4, v5, v6, v7, v8, v9, v10, .int 1, v12, v13, v14, v15, v16, v17, v18, v19, v20, v21, v22, v23, v24, v25, v26, v27, v28, v29, v30, v31, v32, v33, v34])), (a1, .inr (6, [.int 0, v35, v36, v37, v38, v39]))]) hP hD [1, 0] rfl rfl (by decide)
  exact vx_out (E := "java/lang/ArithmeticException") (fun x h => (hne x h).elim) hlocks hce hcv hcl (fun t ht ha => ⟨(), trivial, ⟨rfl, by rw [ht]; exact hP9, va_K.moved ha hK, hD9⟩, hS.F ht⟩) hS.2.2 (Nat.le_of_ble_eq_true rfl) (Nat.le_of_ble_eq_true rfl)
set_option maxHeartbeats 400000000 in
set_option maxRecDepth 100000 in
theorem cM_finish_32 (l : Launch) (hl9 : l.stackTraces = false) (D : va_G) (cT : Nat → ClassId) (aK aV : Nat → Nat) (sz : Nat) (a0 : Nat) (a1 : Nat) (a2 : Nat) (a3 : Nat) (a4 : Nat) (x5 : Int32) (x6 : Int32) (x11 : Int32) (v16 : Value) (v17 : Value) (v18 : Value) (v19 : Value) (v20 : Value) (v21 : Value) (v22 : Value) (v23 : Value) (v24 : Value) (v25 : Value) (v26 : Value) (v27 : Value) (v28 : Value) (v29 : Value) (v30 : Value) (v31 : Value) (v32 : Value) (v33 : Value) (v34 : Value) (v35 : Value) (v36 : Value) (v37 : Value) (v38 : Value) (v39 : Value) (v40 : Value) (v41 : Value) (v42 : Value) (v43 : Value) (f44 : Nat → Option Nat) (f47 : Nat → Int32) (f50 : Nat → Int32) (f55 : Nat → Option Nat) (h7 : ¬ x6 < 0) (h8 : ¬ 7 < x6) (h9 : x6 ≤ 7) (h10 : vp_in x6 8) (h12 : ¬ x11 < 0) (h13 : ¬ 7 < x11) (h14 : x11 ≤ 7) (h15 : vp_in x11 8) (h45 : f44 x6.toNatClampNeg = some a3) (h46 : f44 x11.toNatClampNeg = some a3) (h48 : f47 x6.toNatClampNeg = 4) (h49 : f47 x11.toNatClampNeg = 4) (h51 : f50 0 = 110) (h52 : f50 1 = 117) (h53 : f50 2 = 108) (h54 : f50 3 = 108) (h56 : f55 0 = none) (h57 : f55 1 = none) : xMet l yM_finish wyM_finish 9 3 18 175 D cT aK aV sz [.ref a0, .int x5, .int 2, .int 0, .int x6, .int x11] [(a0, .inr (5, [v16, .ref a4, .int 0, v17, v18, v19, v20, v21, v22, v23, v24, v25, v26, v27, v28, v29, v30, v31, v32, v33, v34, v35, v36, v37, .ref a1, .ref a2, v38, v39, v40, v41, v42, v43])), (a1, .inl (cT 5, 8, .inr (.inr (.inr (.inr f44))))), (a2, .inl (cT 1, 8, .inl f47)), (a3, .inl (cT 0, 4096, .inl f50)), (a4, .inl (cT 4, 1024, .inr (.inr (.inr (.inr f55)))))] (fun A => va_Qv (fun _ : Unit => True) (fun _ t => ∃ (r1 : Nat) (r2 : Nat), xB D xcl cT A [(a0, .inr (5, [.int 2, .ref a4, .int 2, v17, v18, v19, v20, v21, .int 1, v23, v24, v25, v26, v27, v28, .ref a3, .int 4, .int 4, .int 0, .int 100, v34, v35, v36, v37, .ref a1, .ref a2, v38, v39, v40, v41, .int 1, v43])), (a1, .inl (cT 5, 8, .inr (.inr (.inr (.inr f44))))), (a2, .inl (cT 1, 8, .inl f47)), (a3, .inl (cT 0, 4096, .inl f50)), (a4, .inl (cT 4, 1024, .inr (.inr (.inr (.inr (va_up (va_up f55 0 (some r1)) 1 (some r2))))))), (r1, .inr (6, [.int 0, .long 0, .int 0, .int 0, .int 0, .int 1])), (r2, .inr (6, [.int 0, .long 0, .int 0, .int 0, .int 0, .int 1]))] t) A) := by
  refine va_MetW (cc := prog_13_method_90_code) (maxL := 10) (ret := none) (hh := [(0, 128, 131, 83), (0, 128, 149, 86)]) (by decide) rfl ?_
  intro p e s m args below meth c s₁ B hml hv
  obtain ⟨rfl, hsz, hZ, hP, hK, hD0⟩ := hv
  have hx := B.exec
  have hb := B.bytes
  have hr := B.returns
  have hts := atoms_spec (ws := wyM_finish) B.pre
  have htx := fun w h => hts w (List.mem_cons_of_mem _ h)
  have hown : s.vm.findClass "ValueBenchModel" = some m.cls := findClass_of_methodNamed B.named
  have hlocks := B.notSynchronized
  subst hsz
  have hD := hD0.self (sz := s.heap.size)
  generalize hAe : va_A [(a0, .inr (5, [v16, .ref a4, .int 0, v17, v18, v19, v20, v21, v22, v23, v24, v25, v26, v27, v28, v29, v30, v31, v32, v33, v34, v35, v36, v37, .ref a1, .ref a2, v38, v39, v40, v41, v42, v43])), (a1, .inl (cT 5, 8, .inr (.inr (.inr (.inr f44))))), (a2, .inl (cT 1, 8, .inl f47)), (a3, .inl (cT 0, 4096, .inl f50)), (a4, .inl (cT 4, 1024, .inr (.inr (.inr (.inr f55)))))] s.heap.size = A at hD hZ ⊢
  have hA : ∀ q : Nat, s.heap.size ≤ q → A q := fun q h => by rw [← hAe]; exact Or.inr h
  have hS : va_S A s.heap s.heap [] := va_S.rf
  have hP : va_P D xcl [(a0, .inr (5, [v16, .ref a4, .int 0, v17, v18, v19, v20, v21, v22, v23, v24, v25, v26, v27, v28, v29, v30, v31, v32, v33, v34, v35, v36, v37, .ref a1, .ref a2, v38, v39, v40, v41, v42, v43])), (a1, .inl (cT 5, 8, .inr (.inr (.inr (.inr f44))))), (a2, .inl (cT 1, 8, .inl f47)), (a3, .inl (cT 0, 4096, .inl f50)), (a4, .inl (cT 4, 1024, .inr (.inr (.inr (.inr f55)))))] s.heap := hP
  have hl := lv_entry ([.ref a0, .int x5, .int 2, .int 0, .int x6, .int x11]) (n := 10) (Nat.le_of_ble_eq_true rfl)
  rw [lg_entry_eq]
  generalize (lg_sl ([.ref a0, .int x5, .int 2, .int 0, .int x6, .int x11]) ++ List.replicate (10 - (lg_sl ([.ref a0, .int x5, .int 2, .int 0, .int x6, .int x11])).length) Slot.unset).toArray = ls at hl ⊢
  have hl : lv_has ls 10 [(0, .ref a0), (1, .int x5), (2, .int 2), (3, .int 0), (4, .int x6), (5, .int x11)] := hl
  have htab := vx_table (x := yM_finish) B (hts _ List.mem_cons_self)
  refine lv_aload_n hx hb dM_finish_0 rfl (lv_at hl 0 rfl) ?_
  refine lv_iload hx hb dM_finish_1 (lv_at hl 4 rfl) ?_
  obtain ⟨hPc, hDc, hFc⟩ := xcut (wc := [(a0, .inr (5, [v16, .ref a4, .int 0, v17, v18, v19, v20, v21, v22, v23, v24, v25, v26, v27, v28, v29, v30, v31, v32, v33, v34, v35, v36, v37, .ref a1, .ref a2, v38, v39, v40, v41, v42, v43])), (a1, .inl (cT 5, 8, .inr (.inr (.inr (.inr f44))))), (a2, .inl (cT 1, 8, .inl f47)), (a3, .inl (cT 0, 4096, .inl f50)), (a4, .inl (cT 4, 1024, .inr (.inr (.inr (.inr f55)))))]) hP hD hS hA [0, 1, 2, 3, 4] rfl rfl (by decide)
  refine va_callr (va_runV (C := "ValueBenchModel") (As := [.int x6]) (rest := []) ⟨hx, hb, hml, hown, htx⟩ (cM_register_0 l hl9 D cT aK aV s.heap.size a0 a1 a2 a3 a4 x6 v16 v17 v18 v19 v20 v21 v22 v23 v24 v25 v26 v27 v28 v29 v30 v31 v32 v33 v34 v35 v36 v37 v38 v39 v40 v41 v42 v43 f44 f47 f50 f55 h7 h8 h9 h10 (by first | rfl | exact h45 | exact h46 | exact h48 | exact h49 | exact h51 | exact h52 | exact h53 | exact h54 | exact h56 | exact h57) (by first | rfl | exact h45 | exact h46 | exact h48 | exact h49 | exact h51 | exact h52 | exact h53 | exact h54 | exact h56 | exact h57) (by first | rfl | exact h45 | exact h46 | exact h48 | exact h49 | exact h51 | exact h52 | exact h53 | exact h54 | exact h56 | exact h57) (by first | rfl | exact h45 | exact h46 | exact h48 | exact h49 | exact h51 | exact h52 | exact h53 | exact h54 | exact h56 | exact h57) (by first | rfl | exact h45 | exact h46 | exact h48 | exact h49 | exact h51 | exact h52 | exact h53 | exact h54 | exact h56 | exact h57) (by first | rfl | exact h45 | exact h46 | exact h48 | exact h49 | exact h51 | exact h52 | exact h53 | exact h54 | exact h56 | exact h57) (by first | rfl | exact h45 | exact h46 | exact h48 | exact h49 | exact h51 | exact h52 | exact h53 | exact h54 | exact h56 | exact h57)) ⟨callB_of 1 htx (xw_goodC kw_6_170) rfl rfl rfl (htx _ kw_1_5) (htx _ kw_6_167) ⟨by decide, by decide, by decide +kernel⟩ ⟨Nat.le_of_ble_eq_true rfl, Nat.le_of_ble_eq_true rfl⟩, (htx _ kw_6_169), (htx _ kp_M_register)⟩ ⟨xPre_blind, va_recv hK hP (ci := 5) rfl (q0 := 0) rfl, (fun U hU hW => ⟨rfl, xPre_of hZ hS hFc hPc hDc hK U hU hW⟩)⟩ rfl rfl hl.1 rfl (lv_room (Nat.le_of_ble_eq_true rfl)) dM_finish_3 ⟨Nat.le_of_ble_eq_true rfl, Nat.le_of_ble_eq_true rfl⟩) hS (fun q _ h => hFc q h) hFc (fun u9 r1 t H1 locs ht hvm hr9 hB hz1 hk1 hS => ?_)
  obtain ⟨hP1, hK1, hD1⟩ := hB
  rw [ht] at hP1
  obtain ⟨hP, hD⟩ := xjoin (W := [(a0, .inr (5, [v16, .ref a4, .int 1, v17, v18, v19, v20, v21, v22, v23, v24, v25, v26, v27, v28, .ref a3, .int 4, .int 4, .int 0, .int 100, v34, v35, v36, v37, .ref a1, .ref a2, v38, v39, v40, v41, v42, v43])), (a1, .inl (cT 5, 8, .inr (.inr (.inr (.inr f44))))), (a2, .inl (cT 1, 8, .inl f47)), (a3, .inl (cT 0, 4096, .inl f50)), (a4, .inl (cT 4, 1024, .inr (.inr (.inr (.inr (va_up f55 0 (some r1))))))), (r1, .inr (6, [.int 0, .long 0, .int 0, .int 0, .int 0, .int 1]))]) hP hD [0, 1, 2, 3, 4] [] 0 rfl rfl (by decide) (by decide) hk1 hFc hP1 hD1
  generalize H1 = H at hP hS ⊢
  refine W.eq (g2 := F0 m 6 ls [.ref r1]) rfl ?_
  refine lv_astore (lv' := [(6, .ref r1), (0, .ref a0), (1, .int x5), (2, .int 2), (3, .int 0), (4, .int x6), (5, .int x11)]) hx hb dM_finish_6 hl (by decide) rfl (fun ls hl => ?_)
  refine lv_iload_n hx hb dM_finish_8 rfl (lv_at hl 3 rfl) ?_
  refine lv_iconst (v := 1) hx hb dM_finish_9 (by decide) ?_
  refine lv_icmp_ne (tgt := 17) hx hb dM_finish_10 (by decide) (fun _ => ?_) (fun h => ((by revert h; decide : False)).elim)
  refine lv_aload_n hx hb dM_finish_17 rfl (lv_at hl 1 rfl) ?_
  refine lv_iload hx hb dM_finish_18 (lv_at hl 6 rfl) ?_
  obtain ⟨hPc, hDc, hFc⟩ := xcut (wc := [(a0, .inr (5, [v16, .ref a4, .int 1, v17, v18, v19, v20, v21, v22, v23, v24, v25, v26, v27, v28, .ref a3, .int 4, .int 4, .int 0, .int 100, v34, v35, v36, v37, .ref a1, .ref a2, v38, v39, v40, v41, v42, v43])), (a1, .inl (cT 5, 8, .inr (.inr (.inr (.inr f44))))), (a2, .inl (cT 1, 8, .inl f47)), (a3, .inl (cT 0, 4096, .inl f50)), (a4, .inl (cT 4, 1024, .inr (.inr (.inr (.inr (va_up f55 0 (some r1)))))))]) hP hD hS hA [0, 1, 2, 3, 4] rfl rfl (by decide)
  refine va_callr (va_runV (C := "ValueBenchModel") (As := [.int x11]) (rest := []) ⟨hx, hb, hml, hown, htx⟩ (cM_register_2 l hl9 D cT aK aV H.size a0 a1 a2 a3 a4 x11 v16 v17 v18 v19 v20 v21 v22 v23 v24 v25 v26 v27 v28 (.ref a3) (.int 4) (.int 4) (.int 0) (.int 100) v34 v35 v36 v37 v38 v39 v40 v41 v42 v43 f44 f47 f50 (va_up f55 0 (some r1)) h12 h13 h14 h15 (by first | rfl | exact h45 | exact h46 | exact h48 | exact h49 | exact h51 | exact h52 | exact h53 | exact h54 | exact h57) (by first | rfl | exact h45 | exact h46 | exact h48 | exact h49 | exact h51 | exact h52 | exact h53 | exact h54 | exact h57) (by first | rfl | exact h45 | exact h46 | exact h48 | exact h49 | exact h51 | exact h52 | exact h53 | exact h54 | exact h57) (by first | rfl | exact h45 | exact h46 | exact h48 | exact h49 | exact h51 | exact h52 | exact h53 | exact h54 | exact h57) (by first | rfl | exact h45 | exact h46 | exact h48 | exact h49 | exact h51 | exact h52 | exact h53 | exact h54 | exact h57) (by first | rfl | exact h45 | exact h46 | exact h48 | exact h49 | exact h51 | exact h52 | exact h53 | exact h54 | exact h57) (by first | rfl | exact h45 | exact h46 | exact h48 | exact h49 | exact h51 | exact h52 | exact h53 | exact h54 | exact h57)) ⟨callB_of 1 htx (xw_goodC kw_6_170) rfl rfl rfl (htx _ kw_1_5) (htx _ kw_6_167) ⟨by decide, by decide, by decide +kernel⟩ ⟨Nat.le_of_ble_eq_true rfl, Nat.le_of_ble_eq_true rfl⟩, (htx _ kw_6_169), (htx _ kp_M_register)⟩ ⟨xPre_blind, va_recv hK hP (ci := 5) rfl (q0 := 0) rfl, (fun U hU hW => ⟨rfl, xPre_of hZ hS hFc hPc hDc hK U hU hW⟩)⟩ rfl rfl hl.1 rfl (lv_room (Nat.le_of_ble_eq_true rfl)) dM_finish_20 ⟨Nat.le_of_ble_eq_true rfl, Nat.le_of_ble_eq_true rfl⟩) hS (fun q _ h => hFc q h) hFc (fun u9 r2 t H1 locs ht hvm hr9 hB hz1 hk1 hS => ?_)
  obtain ⟨hP1, hK1, hD1⟩ := hB
  rw [ht] at hP1
  obtain ⟨hP, hD⟩ := xjoin (W := [(r1, .inr (6, [.int 0, .long 0, .int 0, .int 0, .int 0, .int 1])), (a0, .inr (5, [v16, .ref a4, .int 2, v17, v18, v19, v20, v21, v22, v23, v24, v25, v26, v27, v28, .ref a3, .int 4, .int 4, .int 0, .int 100, v34, v35, v36, v37, .ref a1, .ref a2, v38, v39, v40, v41, v42, v43])), (a1, .inl (cT 5, 8, .inr (.inr (.inr (.inr f44))))), (a2, .inl (cT 1, 8, .inl f47)), (a3, .inl (cT 0, 4096, .inl f50)), (a4, .inl (cT 4, 1024, .inr (.inr (.inr (.inr (va_up (va_up f55 0 (some r1)) 1 (some r2))))))), (r2, .inr (6, [.int 0, .long 0, .int 0, .int 0, .int 0, .int 1]))]) hP hD [0, 1, 2, 3, 4] [5] 1 rfl rfl (by decide) (by decide) hk1 hFc hP1 hD1
  generalize H1 = H at hP hS ⊢
  refine W.eq (g2 := F0 m 23 ls [.ref r2]) rfl ?_
  refine lv_astore (lv' := [(7, .ref r2), (6, .ref r1), (0, .ref a0), (1, .int x5), (2, .int 2), (3, .int 0), (4, .int x6), (5, .int x11)]) hx hb dM_finish_23 hl (by decide) rfl (fun ls hl => ?_)
  refine lv_iload_n hx hb dM_finish_25 rfl (lv_at hl 4 rfl) ?_
  refine lv_if_ne (tgt := 43) hx hb dM_finish_26 (by decide) (fun _ => ?_) (fun h => ((by revert h; decide : False)).elim)
  refine lv_iload_n hx hb dM_finish_43 rfl (lv_at hl 4 rfl) ?_
  refine lv_iconst (v := 1) hx hb dM_finish_44 (by decide) ?_
  refine lv_icmp_ne (tgt := 60) hx hb dM_finish_45 (by decide) (fun _ => ?_) (fun h => ((by revert h; decide : False)).elim)
  refine lv_iload_n hx hb dM_finish_60 rfl (lv_at hl 4 rfl) ?_
  refine lv_iconst (v := 2) hx hb dM_finish_61 (by decide) ?_
  refine lv_icmp_ne (tgt := 79) hx hb dM_finish_62 (by decide) (fun h => ((by revert h; decide : False)).elim) (fun _ => ?_)
  refine lv_aload_n hx hb dM_finish_65 rfl (lv_at hl 2 rfl) ?_
  refine lv_iload_n hx hb dM_finish_66 rfl (lv_at hl 5 rfl) ?_
  refine lv_aload hx hb dM_finish_67 (lv_at hl 1 rfl) ?_
  refine lv_aload hx hb dM_finish_69 (lv_at hl 0 rfl) ?_
  obtain ⟨hPc, hDc, hFc⟩ := xcut (wc := [(a0, .inr (5, [v16, .ref a4, .int 2, v17, v18, v19, v20, v21, v22, v23, v24, v25, v26, v27, v28, .ref a3, .int 4, .int 4, .int 0, .int 100, v34, v35, v36, v37, .ref a1, .ref a2, v38, v39, v40, v41, v42, v43])), (r1, .inr (6, [.int 0, .long 0, .int 0, .int 0, .int 0, .int 1]))]) hP hD hS hA [1, 0] rfl rfl (by decide)
  refine xx_thr (vx_runV (C := "ValueBenchModel") (As := [.int 0, .ref r1, .ref r2]) (rest := []) ⟨hx, hb, hml, hown, htx⟩ (cM_two1_0 l hl9 D cT aK aV H.size a0 r1 r2 v16 (.ref a4) (.int 2) v17 v18 v19 v20 v21 v22 v23 v24 v25 v26 v27 v28 (.ref a3) (.int 4) (.int 4) (.int 0) (.int 100) v34 v35 v36 v37 (.ref a1) (.ref a2) v38 v39 v40 v41 v42 v43 (.long 0) (.int 0) (.int 0) (.int 0) (.int 1)) ⟨callB_of 3 htx (xw_goodC kw_7_79) rfl rfl rfl (htx _ kw_1_5) (htx _ kw_7_76) ⟨by decide, by decide, by decide +kernel⟩ ⟨Nat.le_of_ble_eq_true rfl, Nat.le_of_ble_eq_true rfl⟩, (htx _ kw_7_78), (htx _ kp_M_two1)⟩ ⟨xPre_blind, va_recv hK hP (ci := 5) rfl (q0 := 1) rfl, (fun U hU hW => ⟨rfl, xPre_of hZ hS hFc hPc hDc hK U hU hW⟩)⟩ rfl rfl hl.1 rfl (lv_room (Nat.le_of_ble_eq_true rfl)) dM_finish_71 ⟨Nat.le_of_ble_eq_true rfl, Nat.le_of_ble_eq_true rfl⟩) hS hFc (fun q _ h => hFc q h) (fun E ce q9 u9 t H1 locs ht hvm _ hB hz1 hk1 hS hce hcv hcl => ?_)
  obtain ⟨rfl, hP1, hK1, hD1⟩ := hB
  rw [ht] at hP1
  obtain ⟨hP, hD⟩ := xjoin (W := [(a1, .inl (cT 5, 8, .inr (.inr (.inr (.inr f44))))), (a2, .inl (cT 1, 8, .inl f47)), (a3, .inl (cT 0, 4096, .inl f50)), (a4, .inl (cT 4, 1024, .inr (.inr (.inr (.inr (va_up (va_up f55 0 (some r1)) 1 (some r2))))))), (r2, .inr (6, [.int 0, .long 0, .int 0, .int 0, .int 0, .int 1])), (a0, .inr (5, [v16, .ref a4, .int 2, v17, v18, v19, v20, v21, .int 1, v23, v24, v25, v26, v27, v28, .ref a3, .int 4, .int 4, .int 0, .int 100, v34, v35, v36, v37, .ref a1, .ref a2, v38, v39, v40, v41, v42, v43])), (r1, .inr (6, [.int 0, .long 0, .int 0, .int 0, .int 0, .int 1]))]) hP hD [1, 0] [2, 3, 4, 5, 6] 5 rfl rfl (by decide) (by decide) hk1 hFc hP1 hD1
  generalize H1 = H at hP hS hce ⊢
  refine vx_catch (own := "ValueBenchModel") (name := "java/lang/ArithmeticException") (E := "java/lang/ArithmeticException") hown [] ⟨0, 128, 131, 83⟩ [⟨0, 128, 149, 86⟩] (by rw [htab]; rfl) (fun z hz => nomatch hz) (by decide) (by decide) (htx _ kw_6_94) ((hZ.2.2.2.2.2.1 "java/lang/ArithmeticException" (List.mem_of_getElem? (i := 3) rfl)).use rfl) hce hcv hcl ?_
  refine lv_astore (lv' := [(6, .ref q9), (7, .ref r2), (0, .ref a0), (1, .int x5), (2, .int 2), (3, .int 0), (4, .int x6), (5, .int x11)]) hx hb dM_finish_131 hl (by decide) rfl (fun ls hl => ?_)
  refine lv_aload_n hx hb dM_finish_133 rfl (lv_at hl 2 rfl) ?_
  refine lv_aload_n hx hb dM_finish_134 rfl (lv_at hl 2 rfl) ?_
  refine va_get (D := D) (ci := 5) (v := .int 1) (C := "ValueBenchModel") (T := TM) (N := 32) hx hb htx inM hown hK hP 5 rfl rfl 8 (by decide) (htx _ kw_5_95) (fun _ h9 => h9) rfl dM_finish_135 ?_
  refine va_put (D := D) (ci := 5) (v := .int 1) (ty := .int) (C := "ValueBenchModel") (T := TM) (N := 32) hx hb htx inM tyM tyM_ok nmM hown hK hP hD hS 5 rfl rfl 30 (by decide) (htx _ kw_5_117) (fun _ h9 => h9) rfl (by decide +kernel) rfl rfl (Nat.le_of_ble_eq_true rfl) dM_finish_138 (fun H locs hP hD hS => ?_)
  obtain ⟨hP, hD⟩ : xPD D xcl A [(a1, .inl (cT 5, 8, .inr (.inr (.inr (.inr f44))))), (a2, .inl (cT 1, 8, .inl f47)), (a3, .inl (cT 0, 4096, .inl f50)), (a4, .inl (cT 4, 1024, .inr (.inr (.inr (.inr (va_up (va_up f55 0 (some r1)) 1 (some r2))))))), (r2, .inr (6, [.int 0, .long 0, .int 0, .int 0, .int 0, .int 1])), (a0, .inr (5, [v16, .ref a4, .int 2, v17, v18, v19, v20, v21, .int 1, v23, v24, v25, v26, v27, v28, .ref a3, .int 4, .int 4, .int 0, .int 100, v34, v35, v36, v37, .ref a1, .ref a2, v38, v39, v40, v41, .int 1, v43])), (r1, .inr (6, [.int 0, .long 0, .int 0, .int 0, .int 0, .int 1]))] H := ⟨hP, hD⟩
  refine lv_aload_n hx hb dM_finish_141 rfl (lv_at hl 2 rfl) ?_
  refine lv_iconst (v := 2) hx hb dM_finish_142 (by decide) ?_
  refine va_put (D := D) (ci := 5) (v := .int 2) (ty := .int) (C := "ValueBenchModel") (T := TM) (N := 32) hx hb htx inM tyM tyM_ok nmM hown hK hP hD hS 5 rfl rfl 0 (by decide) (htx _ kw_5_87) (fun _ h9 => h9) rfl (by decide +kernel) rfl rfl (Nat.le_of_ble_eq_true rfl) dM_finish_143 (fun H locs hP hD hS => ?_)
  obtain ⟨hP, hD⟩ : xPD D xcl A [(a1, .inl (cT 5, 8, .inr (.inr (.inr (.inr f44))))), (a2, .inl (cT 1, 8, .inl f47)), (a3, .inl (cT 0, 4096, .inl f50)), (a4, .inl (cT 4, 1024, .inr (.inr (.inr (.inr (va_up (va_up f55 0 (some r1)) 1 (some r2))))))), (r2, .inr (6, [.int 0, .long 0, .int 0, .int 0, .int 0, .int 1])), (a0, .inr (5, [.int 2, .ref a4, .int 2, v17, v18, v19, v20, v21, .int 1, v23, v24, v25, v26, v27, v28, .ref a3, .int 4, .int 4, .int 0, .int 100, v34, v35, v36, v37, .ref a1, .ref a2, v38, v39, v40, v41, .int 1, v43])), (r1, .inr (6, [.int 0, .long 0, .int 0, .int 0, .int 0, .int 1]))] H := ⟨hP, hD⟩
  refine lv_goto (tgt := 156) hx hb dM_finish_146 (by decide) ?_
  obtain ⟨hP9, hD9⟩ := xsub (wc := [(a0, .inr (5, [.int 2, .ref a4, .int 2, v17, v18, v19, v20, v21, .int 1, v23, v24, v25, v26, v27, v28, .ref a3, .int 4, .int 4, .int 0, .int 100, v34, v35, v36, v37, .ref a1, .ref a2, v38, v39, v40, v41, .int 1, v43])), (a1, .inl (cT 5, 8, .inr (.inr (.inr (.inr f44))))), (a2, .inl (cT 1, 8, .inl f47)), (a3, .inl (cT 0, 4096, .inl f50)), (a4, .inl (cT 4, 1024, .inr (.inr (.inr (.inr (va_up (va_up f55 0 (some r1)) 1 (some r2))))))), (r1, .inr (6, [.int 0, .long 0, .int 0, .int 0, .int 0, .int 1])), (r2, .inr (6, [.int 0, .long 0, .int 0, .int 0, .int 0, .int 1]))]) hP hD [5, 0, 1, 2, 3, 6, 4] rfl rfl (by decide)
  refine W.widen (k := 3) (n := 18) (Nat.le_of_ble_eq_true rfl) (Nat.le_of_ble_eq_true rfl) ?_
  exact W.vret hx hb hr (fun t ht hW => ⟨⟨(), rfl, trivial, r1, r2, by rw [ht]; exact hP9, va_K.moved hW.alike hK, hD9⟩, hS.F ht⟩) hS.2.2 dM_finish_156
set_option maxHeartbeats 400000000 in
set_option maxRecDepth 100000 in
theorem cM_two0_8 (l : Launch) (hl9 : l.stackTraces = false) (D : va_G) (cT : Nat → ClassId) (aK aV : Nat → Nat) (sz : Nat) (a0 : Nat) (a1 : Nat) (a2 : Nat) (a3 : Nat) (a4 : Nat) (x5 : Int32) (x10 : Int32) (x15 : Int32) (v20 : Value) (v21 : Value) (v22 : Value) (v23 : Value) (v24 : Value) (v25 : Value) (v26 : Value) (v27 : Value) (v28 : Value) (v29 : Value) (v30 : Value) (v31 : Value) (v32 : Value) (v33 : Value) (v34 : Value) (v35 : Value) (v36 : Value) (v37 : Value) (v38 : Value) (v39 : Value) (v40 : Value) (v41 : Value) (v42 : Value) (v43 : Value) (v44 : Value) (v45 : Value) (v46 : Value) (v47 : Value) (v48 : Value) (f49 : Nat → Option Nat) (f52 : Nat → Int32) (f55 : Nat → Int32) (f60 : Nat → Option Nat) (h6 : ¬ x5 < 0) (h7 : ¬ 7 < x5) (h8 : x5 ≤ 7) (h9 : vp_in x5 8) (h11 : ¬ x10 < 0) (h12 : ¬ 7 < x10) (h13 : x10 ≤ 7) (h14 : vp_in x10 8) (h16 : ¬ x15 < 0) (h17 : ¬ 7 < x15) (h18 : x15 ≤ 7) (h19 : vp_in x15 8) (h50 : f49 x10.toNatClampNeg = some a3) (h51 : f49 x15.toNatClampNeg = some a3) (h53 : f52 x10.toNatClampNeg = 4) (h54 : f52 x15.toNatClampNeg = 4) (h56 : f55 0 = 110) (h57 : f55 1 = 117) (h58 : f55 2 = 108) (h59 : f55 3 = 108) (h61 : f60 0 = none) (h62 : f60 1 = none) : xMet l yM_two0 wyM_two0 10 3 18 204 D cT aK aV sz [.ref a0, .int x5, .int 0, .int x10, .int x15] [(a0, .inr (5, [v20, .ref a4, v21, v22, v23, v24, v25, v26, v27, v28, v29, v30, v31, v32, v33, v34, v35, v36, v37, v38, v39, v40, v41, v42, .ref a1, .ref a2, v43, v44, v45, v46, v47, v48])), (a1, .inl (cT 5, 8, .inr (.inr (.inr (.inr f49))))), (a2, .inl (cT 1, 8, .inl f52)), (a3, .inl (cT 0, 4096, .inl f55)), (a4, .inl (cT 4, 1024, .inr (.inr (.inr (.inr f60)))))] (fun A => va_Qv (fun _ : Unit => True) (fun _ t => ∃ (q4 : Nat) (q5 : Nat), xB D xcl cT A [(a0, .inr (5, [.int 2, .ref a4, .int 2, v22, .int 0, v24, v25, .int 0, .int 1, .int 0, v29, v30, .int 0, v32, v33, .ref a3, .int 4, .int 4, .int 0, .int 100, v39, v40, .int 0, .int 1000000000, .ref a1, .ref a2, v43, v44, v45, v46, .int 1, v48])), (a1, .inl (cT 5, 8, .inr (.inr (.inr (.inr f49))))), (a2, .inl (cT 1, 8, .inl f52)), (a3, .inl (cT 0, 4096, .inl f55)), (a4, .inl (cT 4, 1024, .inr (.inr (.inr (.inr (va_up (va_up f60 0 (some q4)) 1 (some q5))))))), (q4, .inr (6, [.int 0, .long 0, .int 0, .int 0, .int 0, .int 1])), (q5, .inr (6, [.int 0, .long 0, .int 0, .int 0, .int 0, .int 1]))] t) A) := by
  refine Met.ofW (cc := prog_13_method_93_code) (maxL := 5) (ret := none) (by decide) rfl ?_
  intro p e s m args below meth c s₁ B hml hv
  obtain ⟨rfl, hsz, hZ, hP, hK, hD0⟩ := hv
  have hx := B.exec
  have hb := B.bytes
  have hr := B.returns
  have hts := atoms_spec (ws := wyM_two0) B.pre
  have htx := fun w h => hts w (List.mem_cons_of_mem _ h)
  have hown : s.vm.findClass "ValueBenchModel" = some m.cls := findClass_of_methodNamed B.named
  have hlocks := B.notSynchronized
  subst hsz
  have hD := hD0.self (sz := s.heap.size)
  generalize hAe : va_A [(a0, .inr (5, [v20, .ref a4, v21, v22, v23, v24, v25, v26, v27, v28, v29, v30, v31, v32, v33, v34, v35, v36, v37, v38, v39, v40, v41, v42, .ref a1, .ref a2, v43, v44, v45, v46, v47, v48])), (a1, .inl (cT 5, 8, .inr (.inr (.inr (.inr f49))))), (a2, .inl (cT 1, 8, .inl f52)), (a3, .inl (cT 0, 4096, .inl f55)), (a4, .inl (cT 4, 1024, .inr (.inr (.inr (.inr f60)))))] s.heap.size = A at hD hZ ⊢
  have hA : ∀ q : Nat, s.heap.size ≤ q → A q := fun q h => by rw [← hAe]; exact Or.inr h
  have hS : va_S A s.heap s.heap [] := va_S.rf
  have hP : va_P D xcl [(a0, .inr (5, [v20, .ref a4, v21, v22, v23, v24, v25, v26, v27, v28, v29, v30, v31, v32, v33, v34, v35, v36, v37, v38, v39, v40, v41, v42, .ref a1, .ref a2, v43, v44, v45, v46, v47, v48])), (a1, .inl (cT 5, 8, .inr (.inr (.inr (.inr f49))))), (a2, .inl (cT 1, 8, .inl f52)), (a3, .inl (cT 0, 4096, .inl f55)), (a4, .inl (cT 4, 1024, .inr (.inr (.inr (.inr f60)))))] s.heap := hP
  have hl := lv_entry ([.ref a0, .int x5, .int 0, .int x10, .int x15]) (n := 5) (Nat.le_of_ble_eq_true rfl)
  rw [lg_entry_eq]
  generalize (lg_sl ([.ref a0, .int x5, .int 0, .int x10, .int x15]) ++ List.replicate (5 - (lg_sl ([.ref a0, .int x5, .int 0, .int x10, .int x15])).length) Slot.unset).toArray = ls at hl ⊢
  have hl : lv_has ls 5 [(0, .ref a0), (1, .int x5), (2, .int 0), (3, .int x10), (4, .int x15)] := hl
  refine lv_aload_n hx hb dM_two0_0 rfl (lv_at hl 0 rfl) ?_
  obtain ⟨hPc, hDc, hFc⟩ := xcut (wc := [(a0, .inr (5, [v20, .ref a4, v21, v22, v23, v24, v25, v26, v27, v28, v29, v30, v31, v32, v33, v34, v35, v36, v37, v38, v39, v40, v41, v42, .ref a1, .ref a2, v43, v44, v45, v46, v47, v48]))]) hP hD hS hA [0] rfl rfl (by decide)
  refine va_callv (va_runV (C := "ValueBenchModel") (As := []) (rest := []) ⟨hx, hb, hml, hown, htx⟩ (cM_begin_0 l hl9 D cT aK aV s.heap.size a0 v20 (.ref a4) v21 v22 v23 v24 v25 v26 v27 v28 v29 v30 v31 v32 v33 v34 v35 v36 v37 v38 v39 v40 v41 v42 (.ref a1) (.ref a2) v43 v44 v45 v46 v47 v48) ⟨callB_of 0 htx (xw_goodC kw_5_209) rfl rfl rfl (htx _ kw_1_5) (htx _ kw_5_206) ⟨by decide, by decide, by decide +kernel⟩ ⟨Nat.le_of_ble_eq_true rfl, Nat.le_of_ble_eq_true rfl⟩, (htx _ kw_5_208), (htx _ kp_M_begin)⟩ ⟨xPre_blind, va_recv hK hP (ci := 5) rfl (q0 := 0) rfl, (fun U hU hW => ⟨rfl, xPre_of hZ hS hFc hPc hDc hK U hU hW⟩)⟩ rfl rfl hl.1 rfl (lv_room (Nat.le_of_ble_eq_true rfl)) dM_two0_1 ⟨Nat.le_of_ble_eq_true rfl, Nat.le_of_ble_eq_true rfl⟩) hS (fun q _ h => hFc q h) hFc (fun u9 t H1 locs ht hvm hr9 hB hz1 hk1 hS => ?_)
  obtain ⟨hP1, hK1, hD1⟩ := hB
  rw [ht] at hP1
  obtain ⟨hP, hD⟩ := xjoin (W := [(a1, .inl (cT 5, 8, .inr (.inr (.inr (.inr f49))))), (a2, .inl (cT 1, 8, .inl f52)), (a3, .inl (cT 0, 4096, .inl f55)), (a4, .inl (cT 4, 1024, .inr (.inr (.inr (.inr f60))))), (a0, .inr (5, [.int 0, .ref a4, .int 0, v22, .int 0, v24, v25, .int 0, v27, .int 0, v29, v30, .int 0, v32, v33, v34, v35, v36, v37, v38, v39, v40, .int 0, .int 1000000000, .ref a1, .ref a2, v43, v44, v45, v46, v47, v48]))]) hP hD [0] [1, 2, 3, 4] 4 rfl rfl (by decide) (by decide) hk1 hFc hP1 hD1
  generalize H1 = H at hP hS ⊢
  refine lv_aload_n hx hb dM_two0_4 rfl (lv_at hl 0 rfl) ?_
  refine lv_iload_n hx hb dM_two0_5 rfl (lv_at hl 1 rfl) ?_
  obtain ⟨hPc, hDc, hFc⟩ := xcut (wc := []) hP hD hS hA [] rfl rfl (by decide)
  refine va_calli (va_runV (C := "ValueBenchModel") (As := [.int x5]) (rest := []) ⟨hx, hb, hml, hown, htx⟩ (cM_out_2 l hl9 D cT aK aV H.size a0 x5 h6 h7 h8 h9) ⟨callB_of 1 htx (xw_goodC kw_5_217) rfl rfl rfl (htx _ kw_1_5) (htx _ kw_5_214) ⟨by decide, by decide, by decide +kernel⟩ ⟨Nat.le_of_ble_eq_true rfl, Nat.le_of_ble_eq_true rfl⟩, (htx _ kw_5_216), (htx _ kp_M_out)⟩ ⟨xPre_blind, va_recv hK hP (ci := 5) rfl (q0 := 4) rfl, (fun U hU hW => ⟨rfl, xPre_of hZ hS hFc hPc hDc hK U hU hW⟩)⟩ rfl rfl hl.1 rfl (lv_room (Nat.le_of_ble_eq_true rfl)) dM_two0_6 ⟨Nat.le_of_ble_eq_true rfl, Nat.le_of_ble_eq_true rfl⟩) hS (fun q _ h => hFc q h) hFc (fun r1 u9 t H1 locs ht hvm hr9 hB hz1 hk1 hS => ?_)
  obtain ⟨hP1, hK1, hD1⟩ := hB
  rw [ht] at hP1
  obtain ⟨hP, hD⟩ := xjoin (W := [(a1, .inl (cT 5, 8, .inr (.inr (.inr (.inr f49))))), (a2, .inl (cT 1, 8, .inl f52)), (a3, .inl (cT 0, 4096, .inl f55)), (a4, .inl (cT 4, 1024, .inr (.inr (.inr (.inr f60))))), (a0, .inr (5, [.int 0, .ref a4, .int 0, v22, .int 0, v24, v25, .int 0, v27, .int 0, v29, v30, .int 0, v32, v33, v34, v35, v36, v37, v38, v39, v40, .int 0, .int 1000000000, .ref a1, .ref a2, v43, v44, v45, v46, v47, v48]))]) hP hD [] [0, 1, 2, 3, 4] 5 rfl rfl (by decide) (by decide) hk1 hFc hP1 hD1
  generalize H1 = H at hP hS ⊢
  rw [hr9]
  refine W.eq (g2 := F0 m 9 ls [.int 0]) rfl ?_
  refine lv_if_ne (tgt := 39) hx hb dM_two0_9 (by decide) (fun h => ((by revert h; decide : False)).elim) (fun _ => ?_)
  refine lv_iload_n hx hb dM_two0_12 rfl (lv_at hl 2 rfl) ?_
  refine lv_if_lt (tgt := 39) hx hb dM_two0_13 (by decide) (fun h => ((by revert h; decide : False)).elim) (fun _ => ?_)
  refine lv_iload_n hx hb dM_two0_16 rfl (lv_at hl 2 rfl) ?_
  refine lv_bipush (v := 9) hx hb dM_two0_17 (by decide) ?_
  refine lv_icmp_gt (tgt := 39) hx hb dM_two0_19 (by decide) (fun h => ((by revert h; decide : False)).elim) (fun _ => ?_)
  refine lv_aload_n hx hb dM_two0_22 rfl (lv_at hl 0 rfl) ?_
  refine lv_iload_n hx hb dM_two0_23 rfl (lv_at hl 3 rfl) ?_
  obtain ⟨hPc, hDc, hFc⟩ := xcut (wc := []) hP hD hS hA [] rfl rfl (by decide)
  refine va_calli (va_runV (C := "ValueBenchModel") (As := [.int x10]) (rest := []) ⟨hx, hb, hml, hown, htx⟩ (cM_out_2 l hl9 D cT aK aV H.size a0 x10 h11 h12 h13 h14) ⟨callB_of 1 htx (xw_goodC kw_5_217) rfl rfl rfl (htx _ kw_1_5) (htx _ kw_5_214) ⟨by decide, by decide, by decide +kernel⟩ ⟨Nat.le_of_ble_eq_true rfl, Nat.le_of_ble_eq_true rfl⟩, (htx _ kw_5_216), (htx _ kp_M_out)⟩ ⟨xPre_blind, va_recv hK hP (ci := 5) rfl (q0 := 4) rfl, (fun U hU hW => ⟨rfl, xPre_of hZ hS hFc hPc hDc hK U hU hW⟩)⟩ rfl rfl hl.1 rfl (lv_room (Nat.le_of_ble_eq_true rfl)) dM_two0_24 ⟨Nat.le_of_ble_eq_true rfl, Nat.le_of_ble_eq_true rfl⟩) hS (fun q _ h => hFc q h) hFc (fun r2 u9 t H1 locs ht hvm hr9 hB hz1 hk1 hS => ?_)
  obtain ⟨hP1, hK1, hD1⟩ := hB
  rw [ht] at hP1
  obtain ⟨hP, hD⟩ := xjoin (W := [(a1, .inl (cT 5, 8, .inr (.inr (.inr (.inr f49))))), (a2, .inl (cT 1, 8, .inl f52)), (a3, .inl (cT 0, 4096, .inl f55)), (a4, .inl (cT 4, 1024, .inr (.inr (.inr (.inr f60))))), (a0, .inr (5, [.int 0, .ref a4, .int 0, v22, .int 0, v24, v25, .int 0, v27, .int 0, v29, v30, .int 0, v32, v33, v34, v35, v36, v37, v38, v39, v40, .int 0, .int 1000000000, .ref a1, .ref a2, v43, v44, v45, v46, v47, v48]))]) hP hD [] [0, 1, 2, 3, 4] 5 rfl rfl (by decide) (by decide) hk1 hFc hP1 hD1
  generalize H1 = H at hP hS ⊢
  rw [hr9]
  refine W.eq (g2 := F0 m 27 ls [.int 0]) rfl ?_
  refine lv_if_ne (tgt := 39) hx hb dM_two0_27 (by decide) (fun h => ((by revert h; decide : False)).elim) (fun _ => ?_)
  refine lv_aload_n hx hb dM_two0_30 rfl (lv_at hl 0 rfl) ?_
  refine lv_iload hx hb dM_two0_31 (lv_at hl 4 rfl) ?_
  obtain ⟨hPc, hDc, hFc⟩ := xcut (wc := []) hP hD hS hA [] rfl rfl (by decide)
  refine va_calli (va_runV (C := "ValueBenchModel") (As := [.int x15]) (rest := []) ⟨hx, hb, hml, hown, htx⟩ (cM_out_2 l hl9 D cT aK aV H.size a0 x15 h16 h17 h18 h19) ⟨callB_of 1 htx (xw_goodC kw_5_217) rfl rfl rfl (htx _ kw_1_5) (htx _ kw_5_214) ⟨by decide, by decide, by decide +kernel⟩ ⟨Nat.le_of_ble_eq_true rfl, Nat.le_of_ble_eq_true rfl⟩, (htx _ kw_5_216), (htx _ kp_M_out)⟩ ⟨xPre_blind, va_recv hK hP (ci := 5) rfl (q0 := 4) rfl, (fun U hU hW => ⟨rfl, xPre_of hZ hS hFc hPc hDc hK U hU hW⟩)⟩ rfl rfl hl.1 rfl (lv_room (Nat.le_of_ble_eq_true rfl)) dM_two0_33 ⟨Nat.le_of_ble_eq_true rfl, Nat.le_of_ble_eq_true rfl⟩) hS (fun q _ h => hFc q h) hFc (fun r3 u9 t H1 locs ht hvm hr9 hB hz1 hk1 hS => ?_)
  obtain ⟨hP1, hK1, hD1⟩ := hB
  rw [ht] at hP1
  obtain ⟨hP, hD⟩ := xjoin (W := [(a1, .inl (cT 5, 8, .inr (.inr (.inr (.inr f49))))), (a2, .inl (cT 1, 8, .inl f52)), (a3, .inl (cT 0, 4096, .inl f55)), (a4, .inl (cT 4, 1024, .inr (.inr (.inr (.inr f60))))), (a0, .inr (5, [.int 0, .ref a4, .int 0, v22, .int 0, v24, v25, .int 0, v27, .int 0, v29, v30, .int 0, v32, v33, v34, v35, v36, v37, v38, v39, v40, .int 0, .int 1000000000, .ref a1, .ref a2, v43, v44, v45, v46, v47, v48]))]) hP hD [] [0, 1, 2, 3, 4] 5 rfl rfl (by decide) (by decide) hk1 hFc hP1 hD1
  generalize H1 = H at hP hS ⊢
  rw [hr9]
  refine W.eq (g2 := F0 m 36 ls [.int 0]) rfl ?_
  refine lv_if_eq (tgt := 47) hx hb dM_two0_36 (by decide) (fun _ => ?_) (fun h => ((by revert h; decide : False)).elim)
  refine lv_aload_n hx hb dM_two0_47 rfl (lv_at hl 0 rfl) ?_
  refine lv_iload_n hx hb dM_two0_48 rfl (lv_at hl 1 rfl) ?_
  refine lv_iconst (v := 2) hx hb dM_two0_49 (by decide) ?_
  refine lv_iload_n hx hb dM_two0_50 rfl (lv_at hl 2 rfl) ?_
  refine lv_iload_n hx hb dM_two0_51 rfl (lv_at hl 3 rfl) ?_
  refine lv_iload hx hb dM_two0_52 (lv_at hl 4 rfl) ?_
  obtain ⟨hPc, hDc, hFc⟩ := xcut (wc := [(a0, .inr (5, [.int 0, .ref a4, .int 0, v22, .int 0, v24, v25, .int 0, v27, .int 0, v29, v30, .int 0, v32, v33, v34, v35, v36, v37, v38, v39, v40, .int 0, .int 1000000000, .ref a1, .ref a2, v43, v44, v45, v46, v47, v48])), (a1, .inl (cT 5, 8, .inr (.inr (.inr (.inr f49))))), (a2, .inl (cT 1, 8, .inl f52)), (a3, .inl (cT 0, 4096, .inl f55)), (a4, .inl (cT 4, 1024, .inr (.inr (.inr (.inr f60)))))]) hP hD hS hA [4, 0, 1, 2, 3] rfl rfl (by decide)
  refine va_callv (vx_runVW (C := "ValueBenchModel") (As := [.int x5, .int 2, .int 0, .int x10, .int x15]) (rest := []) ⟨hx, hb, hml, hown, htx⟩ (cM_finish_32 l hl9 D cT aK aV H.size a0 a1 a2 a3 a4 x5 x10 x15 (.int 0) v22 (.int 0) v24 v25 (.int 0) v27 (.int 0) v29 v30 (.int 0) v32 v33 v34 v35 v36 v37 v38 v39 v40 (.int 0) (.int 1000000000) v43 v44 v45 v46 v47 v48 f49 f52 f55 f60 h11 h12 h13 h14 h16 h17 h18 h19 (by first | rfl | exact h50 | exact h51 | exact h53 | exact h54 | exact h56 | exact h57 | exact h58 | exact h59 | exact h61 | exact h62) (by first | rfl | exact h50 | exact h51 | exact h53 | exact h54 | exact h56 | exact h57 | exact h58 | exact h59 | exact h61 | exact h62) (by first | rfl | exact h50 | exact h51 | exact h53 | exact h54 | exact h56 | exact h57 | exact h58 | exact h59 | exact h61 | exact h62) (by first | rfl | exact h50 | exact h51 | exact h53 | exact h54 | exact h56 | exact h57 | exact h58 | exact h59 | exact h61 | exact h62) (by first | rfl | exact h50 | exact h51 | exact h53 | exact h54 | exact h56 | exact h57 | exact h58 | exact h59 | exact h61 | exact h62) (by first | rfl | exact h50 | exact h51 | exact h53 | exact h54 | exact h56 | exact h57 | exact h58 | exact h59 | exact h61 | exact h62) (by first | rfl | exact h50 | exact h51 | exact h53 | exact h54 | exact h56 | exact h57 | exact h58 | exact h59 | exact h61 | exact h62) (by first | rfl | exact h50 | exact h51 | exact h53 | exact h54 | exact h56 | exact h57 | exact h58 | exact h59 | exact h61 | exact h62) (by first | rfl | exact h50 | exact h51 | exact h53 | exact h54 | exact h56 | exact h57 | exact h58 | exact h59 | exact h61 | exact h62) (by first | rfl | exact h50 | exact h51 | exact h53 | exact h54 | exact h56 | exact h57 | exact h58 | exact h59 | exact h61 | exact h62)) (xcVW 5 htx (xw_goodC kw_6_195) rfl rfl rfl (htx _ kw_1_5) (htx _ kw_6_192) ⟨by decide, by decide, by decide +kernel⟩ ⟨Nat.le_of_ble_eq_true rfl, Nat.le_of_ble_eq_true rfl⟩ (htx _ kw_6_194) (htx _ kp_M_finish)) ⟨xPre_blind, va_recv hK hP (ci := 5) rfl (q0 := 4) rfl, (fun U hU hW => ⟨rfl, xPre_of hZ hS hFc hPc hDc hK U hU hW⟩)⟩ rfl rfl hl.1 rfl (lv_room (Nat.le_of_ble_eq_true rfl)) dM_two0_54 ⟨Nat.le_of_ble_eq_true rfl, Nat.le_of_ble_eq_true rfl⟩) hS (fun q _ h => hFc q h) hFc (fun u9 t H1 locs ht hvm hr9 hB hz1 hk1 hS => ?_)
  obtain ⟨q4, q5, hP1, hK1, hD1⟩ := hB
  rw [ht] at hP1
  obtain ⟨hP, hD⟩ := xjoin (W := [(a0, .inr (5, [.int 2, .ref a4, .int 2, v22, .int 0, v24, v25, .int 0, .int 1, .int 0, v29, v30, .int 0, v32, v33, .ref a3, .int 4, .int 4, .int 0, .int 100, v39, v40, .int 0, .int 1000000000, .ref a1, .ref a2, v43, v44, v45, v46, .int 1, v48])), (a1, .inl (cT 5, 8, .inr (.inr (.inr (.inr f49))))), (a2, .inl (cT 1, 8, .inl f52)), (a3, .inl (cT 0, 4096, .inl f55)), (a4, .inl (cT 4, 1024, .inr (.inr (.inr (.inr (va_up (va_up f60 0 (some q4)) 1 (some q5))))))), (q4, .inr (6, [.int 0, .long 0, .int 0, .int 0, .int 0, .int 1])), (q5, .inr (6, [.int 0, .long 0, .int 0, .int 0, .int 0, .int 1]))]) hP hD [4, 0, 1, 2, 3] [] 0 rfl rfl (by decide) (by decide) hk1 hFc hP1 hD1
  generalize H1 = H at hP hS ⊢
  obtain ⟨hP9, hD9⟩ := xsub (wc := [(a0, .inr (5, [.int 2, .ref a4, .int 2, v22, .int 0, v24, v25, .int 0, .int 1, .int 0, v29, v30, .int 0, v32, v33, .ref a3, .int 4, .int 4, .int 0, .int 100, v39, v40, .int 0, .int 1000000000, .ref a1, .ref a2, v43, v44, v45, v46, .int 1, v48])), (a1, .inl (cT 5, 8, .inr (.inr (.inr (.inr f49))))), (a2, .inl (cT 1, 8, .inl f52)), (a3, .inl (cT 0, 4096, .inl f55)), (a4, .inl (cT 4, 1024, .inr (.inr (.inr (.inr (va_up (va_up f60 0 (some q4)) 1 (some q5))))))), (q4, .inr (6, [.int 0, .long 0, .int 0, .int 0, .int 0, .int 1])), (q5, .inr (6, [.int 0, .long 0, .int 0, .int 0, .int 0, .int 1]))]) hP hD [0, 1, 2, 3, 4, 5, 6] rfl rfl (by decide)
  refine W.widen (k := 3) (n := 18) (Nat.le_of_ble_eq_true rfl) (Nat.le_of_ble_eq_true rfl) ?_
  exact W.vret hx hb hr (fun t ht hW => ⟨⟨(), rfl, trivial, q4, q5, by rw [ht]; exact hP9, va_K.moved hW.alike hK, hD9⟩, hS.F ht⟩) hS.2.2 dM_two0_57
set_option maxHeartbeats 400000000 in
set_option maxRecDepth 100000 in
theorem cH_has_1 (l : Launch) (hl9 : l.stackTraces = false) (D : va_G) (cT : Nat → ClassId) (aK aV : Nat → Nat) (sz : Nat) (a0 : Nat) (a1 : Nat) (b2 : Nat) (b3 : Nat) (v4 : Value) (f5 : Nat → Int64) (h6 : f5 0 = 0) : xMet l yH_has wyH_has 2 0 0 43 D cT aK aV sz [.ref a0, .ref b2, .ref b3] [(a0, .inr (2, [.ref a1, .int 1, v4])), (a1, .inl (cT 2, 4096, .inr (.inl f5)))] (fun A => va_Qi (fun (r : Int32) (_ : Unit) => r = 1) (fun _ t => xB D xcl cT A [(a0, .inr (2, [.ref a1, .int 1, v4])), (a1, .inl (cT 2, 4096, .inr (.inl f5)))] t) A) := by
  refine Met.ofW (cc := prog_5_method_7_code) (maxL := 3) (ret := (some .int)) (by decide) rfl ?_
  intro p e s m args below meth c s₁ B hml hv
  obtain ⟨rfl, hsz, hZ, hP, hK, hD0⟩ := hv
  have hx := B.exec
  have hb := B.bytes
  have hr := B.returns
  have hts := atoms_spec (ws := wyH_has) B.pre
  have htx := fun w h => hts w (List.mem_cons_of_mem _ h)
  have hown : s.vm.findClass "ValueBench$Pairs" = some m.cls := findClass_of_methodNamed B.named
  have hlocks := B.notSynchronized
  subst hsz
  have hD := hD0.self (sz := s.heap.size)
  generalize hAe : va_A [(a0, .inr (2, [.ref a1, .int 1, v4])), (a1, .inl (cT 2, 4096, .inr (.inl f5)))] s.heap.size = A at hD hZ ⊢
  have hA : ∀ q : Nat, s.heap.size ≤ q → A q := fun q h => by rw [← hAe]; exact Or.inr h
  have hS : va_S A s.heap s.heap [] := va_S.rf
  have hP : va_P D xcl [(a0, .inr (2, [.ref a1, .int 1, v4])), (a1, .inl (cT 2, 4096, .inr (.inl f5)))] s.heap := hP
  have hl := lv_entry ([.ref a0, .ref b2, .ref b3]) (n := 3) (Nat.le_of_ble_eq_true rfl)
  rw [lg_entry_eq]
  generalize (lg_sl ([.ref a0, .ref b2, .ref b3]) ++ List.replicate (3 - (lg_sl ([.ref a0, .ref b2, .ref b3])).length) Slot.unset).toArray = ls at hl ⊢
  have hl : lv_has ls 3 [(0, .ref a0), (1, .ref b2), (2, .ref b3)] := hl
  refine lv_aload_n hx hb dH_has_0 rfl (lv_at hl 0 rfl) ?_
  refine lv_iconst (v := 0) hx hb dH_has_1 (by decide) ?_
  refine lv_bipush (v := 6) hx hb dH_has_2 (by decide) ?_
  obtain ⟨hPc, hDc, hFc⟩ := xcut (wc := [(a0, .inr (2, [.ref a1, .int 1, v4])), (a1, .inl (cT 2, 4096, .inr (.inl f5)))]) hP hD hS hA [0, 1] rfl rfl (by decide)
  refine va_calli (va_runV (C := "ValueBench$Row") (As := [.int 0, .int 6]) (rest := []) ⟨hx, hb, hml, hown, htx⟩ (cR_is_3 l hl9 D cT aK aV s.heap.size a0 a1 v4 f5 (by first | rfl | exact h6)) ⟨callB_of 2 htx (xw_goodC kw_3_75) rfl rfl rfl (htx _ kw_1_4) (htx _ kw_4_150) ⟨by decide, by decide, by decide +kernel⟩ ⟨Nat.le_of_ble_eq_true rfl, Nat.le_of_ble_eq_true rfl⟩, (htx _ kw_3_73), (htx _ kw_3_74)⟩ ⟨xPre_blind, va_recv hK hP (ci := 2) rfl (q0 := 0) rfl, (fun U hU hW => ⟨rfl, xPre_of hZ hS hFc hPc hDc hK U hU hW⟩)⟩ rfl rfl hl.1 rfl (lv_room (Nat.le_of_ble_eq_true rfl)) dH_has_4 ⟨Nat.le_of_ble_eq_true rfl, Nat.le_of_ble_eq_true rfl⟩) hS (fun q _ h => hFc q h) hFc (fun r1 u9 t H1 locs ht hvm hr9 hB hz1 hk1 hS => ?_)
  obtain ⟨hP1, hK1, hD1⟩ := hB
  rw [ht] at hP1
  obtain ⟨hP, hD⟩ := xjoin (W := [(a0, .inr (2, [.ref a1, .int 1, v4])), (a1, .inl (cT 2, 4096, .inr (.inl f5)))]) hP hD [0, 1] [] 0 rfl rfl (by decide) (by decide) hk1 hFc hP1 hD1
  generalize H1 = H at hP hS ⊢
  rw [hr9]
  refine W.eq (g2 := F0 m 7 ls [.int 0]) rfl ?_
  refine lv_if_eq (tgt := 40) hx hb dH_has_7 (by decide) (fun _ => ?_) (fun h => ((by revert h; decide : False)).elim)
  refine lv_aload_n hx hb dH_has_40 rfl (lv_at hl 0 rfl) ?_
  refine lv_iconst (v := 0) hx hb dH_has_41 (by decide) ?_
  refine lv_iconst (v := 5) hx hb dH_has_42 (by decide) ?_
  obtain ⟨hPc, hDc, hFc⟩ := xcut (wc := [(a0, .inr (2, [.ref a1, .int 1, v4])), (a1, .inl (cT 2, 4096, .inr (.inl f5)))]) hP hD hS hA [0, 1] rfl rfl (by decide)
  refine va_calli (va_runV (C := "ValueBench$Row") (As := [.int 0, .int 5]) (rest := []) ⟨hx, hb, hml, hown, htx⟩ (cR_is_2 l hl9 D cT aK aV H.size a0 a1 v4 f5 (by first | rfl | exact h6)) ⟨callB_of 2 htx (xw_goodC kw_3_75) rfl rfl rfl (htx _ kw_1_4) (htx _ kw_4_150) ⟨by decide, by decide, by decide +kernel⟩ ⟨Nat.le_of_ble_eq_true rfl, Nat.le_of_ble_eq_true rfl⟩, (htx _ kw_3_73), (htx _ kw_3_74)⟩ ⟨xPre_blind, va_recv hK hP (ci := 2) rfl (q0 := 0) rfl, (fun U hU hW => ⟨rfl, xPre_of hZ hS hFc hPc hDc hK U hU hW⟩)⟩ rfl rfl hl.1 rfl (lv_room (Nat.le_of_ble_eq_true rfl)) dH_has_43 ⟨Nat.le_of_ble_eq_true rfl, Nat.le_of_ble_eq_true rfl⟩) hS (fun q _ h => hFc q h) hFc (fun r2 u9 t H1 locs ht hvm hr9 hB hz1 hk1 hS => ?_)
  obtain ⟨hP1, hK1, hD1⟩ := hB
  rw [ht] at hP1
  obtain ⟨hP, hD⟩ := xjoin (W := [(a0, .inr (2, [.ref a1, .int 1, v4])), (a1, .inl (cT 2, 4096, .inr (.inl f5)))]) hP hD [0, 1] [] 0 rfl rfl (by decide) (by decide) hk1 hFc hP1 hD1
  generalize H1 = H at hP hS ⊢
  rw [hr9]
  refine W.eq (g2 := F0 m 46 ls [.int 0]) rfl ?_
  refine lv_if_eq (tgt := 93) hx hb dH_has_46 (by decide) (fun _ => ?_) (fun h => ((by revert h; decide : False)).elim)
  refine lv_iconst (v := 1) hx hb dH_has_93 (by decide) ?_
  obtain ⟨hP9, hD9⟩ := xsub (wc := [(a0, .inr (2, [.ref a1, .int 1, v4])), (a1, .inl (cT 2, 4096, .inr (.inl f5)))]) hP hD [0, 1] rfl rfl (by decide)
  refine W.widen (k := 0) (n := 0) (Nat.le_of_ble_eq_true rfl) (Nat.le_of_ble_eq_true rfl) ?_
  exact W.iret (v := 1) hx hb hr (fun t ht hW => ⟨⟨1, (), rfl, rfl, by rw [ht]; exact hP9, va_K.moved hW.alike hK, hD9⟩, hS.F ht⟩) hS.2.2 dH_has_94
