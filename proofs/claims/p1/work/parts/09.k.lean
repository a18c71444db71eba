set_option maxHeartbeats 400000000 in
set_option maxRecDepth 100000 in
theorem cM_value_2 (l : Launch) (hl9 : l.stackTraces = false) (D : va_G) (cT : Nat → ClassId) (aK aV : Nat → Nat) (sz : Nat) (a0 : Nat) (a1 : Nat) (a2 : Nat) (v3 : Value) (v4 : Value) (v5 : Value) (v6 : Value) (v7 : Value) (v8 : Value) (v9 : Value) (v10 : Value) (v11 : Value) (v12 : Value) (v13 : Value) (v14 : Value) (v15 : Value) (v16 : Value) (v17 : Value) (v18 : Value) (v19 : Value) (v20 : Value) (v21 : Value) (v22 : Value) (v23 : Value) (v24 : Value) (v25 : Value) (v26 : Value) (v27 : Value) (v28 : Value) (v29 : Value) (f30 : Nat → Int32) (f35 : Nat → Option Nat) (h31 : f30 0 = 110) (h32 : f30 1 = 117) (h33 : f30 2 = 108) (h34 : f30 3 = 108) (h36 : f35 1 = none) : xMet l yM_value wyM_value 5 1 6 108 D cT aK aV sz [.ref a0] [(a0, .inr (5, [v3, .ref a2, .int 1, v4, v5, v6, v7, v8, v9, v10, v11, v12, v13, v14, v15, .ref a1, .int 0, .int 4, v16, v17, v18, v19, v20, v21, v22, v23, v24, v25, v26, v27, v28, v29])), (a1, .inl (cT 0, 4096, .inl f30)), (a2, .inl (cT 4, 1024, .inr (.inr (.inr (.inr f35)))))] (fun A => va_Qr (fun _ : Unit => True) (fun _ r2 t => xB D xcl cT A [(a0, .inr (5, [v3, .ref a2, .int 2, v4, v5, v6, v7, v8, v9, v10, v11, v12, v13, v14, v15, .ref a1, .int 4, .int 4, v16, v17, v18, v19, v20, v21, v22, v23, v24, v25, v26, v27, v28, v29])), (a1, .inl (cT 0, 4096, .inl f30)), (a2, .inl (cT 4, 1024, .inr (.inr (.inr (.inr (va_up f35 1 (some r2))))))), (r2, .inr (6, [.int 0, .long 0, .int 0, .int 0, .int 0, .int 1]))] t) A) := by
  refine Met.ofW (cc := prog_13_method_34_code) (maxL := 3) (ret := (some (.object "ValueBenchModel$V"))) (by decide) rfl ?_
  intro p e s m args below meth c s₁ B hml hv
  obtain ⟨rfl, hsz, hZ, hP, hK, hD0⟩ := hv
  have hx := B.exec
  have hb := B.bytes
  have hr := B.returns
  have hts := atoms_spec (ws := wyM_value) B.pre
  have htx := fun w h => hts w (List.mem_cons_of_mem _ h)
  have hown : s.vm.findClass "ValueBenchModel" = some m.cls := findClass_of_methodNamed B.named
  have hlocks := B.notSynchronized
  subst hsz
  have hD := hD0.self (sz := s.heap.size)
  generalize hAe : va_A [(a0, .inr (5, [v3, .ref a2, .int 1, v4, v5, v6, v7, v8, v9, v10, v11, v12, v13, v14, v15, .ref a1, .int 0, .int 4, v16, v17, v18, v19, v20, v21, v22, v23, v24, v25, v26, v27, v28, v29])), (a1, .inl (cT 0, 4096, .inl f30)), (a2, .inl (cT 4, 1024, .inr (.inr (.inr (.inr f35)))))] s.heap.size = A at hD hZ ⊢
  have hA : ∀ q : Nat, s.heap.size ≤ q → A q := fun q h => by rw [← hAe]; exact Or.inr h
  have hS : va_S A s.heap s.heap [] := va_S.rf
  have hP : va_P D xcl [(a0, .inr (5, [v3, .ref a2, .int 1, v4, v5, v6, v7, v8, v9, v10, v11, v12, v13, v14, v15, .ref a1, .int 0, .int 4, v16, v17, v18, v19, v20, v21, v22, v23, v24, v25, v26, v27, v28, v29])), (a1, .inl (cT 0, 4096, .inl f30)), (a2, .inl (cT 4, 1024, .inr (.inr (.inr (.inr f35)))))] s.heap := hP
  have hl := lv_entry ([.ref a0]) (n := 3) (Nat.le_of_ble_eq_true rfl)
  rw [lg_entry_eq]
  generalize (lg_sl ([.ref a0]) ++ List.replicate (3 - (lg_sl ([.ref a0])).length) Slot.unset).toArray = ls at hl ⊢
  have hl : lv_has ls 3 [(0, .ref a0)] := hl
  refine lv_aload_n hx hb dM_value_0 rfl (lv_at hl 0 rfl) ?_
  obtain ⟨hPc, hDc, hFc⟩ := xcut (wc := [(a0, .inr (5, [v3, .ref a2, .int 1, v4, v5, v6, v7, v8, v9, v10, v11, v12, v13, v14, v15, .ref a1, .int 0, .int 4, v16, v17, v18, v19, v20, v21, v22, v23, v24, v25, v26, v27, v28, v29])), (a1, .inl (cT 0, 4096, .inl f30))]) hP hD hS hA [0, 1] rfl rfl (by decide)
  refine va_callv (va_runV (C := "ValueBenchModel") (As := []) (rest := []) ⟨hx, hb, hml, hown, htx⟩ (cM_blanks_1 l hl9 D cT aK aV s.heap.size a0 a1 v3 (.ref a2) (.int 1) v4 v5 v6 v7 v8 v9 v10 v11 v12 v13 v14 v15 v16 v17 v18 v19 v20 v21 v22 v23 v24 v25 v26 v27 v28 v29 f30 (by first | rfl | exact h31 | exact h32 | exact h33 | exact h34 | exact h36)) ⟨callB_of 0 htx (xw_goodC kw_5_229) rfl rfl rfl (htx _ kw_1_5) (htx _ kw_5_226) ⟨by decide, by decide, by decide +kernel⟩ ⟨Nat.le_of_ble_eq_true rfl, Nat.le_of_ble_eq_true rfl⟩, (htx _ kw_5_228), (htx _ kp_M_blanks)⟩ ⟨xPre_blind, va_recv hK hP (ci := 5) rfl (q0 := 0) rfl, (fun U hU hW => ⟨rfl, xPre_of hZ hS hFc hPc hDc hK U hU hW⟩)⟩ rfl rfl hl.1 rfl (lv_room (Nat.le_of_ble_eq_true rfl)) dM_value_1 ⟨Nat.le_of_ble_eq_true rfl, Nat.le_of_ble_eq_true rfl⟩) hS (fun q _ h => hFc q h) hFc (fun u9 t H1 locs ht hvm hr9 hB hz1 hk1 hS => ?_)
  obtain ⟨hP1, hK1, hD1⟩ := hB
  rw [ht] at hP1
  obtain ⟨hP, hD⟩ := xjoin (W := [(a2, .inl (cT 4, 1024, .inr (.inr (.inr (.inr f35))))), (a0, .inr (5, [v3, .ref a2, .int 1, v4, v5, v6, v7, v8, v9, v10, v11, v12, v13, v14, v15, .ref a1, .int 0, .int 4, v16, v17, v18, v19, v20, v21, v22, v23, v24, v25, v26, v27, v28, v29])), (a1, .inl (cT 0, 4096, .inl f30))]) hP hD [0, 1] [2] 1 rfl rfl (by decide) (by decide) hk1 hFc hP1 hD1
  generalize H1 = H at hP hS ⊢
  refine lv_aload_n hx hb dM_value_4 rfl (lv_at hl 0 rfl) ?_
  obtain ⟨hPc, hDc, hFc⟩ := xcut (wc := [(a0, .inr (5, [v3, .ref a2, .int 1, v4, v5, v6, v7, v8, v9, v10, v11, v12, v13, v14, v15, .ref a1, .int 0, .int 4, v16, v17, v18, v19, v20, v21, v22, v23, v24, v25, v26, v27, v28, v29])), (a1, .inl (cT 0, 4096, .inl f30))]) hP hD hS hA [1, 2] rfl rfl (by decide)
  refine va_calli (va_runV (C := "ValueBenchModel") (As := []) (rest := []) ⟨hx, hb, hml, hown, htx⟩ (cM_peek_1 l hl9 D cT aK aV H.size a0 a1 v3 (.ref a2) (.int 1) v4 v5 v6 v7 v8 v9 v10 v11 v12 v13 v14 v15 v16 v17 v18 v19 v20 v21 v22 v23 v24 v25 v26 v27 v28 v29 f30 (by first | rfl | exact h31 | exact h32 | exact h33 | exact h34 | exact h36)) ⟨callB_of 0 htx (xw_goodC kw_5_233) rfl rfl rfl (htx _ kw_1_5) (htx _ kw_5_230) ⟨by decide, by decide, by decide +kernel⟩ ⟨Nat.le_of_ble_eq_true rfl, Nat.le_of_ble_eq_true rfl⟩, (htx _ kw_5_232), (htx _ kp_M_peek)⟩ ⟨xPre_blind, va_recv hK hP (ci := 5) rfl (q0 := 1) rfl, (fun U hU hW => ⟨rfl, xPre_of hZ hS hFc hPc hDc hK U hU hW⟩)⟩ rfl rfl hl.1 rfl (lv_room (Nat.le_of_ble_eq_true rfl)) dM_value_5 ⟨Nat.le_of_ble_eq_true rfl, Nat.le_of_ble_eq_true rfl⟩) hS (fun q _ h => hFc q h) hFc (fun r1 u9 t H1 locs ht hvm hr9 hB hz1 hk1 hS => ?_)
  obtain ⟨hP1, hK1, hD1⟩ := hB
  rw [ht] at hP1
  obtain ⟨hP, hD⟩ := xjoin (W := [(a2, .inl (cT 4, 1024, .inr (.inr (.inr (.inr f35))))), (a0, .inr (5, [v3, .ref a2, .int 1, v4, v5, v6, v7, v8, v9, v10, v11, v12, v13, v14, v15, .ref a1, .int 0, .int 4, v16, v17, v18, v19, v20, v21, v22, v23, v24, v25, v26, v27, v28, v29])), (a1, .inl (cT 0, 4096, .inl f30))]) hP hD [1, 2] [0] 1 rfl rfl (by decide) (by decide) hk1 hFc hP1 hD1
  generalize H1 = H at hP hS ⊢
  rw [hr9]
  refine W.eq (g2 := F0 m 8 ls [.int 110]) rfl ?_
  refine lv_istore_n (lv' := [(1, .int 110), (0, .ref a0)]) hx hb dM_value_8 rfl hl (by decide) rfl (fun ls hl => ?_)
  refine lv_iload_n hx hb dM_value_9 rfl (lv_at hl 0 rfl) ?_
  refine lv_bipush (v := 110) hx hb dM_value_10 (by decide) ?_
  refine lv_icmp_ne (tgt := 23) hx hb dM_value_12 (by decide) (fun h => ((by revert h; decide : False)).elim) (fun _ => ?_)
  refine lv_aload_n hx hb dM_value_15 rfl (lv_at hl 1 rfl) ?_
  refine va_ldcS (q := aK 10) hx hb hown (hZ.2.2.2.2.2.2.2.2.1 ("ValueBenchModel", 69, "null", 10) (List.mem_of_getElem? (i := 17) rfl)) dM_value_16 ?_
  refine lv_iconst (v := 0) hx hb dM_value_18 (by decide) ?_
  obtain ⟨hPc, hDc, hFc⟩ := xcut (wc := [(a0, .inr (5, [v3, .ref a2, .int 1, v4, v5, v6, v7, v8, v9, v10, v11, v12, v13, v14, v15, .ref a1, .int 0, .int 4, v16, v17, v18, v19, v20, v21, v22, v23, v24, v25, v26, v27, v28, v29])), (a1, .inl (cT 0, 4096, .inl f30)), (a2, .inl (cT 4, 1024, .inr (.inr (.inr (.inr f35)))))]) hP hD hS hA [1, 2, 0] rfl rfl (by decide)
  refine va_callr (va_runV (C := "ValueBenchModel") (As := [.ref (aK 10), .int 0]) (rest := []) ⟨hx, hb, hml, hown, htx⟩ (cM_says_1 l hl9 D cT aK aV H.size a0 a1 a2 v3 v4 v5 v6 v7 v8 v9 v10 v11 v12 v13 v14 v15 v16 v17 v18 v19 v20 v21 v22 v23 v24 v25 v26 v27 v28 v29 f30 f35 (by first | rfl | exact h31 | exact h32 | exact h33 | exact h34 | exact h36) (by first | rfl | exact h31 | exact h32 | exact h33 | exact h34 | exact h36) (by first | rfl | exact h31 | exact h32 | exact h33 | exact h34 | exact h36) (by first | rfl | exact h31 | exact h32 | exact h33 | exact h34 | exact h36) (by first | rfl | exact h31 | exact h32 | exact h33 | exact h34 | exact h36)) ⟨callB_of 2 htx (xw_goodC kw_5_237) rfl rfl rfl (htx _ kw_1_5) (htx _ kw_5_234) ⟨by decide, by decide, by decide +kernel⟩ ⟨Nat.le_of_ble_eq_true rfl, Nat.le_of_ble_eq_true rfl⟩, (htx _ kw_5_236), (htx _ kp_M_says)⟩ ⟨xPre_blind, va_recv hK hP (ci := 5) rfl (q0 := 1) rfl, (fun U hU hW => ⟨rfl, xPre_of hZ hS hFc hPc hDc hK U hU hW⟩)⟩ rfl rfl hl.1 rfl (lv_room (Nat.le_of_ble_eq_true rfl)) dM_value_19 ⟨Nat.le_of_ble_eq_true rfl, Nat.le_of_ble_eq_true rfl⟩) hS (fun q _ h => hFc q h) hFc (fun u9 r2 t H1 locs ht hvm hr9 hB hz1 hk1 hS => ?_)
  obtain ⟨hP1, hK1, hD1⟩ := hB
  rw [ht] at hP1
  obtain ⟨hP, hD⟩ := xjoin (W := [(a0, .inr (5, [v3, .ref a2, .int 2, v4, v5, v6, v7, v8, v9, v10, v11, v12, v13, v14, v15, .ref a1, .int 4, .int 4, v16, v17, v18, v19, v20, v21, v22, v23, v24, v25, v26, v27, v28, v29])), (a1, .inl (cT 0, 4096, .inl f30)), (a2, .inl (cT 4, 1024, .inr (.inr (.inr (.inr (va_up f35 1 (some r2))))))), (r2, .inr (6, [.int 0, .long 0, .int 0, .int 0, .int 0, .int 1]))]) hP hD [1, 2, 0] [] 0 rfl rfl (by decide) (by decide) hk1 hFc hP1 hD1
  generalize H1 = H at hP hS ⊢
  refine W.eq (g2 := F0 m 22 ls [.ref r2]) rfl ?_
  obtain ⟨hP9, hD9⟩ := xsub (wc := [(a0, .inr (5, [v3, .ref a2, .int 2, v4, v5, v6, v7, v8, v9, v10, v11, v12, v13, v14, v15, .ref a1, .int 4, .int 4, v16, v17, v18, v19, v20, v21, v22, v23, v24, v25, v26, v27, v28, v29])), (a1, .inl (cT 0, 4096, .inl f30)), (a2, .inl (cT 4, 1024, .inr (.inr (.inr (.inr (va_up f35 1 (some r2))))))), (r2, .inr (6, [.int 0, .long 0, .int 0, .int 0, .int 0, .int 1]))]) hP hD [0, 1, 2, 3] rfl rfl (by decide)
  refine W.widen (k := 1) (n := 6) (Nat.le_of_ble_eq_true rfl) (Nat.le_of_ble_eq_true rfl) ?_
  exact W.aret hx hb hr (Or.inl ⟨_, rfl⟩) (Or.inr ⟨_, rfl⟩) (fun t ht hW => ⟨⟨(), r2, rfl, trivial, by rw [ht]; exact hP9, va_K.moved hW.alike hK, hD9⟩, hS.F ht⟩) hS.2.2 dM_value_22
set_option maxHeartbeats 400000000 in
set_option maxRecDepth 100000 in
theorem cM_json_2 (l : Launch) (hl9 : l.stackTraces = false) (D : va_G) (cT : Nat → ClassId) (aK aV : Nat → Nat) (sz : Nat) (a0 : Nat) (a1 : Nat) (a2 : Nat) (v3 : Value) (v4 : Value) (v5 : Value) (v6 : Value) (v7 : Value) (v8 : Value) (v9 : Value) (v10 : Value) (v11 : Value) (v12 : Value) (v13 : Value) (v14 : Value) (v15 : Value) (v16 : Value) (v17 : Value) (v18 : Value) (v19 : Value) (v20 : Value) (v21 : Value) (v22 : Value) (v23 : Value) (v24 : Value) (v25 : Value) (v26 : Value) (v27 : Value) (v28 : Value) (v29 : Value) (v30 : Value) (v31 : Value) (v32 : Value) (f33 : Nat → Int32) (f38 : Nat → Option Nat) (h34 : f33 0 = 110) (h35 : f33 1 = 117) (h36 : f33 2 = 108) (h37 : f33 3 = 108) (h39 : f38 1 = none) : xMet l yM_json wyM_json 6 1 6 130 D cT aK aV sz [.ref a0, .ref a1, .int 0, .int 4] [(a0, .inr (5, [v3, .ref a2, .int 1, v4, v5, v6, v7, v8, v9, v10, v11, v12, v13, v14, v15, v16, v17, v18, v19, v20, v21, v22, v23, v24, v25, v26, v27, v28, v29, v30, v31, v32])), (a1, .inl (cT 0, 4096, .inl f33)), (a2, .inl (cT 4, 1024, .inr (.inr (.inr (.inr f38)))))] (fun A => va_Qr (fun _ : Unit => True) (fun _ r1 t => xB D xcl cT A [(a0, .inr (5, [v3, .ref a2, .int 2, v4, v5, v6, v7, v8, v9, v10, v11, v12, v13, v14, v15, .ref a1, .int 4, .int 4, .int 0, v20, v21, v22, v23, v24, v25, v26, v27, v28, v29, v30, v31, v32])), (a1, .inl (cT 0, 4096, .inl f33)), (a2, .inl (cT 4, 1024, .inr (.inr (.inr (.inr (va_up f38 1 (some r1))))))), (r1, .inr (6, [.int 0, .long 0, .int 0, .int 0, .int 0, .int 1]))] t) A) := by
  refine Met.ofW (cc := prog_13_method_32_code) (maxL := 5) (ret := (some (.object "ValueBenchModel$V"))) (by decide) rfl ?_
  intro p e s m args below meth c s₁ B hml hv
  obtain ⟨rfl, hsz, hZ, hP, hK, hD0⟩ := hv
  have hx := B.exec
  have hb := B.bytes
  have hr := B.returns
  have hts := atoms_spec (ws := wyM_json) B.pre
  have htx := fun w h => hts w (List.mem_cons_of_mem _ h)
  have hown : s.vm.findClass "ValueBenchModel" = some m.cls := findClass_of_methodNamed B.named
  have hlocks := B.notSynchronized
  subst hsz
  have hD := hD0.self (sz := s.heap.size)
  generalize hAe : va_A [(a0, .inr (5, [v3, .ref a2, .int 1, v4, v5, v6, v7, v8, v9, v10, v11, v12, v13, v14, v15, v16, v17, v18, v19, v20, v21, v22, v23, v24, v25, v26, v27, v28, v29, v30, v31, v32])), (a1, .inl (cT 0, 4096, .inl f33)), (a2, .inl (cT 4, 1024, .inr (.inr (.inr (.inr f38)))))] s.heap.size = A at hD hZ ⊢
  have hA : ∀ q : Nat, s.heap.size ≤ q → A q := fun q h => by rw [← hAe]; exact Or.inr h
  have hS : va_S A s.heap s.heap [] := va_S.rf
  have hP : va_P D xcl [(a0, .inr (5, [v3, .ref a2, .int 1, v4, v5, v6, v7, v8, v9, v10, v11, v12, v13, v14, v15, v16, v17, v18, v19, v20, v21, v22, v23, v24, v25, v26, v27, v28, v29, v30, v31, v32])), (a1, .inl (cT 0, 4096, .inl f33)), (a2, .inl (cT 4, 1024, .inr (.inr (.inr (.inr f38)))))] s.heap := hP
  have hl := lv_entry ([.ref a0, .ref a1, .int 0, .int 4]) (n := 5) (Nat.le_of_ble_eq_true rfl)
  rw [lg_entry_eq]
  generalize (lg_sl ([.ref a0, .ref a1, .int 0, .int 4]) ++ List.replicate (5 - (lg_sl ([.ref a0, .ref a1, .int 0, .int 4])).length) Slot.unset).toArray = ls at hl ⊢
  have hl : lv_has ls 5 [(0, .ref a0), (1, .ref a1), (2, .int 0), (3, .int 4)] := hl
  refine lv_aload_n hx hb dM_json_0 rfl (lv_at hl 0 rfl) ?_
  refine lv_aload_n hx hb dM_json_1 rfl (lv_at hl 1 rfl) ?_
  refine va_put (D := D) (ci := 5) (v := .ref a1) (ty := (.array .byte)) (C := "ValueBenchModel") (T := TM) (N := 32) hx hb htx inM tyM tyM_ok nmM hown hK hP hD hS 0 rfl rfl 15 (by decide) (htx _ kw_5_102) (fun _ h9 => h9) rfl (by decide +kernel) rfl rfl (Nat.le_of_ble_eq_true rfl) dM_json_2 (fun H locs hP hD hS => ?_)
  obtain ⟨hP, hD⟩ : xPD D xcl A [(a0, .inr (5, [v3, .ref a2, .int 1, v4, v5, v6, v7, v8, v9, v10, v11, v12, v13, v14, v15, .ref a1, v17, v18, v19, v20, v21, v22, v23, v24, v25, v26, v27, v28, v29, v30, v31, v32])), (a1, .inl (cT 0, 4096, .inl f33)), (a2, .inl (cT 4, 1024, .inr (.inr (.inr (.inr f38)))))] H := ⟨hP, hD⟩
  refine lv_aload_n hx hb dM_json_5 rfl (lv_at hl 0 rfl) ?_
  refine lv_iload_n hx hb dM_json_6 rfl (lv_at hl 2 rfl) ?_
  refine va_put (D := D) (ci := 5) (v := .int 0) (ty := .int) (C := "ValueBenchModel") (T := TM) (N := 32) hx hb htx inM tyM tyM_ok nmM hown hK hP hD hS 0 rfl rfl 16 (by decide) (htx _ kw_5_103) (fun _ h9 => h9) rfl (by decide +kernel) rfl rfl (Nat.le_of_ble_eq_true rfl) dM_json_7 (fun H locs hP hD hS => ?_)
  obtain ⟨hP, hD⟩ : xPD D xcl A [(a0, .inr (5, [v3, .ref a2, .int 1, v4, v5, v6, v7, v8, v9, v10, v11, v12, v13, v14, v15, .ref a1, .int 0, v18, v19, v20, v21, v22, v23, v24, v25, v26, v27, v28, v29, v30, v31, v32])), (a1, .inl (cT 0, 4096, .inl f33)), (a2, .inl (cT 4, 1024, .inr (.inr (.inr (.inr f38)))))] H := ⟨hP, hD⟩
  refine lv_aload_n hx hb dM_json_10 rfl (lv_at hl 0 rfl) ?_
  refine lv_iload_n hx hb dM_json_11 rfl (lv_at hl 3 rfl) ?_
  refine va_put (D := D) (ci := 5) (v := .int 4) (ty := .int) (C := "ValueBenchModel") (T := TM) (N := 32) hx hb htx inM tyM tyM_ok nmM hown hK hP hD hS 0 rfl rfl 17 (by decide) (htx _ kw_5_104) (fun _ h9 => h9) rfl (by decide +kernel) rfl rfl (Nat.le_of_ble_eq_true rfl) dM_json_12 (fun H locs hP hD hS => ?_)
  obtain ⟨hP, hD⟩ : xPD D xcl A [(a0, .inr (5, [v3, .ref a2, .int 1, v4, v5, v6, v7, v8, v9, v10, v11, v12, v13, v14, v15, .ref a1, .int 0, .int 4, v19, v20, v21, v22, v23, v24, v25, v26, v27, v28, v29, v30, v31, v32])), (a1, .inl (cT 0, 4096, .inl f33)), (a2, .inl (cT 4, 1024, .inr (.inr (.inr (.inr f38)))))] H := ⟨hP, hD⟩
  refine lv_aload_n hx hb dM_json_15 rfl (lv_at hl 0 rfl) ?_
  refine lv_iconst (v := 0) hx hb dM_json_16 (by decide) ?_
  refine va_put (D := D) (ci := 5) (v := .int 0) (ty := .int) (C := "ValueBenchModel") (T := TM) (N := 32) hx hb htx inM tyM tyM_ok nmM hown hK hP hD hS 0 rfl rfl 18 (by decide) (htx _ kw_5_105) (fun _ h9 => h9) rfl (by decide +kernel) rfl rfl (Nat.le_of_ble_eq_true rfl) dM_json_17 (fun H locs hP hD hS => ?_)
  obtain ⟨hP, hD⟩ : xPD D xcl A [(a0, .inr (5, [v3, .ref a2, .int 1, v4, v5, v6, v7, v8, v9, v10, v11, v12, v13, v14, v15, .ref a1, .int 0, .int 4, .int 0, v20, v21, v22, v23, v24, v25, v26, v27, v28, v29, v30, v31, v32])), (a1, .inl (cT 0, 4096, .inl f33)), (a2, .inl (cT 4, 1024, .inr (.inr (.inr (.inr f38)))))] H := ⟨hP, hD⟩
  refine lv_aload_n hx hb dM_json_20 rfl (lv_at hl 0 rfl) ?_
  obtain ⟨hPc, hDc, hFc⟩ := xcut (wc := [(a0, .inr (5, [v3, .ref a2, .int 1, v4, v5, v6, v7, v8, v9, v10, v11, v12, v13, v14, v15, .ref a1, .int 0, .int 4, .int 0, v20, v21, v22, v23, v24, v25, v26, v27, v28, v29, v30, v31, v32])), (a1, .inl (cT 0, 4096, .inl f33)), (a2, .inl (cT 4, 1024, .inr (.inr (.inr (.inr f38)))))]) hP hD hS hA [0, 1, 2] rfl rfl (by decide)
  refine va_callr (va_runV (C := "ValueBenchModel") (As := []) (rest := []) ⟨hx, hb, hml, hown, htx⟩ (cM_value_2 l hl9 D cT aK aV H.size a0 a1 a2 v3 v4 v5 v6 v7 v8 v9 v10 v11 v12 v13 v14 v15 (.int 0) v20 v21 v22 v23 v24 v25 v26 v27 v28 v29 v30 v31 v32 f33 f38 (by first | rfl | exact h34 | exact h35 | exact h36 | exact h37 | exact h39) (by first | rfl | exact h34 | exact h35 | exact h36 | exact h37 | exact h39) (by first | rfl | exact h34 | exact h35 | exact h36 | exact h37 | exact h39) (by first | rfl | exact h34 | exact h35 | exact h36 | exact h37 | exact h39) (by first | rfl | exact h34 | exact h35 | exact h36 | exact h37 | exact h39)) ⟨callB_of 0 htx (xw_goodC kw_5_225) rfl rfl rfl (htx _ kw_1_5) (htx _ kw_5_222) ⟨by decide, by decide, by decide +kernel⟩ ⟨Nat.le_of_ble_eq_true rfl, Nat.le_of_ble_eq_true rfl⟩, (htx _ kw_5_224), (htx _ kp_M_value)⟩ ⟨xPre_blind, va_recv hK hP (ci := 5) rfl (q0 := 0) rfl, (fun U hU hW => ⟨rfl, xPre_of hZ hS hFc hPc hDc hK U hU hW⟩)⟩ rfl rfl hl.1 rfl (lv_room (Nat.le_of_ble_eq_true rfl)) dM_json_21 ⟨Nat.le_of_ble_eq_true rfl, Nat.le_of_ble_eq_true rfl⟩) hS (fun q _ h => hFc q h) hFc (fun u9 r1 t H1 locs ht hvm hr9 hB hz1 hk1 hS => ?_)
  obtain ⟨hP1, hK1, hD1⟩ := hB
  rw [ht] at hP1
  obtain ⟨hP, hD⟩ := xjoin (W := [(a0, .inr (5, [v3, .ref a2, .int 2, v4, v5, v6, v7, v8, v9, v10, v11, v12, v13, v14, v15, .ref a1, .int 4, .int 4, .int 0, v20, v21, v22, v23, v24, v25, v26, v27, v28, v29, v30, v31, v32])), (a1, .inl (cT 0, 4096, .inl f33)), (a2, .inl (cT 4, 1024, .inr (.inr (.inr (.inr (va_up f38 1 (some r1))))))), (r1, .inr (6, [.int 0, .long 0, .int 0, .int 0, .int 0, .int 1]))]) hP hD [0, 1, 2] [] 0 rfl rfl (by decide) (by decide) hk1 hFc hP1 hD1
  generalize H1 = H at hP hS ⊢
  refine W.eq (g2 := F0 m 24 ls [.ref r1]) rfl ?_
  refine lv_astore (lv' := [(4, .ref r1), (0, .ref a0), (1, .ref a1), (2, .int 0), (3, .int 4)]) hx hb dM_json_24 hl (by decide) rfl (fun ls hl => ?_)
  refine lv_aload_n hx hb dM_json_26 rfl (lv_at hl 1 rfl) ?_
  obtain ⟨hPc, hDc, hFc⟩ := xcut (wc := [(a0, .inr (5, [v3, .ref a2, .int 2, v4, v5, v6, v7, v8, v9, v10, v11, v12, v13, v14, v15, .ref a1, .int 4, .int 4, .int 0, v20, v21, v22, v23, v24, v25, v26, v27, v28, v29, v30, v31, v32]))]) hP hD hS hA [0] rfl rfl (by decide)
  refine va_callv (va_runV (C := "ValueBenchModel") (As := []) (rest := []) ⟨hx, hb, hml, hown, htx⟩ (cM_blanks_2 l hl9 D cT aK aV H.size a0 v3 (.ref a2) (.int 2) v4 v5 v6 v7 v8 v9 v10 v11 v12 v13 v14 v15 (.ref a1) (.int 0) v20 v21 v22 v23 v24 v25 v26 v27 v28 v29 v30 v31 v32) ⟨callB_of 0 htx (xw_goodC kw_5_229) rfl rfl rfl (htx _ kw_1_5) (htx _ kw_5_226) ⟨by decide, by decide, by decide +kernel⟩ ⟨Nat.le_of_ble_eq_true rfl, Nat.le_of_ble_eq_true rfl⟩, (htx _ kw_5_228), (htx _ kp_M_blanks)⟩ ⟨xPre_blind, va_recv hK hP (ci := 5) rfl (q0 := 0) rfl, (fun U hU hW => ⟨rfl, xPre_of hZ hS hFc hPc hDc hK U hU hW⟩)⟩ rfl rfl hl.1 rfl (lv_room (Nat.le_of_ble_eq_true rfl)) dM_json_27 ⟨Nat.le_of_ble_eq_true rfl, Nat.le_of_ble_eq_true rfl⟩) hS (fun q _ h => hFc q h) hFc (fun u9 t H1 locs ht hvm hr9 hB hz1 hk1 hS => ?_)
  obtain ⟨hP1, hK1, hD1⟩ := hB
  rw [ht] at hP1
  obtain ⟨hP, hD⟩ := xjoin (W := [(a1, .inl (cT 0, 4096, .inl f33)), (a2, .inl (cT 4, 1024, .inr (.inr (.inr (.inr (va_up f38 1 (some r1))))))), (r1, .inr (6, [.int 0, .long 0, .int 0, .int 0, .int 0, .int 1])), (a0, .inr (5, [v3, .ref a2, .int 2, v4, v5, v6, v7, v8, v9, v10, v11, v12, v13, v14, v15, .ref a1, .int 4, .int 4, .int 0, v20, v21, v22, v23, v24, v25, v26, v27, v28, v29, v30, v31, v32]))]) hP hD [0] [1, 2, 3] 3 rfl rfl (by decide) (by decide) hk1 hFc hP1 hD1
  generalize H1 = H at hP hS ⊢
  refine lv_aload_n hx hb dM_json_30 rfl (lv_at hl 1 rfl) ?_
  refine va_get (D := D) (ci := 5) (v := .int 4) (C := "ValueBenchModel") (T := TM) (N := 32) hx hb htx inM hown hK hP 3 rfl rfl 16 (by decide) (htx _ kw_5_103) (fun _ h9 => h9) rfl dM_json_31 ?_
  refine lv_aload_n hx hb dM_json_34 rfl (lv_at hl 1 rfl) ?_
  refine va_get (D := D) (ci := 5) (v := .int 4) (C := "ValueBenchModel") (T := TM) (N := 32) hx hb htx inM hown hK hP 3 rfl rfl 17 (by decide) (htx _ kw_5_104) (fun _ h9 => h9) rfl dM_json_35 ?_
  refine lv_icmp_ge (tgt := 49) hx hb dM_json_38 (by decide) (fun _ => ?_) (fun h => ((by revert h; decide : False)).elim)
  refine lv_aload hx hb dM_json_49 (lv_at hl 0 rfl) ?_
  obtain ⟨hP9, hD9⟩ := xsub (wc := [(a0, .inr (5, [v3, .ref a2, .int 2, v4, v5, v6, v7, v8, v9, v10, v11, v12, v13, v14, v15, .ref a1, .int 4, .int 4, .int 0, v20, v21, v22, v23, v24, v25, v26, v27, v28, v29, v30, v31, v32])), (a1, .inl (cT 0, 4096, .inl f33)), (a2, .inl (cT 4, 1024, .inr (.inr (.inr (.inr (va_up f38 1 (some r1))))))), (r1, .inr (6, [.int 0, .long 0, .int 0, .int 0, .int 0, .int 1]))]) hP hD [3, 0, 1, 2] rfl rfl (by decide)
  refine W.widen (k := 1) (n := 6) (Nat.le_of_ble_eq_true rfl) (Nat.le_of_ble_eq_true rfl) ?_
  exact W.aret hx hb hr (Or.inl ⟨_, rfl⟩) (Or.inr ⟨_, rfl⟩) (fun t ht hW => ⟨⟨(), r1, rfl, trivial, by rw [ht]; exact hP9, va_K.moved hW.alike hK, hD9⟩, hS.F ht⟩) hS.2.2 dM_json_51
set_option maxHeartbeats 400000000 in
set_option maxRecDepth 100000 in
theorem cM_register_1 (l : Launch) (hl9 : l.stackTraces = false) (D : va_G) (cT : Nat → ClassId) (aK aV : Nat → Nat) (sz : Nat) (a0 : Nat) (a1 : Nat) (a2 : Nat) (a3 : Nat) (a4 : Nat) (x5 : Int32) (v10 : Value) (v11 : Value) (v12 : Value) (v13 : Value) (v14 : Value) (v15 : Value) (v16 : Value) (v17 : Value) (v18 : Value) (v19 : Value) (v20 : Value) (v21 : Value) (v22 : Value) (v23 : Value) (v24 : Value) (v25 : Value) (v26 : Value) (v27 : Value) (v28 : Value) (v29 : Value) (v30 : Value) (v31 : Value) (v32 : Value) (v33 : Value) (v34 : Value) (v35 : Value) (v36 : Value) (v37 : Value) (f38 : Nat → Option Nat) (f40 : Nat → Int32) (f42 : Nat → Int32) (f47 : Nat → Option Nat) (h6 : ¬ x5 < 0) (h7 : ¬ 7 < x5) (h8 : x5 ≤ 7) (h9 : vp_in x5 8) (h39 : f38 x5.toNatClampNeg = some a3) (h41 : f40 x5.toNatClampNeg = 4) (h43 : f42 0 = 110) (h44 : f42 1 = 117) (h45 : f42 2 = 108) (h46 : f42 3 = 108) (h48 : f47 1 = none) : xMet l yM_register wyM_register 7 1 6 154 D cT aK aV sz [.ref a0, .int x5] [(a0, .inr (5, [v10, .ref a4, .int 1, v11, v12, v13, v14, v15, v16, v17, v18, v19, v20, v21, v22, v23, v24, v25, v26, v27, v28, v29, v30, v31, .ref a1, .ref a2, v32, v33, v34, v35, v36, v37])), (a1, .inl (cT 5, 8, .inr (.inr (.inr (.inr f38))))), (a2, .inl (cT 1, 8, .inl f40)), (a3, .inl (cT 0, 4096, .inl f42)), (a4, .inl (cT 4, 1024, .inr (.inr (.inr (.inr f47)))))] (fun A => va_Qr (fun _ : Unit => True) (fun _ r1 t => xB D xcl cT A [(a0, .inr (5, [v10, .ref a4, .int 2, v11, v12, v13, v14, v15, v16, v17, v18, v19, v20, v21, v22, .ref a3, .int 4, .int 4, .int 0, .int 100, v28, v29, v30, v31, .ref a1, .ref a2, v32, v33, v34, v35, v36, v37])), (a1, .inl (cT 5, 8, .inr (.inr (.inr (.inr f38))))), (a2, .inl (cT 1, 8, .inl f40)), (a3, .inl (cT 0, 4096, .inl f42)), (a4, .inl (cT 4, 1024, .inr (.inr (.inr (.inr (va_up f47 1 (some r1))))))), (r1, .inr (6, [.int 0, .long 0, .int 0, .int 0, .int 0, .int 1]))] t) A) := by
  refine Met.ofW (cc := prog_13_method_79_code) (maxL := 2) (ret := (some (.object "ValueBenchModel$V"))) (by decide) rfl ?_
  intro p e s m args below meth c s₁ B hml hv
  obtain ⟨rfl, hsz, hZ, hP, hK, hD0⟩ := hv
  have hx := B.exec
  have hb := B.bytes
  have hr := B.returns
  have hts := atoms_spec (ws := wyM_register) B.pre
  have htx := fun w h => hts w (List.mem_cons_of_mem _ h)
  have hown : s.vm.findClass "ValueBenchModel" = some m.cls := findClass_of_methodNamed B.named
  have hlocks := B.notSynchronized
  subst hsz
  have hD := hD0.self (sz := s.heap.size)
  generalize hAe : va_A [(a0, .inr (5, [v10, .ref a4, .int 1, v11, v12, v13, v14, v15, v16, v17, v18, v19, v20, v21, v22, v23, v24, v25, v26, v27, v28, v29, v30, v31, .ref a1, .ref a2, v32, v33, v34, v35, v36, v37])), (a1, .inl (cT 5, 8, .inr (.inr (.inr (.inr f38))))), (a2, .inl (cT 1, 8, .inl f40)), (a3, .inl (cT 0, 4096, .inl f42)), (a4, .inl (cT 4, 1024, .inr (.inr (.inr (.inr f47)))))] s.heap.size = A at hD hZ ⊢
  have hA : ∀ q : Nat, s.heap.size ≤ q → A q := fun q h => by rw [← hAe]; exact Or.inr h
  have hS : va_S A s.heap s.heap [] := va_S.rf
  have hP : va_P D xcl [(a0, .inr (5, [v10, .ref a4, .int 1, v11, v12, v13, v14, v15, v16, v17, v18, v19, v20, v21, v22, v23, v24, v25, v26, v27, v28, v29, v30, v31, .ref a1, .ref a2, v32, v33, v34, v35, v36, v37])), (a1, .inl (cT 5, 8, .inr (.inr (.inr (.inr f38))))), (a2, .inl (cT 1, 8, .inl f40)), (a3, .inl (cT 0, 4096, .inl f42)), (a4, .inl (cT 4, 1024, .inr (.inr (.inr (.inr f47)))))] s.heap := hP
  have hl := lv_entry ([.ref a0, .int x5]) (n := 2) (Nat.le_of_ble_eq_true rfl)
  rw [lg_entry_eq]
  generalize (lg_sl ([.ref a0, .int x5]) ++ List.replicate (2 - (lg_sl ([.ref a0, .int x5])).length) Slot.unset).toArray = ls at hl ⊢
  have hl : lv_has ls 2 [(0, .ref a0), (1, .int x5)] := hl
  refine lv_aload_n hx hb dM_register_0 rfl (lv_at hl 0 rfl) ?_
  refine lv_bipush (v := 100) hx hb dM_register_1 (by decide) ?_
  refine va_put (D := D) (ci := 5) (v := .int 100) (ty := .int) (C := "ValueBenchModel") (T := TM) (N := 32) hx hb htx inM tyM tyM_ok nmM hown hK hP hD hS 0 rfl rfl 19 (by decide) (htx _ kw_5_106) (fun _ h9 => h9) rfl (by decide +kernel) rfl rfl (Nat.le_of_ble_eq_true rfl) dM_register_3 (fun H locs hP hD hS => ?_)
  obtain ⟨hP, hD⟩ : xPD D xcl A [(a0, .inr (5, [v10, .ref a4, .int 1, v11, v12, v13, v14, v15, v16, v17, v18, v19, v20, v21, v22, v23, v24, v25, v26, .int 100, v28, v29, v30, v31, .ref a1, .ref a2, v32, v33, v34, v35, v36, v37])), (a1, .inl (cT 5, 8, .inr (.inr (.inr (.inr f38))))), (a2, .inl (cT 1, 8, .inl f40)), (a3, .inl (cT 0, 4096, .inl f42)), (a4, .inl (cT 4, 1024, .inr (.inr (.inr (.inr f47)))))] H := ⟨hP, hD⟩
  refine lv_aload_n hx hb dM_register_6 rfl (lv_at hl 0 rfl) ?_
  refine lv_aload_n hx hb dM_register_7 rfl (lv_at hl 0 rfl) ?_
  refine va_get (D := D) (ci := 5) (v := .ref a1) (C := "ValueBenchModel") (T := TM) (N := 32) hx hb htx inM hown hK hP 0 rfl rfl 24 (by decide) (htx _ kw_5_111) (fun _ h9 => h9) rfl dM_register_8 ?_
  refine lv_iload_n hx hb dM_register_11 rfl (lv_at hl 1 rfl) ?_
  refine xx_aldA hx hb hK hP 1 5 rfl rfl h9 dM_register_12 ?_
  refine W.eq (g2 := F0 m 13 ls [va_rf (f38 x5.toNatClampNeg), .ref a0]) rfl ?_
  rw [h39]
  refine W.eq (g2 := F0 m 13 ls [.ref a3, .ref a0]) rfl ?_
  refine lv_iconst (v := 0) hx hb dM_register_13 (by decide) ?_
  refine lv_aload_n hx hb dM_register_14 rfl (lv_at hl 0 rfl) ?_
  refine va_get (D := D) (ci := 5) (v := .ref a2) (C := "ValueBenchModel") (T := TM) (N := 32) hx hb htx inM hown hK hP 0 rfl rfl 25 (by decide) (htx _ kw_5_112) (fun _ h9 => h9) rfl dM_register_15 ?_
  refine lv_iload_n hx hb dM_register_18 rfl (lv_at hl 1 rfl) ?_
  refine va_iald hx hb hK hP 2 1 rfl rfl h9 dM_register_19 ?_
  refine W.eq (g2 := F0 m 20 ls [.int (f40 x5.toNatClampNeg), .int 0, .ref a3, .ref a0]) rfl ?_
  rw [h41]
  refine W.eq (g2 := F0 m 20 ls [.int 4, .int 0, .ref a3, .ref a0]) rfl ?_
  obtain ⟨hPc, hDc, hFc⟩ := xcut (wc := [(a0, .inr (5, [v10, .ref a4, .int 1, v11, v12, v13, v14, v15, v16, v17, v18, v19, v20, v21, v22, v23, v24, v25, v26, .int 100, v28, v29, v30, v31, .ref a1, .ref a2, v32, v33, v34, v35, v36, v37])), (a3, .inl (cT 0, 4096, .inl f42)), (a4, .inl (cT 4, 1024, .inr (.inr (.inr (.inr f47)))))]) hP hD hS hA [0, 3, 4] rfl rfl (by decide)
  refine va_callr (va_runV (C := "ValueBenchModel") (As := [.ref a3, .int 0, .int 4]) (rest := []) ⟨hx, hb, hml, hown, htx⟩ (cM_json_2 l hl9 D cT aK aV H.size a0 a3 a4 v10 v11 v12 v13 v14 v15 v16 v17 v18 v19 v20 v21 v22 v23 v24 v25 v26 (.int 100) v28 v29 v30 v31 (.ref a1) (.ref a2) v32 v33 v34 v35 v36 v37 f42 f47 (by first | rfl | exact h39 | exact h41 | exact h43 | exact h44 | exact h45 | exact h46 | exact h48) (by first | rfl | exact h39 | exact h41 | exact h43 | exact h44 | exact h45 | exact h46 | exact h48) (by first | rfl | exact h39 | exact h41 | exact h43 | exact h44 | exact h45 | exact h46 | exact h48) (by first | rfl | exact h39 | exact h41 | exact h43 | exact h44 | exact h45 | exact h46 | exact h48) (by first | rfl | exact h39 | exact h41 | exact h43 | exact h44 | exact h45 | exact h46 | exact h48)) ⟨callB_of 3 htx (xw_goodC kw_5_221) rfl rfl rfl (htx _ kw_1_5) (htx _ kw_5_218) ⟨by decide, by decide, by decide +kernel⟩ ⟨Nat.le_of_ble_eq_true rfl, Nat.le_of_ble_eq_true rfl⟩, (htx _ kw_5_220), (htx _ kp_M_json)⟩ ⟨xPre_blind, va_recv hK hP (ci := 5) rfl (q0 := 0) rfl, (fun U hU hW => ⟨rfl, xPre_of hZ hS hFc hPc hDc hK U hU hW⟩)⟩ rfl rfl hl.1 rfl (lv_room (Nat.le_of_ble_eq_true rfl)) dM_register_20 ⟨Nat.le_of_ble_eq_true rfl, Nat.le_of_ble_eq_true rfl⟩) hS (fun q _ h => hFc q h) hFc (fun u9 r1 t H1 locs ht hvm hr9 hB hz1 hk1 hS => ?_)
  obtain ⟨hP1, hK1, hD1⟩ := hB
  rw [ht] at hP1
  obtain ⟨hP, hD⟩ := xjoin (W := [(a1, .inl (cT 5, 8, .inr (.inr (.inr (.inr f38))))), (a2, .inl (cT 1, 8, .inl f40)), (a0, .inr (5, [v10, .ref a4, .int 2, v11, v12, v13, v14, v15, v16, v17, v18, v19, v20, v21, v22, .ref a3, .int 4, .int 4, .int 0, .int 100, v28, v29, v30, v31, .ref a1, .ref a2, v32, v33, v34, v35, v36, v37])), (a3, .inl (cT 0, 4096, .inl f42)), (a4, .inl (cT 4, 1024, .inr (.inr (.inr (.inr (va_up f47 1 (some r1))))))), (r1, .inr (6, [.int 0, .long 0, .int 0, .int 0, .int 0, .int 1]))]) hP hD [0, 3, 4] [1, 2] 2 rfl rfl (by decide) (by decide) hk1 hFc hP1 hD1
  generalize H1 = H at hP hS ⊢
  refine W.eq (g2 := F0 m 23 ls [.ref r1]) rfl ?_
  obtain ⟨hP9, hD9⟩ := xsub (wc := [(a0, .inr (5, [v10, .ref a4, .int 2, v11, v12, v13, v14, v15, v16, v17, v18, v19, v20, v21, v22, .ref a3, .int 4, .int 4, .int 0, .int 100, v28, v29, v30, v31, .ref a1, .ref a2, v32, v33, v34, v35, v36, v37])), (a1, .inl (cT 5, 8, .inr (.inr (.inr (.inr f38))))), (a2, .inl (cT 1, 8, .inl f40)), (a3, .inl (cT 0, 4096, .inl f42)), (a4, .inl (cT 4, 1024, .inr (.inr (.inr (.inr (va_up f47 1 (some r1))))))), (r1, .inr (6, [.int 0, .long 0, .int 0, .int 0, .int 0, .int 1]))]) hP hD [2, 0, 1, 3, 4, 5] rfl rfl (by decide)
  refine W.widen (k := 1) (n := 6) (Nat.le_of_ble_eq_true rfl) (Nat.le_of_ble_eq_true rfl) ?_
  exact W.aret hx hb hr (Or.inl ⟨_, rfl⟩) (Or.inr ⟨_, rfl⟩) (fun t ht hW => ⟨⟨(), r1, rfl, trivial, by rw [ht]; exact hP9, va_K.moved hW.alike hK, hD9⟩, hS.F ht⟩) hS.2.2 dM_register_23
set_option maxHeartbeats 400000000 in
set_option maxRecDepth 100000 in
theorem cM_added_0 (l : Launch) (hl9 : l.stackTraces = false) (D : va_G) (cT : Nat → ClassId) (aK aV : Nat → Nat) (sz : Nat) (a0 : Nat) (b1 : Nat) (b2 : Nat) (v3 : Value) (v4 : Value) (v5 : Value) (v6 : Value) (v7 : Value) : xMet l yM_added wyM_added 0 0 0 0 D cT aK aV sz [.ref b1, .ref a0, .ref b2] [(a0, .inr (6, [.int 0, v3, v4, v5, v6, v7]))] (fun A => va_Qr (fun _ : Unit => True) (fun _ ra t => ra = b2 ∧ xB D xcl cT A [(a0, .inr (6, [.int 0, v3, v4, v5, v6, v7]))] t) A) := by
  refine Met.ofW (cc := prog_13_method_49_code) (maxL := 6) (ret := (some (.object "ValueBenchModel$V"))) (by decide) rfl ?_
  intro p e s m args below meth c s₁ B hml hv
  obtain ⟨rfl, hsz, hZ, hP, hK, hD0⟩ := hv
  have hx := B.exec
  have hb := B.bytes
  have hr := B.returns
  have hts := atoms_spec (ws := wyM_added) B.pre
  have htx := fun w h => hts w (List.mem_cons_of_mem _ h)
  have hown : s.vm.findClass "ValueBenchModel" = some m.cls := findClass_of_methodNamed B.named
  have hlocks := B.notSynchronized
  subst hsz
  have hD := hD0.self (sz := s.heap.size)
  generalize hAe : va_A [(a0, .inr (6, [.int 0, v3, v4, v5, v6, v7]))] s.heap.size = A at hD hZ ⊢
  have hA : ∀ q : Nat, s.heap.size ≤ q → A q := fun q h => by rw [← hAe]; exact Or.inr h
  have hS : va_S A s.heap s.heap [] := va_S.rf
  have hP : va_P D xcl [(a0, .inr (6, [.int 0, v3, v4, v5, v6, v7]))] s.heap := hP
  have hl := lv_entry ([.ref b1, .ref a0, .ref b2]) (n := 6) (Nat.le_of_ble_eq_true rfl)
  rw [lg_entry_eq]
  generalize (lg_sl ([.ref b1, .ref a0, .ref b2]) ++ List.replicate (6 - (lg_sl ([.ref b1, .ref a0, .ref b2])).length) Slot.unset).toArray = ls at hl ⊢
  have hl : lv_has ls 6 [(0, .ref b1), (1, .ref a0), (2, .ref b2)] := hl
  refine lv_aload_n hx hb dM_added_0 rfl (lv_at hl 1 rfl) ?_
  refine va_getN (D := D) (ci := 6) (v := .int 0) (C := "ValueBenchModel$V") (T := TV) (N := 6) hx hb htx inV hown hK hP 0 rfl rfl 0 (by decide) ((hZ.1 (93, "kind", "I") (List.mem_of_getElem? (i := 0) rfl)).use rfl) (fun _ h9 => h9) rfl dM_added_1 ?_
  refine lv_if_ne (tgt := 9) hx hb dM_added_4 (by decide) (fun h => ((by revert h; decide : False)).elim) (fun _ => ?_)
  refine lv_aload_n hx hb dM_added_7 rfl (lv_at hl 2 rfl) ?_
  obtain ⟨hP9, hD9⟩ := xsub (wc := [(a0, .inr (6, [.int 0, v3, v4, v5, v6, v7]))]) hP hD [0] rfl rfl (by decide)
  refine W.widen (k := 0) (n := 0) (Nat.le_of_ble_eq_true rfl) (Nat.le_of_ble_eq_true rfl) ?_
  exact W.aret hx hb hr (Or.inl ⟨_, rfl⟩) (Or.inr ⟨_, rfl⟩) (fun t ht hW => ⟨⟨(), b2, rfl, trivial, rfl, by rw [ht]; exact hP9, va_K.moved hW.alike hK, hD9⟩, hS.F ht⟩) hS.2.2 dM_added_8
set_option maxHeartbeats 400000000 in
set_option maxRecDepth 100000 in
theorem cM_binary1_0 (l : Launch) (hl9 : l.stackTraces = false) (D : va_G) (cT : Nat → ClassId) (aK aV : Nat → Nat) (sz : Nat) (a0 : Nat) (a1 : Nat) (b2 : Nat) (v3 : Value) (v4 : Value) (v5 : Value) (v6 : Value) (v7 : Value) (v8 : Value) (v9 : Value) (v10 : Value) (v11 : Value) (v12 : Value) (v13 : Value) (v14 : Value) (v15 : Value) (v16 : Value) (v17 : Value) (v18 : Value) (v19 : Value) (v20 : Value) (v21 : Value) (v22 : Value) (v23 : Value) (v24 : Value) (v25 : Value) (v26 : Value) (v27 : Value) (v28 : Value) (v29 : Value) (v30 : Value) (v31 : Value) (v32 : Value) (v33 : Value) (v34 : Value) (v35 : Value) (v36 : Value) (v37 : Value) (v38 : Value) (v39 : Value) : xMet l yM_binary1 wyM_binary1 1 0 0 25 D cT aK aV sz [.ref a0, .int 0, .ref a1, .ref b2] [(a0, .inr (5, [v3, v4, v5, v6, v7, v8, v9, v10, v11, v12, v13, v14, v15, v16, v17, v18, v19, v20, v21, v22, v23, v24, v25, v26, v27, v28, v29, v30, v31, v32, v33, v34])), (a1, .inr (6, [.int 0, v35, v36, v37, v38, v39]))] (fun A => va_Qr (fun _ : Unit => True) (fun _ ra t => ra = b2 ∧ xB D xcl cT A [(a0, .inr (5, [v3, v4, v5, v6, v7, v8, v9, v10, v11, v12, v13, v14, v15, v16, v17, v18, v19, v20, v21, v22, v23, v24, v25, v26, v27, v28, v29, v30, v31, v32, v33, v34])), (a1, .inr (6, [.int 0, v35, v36, v37, v38, v39]))] t) A) := by
  refine Met.ofW (cc := prog_13_method_48_code) (maxL := 4) (ret := (some (.object "ValueBenchModel$V"))) (by decide) rfl ?_
  intro p e s m args below meth c s₁ B hml hv
  obtain ⟨rfl, hsz, hZ, hP, hK, hD0⟩ := hv
  have hx := B.exec
  have hb := B.bytes
  have hr := B.returns
  have hts := atoms_spec (ws := wyM_binary1) B.pre
  have htx := fun w h => hts w (List.mem_cons_of_mem _ h)
  have hown : s.vm.findClass "ValueBenchModel" = some m.cls := findClass_of_methodNamed B.named
  have hlocks := B.notSynchronized
  subst hsz
  have hD := hD0.self (sz := s.heap.size)
  generalize hAe : va_A [(a0, .inr (5, [v3, v4, v5, v6, v7, v8, v9, v10, v11, v12, v13, v14, v15, v16, v17, v18, v19, v20, v21, v22, v23, v24, v25, v26, v27, v28, v29, v30, v31, v32, v33, v34])), (a1, .inr (6, [.int 0, v35, v36, v37, v38, v39]))] s.heap.size = A at hD hZ ⊢
  have hA : ∀ q : Nat, s.heap.size ≤ q → A q := fun q h => by rw [← hAe]; exact Or.inr h
  have hS : va_S A s.heap s.heap [] := va_S.rf
  have hP : va_P D xcl [(a0, .inr (5, [v3, v4, v5, v6, v7, v8, v9, v10, v11, v12, v13, v14, v15, v16, v17, v18, v19, v20, v21, v22, v23, v24, v25, v26, v27, v28, v29, v30, v31, v32, v33, v34])), (a1, .inr (6, [.int 0, v35, v36, v37, v38, v39]))] s.heap := hP
  have hl := lv_entry ([.ref a0, .int 0, .ref a1, .ref b2]) (n := 4) (Nat.le_of_ble_eq_true rfl)
  rw [lg_entry_eq]
  generalize (lg_sl ([.ref a0, .int 0, .ref a1, .ref b2]) ++ List.replicate (4 - (lg_sl ([.ref a0, .int 0, .ref a1, .ref b2])).length) Slot.unset).toArray = ls at hl ⊢
  have hl : lv_has ls 4 [(0, .ref a0), (1, .int 0), (2, .ref a1), (3, .ref b2)] := hl
  refine lv_iload_n hx hb dM_binary1_0 rfl (lv_at hl 1 rfl) ?_
  refine lv_tableIn (off := 31) (tgt := 32) hx hb dM_binary1_1 (by decide) (by decide) (by decide) (by decide) ?_
  refine lv_aload_n hx hb dM_binary1_32 rfl (lv_at hl 0 rfl) ?_
  refine lv_aload_n hx hb dM_binary1_33 rfl (lv_at hl 2 rfl) ?_
  refine lv_aload_n hx hb dM_binary1_34 rfl (lv_at hl 3 rfl) ?_
  obtain ⟨hPc, hDc, hFc⟩ := xcut (wc := [(a1, .inr (6, [.int 0, v35, v36, v37, v38, v39]))]) hP hD hS hA [1] rfl rfl (by decide)
  refine va_callr (va_runV (C := "ValueBenchModel") (As := [.ref a1, .ref b2]) (rest := []) ⟨hx, hb, hml, hown, htx⟩ (cM_added_0 l hl9 D cT aK aV s.heap.size a1 a0 b2 v35 v36 v37 v38 v39) ⟨callB_of 2 htx (xw_goodC kw_6_203) rfl rfl rfl (htx _ kw_1_5) (htx _ kw_6_200) ⟨by decide, by decide, by decide +kernel⟩ ⟨Nat.le_of_ble_eq_true rfl, Nat.le_of_ble_eq_true rfl⟩, (htx _ kw_6_202), (htx _ kp_M_added)⟩ ⟨xPre_blind, va_recv hK hP (ci := 5) rfl (q0 := 0) rfl, (fun U hU hW => ⟨rfl, xPre_of hZ hS hFc hPc hDc hK U hU hW⟩)⟩ rfl rfl hl.1 rfl (lv_room (Nat.le_of_ble_eq_true rfl)) dM_binary1_35 ⟨Nat.le_of_ble_eq_true rfl, Nat.le_of_ble_eq_true rfl⟩) hS (fun q _ h => hFc q h) hFc (fun u9 r1 t H1 locs ht hvm hr9 hB hz1 hk1 hS => ?_)
  obtain ⟨hra9, hP1, hK1, hD1⟩ := hB
  rw [ht] at hP1
  obtain ⟨hP, hD⟩ := xjoin (W := [(a0, .inr (5, [v3, v4, v5, v6, v7, v8, v9, v10, v11, v12, v13, v14, v15, v16, v17, v18, v19, v20, v21, v22, v23, v24, v25, v26, v27, v28, v29, v30, v31, v32, v33, v34])), (a1, .inr (6, [.int 0, v35, v36, v37, v38, v39]))]) hP hD [1] [0] 1 rfl rfl (by decide) (by decide) hk1 hFc hP1 hD1
  generalize H1 = H at hP hS ⊢
  rw [hra9]
  refine W.eq (g2 := F0 m 38 ls [.ref b2]) rfl ?_
  obtain ⟨hP9, hD9⟩ := xsub (wc := [(a0, .inr (5, [v3, v4, v5, v6, v7, v8, v9, v10, v11, v12, v13, v14, v15, v16, v17, v18, v19, v20, v21, v22, v23, v24, v25, v26, v27, v28, v29, v30, v31, v32, v33, v34])), (a1, .inr (6, [.int 0, v35, v36, v37, v38, v39]))]) hP hD [0, 1] rfl rfl (by decide)
  refine W.widen (k := 0) (n := 0) (Nat.le_of_ble_eq_true rfl) (Nat.le_of_ble_eq_true rfl) ?_
  exact W.aret hx hb hr (Or.inl ⟨_, rfl⟩) (Or.inr ⟨_, rfl⟩) (fun t ht hW => ⟨⟨(), b2, rfl, trivial, rfl, by rw [ht]; exact hP9, va_K.moved hW.alike hK, hD9⟩, hS.F ht⟩) hS.2.2 dM_binary1_38
set_option maxHeartbeats 400000000 in
set_option maxRecDepth 100000 in
theorem cM_put0_0 (l : Launch) (hl9 : l.stackTraces = false) (D : va_G) (cT : Nat → ClassId) (aK aV : Nat → Nat) (sz : Nat) (a0 : Nat) (a1 : Nat) (x2 : Int32) (v3 : Value) (v4 : Value) (v5 : Value) (v6 : Value) (v7 : Value) (v8 : Value) (v9 : Value) (v10 : Value) (v11 : Value) (v12 : Value) (v13 : Value) (v14 : Value) (v15 : Value) (v16 : Value) (v17 : Value) (v18 : Value) (v19 : Value) (v20 : Value) (v21 : Value) (v22 : Value) (v23 : Value) (v24 : Value) (v25 : Value) (v26 : Value) (v27 : Value) (v28 : Value) (v29 : Value) (v30 : Value) (v31 : Value) (f32 : Nat → Int32) : xMet l yM_put0 wyM_put0 0 0 0 0 D cT aK aV sz [.ref a0, .int x2] [(a0, .inr (5, [v3, v4, v5, v6, v7, v8, v9, v10, v11, v12, v13, v14, v15, v16, v17, v18, v19, v20, v21, v22, v23, .ref a1, .int 0, .int 4096, v24, v25, v26, v27, v28, v29, v30, v31])), (a1, .inl (cT 0, 1024, .inl f32))] (fun A => va_Qv (fun _ : Unit => True) (fun _ t => ∃ (y1 : Int32), xB D xcl cT A [(a0, .inr (5, [v3, v4, v5, v6, v7, v8, v9, v10, v11, v12, v13, v14, v15, v16, v17, v18, v19, v20, v21, v22, v23, .ref a1, .int 1, .int 4096, v24, v25, v26, v27, v28, v29, v30, v31])), (a1, .inl (cT 0, 1024, .inl (upd f32 0 (vp_nar .byte y1))))] t) A) := by
  refine Met.ofW (cc := prog_13_method_41_code) (maxL := 4) (ret := none) (by decide) rfl ?_
  intro p e s m args below meth c s₁ B hml hv
  obtain ⟨rfl, hsz, hZ, hP, hK, hD0⟩ := hv
  have hx := B.exec
  have hb := B.bytes
  have hr := B.returns
  have hts := atoms_spec (ws := wyM_put0) B.pre
  have htx := fun w h => hts w (List.mem_cons_of_mem _ h)
  have hown : s.vm.findClass "ValueBenchModel" = some m.cls := findClass_of_methodNamed B.named
  have hlocks := B.notSynchronized
  subst hsz
  have hD := hD0.self (sz := s.heap.size)
  generalize hAe : va_A [(a0, .inr (5, [v3, v4, v5, v6, v7, v8, v9, v10, v11, v12, v13, v14, v15, v16, v17, v18, v19, v20, v21, v22, v23, .ref a1, .int 0, .int 4096, v24, v25, v26, v27, v28, v29, v30, v31])), (a1, .inl (cT 0, 1024, .inl f32))] s.heap.size = A at hD hZ ⊢
  have hA : ∀ q : Nat, s.heap.size ≤ q → A q := fun q h => by rw [← hAe]; exact Or.inr h
  have hS : va_S A s.heap s.heap [] := va_S.rf
  have hP : va_P D xcl [(a0, .inr (5, [v3, v4, v5, v6, v7, v8, v9, v10, v11, v12, v13, v14, v15, v16, v17, v18, v19, v20, v21, v22, v23, .ref a1, .int 0, .int 4096, v24, v25, v26, v27, v28, v29, v30, v31])), (a1, .inl (cT 0, 1024, .inl f32))] s.heap := hP
  have hl := lv_entry ([.ref a0, .int x2]) (n := 4) (Nat.le_of_ble_eq_true rfl)
  rw [lg_entry_eq]
  generalize (lg_sl ([.ref a0, .int x2]) ++ List.replicate (4 - (lg_sl ([.ref a0, .int x2])).length) Slot.unset).toArray = ls at hl ⊢
  have hl : lv_has ls 4 [(0, .ref a0), (1, .int x2)] := hl
  refine lv_aload_n hx hb dM_put0_0 rfl (lv_at hl 0 rfl) ?_
  refine va_get (D := D) (ci := 5) (v := .int 0) (C := "ValueBenchModel") (T := TM) (N := 32) hx hb htx inM hown hK hP 0 rfl rfl 22 (by decide) (htx _ kw_5_109) (fun _ h9 => h9) rfl dM_put0_1 ?_
  refine lv_aload_n hx hb dM_put0_4 rfl (lv_at hl 0 rfl) ?_
  refine va_get (D := D) (ci := 5) (v := .int 4096) (C := "ValueBenchModel") (T := TM) (N := 32) hx hb htx inM hown hK hP 0 rfl rfl 23 (by decide) (htx _ kw_5_110) (fun _ h9 => h9) rfl dM_put0_5 ?_
  refine lv_icmp_ne (tgt := 19) hx hb dM_put0_8 (by decide) (fun _ => ?_) (fun h => ((by revert h; decide : False)).elim)
  refine lv_aload_n hx hb dM_put0_19 rfl (lv_at hl 0 rfl) ?_
  refine va_get (D := D) (ci := 5) (v := .int 0) (C := "ValueBenchModel") (T := TM) (N := 32) hx hb htx inM hown hK hP 0 rfl rfl 22 (by decide) (htx _ kw_5_109) (fun _ h9 => h9) rfl dM_put0_20 ?_
  refine lv_aload_n hx hb dM_put0_23 rfl (lv_at hl 0 rfl) ?_
  refine va_get (D := D) (ci := 5) (v := .ref a1) (C := "ValueBenchModel") (T := TM) (N := 32) hx hb htx inM hown hK hP 0 rfl rfl 21 (by decide) (htx _ kw_5_108) (fun _ h9 => h9) rfl dM_put0_24 ?_
  refine va_alen (v := 1024) hx hb hK hP 1 0 rfl rfl rfl dM_put0_27 ?_
  refine lv_icmp_ne (tgt := 70) hx hb dM_put0_28 (by decide) (fun _ => ?_) (fun h => ((by revert h; decide : False)).elim)
  refine lv_aload_n hx hb dM_put0_70 rfl (lv_at hl 0 rfl) ?_
  refine va_get (D := D) (ci := 5) (v := .ref a1) (C := "ValueBenchModel") (T := TM) (N := 32) hx hb htx inM hown hK hP 0 rfl rfl 21 (by decide) (htx _ kw_5_108) (fun _ h9 => h9) rfl dM_put0_71 ?_
  refine lv_aload_n hx hb dM_put0_74 rfl (lv_at hl 0 rfl) ?_
  refine va_get (D := D) (ci := 5) (v := .int 0) (C := "ValueBenchModel") (T := TM) (N := 32) hx hb htx inM hown hK hP 0 rfl rfl 22 (by decide) (htx _ kw_5_109) (fun _ h9 => h9) rfl dM_put0_75 ?_
  refine lv_iload_n hx hb dM_put0_78 rfl (lv_at hl 1 rfl) ?_
  refine lv_i2b hx hb dM_put0_79 rfl ?_
  refine lv_topi (fun y1 ey1 => ?_)
  refine va_bast hx hb hK hP hD hS 1 0 rfl rfl (show ¬ ((0 : Int32) < 0 ∨ 1024 ≤ (0 : Int32).toNatClampNeg) by decide) dM_put0_80 (fun H locs hP hD hS => ?_)
  obtain ⟨hP, hD⟩ : xPD D xcl A [(a0, .inr (5, [v3, v4, v5, v6, v7, v8, v9, v10, v11, v12, v13, v14, v15, v16, v17, v18, v19, v20, v21, v22, v23, .ref a1, .int 0, .int 4096, v24, v25, v26, v27, v28, v29, v30, v31])), (a1, .inl (cT 0, 1024, .inl (upd f32 0 (vp_nar .byte y1))))] H := ⟨hP, hD⟩
  refine lv_aload_n hx hb dM_put0_81 rfl (lv_at hl 0 rfl) ?_
  refine lv_dup hx hb dM_put0_82 rfl ?_
  refine va_get (D := D) (ci := 5) (v := .int 0) (C := "ValueBenchModel") (T := TM) (N := 32) hx hb htx inM hown hK hP 0 rfl rfl 22 (by decide) (htx _ kw_5_109) (fun _ h9 => h9) rfl dM_put0_83 ?_
  refine lv_iconst (v := 1) hx hb dM_put0_86 (by decide) ?_
  refine lv_iadd hx hb dM_put0_87 ?_
  refine W.eq (g2 := F0 m 88 ls [.int 1, .ref a0]) rfl ?_
  refine va_put (D := D) (ci := 5) (v := .int 1) (ty := .int) (C := "ValueBenchModel") (T := TM) (N := 32) hx hb htx inM tyM tyM_ok nmM hown hK hP hD hS 0 rfl rfl 22 (by decide) (htx _ kw_5_109) (fun _ h9 => h9) rfl (by decide +kernel) rfl rfl (Nat.le_of_ble_eq_true rfl) dM_put0_88 (fun H locs hP hD hS => ?_)
  obtain ⟨hP, hD⟩ : xPD D xcl A [(a0, .inr (5, [v3, v4, v5, v6, v7, v8, v9, v10, v11, v12, v13, v14, v15, v16, v17, v18, v19, v20, v21, v22, v23, .ref a1, .int 1, .int 4096, v24, v25, v26, v27, v28, v29, v30, v31])), (a1, .inl (cT 0, 1024, .inl (upd f32 0 (vp_nar .byte y1))))] H := ⟨hP, hD⟩
  obtain ⟨hP9, hD9⟩ := xsub (wc := [(a0, .inr (5, [v3, v4, v5, v6, v7, v8, v9, v10, v11, v12, v13, v14, v15, v16, v17, v18, v19, v20, v21, v22, v23, .ref a1, .int 1, .int 4096, v24, v25, v26, v27, v28, v29, v30, v31])), (a1, .inl (cT 0, 1024, .inl (upd f32 0 (vp_nar .byte y1))))]) hP hD [0, 1] rfl rfl (by decide)
  refine W.widen (k := 0) (n := 0) (Nat.le_of_ble_eq_true rfl) (Nat.le_of_ble_eq_true rfl) ?_
  exact W.vret hx hb hr (fun t ht hW => ⟨⟨(), rfl, trivial, y1, by rw [ht]; exact hP9, va_K.moved hW.alike hK, hD9⟩, hS.F ht⟩) hS.2.2 dM_put0_91
set_option maxHeartbeats 400000000 in
set_option maxRecDepth 100000 in
theorem cM_put0_1 (l : Launch) (hl9 : l.stackTraces = false) (D : va_G) (cT : Nat → ClassId) (aK aV : Nat → Nat) (sz : Nat) (a0 : Nat) (a1 : Nat) (x2 : Int32) (v3 : Value) (v4 : Value) (v5 : Value) (v6 : Value) (v7 : Value) (v8 : Value) (v9 : Value) (v10 : Value) (v11 : Value) (v12 : Value) (v13 : Value) (v14 : Value) (v15 : Value) (v16 : Value) (v17 : Value) (v18 : Value) (v19 : Value) (v20 : Value) (v21 : Value) (v22 : Value) (v23 : Value) (v24 : Value) (v25 : Value) (v26 : Value) (v27 : Value) (v28 : Value) (v29 : Value) (v30 : Value) (v31 : Value) (f32 : Nat → Int32) : xMet l yM_put0 wyM_put0 0 0 0 0 D cT aK aV sz [.ref a0, .int x2] [(a0, .inr (5, [v3, v4, v5, v6, v7, v8, v9, v10, v11, v12, v13, v14, v15, v16, v17, v18, v19, v20, v21, v22, v23, .ref a1, .int 1, .int 4096, v24, v25, v26, v27, v28, v29, v30, v31])), (a1, .inl (cT 0, 1024, .inl f32))] (fun A => va_Qv (fun _ : Unit => True) (fun _ t => ∃ (y1 : Int32), xB D xcl cT A [(a0, .inr (5, [v3, v4, v5, v6, v7, v8, v9, v10, v11, v12, v13, v14, v15, v16, v17, v18, v19, v20, v21, v22, v23, .ref a1, .int 2, .int 4096, v24, v25, v26, v27, v28, v29, v30, v31])), (a1, .inl (cT 0, 1024, .inl (upd f32 1 (vp_nar .byte y1))))] t) A) := by
  refine Met.ofW (cc := prog_13_method_41_code) (maxL := 4) (ret := none) (by decide) rfl ?_
  intro p e s m args below meth c s₁ B hml hv
  obtain ⟨rfl, hsz, hZ, hP, hK, hD0⟩ := hv
  have hx := B.exec
  have hb := B.bytes
  have hr := B.returns
  have hts := atoms_spec (ws := wyM_put0) B.pre
  have htx := fun w h => hts w (List.mem_cons_of_mem _ h)
  have hown : s.vm.findClass "ValueBenchModel" = some m.cls := findClass_of_methodNamed B.named
  have hlocks := B.notSynchronized
  subst hsz
  have hD := hD0.self (sz := s.heap.size)
  generalize hAe : va_A [(a0, .inr (5, [v3, v4, v5, v6, v7, v8, v9, v10, v11, v12, v13, v14, v15, v16, v17, v18, v19, v20, v21, v22, v23, .ref a1, .int 1, .int 4096, v24, v25, v26, v27, v28, v29, v30, v31])), (a1, .inl (cT 0, 1024, .inl f32))] s.heap.size = A at hD hZ ⊢
  have hA : ∀ q : Nat, s.heap.size ≤ q → A q := fun q h => by rw [← hAe]; exact Or.inr h
  have hS : va_S A s.heap s.heap [] := va_S.rf
  have hP : va_P D xcl [(a0, .inr (5, [v3, v4, v5, v6, v7, v8, v9, v10, v11, v12, v13, v14, v15, v16, v17, v18, v19, v20, v21, v22, v23, .ref a1, .int 1, .int 4096, v24, v25, v26, v27, v28, v29, v30, v31])), (a1, .inl (cT 0, 1024, .inl f32))] s.heap := hP
  have hl := lv_entry ([.ref a0, .int x2]) (n := 4) (Nat.le_of_ble_eq_true rfl)
  rw [lg_entry_eq]
  generalize (lg_sl ([.ref a0, .int x2]) ++ List.replicate (4 - (lg_sl ([.ref a0, .int x2])).length) Slot.unset).toArray = ls at hl ⊢
  have hl : lv_has ls 4 [(0, .ref a0), (1, .int x2)] := hl
  refine lv_aload_n hx hb dM_put0_0 rfl (lv_at hl 0 rfl) ?_
  refine va_get (D := D) (ci := 5) (v := .int 1) (C := "ValueBenchModel") (T := TM) (N := 32) hx hb htx inM hown hK hP 0 rfl rfl 22 (by decide) (htx _ kw_5_109) (fun _ h9 => h9) rfl dM_put0_1 ?_
  refine lv_aload_n hx hb dM_put0_4 rfl (lv_at hl 0 rfl) ?_
  refine va_get (D := D) (ci := 5) (v := .int 4096) (C := "ValueBenchModel") (T := TM) (N := 32) hx hb htx inM hown hK hP 0 rfl rfl 23 (by decide) (htx _ kw_5_110) (fun _ h9 => h9) rfl dM_put0_5 ?_
  refine lv_icmp_ne (tgt := 19) hx hb dM_put0_8 (by decide) (fun _ => ?_) (fun h => ((by revert h; decide : False)).elim)
  refine lv_aload_n hx hb dM_put0_19 rfl (lv_at hl 0 rfl) ?_
  refine va_get (D := D) (ci := 5) (v := .int 1) (C := "ValueBenchModel") (T := TM) (N := 32) hx hb htx inM hown hK hP 0 rfl rfl 22 (by decide) (htx _ kw_5_109) (fun _ h9 => h9) rfl dM_put0_20 ?_
  refine lv_aload_n hx hb dM_put0_23 rfl (lv_at hl 0 rfl) ?_
  refine va_get (D := D) (ci := 5) (v := .ref a1) (C := "ValueBenchModel") (T := TM) (N := 32) hx hb htx inM hown hK hP 0 rfl rfl 21 (by decide) (htx _ kw_5_108) (fun _ h9 => h9) rfl dM_put0_24 ?_
  refine va_alen (v := 1024) hx hb hK hP 1 0 rfl rfl rfl dM_put0_27 ?_
  refine lv_icmp_ne (tgt := 70) hx hb dM_put0_28 (by decide) (fun _ => ?_) (fun h => ((by revert h; decide : False)).elim)
  refine lv_aload_n hx hb dM_put0_70 rfl (lv_at hl 0 rfl) ?_
  refine va_get (D := D) (ci := 5) (v := .ref a1) (C := "ValueBenchModel") (T := TM) (N := 32) hx hb htx inM hown hK hP 0 rfl rfl 21 (by decide) (htx _ kw_5_108) (fun _ h9 => h9) rfl dM_put0_71 ?_
  refine lv_aload_n hx hb dM_put0_74 rfl (lv_at hl 0 rfl) ?_
  refine va_get (D := D) (ci := 5) (v := .int 1) (C := "ValueBenchModel") (T := TM) (N := 32) hx hb htx inM hown hK hP 0 rfl rfl 22 (by decide) (htx _ kw_5_109) (fun _ h9 => h9) rfl dM_put0_75 ?_
  refine lv_iload_n hx hb dM_put0_78 rfl (lv_at hl 1 rfl) ?_
  refine lv_i2b hx hb dM_put0_79 rfl ?_
  refine lv_topi (fun y1 ey1 => ?_)
  refine va_bast hx hb hK hP hD hS 1 0 rfl rfl (show ¬ ((1 : Int32) < 0 ∨ 1024 ≤ (1 : Int32).toNatClampNeg) by decide) dM_put0_80 (fun H locs hP hD hS => ?_)
  obtain ⟨hP, hD⟩ : xPD D xcl A [(a0, .inr (5, [v3, v4, v5, v6, v7, v8, v9, v10, v11, v12, v13, v14, v15, v16, v17, v18, v19, v20, v21, v22, v23, .ref a1, .int 1, .int 4096, v24, v25, v26, v27, v28, v29, v30, v31])), (a1, .inl (cT 0, 1024, .inl (upd f32 1 (vp_nar .byte y1))))] H := ⟨hP, hD⟩
  refine lv_aload_n hx hb dM_put0_81 rfl (lv_at hl 0 rfl) ?_
  refine lv_dup hx hb dM_put0_82 rfl ?_
  refine va_get (D := D) (ci := 5) (v := .int 1) (C := "ValueBenchModel") (T := TM) (N := 32) hx hb htx inM hown hK hP 0 rfl rfl 22 (by decide) (htx _ kw_5_109) (fun _ h9 => h9) rfl dM_put0_83 ?_
  refine lv_iconst (v := 1) hx hb dM_put0_86 (by decide) ?_
  refine lv_iadd hx hb dM_put0_87 ?_
  refine W.eq (g2 := F0 m 88 ls [.int 2, .ref a0]) rfl ?_
  refine va_put (D := D) (ci := 5) (v := .int 2) (ty := .int) (C := "ValueBenchModel") (T := TM) (N := 32) hx hb htx inM tyM tyM_ok nmM hown hK hP hD hS 0 rfl rfl 22 (by decide) (htx _ kw_5_109) (fun _ h9 => h9) rfl (by decide +kernel) rfl rfl (Nat.le_of_ble_eq_true rfl) dM_put0_88 (fun H locs hP hD hS => ?_)
  obtain ⟨hP, hD⟩ : xPD D xcl A [(a0, .inr (5, [v3, v4, v5, v6, v7, v8, v9, v10, v11, v12, v13, v14, v15, v16, v17, v18, v19, v20, v21, v22, v23, .ref a1, .int 2, .int 4096, v24, v25, v26, v27, v28, v29, v30, v31])), (a1, .inl (cT 0, 1024, .inl (upd f32 1 (vp_nar .byte y1))))] H := ⟨hP, hD⟩
  obtain ⟨hP9, hD9⟩ := xsub (wc := [(a0, .inr (5, [v3, v4, v5, v6, v7, v8, v9, v10, v11, v12, v13, v14, v15, v16, v17, v18, v19, v20, v21, v22, v23, .ref a1, .int 2, .int 4096, v24, v25, v26, v27, v28, v29, v30, v31])), (a1, .inl (cT 0, 1024, .inl (upd f32 1 (vp_nar .byte y1))))]) hP hD [0, 1] rfl rfl (by decide)
  refine W.widen (k := 0) (n := 0) (Nat.le_of_ble_eq_true rfl) (Nat.le_of_ble_eq_true rfl) ?_
  exact W.vret hx hb hr (fun t ht hW => ⟨⟨(), rfl, trivial, y1, by rw [ht]; exact hP9, va_K.moved hW.alike hK, hD9⟩, hS.F ht⟩) hS.2.2 dM_put0_91
set_option maxHeartbeats 400000000 in
set_option maxRecDepth 100000 in
theorem cM_put0_2 (l : Launch) (hl9 : l.stackTraces = false) (D : va_G) (cT : Nat → ClassId) (aK aV : Nat → Nat) (sz : Nat) (a0 : Nat) (a1 : Nat) (x2 : Int32) (v3 : Value) (v4 : Value) (v5 : Value) (v6 : Value) (v7 : Value) (v8 : Value) (v9 : Value) (v10 : Value) (v11 : Value) (v12 : Value) (v13 : Value) (v14 : Value) (v15 : Value) (v16 : Value) (v17 : Value) (v18 : Value) (v19 : Value) (v20 : Value) (v21 : Value) (v22 : Value) (v23 : Value) (v24 : Value) (v25 : Value) (v26 : Value) (v27 : Value) (v28 : Value) (v29 : Value) (v30 : Value) (v31 : Value) (f32 : Nat → Int32) : xMet l yM_put0 wyM_put0 0 0 0 0 D cT aK aV sz [.ref a0, .int x2] [(a0, .inr (5, [v3, v4, v5, v6, v7, v8, v9, v10, v11, v12, v13, v14, v15, v16, v17, v18, v19, v20, v21, v22, v23, .ref a1, .int 2, .int 4096, v24, v25, v26, v27, v28, v29, v30, v31])), (a1, .inl (cT 0, 1024, .inl f32))] (fun A => va_Qv (fun _ : Unit => True) (fun _ t => ∃ (y1 : Int32), xB D xcl cT A [(a0, .inr (5, [v3, v4, v5, v6, v7, v8, v9, v10, v11, v12, v13, v14, v15, v16, v17, v18, v19, v20, v21, v22, v23, .ref a1, .int 3, .int 4096, v24, v25, v26, v27, v28, v29, v30, v31])), (a1, .inl (cT 0, 1024, .inl (upd f32 2 (vp_nar .byte y1))))] t) A) := by
  refine Met.ofW (cc := prog_13_method_41_code) (maxL := 4) (ret := none) (by decide) rfl ?_
  intro p e s m args below meth c s₁ B hml hv
  obtain ⟨rfl, hsz, hZ, hP, hK, hD0⟩ := hv
  have hx := B.exec
  have hb := B.bytes
  have hr := B.returns
  have hts := atoms_spec (ws := wyM_put0) B.pre
  have htx := fun w h => hts w (List.mem_cons_of_mem _ h)
  have hown : s.vm.findClass "ValueBenchModel" = some m.cls := findClass_of_methodNamed B.named
  have hlocks := B.notSynchronized
  subst hsz
  have hD := hD0.self (sz := s.heap.size)
  generalize hAe : va_A [(a0, .inr (5, [v3, v4, v5, v6, v7, v8, v9, v10, v11, v12, v13, v14, v15, v16, v17, v18, v19, v20, v21, v22, v23, .ref a1, .int 2, .int 4096, v24, v25, v26, v27, v28, v29, v30, v31])), (a1, .inl (cT 0, 1024, .inl f32))] s.heap.size = A at hD hZ ⊢
  have hA : ∀ q : Nat, s.heap.size ≤ q → A q := fun q h => by rw [← hAe]; exact Or.inr h
  have hS : va_S A s.heap s.heap [] := va_S.rf
  have hP : va_P D xcl [(a0, .inr (5, [v3, v4, v5, v6, v7, v8, v9, v10, v11, v12, v13, v14, v15, v16, v17, v18, v19, v20, v21, v22, v23, .ref a1, .int 2, .int 4096, v24, v25, v26, v27, v28, v29, v30, v31])), (a1, .inl (cT 0, 1024, .inl f32))] s.heap := hP
  have hl := lv_entry ([.ref a0, .int x2]) (n := 4) (Nat.le_of_ble_eq_true rfl)
  rw [lg_entry_eq]
  generalize (lg_sl ([.ref a0, .int x2]) ++ List.replicate (4 - (lg_sl ([.ref a0, .int x2])).length) Slot.unset).toArray = ls at hl ⊢
  have hl : lv_has ls 4 [(0, .ref a0), (1, .int x2)] := hl
  refine lv_aload_n hx hb dM_put0_0 rfl (lv_at hl 0 rfl) ?_
  refine va_get (D := D) (ci := 5) (v := .int 2) (C := "ValueBenchModel") (T := TM) (N := 32) hx hb htx inM hown hK hP 0 rfl rfl 22 (by decide) (htx _ kw_5_109) (fun _ h9 => h9) rfl dM_put0_1 ?_
  refine lv_aload_n hx hb dM_put0_4 rfl (lv_at hl 0 rfl) ?_
  refine va_get (D := D) (ci := 5) (v := .int 4096) (C := "ValueBenchModel") (T := TM) (N := 32) hx hb htx inM hown hK hP 0 rfl rfl 23 (by decide) (htx _ kw_5_110) (fun _ h9 => h9) rfl dM_put0_5 ?_
  refine lv_icmp_ne (tgt := 19) hx hb dM_put0_8 (by decide) (fun _ => ?_) (fun h => ((by revert h; decide : False)).elim)
  refine lv_aload_n hx hb dM_put0_19 rfl (lv_at hl 0 rfl) ?_
  refine va_get (D := D) (ci := 5) (v := .int 2) (C := "ValueBenchModel") (T := TM) (N := 32) hx hb htx inM hown hK hP 0 rfl rfl 22 (by decide) (htx _ kw_5_109) (fun _ h9 => h9) rfl dM_put0_20 ?_
  refine lv_aload_n hx hb dM_put0_23 rfl (lv_at hl 0 rfl) ?_
  refine va_get (D := D) (ci := 5) (v := .ref a1) (C := "ValueBenchModel") (T := TM) (N := 32) hx hb htx inM hown hK hP 0 rfl rfl 21 (by decide) (htx _ kw_5_108) (fun _ h9 => h9) rfl dM_put0_24 ?_
  refine va_alen (v := 1024) hx hb hK hP 1 0 rfl rfl rfl dM_put0_27 ?_
  refine lv_icmp_ne (tgt := 70) hx hb dM_put0_28 (by decide) (fun _ => ?_) (fun h => ((by revert h; decide : False)).elim)
  refine lv_aload_n hx hb dM_put0_70 rfl (lv_at hl 0 rfl) ?_
  refine va_get (D := D) (ci := 5) (v := .ref a1) (C := "ValueBenchModel") (T := TM) (N := 32) hx hb htx inM hown hK hP 0 rfl rfl 21 (by decide) (htx _ kw_5_108) (fun _ h9 => h9) rfl dM_put0_71 ?_
  refine lv_aload_n hx hb dM_put0_74 rfl (lv_at hl 0 rfl) ?_
  refine va_get (D := D) (ci := 5) (v := .int 2) (C := "ValueBenchModel") (T := TM) (N := 32) hx hb htx inM hown hK hP 0 rfl rfl 22 (by decide) (htx _ kw_5_109) (fun _ h9 => h9) rfl dM_put0_75 ?_
  refine lv_iload_n hx hb dM_put0_78 rfl (lv_at hl 1 rfl) ?_
  refine lv_i2b hx hb dM_put0_79 rfl ?_
  refine lv_topi (fun y1 ey1 => ?_)
  refine va_bast hx hb hK hP hD hS 1 0 rfl rfl (show ¬ ((2 : Int32) < 0 ∨ 1024 ≤ (2 : Int32).toNatClampNeg) by decide) dM_put0_80 (fun H locs hP hD hS => ?_)
  obtain ⟨hP, hD⟩ : xPD D xcl A [(a0, .inr (5, [v3, v4, v5, v6, v7, v8, v9, v10, v11, v12, v13, v14, v15, v16, v17, v18, v19, v20, v21, v22, v23, .ref a1, .int 2, .int 4096, v24, v25, v26, v27, v28, v29, v30, v31])), (a1, .inl (cT 0, 1024, .inl (upd f32 2 (vp_nar .byte y1))))] H := ⟨hP, hD⟩
  refine lv_aload_n hx hb dM_put0_81 rfl (lv_at hl 0 rfl) ?_
  refine lv_dup hx hb dM_put0_82 rfl ?_
  refine va_get (D := D) (ci := 5) (v := .int 2) (C := "ValueBenchModel") (T := TM) (N := 32) hx hb htx inM hown hK hP 0 rfl rfl 22 (by decide) (htx _ kw_5_109) (fun _ h9 => h9) rfl dM_put0_83 ?_
  refine lv_iconst (v := 1) hx hb dM_put0_86 (by decide) ?_
  refine lv_iadd hx hb dM_put0_87 ?_
  refine W.eq (g2 := F0 m 88 ls [.int 3, .ref a0]) rfl ?_
  refine va_put (D := D) (ci := 5) (v := .int 3) (ty := .int) (C := "ValueBenchModel") (T := TM) (N := 32) hx hb htx inM tyM tyM_ok nmM hown hK hP hD hS 0 rfl rfl 22 (by decide) (htx _ kw_5_109) (fun _ h9 => h9) rfl (by decide +kernel) rfl rfl (Nat.le_of_ble_eq_true rfl) dM_put0_88 (fun H locs hP hD hS => ?_)
  obtain ⟨hP, hD⟩ : xPD D xcl A [(a0, .inr (5, [v3, v4, v5, v6, v7, v8, v9, v10, v11, v12, v13, v14, v15, v16, v17, v18, v19, v20, v21, v22, v23, .ref a1, .int 3, .int 4096, v24, v25, v26, v27, v28, v29, v30, v31])), (a1, .inl (cT 0, 1024, .inl (upd f32 2 (vp_nar .byte y1))))] H := ⟨hP, hD⟩
  obtain ⟨hP9, hD9⟩ := xsub (wc := [(a0, .inr (5, [v3, v4, v5, v6, v7, v8, v9, v10, v11, v12, v13, v14, v15, v16, v17, v18, v19, v20, v21, v22, v23, .ref a1, .int 3, .int 4096, v24, v25, v26, v27, v28, v29, v30, v31])), (a1, .inl (cT 0, 1024, .inl (upd f32 2 (vp_nar .byte y1))))]) hP hD [0, 1] rfl rfl (by decide)
  refine W.widen (k := 0) (n := 0) (Nat.le_of_ble_eq_true rfl) (Nat.le_of_ble_eq_true rfl) ?_
  exact W.vret hx hb hr (fun t ht hW => ⟨⟨(), rfl, trivial, y1, by rw [ht]; exact hP9, va_K.moved hW.alike hK, hD9⟩, hS.F ht⟩) hS.2.2 dM_put0_91
set_option maxHeartbeats 400000000 in
set_option maxRecDepth 100000 in
theorem cM_put0_3 (l : Launch) (hl9 : l.stackTraces = false) (D : va_G) (cT : Nat → ClassId) (aK aV : Nat → Nat) (sz : Nat) (a0 : Nat) (a1 : Nat) (x2 : Int32) (v3 : Value) (v4 : Value) (v5 : Value) (v6 : Value) (v7 : Value) (v8 : Value) (v9 : Value) (v10 : Value) (v11 : Value) (v12 : Value) (v13 : Value) (v14 : Value) (v15 : Value) (v16 : Value) (v17 : Value) (v18 : Value) (v19 : Value) (v20 : Value) (v21 : Value) (v22 : Value) (v23 : Value) (v24 : Value) (v25 : Value) (v26 : Value) (v27 : Value) (v28 : Value) (v29 : Value) (v30 : Value) (v31 : Value) (f32 : Nat → Int32) : xMet l yM_put0 wyM_put0 0 0 0 0 D cT aK aV sz [.ref a0, .int x2] [(a0, .inr (5, [v3, v4, v5, v6, v7, v8, v9, v10, v11, v12, v13, v14, v15, v16, v17, v18, v19, v20, v21, v22, v23, .ref a1, .int 3, .int 4096, v24, v25, v26, v27, v28, v29, v30, v31])), (a1, .inl (cT 0, 1024, .inl f32))] (fun A => va_Qv (fun _ : Unit => True) (fun _ t => ∃ (y1 : Int32), xB D xcl cT A [(a0, .inr (5, [v3, v4, v5, v6, v7, v8, v9, v10, v11, v12, v13, v14, v15, v16, v17, v18, v19, v20, v21, v22, v23, .ref a1, .int 4, .int 4096, v24, v25, v26, v27, v28, v29, v30, v31])), (a1, .inl (cT 0, 1024, .inl (upd f32 3 (vp_nar .byte y1))))] t) A) := by
  refine Met.ofW (cc := prog_13_method_41_code) (maxL := 4) (ret := none) (by decide) rfl ?_
  intro p e s m args below meth c s₁ B hml hv
  obtain ⟨rfl, hsz, hZ, hP, hK, hD0⟩ := hv
  have hx := B.exec
  have hb := B.bytes
  have hr := B.returns
  have hts := atoms_spec (ws := wyM_put0) B.pre
  have htx := fun w h => hts w (List.mem_cons_of_mem _ h)
  have hown : s.vm.findClass "ValueBenchModel" = some m.cls := findClass_of_methodNamed B.named
  have hlocks := B.notSynchronized
  subst hsz
  have hD := hD0.self (sz := s.heap.size)
  generalize hAe : va_A [(a0, .inr (5, [v3, v4, v5, v6, v7, v8, v9, v10, v11, v12, v13, v14, v15, v16, v17, v18, v19, v20, v21, v22, v23, .ref a1, .int 3, .int 4096, v24, v25, v26, v27, v28, v29, v30, v31])), (a1, .inl (cT 0, 1024, .inl f32))] s.heap.size = A at hD hZ ⊢
  have hA : ∀ q : Nat, s.heap.size ≤ q → A q := fun q h => by rw [← hAe]; exact Or.inr h
  have hS : va_S A s.heap s.heap [] := va_S.rf
  have hP : va_P D xcl [(a0, .inr (5, [v3, v4, v5, v6, v7, v8, v9, v10, v11, v12, v13, v14, v15, v16, v17, v18, v19, v20, v21, v22, v23, .ref a1, .int 3, .int 4096, v24, v25, v26, v27, v28, v29, v30, v31])), (a1, .inl (cT 0, 1024, .inl f32))] s.heap := hP
  have hl := lv_entry ([.ref a0, .int x2]) (n := 4) (Nat.le_of_ble_eq_true rfl)
  rw [lg_entry_eq]
  generalize (lg_sl ([.ref a0, .int x2]) ++ List.replicate (4 - (lg_sl ([.ref a0, .int x2])).length) Slot.unset).toArray = ls at hl ⊢
  have hl : lv_has ls 4 [(0, .ref a0), (1, .int x2)] := hl
  refine lv_aload_n hx hb dM_put0_0 rfl (lv_at hl 0 rfl) ?_
  refine va_get (D := D) (ci := 5) (v := .int 3) (C := "ValueBenchModel") (T := TM) (N := 32) hx hb htx inM hown hK hP 0 rfl rfl 22 (by decide) (htx _ kw_5_109) (fun _ h9 => h9) rfl dM_put0_1 ?_
  refine lv_aload_n hx hb dM_put0_4 rfl (lv_at hl 0 rfl) ?_
  refine va_get (D := D) (ci := 5) (v := .int 4096) (C := "ValueBenchModel") (T := TM) (N := 32) hx hb htx inM hown hK hP 0 rfl rfl 23 (by decide) (htx _ kw_5_110) (fun _ h9 => h9) rfl dM_put0_5 ?_
  refine lv_icmp_ne (tgt := 19) hx hb dM_put0_8 (by decide) (fun _ => ?_) (fun h => ((by revert h; decide : False)).elim)
  refine lv_aload_n hx hb dM_put0_19 rfl (lv_at hl 0 rfl) ?_
  refine va_get (D := D) (ci := 5) (v := .int 3) (C := "ValueBenchModel") (T := TM) (N := 32) hx hb htx inM hown hK hP 0 rfl rfl 22 (by decide) (htx _ kw_5_109) (fun _ h9 => h9) rfl dM_put0_20 ?_
  refine lv_aload_n hx hb dM_put0_23 rfl (lv_at hl 0 rfl) ?_
  refine va_get (D := D) (ci := 5) (v := .ref a1) (C := "ValueBenchModel") (T := TM) (N := 32) hx hb htx inM hown hK hP 0 rfl rfl 21 (by decide) (htx _ kw_5_108) (fun _ h9 => h9) rfl dM_put0_24 ?_
  refine va_alen (v := 1024) hx hb hK hP 1 0 rfl rfl rfl dM_put0_27 ?_
  refine lv_icmp_ne (tgt := 70) hx hb dM_put0_28 (by decide) (fun _ => ?_) (fun h => ((by revert h; decide : False)).elim)
  refine lv_aload_n hx hb dM_put0_70 rfl (lv_at hl 0 rfl) ?_
  refine va_get (D := D) (ci := 5) (v := .ref a1) (C := "ValueBenchModel") (T := TM) (N := 32) hx hb htx inM hown hK hP 0 rfl rfl 21 (by decide) (htx _ kw_5_108) (fun _ h9 => h9) rfl dM_put0_71 ?_
  refine lv_aload_n hx hb dM_put0_74 rfl (lv_at hl 0 rfl) ?_
  refine va_get (D := D) (ci := 5) (v := .int 3) (C := "ValueBenchModel") (T := TM) (N := 32) hx hb htx inM hown hK hP 0 rfl rfl 22 (by decide) (htx _ kw_5_109) (fun _ h9 => h9) rfl dM_put0_75 ?_
  refine lv_iload_n hx hb dM_put0_78 rfl (lv_at hl 1 rfl) ?_
  refine lv_i2b hx hb dM_put0_79 rfl ?_
  refine lv_topi (fun y1 ey1 => ?_)
  refine va_bast hx hb hK hP hD hS 1 0 rfl rfl (show ¬ ((3 : Int32) < 0 ∨ 1024 ≤ (3 : Int32).toNatClampNeg) by decide) dM_put0_80 (fun H locs hP hD hS => ?_)
  obtain ⟨hP, hD⟩ : xPD D xcl A [(a0, .inr (5, [v3, v4, v5, v6, v7, v8, v9, v10, v11, v12, v13, v14, v15, v16, v17, v18, v19, v20, v21, v22, v23, .ref a1, .int 3, .int 4096, v24, v25, v26, v27, v28, v29, v30, v31])), (a1, .inl (cT 0, 1024, .inl (upd f32 3 (vp_nar .byte y1))))] H := ⟨hP, hD⟩
  refine lv_aload_n hx hb dM_put0_81 rfl (lv_at hl 0 rfl) ?_
  refine lv_dup hx hb dM_put0_82 rfl ?_
  refine va_get (D := D) (ci := 5) (v := .int 3) (C := "ValueBenchModel") (T := TM) (N := 32) hx hb htx inM hown hK hP 0 rfl rfl 22 (by decide) (htx _ kw_5_109) (fun _ h9 => h9) rfl dM_put0_83 ?_
  refine lv_iconst (v := 1) hx hb dM_put0_86 (by decide) ?_
  refine lv_iadd hx hb dM_put0_87 ?_
  refine W.eq (g2 := F0 m 88 ls [.int 4, .ref a0]) rfl ?_
  refine va_put (D := D) (ci := 5) (v := .int 4) (ty := .int) (C := "ValueBenchModel") (T := TM) (N := 32) hx hb htx inM tyM tyM_ok nmM hown hK hP hD hS 0 rfl rfl 22 (by decide) (htx _ kw_5_109) (fun _ h9 => h9) rfl (by decide +kernel) rfl rfl (Nat.le_of_ble_eq_true rfl) dM_put0_88 (fun H locs hP hD hS => ?_)
  obtain ⟨hP, hD⟩ : xPD D xcl A [(a0, .inr (5, [v3, v4, v5, v6, v7, v8, v9, v10, v11, v12, v13, v14, v15, v16, v17, v18, v19, v20, v21, v22, v23, .ref a1, .int 4, .int 4096, v24, v25, v26, v27, v28, v29, v30, v31])), (a1, .inl (cT 0, 1024, .inl (upd f32 3 (vp_nar .byte y1))))] H := ⟨hP, hD⟩
  obtain ⟨hP9, hD9⟩ := xsub (wc := [(a0, .inr (5, [v3, v4, v5, v6, v7, v8, v9, v10, v11, v12, v13, v14, v15, v16, v17, v18, v19, v20, v21, v22, v23, .ref a1, .int 4, .int 4096, v24, v25, v26, v27, v28, v29, v30, v31])), (a1, .inl (cT 0, 1024, .inl (upd f32 3 (vp_nar .byte y1))))]) hP hD [0, 1] rfl rfl (by decide)
  refine W.widen (k := 0) (n := 0) (Nat.le_of_ble_eq_true rfl) (Nat.le_of_ble_eq_true rfl) ?_
  exact W.vret hx hb hr (fun t ht hW => ⟨⟨(), rfl, trivial, y1, by rw [ht]; exact hP9, va_K.moved hW.alike hK, hD9⟩, hS.F ht⟩) hS.2.2 dM_put0_91
set_option maxHeartbeats 400000000 in
set_option maxRecDepth 100000 in
theorem cM_put1_0 (l : Launch) (hl9 : l.stackTraces = false) (D : va_G) (cT : Nat → ClassId) (aK aV : Nat → Nat) (sz : Nat) (a0 : Nat) (a1 : Nat) (v2 : Value) (v3 : Value) (v4 : Value) (v5 : Value) (v6 : Value) (v7 : Value) (v8 : Value) (v9 : Value) (v10 : Value) (v11 : Value) (v12 : Value) (v13 : Value) (v14 : Value) (v15 : Value) (v16 : Value) (v17 : Value) (v18 : Value) (v19 : Value) (v20 : Value) (v21 : Value) (v22 : Value) (v23 : Value) (v24 : Value) (v25 : Value) (v26 : Value) (v27 : Value) (v28 : Value) (v29 : Value) (v30 : Value) (f31 : Nat → Int32) : xMet l yM_put1 wyM_put1 4 0 0 85 D cT aK aV sz [.ref a0, .ref (aK 10)] [(a0, .inr (5, [v2, v3, v4, v5, v6, v7, v8, v9, v10, v11, v12, v13, v14, v15, v16, v17, v18, v19, v20, v21, v22, .ref a1, .int 0, .int 4096, v23, v24, v25, v26, v27, v28, v29, v30])), (a1, .inl (cT 0, 1024, .inl f31))] (fun A => va_Qv (fun _ : Unit => True) (fun _ t => ∃ (y3 : Int32) (y6 : Int32) (y9 : Int32) (y12 : Int32), xB D xcl cT A [(a0, .inr (5, [v2, v3, v4, v5, v6, v7, v8, v9, v10, v11, v12, v13, v14, v15, v16, v17, v18, v19, v20, v21, v22, .ref a1, .int 4, .int 4096, v23, v24, v25, v26, v27, v28, v29, v30])), (a1, .inl (cT 0, 1024, .inl (upd (upd (upd (upd f31 0 (vp_nar .byte y3)) 1 (vp_nar .byte y6)) 2 (vp_nar .byte y9)) 3 (vp_nar .byte y12))))] t) A) := by
  refine Met.ofW (cc := prog_13_method_42_code) (maxL := 3) (ret := none) (by decide) rfl ?_
  intro p e s m args below meth c s₁ B hml hv
  obtain ⟨rfl, hsz, hZ, hP, hK, hD0⟩ := hv
  have hx := B.exec
  have hb := B.bytes
  have hr := B.returns
  have hts := atoms_spec (ws := wyM_put1) B.pre
  have htx := fun w h => hts w (List.mem_cons_of_mem _ h)
  have hown : s.vm.findClass "ValueBenchModel" = some m.cls := findClass_of_methodNamed B.named
  have hlocks := B.notSynchronized
  subst hsz
  have hD := hD0.self (sz := s.heap.size)
  generalize hAe : va_A [(a0, .inr (5, [v2, v3, v4, v5, v6, v7, v8, v9, v10, v11, v12, v13, v14, v15, v16, v17, v18, v19, v20, v21, v22, .ref a1, .int 0, .int 4096, v23, v24, v25, v26, v27, v28, v29, v30])), (a1, .inl (cT 0, 1024, .inl f31))] s.heap.size = A at hD hZ ⊢
  have hA : ∀ q : Nat, s.heap.size ≤ q → A q := fun q h => by rw [← hAe]; exact Or.inr h
  have hS : va_S A s.heap s.heap [] := va_S.rf
  have hP : va_P D xcl [(a0, .inr (5, [v2, v3, v4, v5, v6, v7, v8, v9, v10, v11, v12, v13, v14, v15, v16, v17, v18, v19, v20, v21, v22, .ref a1, .int 0, .int 4096, v23, v24, v25, v26, v27, v28, v29, v30])), (a1, .inl (cT 0, 1024, .inl f31))] s.heap := hP
  have hl := lv_entry ([.ref a0, .ref (aK 10)]) (n := 3) (Nat.le_of_ble_eq_true rfl)
  rw [lg_entry_eq]
  generalize (lg_sl ([.ref a0, .ref (aK 10)]) ++ List.replicate (3 - (lg_sl ([.ref a0, .ref (aK 10)])).length) Slot.unset).toArray = ls at hl ⊢
  have hl : lv_has ls 3 [(0, .ref a0), (1, .ref (aK 10))] := hl
  refine lv_iconst (v := 0) hx hb dM_put1_0 (by decide) ?_
  refine lv_istore_n (lv' := [(2, .int 0), (0, .ref a0), (1, .ref (aK 10))]) hx hb dM_put1_1 rfl hl (by decide) rfl (fun ls hl => ?_)
  refine lv_iload_n hx hb dM_put1_2 rfl (lv_at hl 0 rfl) ?_
  refine lv_aload_n hx hb dM_put1_3 rfl (lv_at hl 2 rfl) ?_
  obtain ⟨hPc, hDc, hFc⟩ := xcut (wc := []) hP hD hS hA [] rfl rfl (by decide)
  refine va_calli (va_runV (C := "java/lang/String") (As := []) (rest := [.int 0]) ⟨hx, hb, hml, hown, htx⟩ (cJS_length_0 l hl9 D cT aK aV s.heap.size) ⟨callB_of 0 htx (xw_goodC kw_2_70) rfl rfl rfl (htx _ kw_1_6) (htx _ kw_5_238) ⟨by decide, by decide, by decide +kernel⟩ ⟨Nat.le_of_ble_eq_true rfl, Nat.le_of_ble_eq_true rfl⟩, (htx _ kw_2_68), (htx _ kw_2_69)⟩ ⟨xPre_blind, vk_recv hZ.2.2.2.2.2.2.2.2.2.1 (i := 10) (by decide) hS, (fun U hU hW => ⟨rfl, xPre_of hZ hS hFc hPc hDc hK U hU hW⟩)⟩ rfl rfl hl.1 rfl (lv_room (Nat.le_of_ble_eq_true rfl)) dM_put1_4 ⟨Nat.le_of_ble_eq_true rfl, Nat.le_of_ble_eq_true rfl⟩) hS (fun q _ h => hFc q h) hFc (fun r1 u9 t H1 locs ht hvm hr9 hB hz1 hk1 hS => ?_)
  obtain ⟨hP1, hK1, hD1⟩ := hB
  rw [ht] at hP1
  obtain ⟨hP, hD⟩ := xjoin (W := [(a0, .inr (5, [v2, v3, v4, v5, v6, v7, v8, v9, v10, v11, v12, v13, v14, v15, v16, v17, v18, v19, v20, v21, v22, .ref a1, .int 0, .int 4096, v23, v24, v25, v26, v27, v28, v29, v30])), (a1, .inl (cT 0, 1024, .inl f31))]) hP hD [] [0, 1] 2 rfl rfl (by decide) (by decide) hk1 hFc hP1 hD1
  generalize H1 = H at hP hS ⊢
  rw [hr9]
  refine W.eq (g2 := F0 m 7 ls [.int 4, .int 0]) rfl ?_
  refine lv_icmp_ge (tgt := 25) hx hb dM_put1_7 (by decide) (fun h => ((by revert h; decide : False)).elim) (fun _ => ?_)
  refine lv_aload_n hx hb dM_put1_10 rfl (lv_at hl 1 rfl) ?_
  refine lv_aload_n hx hb dM_put1_11 rfl (lv_at hl 2 rfl) ?_
  refine lv_iload_n hx hb dM_put1_12 rfl (lv_at hl 0 rfl) ?_
  obtain ⟨hPc, hDc, hFc⟩ := xcut (wc := []) hP hD hS hA [] rfl rfl (by decide)
  refine va_calli (va_runV (C := "java/lang/String") (As := [.int 0]) (rest := [.ref a0]) ⟨hx, hb, hml, hown, htx⟩ (cJS_charAt_0 l hl9 D cT aK aV H.size) ⟨callB_of 1 htx (xw_goodC kw_2_80) rfl rfl rfl (htx _ kw_1_6) (htx _ kw_5_86) ⟨by decide, by decide, by decide +kernel⟩ ⟨Nat.le_of_ble_eq_true rfl, Nat.le_of_ble_eq_true rfl⟩, (htx _ kw_2_78), (htx _ kw_2_79)⟩ ⟨xPre_blind, vk_recv hZ.2.2.2.2.2.2.2.2.2.1 (i := 10) (by decide) hS, (fun U hU hW => ⟨rfl, xPre_of hZ hS hFc hPc hDc hK U hU hW⟩)⟩ rfl rfl hl.1 rfl (lv_room (Nat.le_of_ble_eq_true rfl)) dM_put1_13 ⟨Nat.le_of_ble_eq_true rfl, Nat.le_of_ble_eq_true rfl⟩) hS (fun q _ h => hFc q h) hFc (fun r2 u9 t H1 locs ht hvm hr9 hB hz1 hk1 hS => ?_)
  obtain ⟨hP1, hK1, hD1⟩ := hB
  rw [ht] at hP1
  obtain ⟨hP, hD⟩ := xjoin (W := [(a0, .inr (5, [v2, v3, v4, v5, v6, v7, v8, v9, v10, v11, v12, v13, v14, v15, v16, v17, v18, v19, v20, v21, v22, .ref a1, .int 0, .int 4096, v23, v24, v25, v26, v27, v28, v29, v30])), (a1, .inl (cT 0, 1024, .inl f31))]) hP hD [] [0, 1] 2 rfl rfl (by decide) (by decide) hk1 hFc hP1 hD1
  generalize H1 = H at hP hS ⊢
  rw [hr9]
  refine W.eq (g2 := F0 m 16 ls [.int 110, .ref a0]) rfl ?_
  obtain ⟨hPc, hDc, hFc⟩ := xcut (wc := [(a0, .inr (5, [v2, v3, v4, v5, v6, v7, v8, v9, v10, v11, v12, v13, v14, v15, v16, v17, v18, v19, v20, v21, v22, .ref a1, .int 0, .int 4096, v23, v24, v25, v26, v27, v28, v29, v30])), (a1, .inl (cT 0, 1024, .inl f31))]) hP hD hS hA [0, 1] rfl rfl (by decide)
  refine va_callv (va_runV (C := "ValueBenchModel") (As := [.int 110]) (rest := []) ⟨hx, hb, hml, hown, htx⟩ (cM_put0_0 l hl9 D cT aK aV H.size a0 a1 110 v2 v3 v4 v5 v6 v7 v8 v9 v10 v11 v12 v13 v14 v15 v16 v17 v18 v19 v20 v21 v22 v23 v24 v25 v26 v27 v28 v29 v30 f31) ⟨callB_of 1 htx (xw_goodC kw_6_136) rfl rfl rfl (htx _ kw_1_5) (htx _ kw_6_133) ⟨by decide, by decide, by decide +kernel⟩ ⟨Nat.le_of_ble_eq_true rfl, Nat.le_of_ble_eq_true rfl⟩, (htx _ kw_6_135), (htx _ kp_M_put0)⟩ ⟨xPre_blind, va_recv hK hP (ci := 5) rfl (q0 := 0) rfl, (fun U hU hW => ⟨rfl, xPre_of hZ hS hFc hPc hDc hK U hU hW⟩)⟩ rfl rfl hl.1 rfl (lv_room (Nat.le_of_ble_eq_true rfl)) dM_put1_16 ⟨Nat.le_of_ble_eq_true rfl, Nat.le_of_ble_eq_true rfl⟩) hS (fun q _ h => hFc q h) hFc (fun u9 t H1 locs ht hvm hr9 hB hz1 hk1 hS => ?_)
  obtain ⟨y3, hP1, hK1, hD1⟩ := hB
  rw [ht] at hP1
  obtain ⟨hP, hD⟩ := xjoin (W := [(a0, .inr (5, [v2, v3, v4, v5, v6, v7, v8, v9, v10, v11, v12, v13, v14, v15, v16, v17, v18, v19, v20, v21, v22, .ref a1, .int 1, .int 4096, v23, v24, v25, v26, v27, v28, v29, v30])), (a1, .inl (cT 0, 1024, .inl (upd f31 0 (vp_nar .byte y3))))]) hP hD [0, 1] [] 0 rfl rfl (by decide) (by decide) hk1 hFc hP1 hD1
  generalize H1 = H at hP hS ⊢
  refine lv_iinc (v := 1) (lv' := [(2, .int 1), (0, .ref a0), (1, .ref (aK 10))]) hx hb dM_put1_19 hl (k := 0) rfl (by decide) (by decide) rfl (fun ls hl => ?_)
  refine lv_goto (tgt := 2) hx hb dM_put1_22 (by decide) ?_
  refine lv_iload_n hx hb dM_put1_2 rfl (lv_at hl 0 rfl) ?_
  refine lv_aload_n hx hb dM_put1_3 rfl (lv_at hl 2 rfl) ?_
  obtain ⟨hPc, hDc, hFc⟩ := xcut (wc := []) hP hD hS hA [] rfl rfl (by decide)
  refine va_calli (va_runV (C := "java/lang/String") (As := []) (rest := [.int 1]) ⟨hx, hb, hml, hown, htx⟩ (cJS_length_0 l hl9 D cT aK aV H.size) ⟨callB_of 0 htx (xw_goodC kw_2_70) rfl rfl rfl (htx _ kw_1_6) (htx _ kw_5_238) ⟨by decide, by decide, by decide +kernel⟩ ⟨Nat.le_of_ble_eq_true rfl, Nat.le_of_ble_eq_true rfl⟩, (htx _ kw_2_68), (htx _ kw_2_69)⟩ ⟨xPre_blind, vk_recv hZ.2.2.2.2.2.2.2.2.2.1 (i := 10) (by decide) hS, (fun U hU hW => ⟨rfl, xPre_of hZ hS hFc hPc hDc hK U hU hW⟩)⟩ rfl rfl hl.1 rfl (lv_room (Nat.le_of_ble_eq_true rfl)) dM_put1_4 ⟨Nat.le_of_ble_eq_true rfl, Nat.le_of_ble_eq_true rfl⟩) hS (fun q _ h => hFc q h) hFc (fun r4 u9 t H1 locs ht hvm hr9 hB hz1 hk1 hS => ?_)
  obtain ⟨hP1, hK1, hD1⟩ := hB
  rw [ht] at hP1
  obtain ⟨hP, hD⟩ := xjoin (W := [(a0, .inr (5, [v2, v3, v4, v5, v6, v7, v8, v9, v10, v11, v12, v13, v14, v15, v16, v17, v18, v19, v20, v21, v22, .ref a1, .int 1, .int 4096, v23, v24, v25, v26, v27, v28, v29, v30])), (a1, .inl (cT 0, 1024, .inl (upd f31 0 (vp_nar .byte y3))))]) hP hD [] [0, 1] 2 rfl rfl (by decide) (by decide) hk1 hFc hP1 hD1
  generalize H1 = H at hP hS ⊢
  rw [hr9]
  refine W.eq (g2 := F0 m 7 ls [.int 4, .int 1]) rfl ?_
  refine lv_icmp_ge (tgt := 25) hx hb dM_put1_7 (by decide) (fun h => ((by revert h; decide : False)).elim) (fun _ => ?_)
  refine lv_aload_n hx hb dM_put1_10 rfl (lv_at hl 1 rfl) ?_
  refine lv_aload_n hx hb dM_put1_11 rfl (lv_at hl 2 rfl) ?_
  refine lv_iload_n hx hb dM_put1_12 rfl (lv_at hl 0 rfl) ?_
  obtain ⟨hPc, hDc, hFc⟩ := xcut (wc := []) hP hD hS hA [] rfl rfl (by decide)
  refine va_calli (va_runV (C := "java/lang/String") (As := [.int 1]) (rest := [.ref a0]) ⟨hx, hb, hml, hown, htx⟩ (cJS_charAt_1 l hl9 D cT aK aV H.size) ⟨callB_of 1 htx (xw_goodC kw_2_80) rfl rfl rfl (htx _ kw_1_6) (htx _ kw_5_86) ⟨by decide, by decide, by decide +kernel⟩ ⟨Nat.le_of_ble_eq_true rfl, Nat.le_of_ble_eq_true rfl⟩, (htx _ kw_2_78), (htx _ kw_2_79)⟩ ⟨xPre_blind, vk_recv hZ.2.2.2.2.2.2.2.2.2.1 (i := 10) (by decide) hS, (fun U hU hW => ⟨rfl, xPre_of hZ hS hFc hPc hDc hK U hU hW⟩)⟩ rfl rfl hl.1 rfl (lv_room (Nat.le_of_ble_eq_true rfl)) dM_put1_13 ⟨Nat.le_of_ble_eq_true rfl, Nat.le_of_ble_eq_true rfl⟩) hS (fun q _ h => hFc q h) hFc (fun r5 u9 t H1 locs ht hvm hr9 hB hz1 hk1 hS => ?_)
  obtain ⟨hP1, hK1, hD1⟩ := hB
  rw [ht] at hP1
  obtain ⟨hP, hD⟩ := xjoin (W := [(a0, .inr (5, [v2, v3, v4, v5, v6, v7, v8, v9, v10, v11, v12, v13, v14, v15, v16, v17, v18, v19, v20, v21, v22, .ref a1, .int 1, .int 4096, v23, v24, v25, v26, v27, v28, v29, v30])), (a1, .inl (cT 0, 1024, .inl (upd f31 0 (vp_nar .byte y3))))]) hP hD [] [0, 1] 2 rfl rfl (by decide) (by decide) hk1 hFc hP1 hD1
  generalize H1 = H at hP hS ⊢
  rw [hr9]
  refine W.eq (g2 := F0 m 16 ls [.int 117, .ref a0]) rfl ?_
  obtain ⟨hPc, hDc, hFc⟩ := xcut (wc := [(a0, .inr (5, [v2, v3, v4, v5, v6, v7, v8, v9, v10, v11, v12, v13, v14, v15, v16, v17, v18, v19, v20, v21, v22, .ref a1, .int 1, .int 4096, v23, v24, v25, v26, v27, v28, v29, v30])), (a1, .inl (cT 0, 1024, .inl (upd f31 0 (vp_nar .byte y3))))]) hP hD hS hA [0, 1] rfl rfl (by decide)
  refine va_callv (va_runV (C := "ValueBenchModel") (As := [.int 117]) (rest := []) ⟨hx, hb, hml, hown, htx⟩ (cM_put0_1 l hl9 D cT aK aV H.size a0 a1 117 v2 v3 v4 v5 v6 v7 v8 v9 v10 v11 v12 v13 v14 v15 v16 v17 v18 v19 v20 v21 v22 v23 v24 v25 v26 v27 v28 v29 v30 (upd f31 0 (vp_nar .byte y3))) ⟨callB_of 1 htx (xw_goodC kw_6_136) rfl rfl rfl (htx _ kw_1_5) (htx _ kw_6_133) ⟨by decide, by decide, by decide +kernel⟩ ⟨Nat.le_of_ble_eq_true rfl, Nat.le_of_ble_eq_true rfl⟩, (htx _ kw_6_135), (htx _ kp_M_put0)⟩ ⟨xPre_blind, va_recv hK hP (ci := 5) rfl (q0 := 0) rfl, (fun U hU hW => ⟨rfl, xPre_of hZ hS hFc hPc hDc hK U hU hW⟩)⟩ rfl rfl hl.1 rfl (lv_room (Nat.le_of_ble_eq_true rfl)) dM_put1_16 ⟨Nat.le_of_ble_eq_true rfl, Nat.le_of_ble_eq_true rfl⟩) hS (fun q _ h => hFc q h) hFc (fun u9 t H1 locs ht hvm hr9 hB hz1 hk1 hS => ?_)
  obtain ⟨y6, hP1, hK1, hD1⟩ := hB
  rw [ht] at hP1
  obtain ⟨hP, hD⟩ := xjoin (W := [(a0, .inr (5, [v2, v3, v4, v5, v6, v7, v8, v9, v10, v11, v12, v13, v14, v15, v16, v17, v18, v19, v20, v21, v22, .ref a1, .int 2, .int 4096, v23, v24, v25, v26, v27, v28, v29, v30])), (a1, .inl (cT 0, 1024, .inl (upd (upd f31 0 (vp_nar .byte y3)) 1 (vp_nar .byte y6))))]) hP hD [0, 1] [] 0 rfl rfl (by decide) (by decide) hk1 hFc hP1 hD1
  generalize H1 = H at hP hS ⊢
  refine lv_iinc (v := 2) (lv' := [(2, .int 2), (0, .ref a0), (1, .ref (aK 10))]) hx hb dM_put1_19 hl (k := 0) rfl (by decide) (by decide) rfl (fun ls hl => ?_)
  refine lv_goto (tgt := 2) hx hb dM_put1_22 (by decide) ?_
  refine lv_iload_n hx hb dM_put1_2 rfl (lv_at hl 0 rfl) ?_
  refine lv_aload_n hx hb dM_put1_3 rfl (lv_at hl 2 rfl) ?_
  obtain ⟨hPc, hDc, hFc⟩ := xcut (wc := []) hP hD hS hA [] rfl rfl (by decide)
  refine va_calli (va_runV (C := "java/lang/String") (As := []) (rest := [.int 2]) ⟨hx, hb, hml, hown, htx⟩ (cJS_length_0 l hl9 D cT aK aV H.size) ⟨callB_of 0 htx (xw_goodC kw_2_70) rfl rfl rfl (htx _ kw_1_6) (htx _ kw_5_238) ⟨by decide, by decide, by decide +kernel⟩ ⟨Nat.le_of_ble_eq_true rfl, Nat.le_of_ble_eq_true rfl⟩, (htx _ kw_2_68), (htx _ kw_2_69)⟩ ⟨xPre_blind, vk_recv hZ.2.2.2.2.2.2.2.2.2.1 (i := 10) (by decide) hS, (fun U hU hW => ⟨rfl, xPre_of hZ hS hFc hPc hDc hK U hU hW⟩)⟩ rfl rfl hl.1 rfl (lv_room (Nat.le_of_ble_eq_true rfl)) dM_put1_4 ⟨Nat.le_of_ble_eq_true rfl, Nat.le_of_ble_eq_true rfl⟩) hS (fun q _ h => hFc q h) hFc (fun r7 u9 t H1 locs ht hvm hr9 hB hz1 hk1 hS => ?_)
  obtain ⟨hP1, hK1, hD1⟩ := hB
  rw [ht] at hP1
  obtain ⟨hP, hD⟩ := xjoin (W := [(a0, .inr (5, [v2, v3, v4, v5, v6, v7, v8, v9, v10, v11, v12, v13, v14, v15, v16, v17, v18, v19, v20, v21, v22, .ref a1, .int 2, .int 4096, v23, v24, v25, v26, v27, v28, v29, v30])), (a1, .inl (cT 0, 1024, .inl (upd (upd f31 0 (vp_nar .byte y3)) 1 (vp_nar .byte y6))))]) hP hD [] [0, 1] 2 rfl rfl (by decide) (by decide) hk1 hFc hP1 hD1
  generalize H1 = H at hP hS ⊢
  rw [hr9]
  refine W.eq (g2 := F0 m 7 ls [.int 4, .int 2]) rfl ?_
  refine lv_icmp_ge (tgt := 25) hx hb dM_put1_7 (by decide) (fun h => ((by revert h; decide : False)).elim) (fun _ => ?_)
  refine lv_aload_n hx hb dM_put1_10 rfl (lv_at hl 1 rfl) ?_
  refine lv_aload_n hx hb dM_put1_11 rfl (lv_at hl 2 rfl) ?_
  refine lv_iload_n hx hb dM_put1_12 rfl (lv_at hl 0 rfl) ?_
  obtain ⟨hPc, hDc, hFc⟩ := xcut (wc := []) hP hD hS hA [] rfl rfl (by decide)
  refine va_calli (va_runV (C := "java/lang/String") (As := [.int 2]) (rest := [.ref a0]) ⟨hx, hb, hml, hown, htx⟩ (cJS_charAt_2 l hl9 D cT aK aV H.size) ⟨callB_of 1 htx (xw_goodC kw_2_80) rfl rfl rfl (htx _ kw_1_6) (htx _ kw_5_86) ⟨by decide, by decide, by decide +kernel⟩ ⟨Nat.le_of_ble_eq_true rfl, Nat.le_of_ble_eq_true rfl⟩, (htx _ kw_2_78), (htx _ kw_2_79)⟩ ⟨xPre_blind, vk_recv hZ.2.2.2.2.2.2.2.2.2.1 (i := 10) (by decide) hS, (fun U hU hW => ⟨rfl, xPre_of hZ hS hFc hPc hDc hK U hU hW⟩)⟩ rfl rfl hl.1 rfl (lv_room (Nat.le_of_ble_eq_true rfl)) dM_put1_13 ⟨Nat.le_of_ble_eq_true rfl, Nat.le_of_ble_eq_true rfl⟩) hS (fun q _ h => hFc q h) hFc (fun r8 u9 t H1 locs ht hvm hr9 hB hz1 hk1 hS => ?_)
  obtain ⟨hP1, hK1, hD1⟩ := hB
  rw [ht] at hP1
  obtain ⟨hP, hD⟩ := xjoin (W := [(a0, .inr (5, [v2, v3, v4, v5, v6, v7, v8, v9, v10, v11, v12, v13, v14, v15, v16, v17, v18, v19, v20, v21, v22, .ref a1, .int 2, .int 4096, v23, v24, v25, v26, v27, v28, v29, v30])), (a1, .inl (cT 0, 1024, .inl (upd (upd f31 0 (vp_nar .byte y3)) 1 (vp_nar .byte y6))))]) hP hD [] [0, 1] 2 rfl rfl (by decide) (by decide) hk1 hFc hP1 hD1
  generalize H1 = H at hP hS ⊢
  rw [hr9]
  refine W.eq (g2 := F0 m 16 ls [.int 108, .ref a0]) rfl ?_
  obtain ⟨hPc, hDc, hFc⟩ := xcut (wc := [(a0, .inr (5, [v2, v3, v4, v5, v6, v7, v8, v9, v10, v11, v12, v13, v14, v15, v16, v17, v18, v19, v20, v21, v22, .ref a1, .int 2, .int 4096, v23, v24, v25, v26, v27, v28, v29, v30])), (a1, .inl (cT 0, 1024, .inl (upd (upd f31 0 (vp_nar .byte y3)) 1 (vp_nar .byte y6))))]) hP hD hS hA [0, 1] rfl rfl (by decide)
  refine va_callv (va_runV (C := "ValueBenchModel") (As := [.int 108]) (rest := []) ⟨hx, hb, hml, hown, htx⟩ (cM_put0_2 l hl9 D cT aK aV H.size a0 a1 108 v2 v3 v4 v5 v6 v7 v8 v9 v10 v11 v12 v13 v14 v15 v16 v17 v18 v19 v20 v21 v22 v23 v24 v25 v26 v27 v28 v29 v30 (upd (upd f31 0 (vp_nar .byte y3)) 1 (vp_nar .byte y6))) ⟨callB_of 1 htx (xw_goodC kw_6_136) rfl rfl rfl (htx _ kw_1_5) (htx _ kw_6_133) ⟨by decide, by decide, by decide +kernel⟩ ⟨Nat.le_of_ble_eq_true rfl, Nat.le_of_ble_eq_true rfl⟩, (htx _ kw_6_135), (htx _ kp_M_put0)⟩ ⟨xPre_blind, va_recv hK hP (ci := 5) rfl (q0 := 0) rfl, (fun U hU hW => ⟨rfl, xPre_of hZ hS hFc hPc hDc hK U hU hW⟩)⟩ rfl rfl hl.1 rfl (lv_room (Nat.le_of_ble_eq_true rfl)) dM_put1_16 ⟨Nat.le_of_ble_eq_true rfl, Nat.le_of_ble_eq_true rfl⟩) hS (fun q _ h => hFc q h) hFc (fun u9 t H1 locs ht hvm hr9 hB hz1 hk1 hS => ?_)
  obtain ⟨y9, hP1, hK1, hD1⟩ := hB
  rw [ht] at hP1
  obtain ⟨hP, hD⟩ := xjoin (W := [(a0, .inr (5, [v2, v3, v4, v5, v6, v7, v8, v9, v10, v11, v12, v13, v14, v15, v16, v17, v18, v19, v20, v21, v22, .ref a1, .int 3, .int 4096, v23, v24, v25, v26, v27, v28, v29, v30])), (a1, .inl (cT 0, 1024, .inl (upd (upd (upd f31 0 (vp_nar .byte y3)) 1 (vp_nar .byte y6)) 2 (vp_nar .byte y9))))]) hP hD [0, 1] [] 0 rfl rfl (by decide) (by decide) hk1 hFc hP1 hD1
  generalize H1 = H at hP hS ⊢
  refine lv_iinc (v := 3) (lv' := [(2, .int 3), (0, .ref a0), (1, .ref (aK 10))]) hx hb dM_put1_19 hl (k := 0) rfl (by decide) (by decide) rfl (fun ls hl => ?_)
  refine lv_goto (tgt := 2) hx hb dM_put1_22 (by decide) ?_
  refine lv_iload_n hx hb dM_put1_2 rfl (lv_at hl 0 rfl) ?_
  refine lv_aload_n hx hb dM_put1_3 rfl (lv_at hl 2 rfl) ?_
  obtain ⟨hPc, hDc, hFc⟩ := xcut (wc := []) hP hD hS hA [] rfl rfl (by decide)
  refine va_calli (va_runV (C := "java/lang/String") (As := []) (rest := [.int 3]) ⟨hx, hb, hml, hown, htx⟩ (cJS_length_0 l hl9 D cT aK aV H.size) ⟨callB_of 0 htx (xw_goodC kw_2_70) rfl rfl rfl (htx _ kw_1_6) (htx _ kw_5_238) ⟨by decide, by decide, by decide +kernel⟩ ⟨Nat.le_of_ble_eq_true rfl, Nat.le_of_ble_eq_true rfl⟩, (htx _ kw_2_68), (htx _ kw_2_69)⟩ ⟨xPre_blind, vk_recv hZ.2.2.2.2.2.2.2.2.2.1 (i := 10) (by decide) hS, (fun U hU hW => ⟨rfl, xPre_of hZ hS hFc hPc hDc hK U hU hW⟩)⟩ rfl rfl hl.1 rfl (lv_room (Nat.le_of_ble_eq_true rfl)) dM_put1_4 ⟨Nat.le_of_ble_eq_true rfl, Nat.le_of_ble_eq_true rfl⟩) hS (fun q _ h => hFc q h) hFc (fun r10 u9 t H1 locs ht hvm hr9 hB hz1 hk1 hS => ?_)
  obtain ⟨hP1, hK1, hD1⟩ := hB
  rw [ht] at hP1
  obtain ⟨hP, hD⟩ := xjoin (W := [(a0, .inr (5, [v2, v3, v4, v5, v6, v7, v8, v9, v10, v11, v12, v13, v14, v15, v16, v17, v18, v19, v20, v21, v22, .ref a1, .int 3, .int 4096, v23, v24, v25, v26, v27, v28, v29, v30])), (a1, .inl (cT 0, 1024, .inl (upd (upd (upd f31 0 (vp_nar .byte y3)) 1 (vp_nar .byte y6)) 2 (vp_nar .byte y9))))]) hP hD [] [0, 1] 2 rfl rfl (by decide) (by decide) hk1 hFc hP1 hD1
  generalize H1 = H at hP hS ⊢
  rw [hr9]
  refine W.eq (g2 := F0 m 7 ls [.int 4, .int 3]) rfl ?_
  refine lv_icmp_ge (tgt := 25) hx hb dM_put1_7 (by decide) (fun h => ((by revert h; decide : False)).elim) (fun _ => ?_)
  refine lv_aload_n hx hb dM_put1_10 rfl (lv_at hl 1 rfl) ?_
  refine lv_aload_n hx hb dM_put1_11 rfl (lv_at hl 2 rfl) ?_
  refine lv_iload_n hx hb dM_put1_12 rfl (lv_at hl 0 rfl) ?_
  obtain ⟨hPc, hDc, hFc⟩ := xcut (wc := []) hP hD hS hA [] rfl rfl (by decide)
  refine va_calli (va_runV (C := "java/lang/String") (As := [.int 3]) (rest := [.ref a0]) ⟨hx, hb, hml, hown, htx⟩ (cJS_charAt_3 l hl9 D cT aK aV H.size) ⟨callB_of 1 htx (xw_goodC kw_2_80) rfl rfl rfl (htx _ kw_1_6) (htx _ kw_5_86) ⟨by decide, by decide, by decide +kernel⟩ ⟨Nat.le_of_ble_eq_true rfl, Nat.le_of_ble_eq_true rfl⟩, (htx _ kw_2_78), (htx _ kw_2_79)⟩ ⟨xPre_blind, vk_recv hZ.2.2.2.2.2.2.2.2.2.1 (i := 10) (by decide) hS, (fun U hU hW => ⟨rfl, xPre_of hZ hS hFc hPc hDc hK U hU hW⟩)⟩ rfl rfl hl.1 rfl (lv_room (Nat.le_of_ble_eq_true rfl)) dM_put1_13 ⟨Nat.le_of_ble_eq_true rfl, Nat.le_of_ble_eq_true rfl⟩) hS (fun q _ h => hFc q h) hFc (fun r11 u9 t H1 locs ht hvm hr9 hB hz1 hk1 hS => ?_)
  obtain ⟨hP1, hK1, hD1⟩ := hB
  rw [ht] at hP1
  obtain ⟨hP, hD⟩ := xjoin (W := [(a0, .inr (5, [v2, v3, v4, v5, v6, v7, v8, v9, v10, v11, v12, v13, v14, v15, v16, v17, v18, v19, v20, v21, v22, .ref a1, .int 3, .int 4096, v23, v24, v25, v26, v27, v28, v29, v30])), (a1, .inl (cT 0, 1024, .inl (upd (upd (upd f31 0 (vp_nar .byte y3)) 1 (vp_nar .byte y6)) 2 (vp_nar .byte y9))))]) hP hD [] [0, 1] 2 rfl rfl (by decide) (by decide) hk1 hFc hP1 hD1
  generalize H1 = H at hP hS ⊢
  rw [hr9]
  refine W.eq (g2 := F0 m 16 ls [.int 108, .ref a0]) rfl ?_
  obtain ⟨hPc, hDc, hFc⟩ := xcut (wc := [(a0, .inr (5, [v2, v3, v4, v5, v6, v7, v8, v9, v10, v11, v12, v13, v14, v15, v16, v17, v18, v19, v20, v21, v22, .ref a1, .int 3, .int 4096, v23, v24, v25, v26, v27, v28, v29, v30])), (a1, .inl (cT 0, 1024, .inl (upd (upd (upd f31 0 (vp_nar .byte y3)) 1 (vp_nar .byte y6)) 2 (vp_nar .byte y9))))]) hP hD hS hA [0, 1] rfl rfl (by decide)
  refine va_callv (va_runV (C := "ValueBenchModel") (As := [.int 108]) (rest := []) ⟨hx, hb, hml, hown, htx⟩ (cM_put0_3 l hl9 D cT aK aV H.size a0 a1 108 v2 v3 v4 v5 v6 v7 v8 v9 v10 v11 v12 v13 v14 v15 v16 v17 v18 v19 v20 v21 v22 v23 v24 v25 v26 v27 v28 v29 v30 (upd (upd (upd f31 0 (vp_nar .byte y3)) 1 (vp_nar .byte y6)) 2 (vp_nar .byte y9))) ⟨callB_of 1 htx (xw_goodC kw_6_136) rfl rfl rfl (htx _ kw_1_5) (htx _ kw_6_133) ⟨by decide, by decide, by decide +kernel⟩ ⟨Nat.le_of_ble_eq_true rfl, Nat.le_of_ble_eq_true rfl⟩, (htx _ kw_6_135), (htx _ kp_M_put0)⟩ ⟨xPre_blind, va_recv hK hP (ci := 5) rfl (q0 := 0) rfl, (fun U hU hW => ⟨rfl, xPre_of hZ hS hFc hPc hDc hK U hU hW⟩)⟩ rfl rfl hl.1 rfl (lv_room (Nat.le_of_ble_eq_true rfl)) dM_put1_16 ⟨Nat.le_of_ble_eq_true rfl, Nat.le_of_ble_eq_true rfl⟩) hS (fun q _ h => hFc q h) hFc (fun u9 t H1 locs ht hvm hr9 hB hz1 hk1 hS => ?_)
  obtain ⟨y12, hP1, hK1, hD1⟩ := hB
  rw [ht] at hP1
  obtain ⟨hP, hD⟩ := xjoin (W := [(a0, .inr (5, [v2, v3, v4, v5, v6, v7, v8, v9, v10, v11, v12, v13, v14, v15, v16, v17, v18, v19, v20, v21, v22, .ref a1, .int 4, .int 4096, v23, v24, v25, v26, v27, v28, v29, v30])), (a1, .inl (cT 0, 1024, .inl (upd (upd (upd (upd f31 0 (vp_nar .byte y3)) 1 (vp_nar .byte y6)) 2 (vp_nar .byte y9)) 3 (vp_nar .byte y12))))]) hP hD [0, 1] [] 0 rfl rfl (by decide) (by decide) hk1 hFc hP1 hD1
  generalize H1 = H at hP hS ⊢
  refine lv_iinc (v := 4) (lv' := [(2, .int 4), (0, .ref a0), (1, .ref (aK 10))]) hx hb dM_put1_19 hl (k := 0) rfl (by decide) (by decide) rfl (fun ls hl => ?_)
  refine lv_goto (tgt := 2) hx hb dM_put1_22 (by decide) ?_
  refine lv_iload_n hx hb dM_put1_2 rfl (lv_at hl 0 rfl) ?_
  refine lv_aload_n hx hb dM_put1_3 rfl (lv_at hl 2 rfl) ?_
  obtain ⟨hPc, hDc, hFc⟩ := xcut (wc := []) hP hD hS hA [] rfl rfl (by decide)
  refine va_calli (va_runV (C := "java/lang/String") (As := []) (rest := [.int 4]) ⟨hx, hb, hml, hown, htx⟩ (cJS_length_0 l hl9 D cT aK aV H.size) ⟨callB_of 0 htx (xw_goodC kw_2_70) rfl rfl rfl (htx _ kw_1_6) (htx _ kw_5_238) ⟨by decide, by decide, by decide +kernel⟩ ⟨Nat.le_of_ble_eq_true rfl, Nat.le_of_ble_eq_true rfl⟩, (htx _ kw_2_68), (htx _ kw_2_69)⟩ ⟨xPre_blind, vk_recv hZ.2.2.2.2.2.2.2.2.2.1 (i := 10) (by decide) hS, (fun U hU hW => ⟨rfl, xPre_of hZ hS hFc hPc hDc hK U hU hW⟩)⟩ rfl rfl hl.1 rfl (lv_room (Nat.le_of_ble_eq_true rfl)) dM_put1_4 ⟨Nat.le_of_ble_eq_true rfl, Nat.le_of_ble_eq_true rfl⟩) hS (fun q _ h => hFc q h) hFc (fun r13 u9 t H1 locs ht hvm hr9 hB hz1 hk1 hS => ?_)
  obtain ⟨hP1, hK1, hD1⟩ := hB
  rw [ht] at hP1
  obtain ⟨hP, hD⟩ := xjoin (W := [(a0, .inr (5, [v2, v3, v4, v5, v6, v7, v8, v9, v10, v11, v12, v13, v14, v15, v16, v17, v18, v19, v20, v21, v22, .ref a1, .int 4, .int 4096, v23, v24, v25, v26, v27, v28, v29, v30])), (a1, .inl (cT 0, 1024, .inl (upd (upd (upd (upd f31 0 (vp_nar .byte y3)) 1 (vp_nar .byte y6)) 2 (vp_nar .byte y9)) 3 (vp_nar .byte y12))))]) hP hD [] [0, 1] 2 rfl rfl (by decide) (by decide) hk1 hFc hP1 hD1
  generalize H1 = H at hP hS ⊢
  rw [hr9]
  refine W.eq (g2 := F0 m 7 ls [.int 4, .int 4]) rfl ?_
  refine lv_icmp_ge (tgt := 25) hx hb dM_put1_7 (by decide) (fun _ => ?_) (fun h => ((by revert h; decide : False)).elim)
  obtain ⟨hP9, hD9⟩ := xsub (wc := [(a0, .inr (5, [v2, v3, v4, v5, v6, v7, v8, v9, v10, v11, v12, v13, v14, v15, v16, v17, v18, v19, v20, v21, v22, .ref a1, .int 4, .int 4096, v23, v24, v25, v26, v27, v28, v29, v30])), (a1, .inl (cT 0, 1024, .inl (upd (upd (upd (upd f31 0 (vp_nar .byte y3)) 1 (vp_nar .byte y6)) 2 (vp_nar .byte y9)) 3 (vp_nar .byte y12))))]) hP hD [0, 1] rfl rfl (by decide)
  refine W.widen (k := 0) (n := 0) (Nat.le_of_ble_eq_true rfl) (Nat.le_of_ble_eq_true rfl) ?_
  exact W.vret hx hb hr (fun t ht hW => ⟨⟨(), rfl, trivial, y3, y6, y9, y12, by rw [ht]; exact hP9, va_K.moved hW.alike hK, hD9⟩, hS.F ht⟩) hS.2.2 dM_put1_25
set_option maxHeartbeats 400000000 in
set_option maxRecDepth 100000 in
theorem cM_print1_0 (l : Launch) (hl9 : l.stackTraces = false) (D : va_G) (cT : Nat → ClassId) (aK aV : Nat → Nat) (sz : Nat) (a0 : Nat) (a1 : Nat) (a2 : Nat) (v3 : Value) (v4 : Value) (v5 : Value) (v6 : Value) (v7 : Value) (v8 : Value) (v9 : Value) (v10 : Value) (v11 : Value) (v12 : Value) (v13 : Value) (v14 : Value) (v15 : Value) (v16 : Value) (v17 : Value) (v18 : Value) (v19 : Value) (v20 : Value) (v21 : Value) (v22 : Value) (v23 : Value) (v24 : Value) (v25 : Value) (v26 : Value) (v27 : Value) (v28 : Value) (v29 : Value) (v30 : Value) (v31 : Value) (v32 : Value) (v33 : Value) (v34 : Value) (v35 : Value) (v36 : Value) (f37 : Nat → Int32) : xMet l yM_print1 wyM_print1 5 0 0 107 D cT aK aV sz [.ref a1, .ref a0] [(a0, .inr (6, [.int 0, v3, v4, v5, v6, v7])), (a1, .inr (5, [v8, v9, v10, v11, v12, v13, v14, v15, v16, v17, v18, v19, v20, v21, v22, v23, v24, v25, v26, v27, v28, .ref a2, .int 0, .int 4096, v29, v30, v31, v32, v33, v34, v35, v36])), (a2, .inl (cT 0, 1024, .inl f37))] (fun A => va_Qv (fun _ : Unit => True) (fun _ t => ∃ (y1 : Int32) (y2 : Int32) (y3 : Int32) (y4 : Int32), xB D xcl cT A [(a0, .inr (6, [.int 0, v3, v4, v5, v6, v7])), (a1, .inr (5, [v8, v9, v10, v11, v12, v13, v14, v15, v16, v17, v18, v19, v20, v21, v22, v23, v24, v25, v26, v27, v28, .ref a2, .int 4, .int 4096, v29, v30, v31, v32, v33, v34, v35, v36])), (a2, .inl (cT 0, 1024, .inl (upd (upd (upd (upd f37 0 (vp_nar .byte y1)) 1 (vp_nar .byte y2)) 2 (vp_nar .byte y3)) 3 (vp_nar .byte y4))))] t) A) := by
  refine Met.ofW (cc := prog_13_method_46_code) (maxL := 3) (ret := none) (by decide) rfl ?_
  intro p e s m args below meth c s₁ B hml hv
  obtain ⟨rfl, hsz, hZ, hP, hK, hD0⟩ := hv
  have hx := B.exec
  have hb := B.bytes
  have hr := B.returns
  have hts := atoms_spec (ws := wyM_print1) B.pre
  have htx := fun w h => hts w (List.mem_cons_of_mem _ h)
  have hown : s.vm.findClass "ValueBenchModel" = some m.cls := findClass_of_methodNamed B.named
  have hlocks := B.notSynchronized
  subst hsz
  have hD := hD0.self (sz := s.heap.size)
  generalize hAe : va_A [(a0, .inr (6, [.int 0, v3, v4, v5, v6, v7])), (a1, .inr (5, [v8, v9, v10, v11, v12, v13, v14, v15, v16, v17, v18, v19, v20, v21, v22, v23, v24, v25, v26, v27, v28, .ref a2, .int 0, .int 4096, v29, v30, v31, v32, v33, v34, v35, v36])), (a2, .inl (cT 0, 1024, .inl f37))] s.heap.size = A at hD hZ ⊢
  have hA : ∀ q : Nat, s.heap.size ≤ q → A q := fun q h => by rw [← hAe]; exact Or.inr h
  have hS : va_S A s.heap s.heap [] := va_S.rf
  have hP : va_P D xcl [(a0, .inr (6, [.int 0, v3, v4, v5, v6, v7])), (a1, .inr (5, [v8, v9, v10, v11, v12, v13, v14, v15, v16, v17, v18, v19, v20, v21, v22, v23, v24, v25, v26, v27, v28, .ref a2, .int 0, .int 4096, v29, v30, v31, v32, v33, v34, v35, v36])), (a2, .inl (cT 0, 1024, .inl f37))] s.heap := hP
  have hl := lv_entry ([.ref a1, .ref a0]) (n := 3) (Nat.le_of_ble_eq_true rfl)
  rw [lg_entry_eq]
  generalize (lg_sl ([.ref a1, .ref a0]) ++ List.replicate (3 - (lg_sl ([.ref a1, .ref a0])).length) Slot.unset).toArray = ls at hl ⊢
  have hl : lv_has ls 3 [(0, .ref a1), (1, .ref a0)] := hl
  refine lv_aload_n hx hb dM_print1_0 rfl (lv_at hl 1 rfl) ?_
  refine va_getN (D := D) (ci := 6) (v := .int 0) (C := "ValueBenchModel$V") (T := TV) (N := 6) hx hb htx inV hown hK hP 0 rfl rfl 0 (by decide) ((hZ.1 (93, "kind", "I") (List.mem_of_getElem? (i := 0) rfl)).use rfl) (fun _ h9 => h9) rfl dM_print1_1 ?_
  refine lv_tableIn (off := 36) (tgt := 40) hx hb dM_print1_4 (by decide) (by decide) (by decide) (by decide) ?_
  refine lv_aload_n hx hb dM_print1_40 rfl (lv_at hl 0 rfl) ?_
  refine va_ldcS (q := aK 10) hx hb hown (hZ.2.2.2.2.2.2.2.2.1 ("ValueBenchModel", 69, "null", 10) (List.mem_of_getElem? (i := 17) rfl)) dM_print1_41 ?_
  obtain ⟨hPc, hDc, hFc⟩ := xcut (wc := [(a1, .inr (5, [v8, v9, v10, v11, v12, v13, v14, v15, v16, v17, v18, v19, v20, v21, v22, v23, v24, v25, v26, v27, v28, .ref a2, .int 0, .int 4096, v29, v30, v31, v32, v33, v34, v35, v36])), (a2, .inl (cT 0, 1024, .inl f37))]) hP hD hS hA [1, 2] rfl rfl (by decide)
  refine va_callv (va_runV (C := "ValueBenchModel") (As := [.ref (aK 10)]) (rest := []) ⟨hx, hb, hml, hown, htx⟩ (cM_put1_0 l hl9 D cT aK aV s.heap.size a1 a2 v8 v9 v10 v11 v12 v13 v14 v15 v16 v17 v18 v19 v20 v21 v22 v23 v24 v25 v26 v27 v28 v29 v30 v31 v32 v33 v34 v35 v36 f37) ⟨callB_of 1 htx (xw_goodC kw_6_132) rfl rfl rfl (htx _ kw_1_5) (htx _ kw_6_129) ⟨by decide, by decide, by decide +kernel⟩ ⟨Nat.le_of_ble_eq_true rfl, Nat.le_of_ble_eq_true rfl⟩, (htx _ kw_6_131), (htx _ kp_M_put1)⟩ ⟨xPre_blind, va_recv hK hP (ci := 5) rfl (q0 := 1) rfl, (fun U hU hW => ⟨rfl, xPre_of hZ hS hFc hPc hDc hK U hU hW⟩)⟩ rfl rfl hl.1 rfl (lv_room (Nat.le_of_ble_eq_true rfl)) dM_print1_43 ⟨Nat.le_of_ble_eq_true rfl, Nat.le_of_ble_eq_true rfl⟩) hS (fun q _ h => hFc q h) hFc (fun u9 t H1 locs ht hvm hr9 hB hz1 hk1 hS => ?_)
  obtain ⟨y1, y2, y3, y4, hP1, hK1, hD1⟩ := hB
  rw [ht] at hP1
  obtain ⟨hP, hD⟩ := xjoin (W := [(a0, .inr (6, [.int 0, v3, v4, v5, v6, v7])), (a1, .inr (5, [v8, v9, v10, v11, v12, v13, v14, v15, v16, v17, v18, v19, v20, v21, v22, v23, v24, v25, v26, v27, v28, .ref a2, .int 4, .int 4096, v29, v30, v31, v32, v33, v34, v35, v36])), (a2, .inl (cT 0, 1024, .inl (upd (upd (upd (upd f37 0 (vp_nar .byte y1)) 1 (vp_nar .byte y2)) 2 (vp_nar .byte y3)) 3 (vp_nar .byte y4))))]) hP hD [1, 2] [0] 1 rfl rfl (by decide) (by decide) hk1 hFc hP1 hD1
  generalize H1 = H at hP hS ⊢
  obtain ⟨hP9, hD9⟩ := xsub (wc := [(a0, .inr (6, [.int 0, v3, v4, v5, v6, v7])), (a1, .inr (5, [v8, v9, v10, v11, v12, v13, v14, v15, v16, v17, v18, v19, v20, v21, v22, v23, v24, v25, v26, v27, v28, .ref a2, .int 4, .int 4096, v29, v30, v31, v32, v33, v34, v35, v36])), (a2, .inl (cT 0, 1024, .inl (upd (upd (upd (upd f37 0 (vp_nar .byte y1)) 1 (vp_nar .byte y2)) 2 (vp_nar .byte y3)) 3 (vp_nar .byte y4))))]) hP hD [0, 1, 2] rfl rfl (by decide)
  refine W.widen (k := 0) (n := 0) (Nat.le_of_ble_eq_true rfl) (Nat.le_of_ble_eq_true rfl) ?_
  exact W.vret hx hb hr (fun t ht hW => ⟨⟨(), rfl, trivial, y1, y2, y3, y4, by rw [ht]; exact hP9, va_K.moved hW.alike hK, hD9⟩, hS.F ht⟩) hS.2.2 dM_print1_46
set_option maxHeartbeats 400000000 in
set_option maxRecDepth 100000 in
theorem cM_store_0 (l : Launch) (hl9 : l.stackTraces = false) (D : va_G) (cT : Nat → ClassId) (aK aV : Nat → Nat) (sz : Nat) (a0 : Nat) (a1 : Nat) (a2 : Nat) (a3 : Nat) (a4 : Nat) (a5 : Nat) (x6 : Int32) (v11 : Value) (v12 : Value) (v13 : Value) (v14 : Value) (v15 : Value) (v16 : Value) (v17 : Value) (v18 : Value) (v19 : Value) (v20 : Value) (v21 : Value) (v22 : Value) (v23 : Value) (v24 : Value) (v25 : Value) (v26 : Value) (v27 : Value) (v28 : Value) (v29 : Value) (v30 : Value) (v31 : Value) (v32 : Value) (v33 : Value) (v34 : Value) (v35 : Value) (v36 : Value) (v37 : Value) (v38 : Value) (v39 : Value) (v40 : Value) (v41 : Value) (v42 : Value) (v43 : Value) (v44 : Value) (f45 : Nat → Int32) (f46 : Nat → Option Nat) (f48 : Nat → Int32) (f49 : Nat → Int32) (h7 : ¬ x6 < 0) (h8 : ¬ 7 < x6) (h9 : x6 ≤ 7) (h10 : vp_in x6 8) (h47 : f46 x6.toNatClampNeg = some a4) : xMet l yM_store wyM_store 6 0 0 129 D cT aK aV sz [.ref a0, .int x6, .ref a1] [(a0, .inr (5, [v11, v12, v13, v14, v15, v16, v17, v18, v19, v20, v21, v22, v23, v24, v25, v26, v27, v28, v29, v30, v31, .ref a2, v32, v33, .ref a3, .ref a5, v34, v35, v36, v37, v38, v39])), (a1, .inr (6, [.int 0, v40, v41, v42, v43, v44])), (a2, .inl (cT 0, 1024, .inl f45)), (a3, .inl (cT 5, 8, .inr (.inr (.inr (.inr f46))))), (a4, .inl (cT 0, 4096, .inl f48)), (a5, .inl (cT 1, 8, .inl f49))] (fun A => va_Qi (fun (r : Int32) (_ : Unit) => r = 4) (fun _ t => ∃ (y1 : Int32) (y2 : Int32) (y3 : Int32) (y4 : Int32), xB D xcl cT A [(a0, .inr (5, [v11, v12, v13, v14, v15, v16, v17, v18, v19, v20, v21, v22, v23, v24, v25, v26, v27, v28, v29, v30, v31, .ref a2, .int 4, .int 4096, .ref a3, .ref a5, v34, v35, v36, v37, v38, v39])), (a1, .inr (6, [.int 0, v40, v41, v42, v43, v44])), (a2, .inl (cT 0, 1024, .inl (upd (upd (upd (upd f45 0 (vp_nar .byte y1)) 1 (vp_nar .byte y2)) 2 (vp_nar .byte y3)) 3 (vp_nar .byte y4)))), (a3, .inl (cT 5, 8, .inr (.inr (.inr (.inr f46))))), (a4, .inl (cT 0, 4096, .inl (upd (upd (upd (upd f48 0 (vp_nar .byte (vp_nar .byte y1))) 1 (vp_nar .byte (vp_nar .byte y2))) 2 (vp_nar .byte (vp_nar .byte y3))) 3 (vp_nar .byte (vp_nar .byte y4))))), (a5, .inl (cT 1, 8, .inl (upd f49 x6.toNatClampNeg 4)))] t) A) := by
  refine Met.ofW (cc := prog_13_method_80_code) (maxL := 4) (ret := (some .int)) (by decide) rfl ?_
  intro p e s m args below meth c s₁ B hml hv
  obtain ⟨rfl, hsz, hZ, hP, hK, hD0⟩ := hv
  have hx := B.exec
  have hb := B.bytes
  have hr := B.returns
  have hts := atoms_spec (ws := wyM_store) B.pre
  have htx := fun w h => hts w (List.mem_cons_of_mem _ h)
  have hown : s.vm.findClass "ValueBenchModel" = some m.cls := findClass_of_methodNamed B.named
  have hlocks := B.notSynchronized
  subst hsz
  have hD := hD0.self (sz := s.heap.size)
  generalize hAe : va_A [(a0, .inr (5, [v11, v12, v13, v14, v15, v16, v17, v18, v19, v20, v21, v22, v23, v24, v25, v26, v27, v28, v29, v30, v31, .ref a2, v32, v33, .ref a3, .ref a5, v34, v35, v36, v37, v38, v39])), (a1, .inr (6, [.int 0, v40, v41, v42, v43, v44])), (a2, .inl (cT 0, 1024, .inl f45)), (a3, .inl (cT 5, 8, .inr (.inr (.inr (.inr f46))))), (a4, .inl (cT 0, 4096, .inl f48)), (a5, .inl (cT 1, 8, .inl f49))] s.heap.size = A at hD hZ ⊢
  have hA : ∀ q : Nat, s.heap.size ≤ q → A q := fun q h => by rw [← hAe]; exact Or.inr h
  have hS : va_S A s.heap s.heap [] := va_S.rf
  have hP : va_P D xcl [(a0, .inr (5, [v11, v12, v13, v14, v15, v16, v17, v18, v19, v20, v21, v22, v23, v24, v25, v26, v27, v28, v29, v30, v31, .ref a2, v32, v33, .ref a3, .ref a5, v34, v35, v36, v37, v38, v39])), (a1, .inr (6, [.int 0, v40, v41, v42, v43, v44])), (a2, .inl (cT 0, 1024, .inl f45)), (a3, .inl (cT 5, 8, .inr (.inr (.inr (.inr f46))))), (a4, .inl (cT 0, 4096, .inl f48)), (a5, .inl (cT 1, 8, .inl f49))] s.heap := hP
  have hl := lv_entry ([.ref a0, .int x6, .ref a1]) (n := 4) (Nat.le_of_ble_eq_true rfl)
  rw [lg_entry_eq]
  generalize (lg_sl ([.ref a0, .int x6, .ref a1]) ++ List.replicate (4 - (lg_sl ([.ref a0, .int x6, .ref a1])).length) Slot.unset).toArray = ls at hl ⊢
  have hl : lv_has ls 4 [(0, .ref a0), (1, .int x6), (2, .ref a1)] := hl
  refine lv_aload_n hx hb dM_store_0 rfl (lv_at hl 0 rfl) ?_
  refine lv_iconst (v := 0) hx hb dM_store_1 (by decide) ?_
  refine va_put (D := D) (ci := 5) (v := .int 0) (ty := .int) (C := "ValueBenchModel") (T := TM) (N := 32) hx hb htx inM tyM tyM_ok nmM hown hK hP hD hS 0 rfl rfl 22 (by decide) (htx _ kw_5_109) (fun _ h9 => h9) rfl (by decide +kernel) rfl rfl (Nat.le_of_ble_eq_true rfl) dM_store_2 (fun H locs hP hD hS => ?_)
  obtain ⟨hP, hD⟩ : xPD D xcl A [(a0, .inr (5, [v11, v12, v13, v14, v15, v16, v17, v18, v19, v20, v21, v22, v23, v24, v25, v26, v27, v28, v29, v30, v31, .ref a2, .int 0, v33, .ref a3, .ref a5, v34, v35, v36, v37, v38, v39])), (a1, .inr (6, [.int 0, v40, v41, v42, v43, v44])), (a2, .inl (cT 0, 1024, .inl f45)), (a3, .inl (cT 5, 8, .inr (.inr (.inr (.inr f46))))), (a4, .inl (cT 0, 4096, .inl f48)), (a5, .inl (cT 1, 8, .inl f49))] H := ⟨hP, hD⟩
  refine lv_aload_n hx hb dM_store_5 rfl (lv_at hl 0 rfl) ?_
  refine lv_sipush (v := 4096) hx hb dM_store_6 (by decide) ?_
  refine va_put (D := D) (ci := 5) (v := .int 4096) (ty := .int) (C := "ValueBenchModel") (T := TM) (N := 32) hx hb htx inM tyM tyM_ok nmM hown hK hP hD hS 0 rfl rfl 23 (by decide) (htx _ kw_5_110) (fun _ h9 => h9) rfl (by decide +kernel) rfl rfl (Nat.le_of_ble_eq_true rfl) dM_store_9 (fun H locs hP hD hS => ?_)
  obtain ⟨hP, hD⟩ : xPD D xcl A [(a0, .inr (5, [v11, v12, v13, v14, v15, v16, v17, v18, v19, v20, v21, v22, v23, v24, v25, v26, v27, v28, v29, v30, v31, .ref a2, .int 0, .int 4096, .ref a3, .ref a5, v34, v35, v36, v37, v38, v39])), (a1, .inr (6, [.int 0, v40, v41, v42, v43, v44])), (a2, .inl (cT 0, 1024, .inl f45)), (a3, .inl (cT 5, 8, .inr (.inr (.inr (.inr f46))))), (a4, .inl (cT 0, 4096, .inl f48)), (a5, .inl (cT 1, 8, .inl f49))] H := ⟨hP, hD⟩
  refine lv_aload_n hx hb dM_store_12 rfl (lv_at hl 0 rfl) ?_
  refine lv_aload_n hx hb dM_store_13 rfl (lv_at hl 2 rfl) ?_
  obtain ⟨hPc, hDc, hFc⟩ := xcut (wc := [(a1, .inr (6, [.int 0, v40, v41, v42, v43, v44])), (a0, .inr (5, [v11, v12, v13, v14, v15, v16, v17, v18, v19, v20, v21, v22, v23, v24, v25, v26, v27, v28, v29, v30, v31, .ref a2, .int 0, .int 4096, .ref a3, .ref a5, v34, v35, v36, v37, v38, v39])), (a2, .inl (cT 0, 1024, .inl f45))]) hP hD hS hA [1, 0, 2] rfl rfl (by decide)
  refine va_callv (va_runV (C := "ValueBenchModel") (As := [.ref a1]) (rest := []) ⟨hx, hb, hml, hown, htx⟩ (cM_print1_0 l hl9 D cT aK aV H.size a1 a0 a2 v40 v41 v42 v43 v44 v11 v12 v13 v14 v15 v16 v17 v18 v19 v20 v21 v22 v23 v24 v25 v26 v27 v28 v29 v30 v31 (.ref a3) (.ref a5) v34 v35 v36 v37 v38 v39 f45) ⟨callB_of 1 htx (xw_goodC kw_6_128) rfl rfl rfl (htx _ kw_1_5) (htx _ kw_6_125) ⟨by decide, by decide, by decide +kernel⟩ ⟨Nat.le_of_ble_eq_true rfl, Nat.le_of_ble_eq_true rfl⟩, (htx _ kw_6_127), (htx _ kp_M_print1)⟩ ⟨xPre_blind, va_recv hK hP (ci := 5) rfl (q0 := 0) rfl, (fun U hU hW => ⟨rfl, xPre_of hZ hS hFc hPc hDc hK U hU hW⟩)⟩ rfl rfl hl.1 rfl (lv_room (Nat.le_of_ble_eq_true rfl)) dM_store_14 ⟨Nat.le_of_ble_eq_true rfl, Nat.le_of_ble_eq_true rfl⟩) hS (fun q _ h => hFc q h) hFc (fun u9 t H1 locs ht hvm hr9 hB hz1 hk1 hS => ?_)
  obtain ⟨y1, y2, y3, y4, hP1, hK1, hD1⟩ := hB
  rw [ht] at hP1
  obtain ⟨hP, hD⟩ := xjoin (W := [(a3, .inl (cT 5, 8, .inr (.inr (.inr (.inr f46))))), (a4, .inl (cT 0, 4096, .inl f48)), (a5, .inl (cT 1, 8, .inl f49)), (a1, .inr (6, [.int 0, v40, v41, v42, v43, v44])), (a0, .inr (5, [v11, v12, v13, v14, v15, v16, v17, v18, v19, v20, v21, v22, v23, v24, v25, v26, v27, v28, v29, v30, v31, .ref a2, .int 4, .int 4096, .ref a3, .ref a5, v34, v35, v36, v37, v38, v39])), (a2, .inl (cT 0, 1024, .inl (upd (upd (upd (upd f45 0 (vp_nar .byte y1)) 1 (vp_nar .byte y2)) 2 (vp_nar .byte y3)) 3 (vp_nar .byte y4))))]) hP hD [1, 0, 2] [3, 4, 5] 3 rfl rfl (by decide) (by decide) hk1 hFc hP1 hD1
  generalize H1 = H at hP hS ⊢
  refine lv_iconst (v := 0) hx hb dM_store_17 (by decide) ?_
  refine lv_istore_n (lv' := [(3, .int 0), (0, .ref a0), (1, .int x6), (2, .ref a1)]) hx hb dM_store_18 rfl hl (by decide) rfl (fun ls hl => ?_)
  refine lv_iload_n hx hb dM_store_19 rfl (lv_at hl 0 rfl) ?_
  refine lv_aload_n hx hb dM_store_20 rfl (lv_at hl 1 rfl) ?_
  refine va_get (D := D) (ci := 5) (v := .int 4) (C := "ValueBenchModel") (T := TM) (N := 32) hx hb htx inM hown hK hP 4 rfl rfl 22 (by decide) (htx _ kw_5_109) (fun _ h9 => h9) rfl dM_store_21 ?_
  refine lv_icmp_ge (tgt := 47) hx hb dM_store_24 (by decide) (fun h => ((by revert h; decide : False)).elim) (fun _ => ?_)
  refine lv_aload_n hx hb dM_store_27 rfl (lv_at hl 1 rfl) ?_
  refine va_get (D := D) (ci := 5) (v := .ref a3) (C := "ValueBenchModel") (T := TM) (N := 32) hx hb htx inM hown hK hP 4 rfl rfl 24 (by decide) (htx _ kw_5_111) (fun _ h9 => h9) rfl dM_store_28 ?_
  refine lv_iload_n hx hb dM_store_31 rfl (lv_at hl 2 rfl) ?_
  refine xx_aldA hx hb hK hP 0 5 rfl rfl h10 dM_store_32 ?_
  refine W.eq (g2 := F0 m 33 ls [va_rf (f46 x6.toNatClampNeg)]) rfl ?_
  rw [h47]
  refine W.eq (g2 := F0 m 33 ls [.ref a4]) rfl ?_
  refine lv_iload_n hx hb dM_store_33 rfl (lv_at hl 0 rfl) ?_
  refine lv_aload_n hx hb dM_store_34 rfl (lv_at hl 1 rfl) ?_
  refine va_get (D := D) (ci := 5) (v := .ref a2) (C := "ValueBenchModel") (T := TM) (N := 32) hx hb htx inM hown hK hP 4 rfl rfl 21 (by decide) (htx _ kw_5_108) (fun _ h9 => h9) rfl dM_store_35 ?_
  refine lv_iload_n hx hb dM_store_38 rfl (lv_at hl 0 rfl) ?_
  refine va_bald hx hb hK hP 5 0 rfl rfl (show ¬ ((0 : Int32) < 0 ∨ 1024 ≤ (0 : Int32).toNatClampNeg) by decide) dM_store_39 ?_
  refine W.eq (g2 := F0 m 40 ls [.int (vp_nar .byte y1), .int 0, .ref a4]) rfl ?_
  refine va_bast hx hb hK hP hD hS 1 0 rfl rfl (show ¬ ((0 : Int32) < 0 ∨ 4096 ≤ (0 : Int32).toNatClampNeg) by decide) dM_store_40 (fun H locs hP hD hS => ?_)
  obtain ⟨hP, hD⟩ : xPD D xcl A [(a3, .inl (cT 5, 8, .inr (.inr (.inr (.inr f46))))), (a4, .inl (cT 0, 4096, .inl (upd f48 0 (vp_nar .byte (vp_nar .byte y1))))), (a5, .inl (cT 1, 8, .inl f49)), (a1, .inr (6, [.int 0, v40, v41, v42, v43, v44])), (a0, .inr (5, [v11, v12, v13, v14, v15, v16, v17, v18, v19, v20, v21, v22, v23, v24, v25, v26, v27, v28, v29, v30, v31, .ref a2, .int 4, .int 4096, .ref a3, .ref a5, v34, v35, v36, v37, v38, v39])), (a2, .inl (cT 0, 1024, .inl (upd (upd (upd (upd f45 0 (vp_nar .byte y1)) 1 (vp_nar .byte y2)) 2 (vp_nar .byte y3)) 3 (vp_nar .byte y4))))] H := ⟨hP, hD⟩
  refine lv_iinc (v := 1) (lv' := [(3, .int 1), (0, .ref a0), (1, .int x6), (2, .ref a1)]) hx hb dM_store_41 hl (k := 0) rfl (by decide) (by decide) rfl (fun ls hl => ?_)
  refine lv_goto (tgt := 19) hx hb dM_store_44 (by decide) ?_
  refine lv_iload_n hx hb dM_store_19 rfl (lv_at hl 0 rfl) ?_
  refine lv_aload_n hx hb dM_store_20 rfl (lv_at hl 1 rfl) ?_
  refine va_get (D := D) (ci := 5) (v := .int 4) (C := "ValueBenchModel") (T := TM) (N := 32) hx hb htx inM hown hK hP 4 rfl rfl 22 (by decide) (htx _ kw_5_109) (fun _ h9 => h9) rfl dM_store_21 ?_
  refine lv_icmp_ge (tgt := 47) hx hb dM_store_24 (by decide) (fun h => ((by revert h; decide : False)).elim) (fun _ => ?_)
  refine lv_aload_n hx hb dM_store_27 rfl (lv_at hl 1 rfl) ?_
  refine va_get (D := D) (ci := 5) (v := .ref a3) (C := "ValueBenchModel") (T := TM) (N := 32) hx hb htx inM hown hK hP 4 rfl rfl 24 (by decide) (htx _ kw_5_111) (fun _ h9 => h9) rfl dM_store_28 ?_
  refine lv_iload_n hx hb dM_store_31 rfl (lv_at hl 2 rfl) ?_
  refine xx_aldA hx hb hK hP 0 5 rfl rfl h10 dM_store_32 ?_
  refine W.eq (g2 := F0 m 33 ls [va_rf (f46 x6.toNatClampNeg)]) rfl ?_
  rw [h47]
  refine W.eq (g2 := F0 m 33 ls [.ref a4]) rfl ?_
  refine lv_iload_n hx hb dM_store_33 rfl (lv_at hl 0 rfl) ?_
  refine lv_aload_n hx hb dM_store_34 rfl (lv_at hl 1 rfl) ?_
  refine va_get (D := D) (ci := 5) (v := .ref a2) (C := "ValueBenchModel") (T := TM) (N := 32) hx hb htx inM hown hK hP 4 rfl rfl 21 (by decide) (htx _ kw_5_108) (fun _ h9 => h9) rfl dM_store_35 ?_
  refine lv_iload_n hx hb dM_store_38 rfl (lv_at hl 0 rfl) ?_
  refine va_bald hx hb hK hP 5 0 rfl rfl (show ¬ ((1 : Int32) < 0 ∨ 1024 ≤ (1 : Int32).toNatClampNeg) by decide) dM_store_39 ?_
  refine W.eq (g2 := F0 m 40 ls [.int (vp_nar .byte y2), .int 1, .ref a4]) rfl ?_
  refine va_bast hx hb hK hP hD hS 1 0 rfl rfl (show ¬ ((1 : Int32) < 0 ∨ 4096 ≤ (1 : Int32).toNatClampNeg) by decide) dM_store_40 (fun H locs hP hD hS => ?_)
  obtain ⟨hP, hD⟩ : xPD D xcl A [(a3, .inl (cT 5, 8, .inr (.inr (.inr (.inr f46))))), (a4, .inl (cT 0, 4096, .inl (upd (upd f48 0 (vp_nar .byte (vp_nar .byte y1))) 1 (vp_nar .byte (vp_nar .byte y2))))), (a5, .inl (cT 1, 8, .inl f49)), (a1, .inr (6, [.int 0, v40, v41, v42, v43, v44])), (a0, .inr (5, [v11, v12, v13, v14, v15, v16, v17, v18, v19, v20, v21, v22, v23, v24, v25, v26, v27, v28, v29, v30, v31, .ref a2, .int 4, .int 4096, .ref a3, .ref a5, v34, v35, v36, v37, v38, v39])), (a2, .inl (cT 0, 1024, .inl (upd (upd (upd (upd f45 0 (vp_nar .byte y1)) 1 (vp_nar .byte y2)) 2 (vp_nar .byte y3)) 3 (vp_nar .byte y4))))] H := ⟨hP, hD⟩
  refine lv_iinc (v := 2) (lv' := [(3, .int 2), (0, .ref a0), (1, .int x6), (2, .ref a1)]) hx hb dM_store_41 hl (k := 0) rfl (by decide) (by decide) rfl (fun ls hl => ?_)
  refine lv_goto (tgt := 19) hx hb dM_store_44 (by decide) ?_
  refine lv_iload_n hx hb dM_store_19 rfl (lv_at hl 0 rfl) ?_
  refine lv_aload_n hx hb dM_store_20 rfl (lv_at hl 1 rfl) ?_
  refine va_get (D := D) (ci := 5) (v := .int 4) (C := "ValueBenchModel") (T := TM) (N := 32) hx hb htx inM hown hK hP 4 rfl rfl 22 (by decide) (htx _ kw_5_109) (fun _ h9 => h9) rfl dM_store_21 ?_
  refine lv_icmp_ge (tgt := 47) hx hb dM_store_24 (by decide) (fun h => ((by revert h; decide : False)).elim) (fun _ => ?_)
  refine lv_aload_n hx hb dM_store_27 rfl (lv_at hl 1 rfl) ?_
  refine va_get (D := D) (ci := 5) (v := .ref a3) (C := "ValueBenchModel") (T := TM) (N := 32) hx hb htx inM hown hK hP 4 rfl rfl 24 (by decide) (htx _ kw_5_111) (fun _ h9 => h9) rfl dM_store_28 ?_
  refine lv_iload_n hx hb dM_store_31 rfl (lv_at hl 2 rfl) ?_
  refine xx_aldA hx hb hK hP 0 5 rfl rfl h10 dM_store_32 ?_
  refine W.eq (g2 := F0 m 33 ls [va_rf (f46 x6.toNatClampNeg)]) rfl ?_
  rw [h47]
  refine W.eq (g2 := F0 m 33 ls [.ref a4]) rfl ?_
  refine lv_iload_n hx hb dM_store_33 rfl (lv_at hl 0 rfl) ?_
  refine lv_aload_n hx hb dM_store_34 rfl (lv_at hl 1 rfl) ?_
  refine va_get (D := D) (ci := 5) (v := .ref a2) (C := "ValueBenchModel") (T := TM) (N := 32) hx hb htx inM hown hK hP 4 rfl rfl 21 (by decide) (htx _ kw_5_108) (fun _ h9 => h9) rfl dM_store_35 ?_
  refine lv_iload_n hx hb dM_store_38 rfl (lv_at hl 0 rfl) ?_
  refine va_bald hx hb hK hP 5 0 rfl rfl (show ¬ ((2 : Int32) < 0 ∨ 1024 ≤ (2 : Int32).toNatClampNeg) by decide) dM_store_39 ?_
  refine W.eq (g2 := F0 m 40 ls [.int (vp_nar .byte y3), .int 2, .ref a4]) rfl ?_
  refine va_bast hx hb hK hP hD hS 1 0 rfl rfl (show ¬ ((2 : Int32) < 0 ∨ 4096 ≤ (2 : Int32).toNatClampNeg) by decide) dM_store_40 (fun H locs hP hD hS => ?_)
  obtain ⟨hP, hD⟩ : xPD D xcl A [(a3, .inl (cT 5, 8, .inr (.inr (.inr (.inr f46))))), (a4, .inl (cT 0, 4096, .inl (upd (upd (upd f48 0 (vp_nar .byte (vp_nar .byte y1))) 1 (vp_nar .byte (vp_nar .byte y2))) 2 (vp_nar .byte (vp_nar .byte y3))))), (a5, .inl (cT 1, 8, .inl f49)), (a1, .inr (6, [.int 0, v40, v41, v42, v43, v44])), (a0, .inr (5, [v11, v12, v13, v14, v15, v16, v17, v18, v19, v20, v21, v22, v23, v24, v25, v26, v27, v28, v29, v30, v31, .ref a2, .int 4, .int 4096, .ref a3, .ref a5, v34, v35, v36, v37, v38, v39])), (a2, .inl (cT 0, 1024, .inl (upd (upd (upd (upd f45 0 (vp_nar .byte y1)) 1 (vp_nar .byte y2)) 2 (vp_nar .byte y3)) 3 (vp_nar .byte y4))))] H := ⟨hP, hD⟩
  refine lv_iinc (v := 3) (lv' := [(3, .int 3), (0, .ref a0), (1, .int x6), (2, .ref a1)]) hx hb dM_store_41 hl (k := 0) rfl (by decide) (by decide) rfl (fun ls hl => ?_)
  refine lv_goto (tgt := 19) hx hb dM_store_44 (by decide) ?_
  refine lv_iload_n hx hb dM_store_19 rfl (lv_at hl 0 rfl) ?_
  refine lv_aload_n hx hb dM_store_20 rfl (lv_at hl 1 rfl) ?_
  refine va_get (D := D) (ci := 5) (v := .int 4) (C := "ValueBenchModel") (T := TM) (N := 32) hx hb htx inM hown hK hP 4 rfl rfl 22 (by decide) (htx _ kw_5_109) (fun _ h9 => h9) rfl dM_store_21 ?_
  refine lv_icmp_ge (tgt := 47) hx hb dM_store_24 (by decide) (fun h => ((by revert h; decide : False)).elim) (fun _ => ?_)
  refine lv_aload_n hx hb dM_store_27 rfl (lv_at hl 1 rfl) ?_
  refine va_get (D := D) (ci := 5) (v := .ref a3) (C := "ValueBenchModel") (T := TM) (N := 32) hx hb htx inM hown hK hP 4 rfl rfl 24 (by decide) (htx _ kw_5_111) (fun _ h9 => h9) rfl dM_store_28 ?_
  refine lv_iload_n hx hb dM_store_31 rfl (lv_at hl 2 rfl) ?_
  refine xx_aldA hx hb hK hP 0 5 rfl rfl h10 dM_store_32 ?_
  refine W.eq (g2 := F0 m 33 ls [va_rf (f46 x6.toNatClampNeg)]) rfl ?_
  rw [h47]
  refine W.eq (g2 := F0 m 33 ls [.ref a4]) rfl ?_
  refine lv_iload_n hx hb dM_store_33 rfl (lv_at hl 0 rfl) ?_
  refine lv_aload_n hx hb dM_store_34 rfl (lv_at hl 1 rfl) ?_
  refine va_get (D := D) (ci := 5) (v := .ref a2) (C := "ValueBenchModel") (T := TM) (N := 32) hx hb htx inM hown hK hP 4 rfl rfl 21 (by decide) (htx _ kw_5_108) (fun _ h9 => h9) rfl dM_store_35 ?_
  refine lv_iload_n hx hb dM_store_38 rfl (lv_at hl 0 rfl) ?_
  refine va_bald hx hb hK hP 5 0 rfl rfl (show ¬ ((3 : Int32) < 0 ∨ 1024 ≤ (3 : Int32).toNatClampNeg) by decide) dM_store_39 ?_
  refine W.eq (g2 := F0 m 40 ls [.int (vp_nar .byte y4), .int 3, .ref a4]) rfl ?_
  refine va_bast hx hb hK hP hD hS 1 0 rfl rfl (show ¬ ((3 : Int32) < 0 ∨ 4096 ≤ (3 : Int32).toNatClampNeg) by decide) dM_store_40 (fun H locs hP hD hS => ?_)
  obtain ⟨hP, hD⟩ : xPD D xcl A [(a3, .inl (cT 5, 8, .inr (.inr (.inr (.inr f46))))), (a4, .inl (cT 0, 4096, .inl (upd (upd (upd (upd f48 0 (vp_nar .byte (vp_nar .byte y1))) 1 (vp_nar .byte (vp_nar .byte y2))) 2 (vp_nar .byte (vp_nar .byte y3))) 3 (vp_nar .byte (vp_nar .byte y4))))), (a5, .inl (cT 1, 8, .inl f49)), (a1, .inr (6, [.int 0, v40, v41, v42, v43, v44])), (a0, .inr (5, [v11, v12, v13, v14, v15, v16, v17, v18, v19, v20, v21, v22, v23, v24, v25, v26, v27, v28, v29, v30, v31, .ref a2, .int 4, .int 4096, .ref a3, .ref a5, v34, v35, v36, v37, v38, v39])), (a2, .inl (cT 0, 1024, .inl (upd (upd (upd (upd f45 0 (vp_nar .byte y1)) 1 (vp_nar .byte y2)) 2 (vp_nar .byte y3)) 3 (vp_nar .byte y4))))] H := ⟨hP, hD⟩
  refine lv_iinc (v := 4) (lv' := [(3, .int 4), (0, .ref a0), (1, .int x6), (2, .ref a1)]) hx hb dM_store_41 hl (k := 0) rfl (by decide) (by decide) rfl (fun ls hl => ?_)
  refine lv_goto (tgt := 19) hx hb dM_store_44 (by decide) ?_
  refine lv_iload_n hx hb dM_store_19 rfl (lv_at hl 0 rfl) ?_
  refine lv_aload_n hx hb dM_store_20 rfl (lv_at hl 1 rfl) ?_
  refine va_get (D := D) (ci := 5) (v := .int 4) (C := "ValueBenchModel") (T := TM) (N := 32) hx hb htx inM hown hK hP 4 rfl rfl 22 (by decide) (htx _ kw_5_109) (fun _ h9 => h9) rfl dM_store_21 ?_
  refine lv_icmp_ge (tgt := 47) hx hb dM_store_24 (by decide) (fun _ => ?_) (fun h => ((by revert h; decide : False)).elim)
  refine lv_aload_n hx hb dM_store_47 rfl (lv_at hl 1 rfl) ?_
  refine va_get (D := D) (ci := 5) (v := .ref a5) (C := "ValueBenchModel") (T := TM) (N := 32) hx hb htx inM hown hK hP 4 rfl rfl 25 (by decide) (htx _ kw_5_112) (fun _ h9 => h9) rfl dM_store_48 ?_
  refine lv_iload_n hx hb dM_store_51 rfl (lv_at hl 2 rfl) ?_
  refine lv_aload_n hx hb dM_store_52 rfl (lv_at hl 1 rfl) ?_
  refine va_get (D := D) (ci := 5) (v := .int 4) (C := "ValueBenchModel") (T := TM) (N := 32) hx hb htx inM hown hK hP 4 rfl rfl 22 (by decide) (htx _ kw_5_109) (fun _ h9 => h9) rfl dM_store_53 ?_
  refine va_iast hx hb hK hP hD hS 2 1 rfl rfl h10 dM_store_56 (fun H locs hP hD hS => ?_)
  obtain ⟨hP, hD⟩ : xPD D xcl A [(a3, .inl (cT 5, 8, .inr (.inr (.inr (.inr f46))))), (a4, .inl (cT 0, 4096, .inl (upd (upd (upd (upd f48 0 (vp_nar .byte (vp_nar .byte y1))) 1 (vp_nar .byte (vp_nar .byte y2))) 2 (vp_nar .byte (vp_nar .byte y3))) 3 (vp_nar .byte (vp_nar .byte y4))))), (a5, .inl (cT 1, 8, .inl (upd f49 x6.toNatClampNeg 4))), (a1, .inr (6, [.int 0, v40, v41, v42, v43, v44])), (a0, .inr (5, [v11, v12, v13, v14, v15, v16, v17, v18, v19, v20, v21, v22, v23, v24, v25, v26, v27, v28, v29, v30, v31, .ref a2, .int 4, .int 4096, .ref a3, .ref a5, v34, v35, v36, v37, v38, v39])), (a2, .inl (cT 0, 1024, .inl (upd (upd (upd (upd f45 0 (vp_nar .byte y1)) 1 (vp_nar .byte y2)) 2 (vp_nar .byte y3)) 3 (vp_nar .byte y4))))] H := ⟨hP, hD⟩
  refine lv_aload_n hx hb dM_store_57 rfl (lv_at hl 1 rfl) ?_
  refine va_get (D := D) (ci := 5) (v := .int 4) (C := "ValueBenchModel") (T := TM) (N := 32) hx hb htx inM hown hK hP 4 rfl rfl 22 (by decide) (htx _ kw_5_109) (fun _ h9 => h9) rfl dM_store_58 ?_
  obtain ⟨hP9, hD9⟩ := xsub (wc := [(a0, .inr (5, [v11, v12, v13, v14, v15, v16, v17, v18, v19, v20, v21, v22, v23, v24, v25, v26, v27, v28, v29, v30, v31, .ref a2, .int 4, .int 4096, .ref a3, .ref a5, v34, v35, v36, v37, v38, v39])), (a1, .inr (6, [.int 0, v40, v41, v42, v43, v44])), (a2, .inl (cT 0, 1024, .inl (upd (upd (upd (upd f45 0 (vp_nar .byte y1)) 1 (vp_nar .byte y2)) 2 (vp_nar .byte y3)) 3 (vp_nar .byte y4)))), (a3, .inl (cT 5, 8, .inr (.inr (.inr (.inr f46))))), (a4, .inl (cT 0, 4096, .inl (upd (upd (upd (upd f48 0 (vp_nar .byte (vp_nar .byte y1))) 1 (vp_nar .byte (vp_nar .byte y2))) 2 (vp_nar .byte (vp_nar .byte y3))) 3 (vp_nar .byte (vp_nar .byte y4))))), (a5, .inl (cT 1, 8, .inl (upd f49 x6.toNatClampNeg 4)))]) hP hD [4, 3, 5, 0, 1, 2] rfl rfl (by decide)
  refine W.widen (k := 0) (n := 0) (Nat.le_of_ble_eq_true rfl) (Nat.le_of_ble_eq_true rfl) ?_
  exact W.iret (v := 4) hx hb hr (fun t ht hW => ⟨⟨4, (), rfl, rfl, y1, y2, y3, y4, by rw [ht]; exact hP9, va_K.moved hW.alike hK, hD9⟩, hS.F ht⟩) hS.2.2 dM_store_61
set_option maxHeartbeats 400000000 in
set_option maxRecDepth 100000 in
theorem cM_finish_0 (l : Launch) (hl9 : l.stackTraces = false) (D : va_G) (cT : Nat → ClassId) (aK aV : Nat → Nat) (sz : Nat) (a0 : Nat) (a1 : Nat) (a2 : Nat) (a3 : Nat) (a4 : Nat) (a5 : Nat) (x6 : Int32) (x11 : Int32) (x16 : Int32) (v21 : Value) (v22 : Value) (v23 : Value) (v24 : Value) (v25 : Value) (v26 : Value) (v27 : Value) (v28 : Value) (v29 : Value) (v30 : Value) (v31 : Value) (v32 : Value) (v33 : Value) (v34 : Value) (v35 : Value) (v36 : Value) (v37 : Value) (v38 : Value) (v39 : Value) (v40 : Value) (v41 : Value) (v42 : Value) (v43 : Value) (v44 : Value) (v45 : Value) (v46 : Value) (v47 : Value) (f48 : Nat → Option Nat) (f52 : Nat → Int32) (f55 : Nat → Int32) (f60 : Nat → Option Nat) (f63 : Nat → Int32) (h7 : ¬ x6 < 0) (h8 : ¬ 7 < x6) (h9 : x6 ≤ 7) (h10 : vp_in x6 8) (h12 : ¬ x11 < 0) (h13 : ¬ 7 < x11) (h14 : x11 ≤ 7) (h15 : vp_in x11 8) (h17 : ¬ x16 < 0) (h18 : ¬ 7 < x16) (h19 : x16 ≤ 7) (h20 : vp_in x16 8) (h49 : f48 x11.toNatClampNeg = some a3) (h50 : f48 x16.toNatClampNeg = some a3) (h51 : f48 x6.toNatClampNeg = some a3) (h53 : f52 x11.toNatClampNeg = 4) (h54 : f52 x16.toNatClampNeg = 4) (h56 : f55 0 = 110) (h57 : f55 1 = 117) (h58 : f55 2 = 108) (h59 : f55 3 = 108) (h61 : f60 0 = none) (h62 : f60 1 = none) : xMet l yM_finish wyM_finish 8 2 12 175 D cT aK aV sz [.ref a0, .int x6, .int 0, .int 0, .int x11, .int x16] [(a0, .inr (5, [v21, .ref a4, .int 0, v22, v23, v24, v25, v26, v27, v28, v29, v30, v31, v32, v33, v34, v35, v36, v37, v38, v39, .ref a5, v40, v41, .ref a1, .ref a2, v42, v43, v44, v45, v46, v47])), (a1, .inl (cT 5, 8, .inr (.inr (.inr (.inr f48))))), (a2, .inl (cT 1, 8, .inl f52)), (a3, .inl (cT 0, 4096, .inl f55)), (a4, .inl (cT 4, 1024, .inr (.inr (.inr (.inr f60))))), (a5, .inl (cT 0, 1024, .inl f63))] (fun A => va_Qv (fun _ : Unit => True) (fun _ t => ∃ (r1 : Nat) (r2 : Nat) (y5 : Int32) (y6 : Int32) (y7 : Int32) (y8 : Int32), xB D xcl cT A [(a0, .inr (5, [v21, .ref a4, .int 2, v22, v23, v24, v25, v26, v27, v28, v29, v30, v31, v32, v33, .ref a3, .int 4, .int 4, .int 0, .int 100, v39, .ref a5, .int 4, .int 4096, .ref a1, .ref a2, v42, v43, v44, v45, v46, v47])), (a1, .inl (cT 5, 8, .inr (.inr (.inr (.inr f48))))), (a2, .inl (cT 1, 8, .inl (upd f52 x6.toNatClampNeg 4))), (a3, .inl (cT 0, 4096, .inl (upd (upd (upd (upd f55 0 (vp_nar .byte (vp_nar .byte y5))) 1 (vp_nar .byte (vp_nar .byte y6))) 2 (vp_nar .byte (vp_nar .byte y7))) 3 (vp_nar .byte (vp_nar .byte y8))))), (a4, .inl (cT 4, 1024, .inr (.inr (.inr (.inr (va_up (va_up f60 0 (some r1)) 1 (some r2))))))), (a5, .inl (cT 0, 1024, .inl (upd (upd (upd (upd f63 0 (vp_nar .byte y5)) 1 (vp_nar .byte y6)) 2 (vp_nar .byte y7)) 3 (vp_nar .byte y8)))), (r1, .inr (6, [.int 0, .long 0, .int 0, .int 0, .int 0, .int 1])), (r2, .inr (6, [.int 0, .long 0, .int 0, .int 0, .int 0, .int 1]))] t) A) := by
  refine va_MetW (cc := prog_13_method_90_code) (maxL := 10) (ret := none) (hh := [(0, 128, 131, 83), (0, 128, 149, 86)]) (by decide) rfl ?_
  intro p e s m args below meth c s₁ B hml hv
  obtain ⟨rfl, hsz, hZ, hP, hK, hD0⟩ := hv
  have hx := B.exec
  have hb := B.bytes
  have hr := B.returns
  have hts := atoms_spec (ws := wyM_finish) B.pre
  have htx := fun w h => hts w (List.mem_cons_of_mem _ h)
  have hown : s.vm.findClass "ValueBenchModel" = some m.cls := findClass_of_methodNamed B.named
  have hlocks := B.notSynchronized
  subst hsz
  have hD := hD0.self (sz := s.heap.size)
  generalize hAe : va_A [(a0, .inr (5, [v21, .ref a4, .int 0, v22, v23, v24, v25, v26, v27, v28, v29, v30, v31, v32, v33, v34, v35, v36, v37, v38, v39, .ref a5, v40, v41, .ref a1, .ref a2, v42, v43, v44, v45, v46, v47])), (a1, .inl (cT 5, 8, .inr (.inr (.inr (.inr f48))))), (a2, .inl (cT 1, 8, .inl f52)), (a3, .inl (cT 0, 4096, .inl f55)), (a4, .inl (cT 4, 1024, .inr (.inr (.inr (.inr f60))))), (a5, .inl (cT 0, 1024, .inl f63))] s.heap.size = A at hD hZ ⊢
  have hA : ∀ q : Nat, s.heap.size ≤ q → A q := fun q h => by rw [← hAe]; exact Or.inr h
  have hS : va_S A s.heap s.heap [] := va_S.rf
  have hP : va_P D xcl [(a0, .inr (5, [v21, .ref a4, .int 0, v22, v23, v24, v25, v26, v27, v28, v29, v30, v31, v32, v33, v34, v35, v36, v37, v38, v39, .ref a5, v40, v41, .ref a1, .ref a2, v42, v43, v44, v45, v46, v47])), (a1, .inl (cT 5, 8, .inr (.inr (.inr (.inr f48))))), (a2, .inl (cT 1, 8, .inl f52)), (a3, .inl (cT 0, 4096, .inl f55)), (a4, .inl (cT 4, 1024, .inr (.inr (.inr (.inr f60))))), (a5, .inl (cT 0, 1024, .inl f63))] s.heap := hP
  have hl := lv_entry ([.ref a0, .int x6, .int 0, .int 0, .int x11, .int x16]) (n := 10) (Nat.le_of_ble_eq_true rfl)
  rw [lg_entry_eq]
  generalize (lg_sl ([.ref a0, .int x6, .int 0, .int 0, .int x11, .int x16]) ++ List.replicate (10 - (lg_sl ([.ref a0, .int x6, .int 0, .int 0, .int x11, .int x16])).length) Slot.unset).toArray = ls at hl ⊢
  have hl : lv_has ls 10 [(0, .ref a0), (1, .int x6), (2, .int 0), (3, .int 0), (4, .int x11), (5, .int x16)] := hl
  have htab := vx_table (x := yM_finish) B (hts _ List.mem_cons_self)
  refine lv_aload_n hx hb dM_finish_0 rfl (lv_at hl 0 rfl) ?_
  refine lv_iload hx hb dM_finish_1 (lv_at hl 4 rfl) ?_
  obtain ⟨hPc, hDc, hFc⟩ := xcut (wc := [(a0, .inr (5, [v21, .ref a4, .int 0, v22, v23, v24, v25, v26, v27, v28, v29, v30, v31, v32, v33, v34, v35, v36, v37, v38, v39, .ref a5, v40, v41, .ref a1, .ref a2, v42, v43, v44, v45, v46, v47])), (a1, .inl (cT 5, 8, .inr (.inr (.inr (.inr f48))))), (a2, .inl (cT 1, 8, .inl f52)), (a3, .inl (cT 0, 4096, .inl f55)), (a4, .inl (cT 4, 1024, .inr (.inr (.inr (.inr f60)))))]) hP hD hS hA [0, 1, 2, 3, 4] rfl rfl (by decide)
  refine va_callr (va_runV (C := "ValueBenchModel") (As := [.int x11]) (rest := []) ⟨hx, hb, hml, hown, htx⟩ (cM_register_0 l hl9 D cT aK aV s.heap.size a0 a1 a2 a3 a4 x11 v21 v22 v23 v24 v25 v26 v27 v28 v29 v30 v31 v32 v33 v34 v35 v36 v37 v38 v39 (.ref a5) v40 v41 v42 v43 v44 v45 v46 v47 f48 f52 f55 f60 h12 h13 h14 h15 (by first | rfl | exact h49 | exact h50 | exact h51 | exact h53 | exact h54 | exact h56 | exact h57 | exact h58 | exact h59 | exact h61 | exact h62) (by first | rfl | exact h49 | exact h50 | exact h51 | exact h53 | exact h54 | exact h56 | exact h57 | exact h58 | exact h59 | exact h61 | exact h62) (by first | rfl | exact h49 | exact h50 | exact h51 | exact h53 | exact h54 | exact h56 | exact h57 | exact h58 | exact h59 | exact h61 | exact h62) (by first | rfl | exact h49 | exact h50 | exact h51 | exact h53 | exact h54 | exact h56 | exact h57 | exact h58 | exact h59 | exact h61 | exact h62) (by first | rfl | exact h49 | exact h50 | exact h51 | exact h53 | exact h54 | exact h56 | exact h57 | exact h58 | exact h59 | exact h61 | exact h62) (by first | rfl | exact h49 | exact h50 | exact h51 | exact h53 | exact h54 | exact h56 | exact h57 | exact h58 | exact h59 | exact h61 | exact h62) (by first | rfl | exact h49 | exact h50 | exact h51 | exact h53 | exact h54 | exact h56 | exact h57 | exact h58 | exact h59 | exact h61 | exact h62)) ⟨callB_of 1 htx (xw_goodC kw_6_170) rfl rfl rfl (htx _ kw_1_5) (htx _ kw_6_167) ⟨by decide, by decide, by decide +kernel⟩ ⟨Nat.le_of_ble_eq_true rfl, Nat.le_of_ble_eq_true rfl⟩, (htx _ kw_6_169), (htx _ kp_M_register)⟩ ⟨xPre_blind, va_recv hK hP (ci := 5) rfl (q0 := 0) rfl, (fun U hU hW => ⟨rfl, xPre_of hZ hS hFc hPc hDc hK U hU hW⟩)⟩ rfl rfl hl.1 rfl (lv_room (Nat.le_of_ble_eq_true rfl)) dM_finish_3 ⟨Nat.le_of_ble_eq_true rfl, Nat.le_of_ble_eq_true rfl⟩) hS (fun q _ h => hFc q h) hFc (fun u9 r1 t H1 locs ht hvm hr9 hB hz1 hk1 hS => ?_)
  obtain ⟨hP1, hK1, hD1⟩ := hB
  rw [ht] at hP1
  obtain ⟨hP, hD⟩ := xjoin (W := [(a5, .inl (cT 0, 1024, .inl f63)), (a0, .inr (5, [v21, .ref a4, .int 1, v22, v23, v24, v25, v26, v27, v28, v29, v30, v31, v32, v33, .ref a3, .int 4, .int 4, .int 0, .int 100, v39, .ref a5, v40, v41, .ref a1, .ref a2, v42, v43, v44, v45, v46, v47])), (a1, .inl (cT 5, 8, .inr (.inr (.inr (.inr f48))))), (a2, .inl (cT 1, 8, .inl f52)), (a3, .inl (cT 0, 4096, .inl f55)), (a4, .inl (cT 4, 1024, .inr (.inr (.inr (.inr (va_up f60 0 (some r1))))))), (r1, .inr (6, [.int 0, .long 0, .int 0, .int 0, .int 0, .int 1]))]) hP hD [0, 1, 2, 3, 4] [5] 1 rfl rfl (by decide) (by decide) hk1 hFc hP1 hD1
  generalize H1 = H at hP hS ⊢
  refine W.eq (g2 := F0 m 6 ls [.ref r1]) rfl ?_
  refine lv_astore (lv' := [(6, .ref r1), (0, .ref a0), (1, .int x6), (2, .int 0), (3, .int 0), (4, .int x11), (5, .int x16)]) hx hb dM_finish_6 hl (by decide) rfl (fun ls hl => ?_)
  refine lv_iload_n hx hb dM_finish_8 rfl (lv_at hl 3 rfl) ?_
  refine lv_iconst (v := 1) hx hb dM_finish_9 (by decide) ?_
  refine lv_icmp_ne (tgt := 17) hx hb dM_finish_10 (by decide) (fun _ => ?_) (fun h => ((by revert h; decide : False)).elim)
  refine lv_aload_n hx hb dM_finish_17 rfl (lv_at hl 1 rfl) ?_
  refine lv_iload hx hb dM_finish_18 (lv_at hl 6 rfl) ?_
  obtain ⟨hPc, hDc, hFc⟩ := xcut (wc := [(a0, .inr (5, [v21, .ref a4, .int 1, v22, v23, v24, v25, v26, v27, v28, v29, v30, v31, v32, v33, .ref a3, .int 4, .int 4, .int 0, .int 100, v39, .ref a5, v40, v41, .ref a1, .ref a2, v42, v43, v44, v45, v46, v47])), (a1, .inl (cT 5, 8, .inr (.inr (.inr (.inr f48))))), (a2, .inl (cT 1, 8, .inl f52)), (a3, .inl (cT 0, 4096, .inl f55)), (a4, .inl (cT 4, 1024, .inr (.inr (.inr (.inr (va_up f60 0 (some r1)))))))]) hP hD hS hA [1, 2, 3, 4, 5] rfl rfl (by decide)
  refine va_callr (va_runV (C := "ValueBenchModel") (As := [.int x16]) (rest := []) ⟨hx, hb, hml, hown, htx⟩ (cM_register_1 l hl9 D cT aK aV H.size a0 a1 a2 a3 a4 x16 v21 v22 v23 v24 v25 v26 v27 v28 v29 v30 v31 v32 v33 (.ref a3) (.int 4) (.int 4) (.int 0) (.int 100) v39 (.ref a5) v40 v41 v42 v43 v44 v45 v46 v47 f48 f52 f55 (va_up f60 0 (some r1)) h17 h18 h19 h20 (by first | rfl | exact h49 | exact h50 | exact h51 | exact h53 | exact h54 | exact h56 | exact h57 | exact h58 | exact h59 | exact h62) (by first | rfl | exact h49 | exact h50 | exact h51 | exact h53 | exact h54 | exact h56 | exact h57 | exact h58 | exact h59 | exact h62) (by first | rfl | exact h49 | exact h50 | exact h51 | exact h53 | exact h54 | exact h56 | exact h57 | exact h58 | exact h59 | exact h62) (by first | rfl | exact h49 | exact h50 | exact h51 | exact h53 | exact h54 | exact h56 | exact h57 | exact h58 | exact h59 | exact h62) (by first | rfl | exact h49 | exact h50 | exact h51 | exact h53 | exact h54 | exact h56 | exact h57 | exact h58 | exact h59 | exact h62) (by first | rfl | exact h49 | exact h50 | exact h51 | exact h53 | exact h54 | exact h56 | exact h57 | exact h58 | exact h59 | exact h62) (by first | rfl | exact h49 | exact h50 | exact h51 | exact h53 | exact h54 | exact h56 | exact h57 | exact h58 | exact h59 | exact h62)) ⟨callB_of 1 htx (xw_goodC kw_6_170) rfl rfl rfl (htx _ kw_1_5) (htx _ kw_6_167) ⟨by decide, by decide, by decide +kernel⟩ ⟨Nat.le_of_ble_eq_true rfl, Nat.le_of_ble_eq_true rfl⟩, (htx _ kw_6_169), (htx _ kp_M_register)⟩ ⟨xPre_blind, va_recv hK hP (ci := 5) rfl (q0 := 1) rfl, (fun U hU hW => ⟨rfl, xPre_of hZ hS hFc hPc hDc hK U hU hW⟩)⟩ rfl rfl hl.1 rfl (lv_room (Nat.le_of_ble_eq_true rfl)) dM_finish_20 ⟨Nat.le_of_ble_eq_true rfl, Nat.le_of_ble_eq_true rfl⟩) hS (fun q _ h => hFc q h) hFc (fun u9 r2 t H1 locs ht hvm hr9 hB hz1 hk1 hS => ?_)
  obtain ⟨hP1, hK1, hD1⟩ := hB
  rw [ht] at hP1
  obtain ⟨hP, hD⟩ := xjoin (W := [(a5, .inl (cT 0, 1024, .inl f63)), (r1, .inr (6, [.int 0, .long 0, .int 0, .int 0, .int 0, .int 1])), (a0, .inr (5, [v21, .ref a4, .int 2, v22, v23, v24, v25, v26, v27, v28, v29, v30, v31, v32, v33, .ref a3, .int 4, .int 4, .int 0, .int 100, v39, .ref a5, v40, v41, .ref a1, .ref a2, v42, v43, v44, v45, v46, v47])), (a1, .inl (cT 5, 8, .inr (.inr (.inr (.inr f48))))), (a2, .inl (cT 1, 8, .inl f52)), (a3, .inl (cT 0, 4096, .inl f55)), (a4, .inl (cT 4, 1024, .inr (.inr (.inr (.inr (va_up (va_up f60 0 (some r1)) 1 (some r2))))))), (r2, .inr (6, [.int 0, .long 0, .int 0, .int 0, .int 0, .int 1]))]) hP hD [1, 2, 3, 4, 5] [0, 6] 2 rfl rfl (by decide) (by decide) hk1 hFc hP1 hD1
  generalize H1 = H at hP hS ⊢
  refine W.eq (g2 := F0 m 23 ls [.ref r2]) rfl ?_
  refine lv_astore (lv' := [(7, .ref r2), (6, .ref r1), (0, .ref a0), (1, .int x6), (2, .int 0), (3, .int 0), (4, .int x11), (5, .int x16)]) hx hb dM_finish_23 hl (by decide) rfl (fun ls hl => ?_)
  refine lv_iload_n hx hb dM_finish_25 rfl (lv_at hl 4 rfl) ?_
  refine lv_if_ne (tgt := 43) hx hb dM_finish_26 (by decide) (fun h => ((by revert h; decide : False)).elim) (fun _ => ?_)
  refine lv_aload_n hx hb dM_finish_29 rfl (lv_at hl 2 rfl) ?_
  refine lv_iload_n hx hb dM_finish_30 rfl (lv_at hl 5 rfl) ?_
  refine lv_aload hx hb dM_finish_31 (lv_at hl 1 rfl) ?_
  refine lv_aload hx hb dM_finish_33 (lv_at hl 0 rfl) ?_
  obtain ⟨hPc, hDc, hFc⟩ := xcut (wc := [(a0, .inr (5, [v21, .ref a4, .int 2, v22, v23, v24, v25, v26, v27, v28, v29, v30, v31, v32, v33, .ref a3, .int 4, .int 4, .int 0, .int 100, v39, .ref a5, v40, v41, .ref a1, .ref a2, v42, v43, v44, v45, v46, v47])), (r1, .inr (6, [.int 0, .long 0, .int 0, .int 0, .int 0, .int 1]))]) hP hD hS hA [2, 1] rfl rfl (by decide)
  refine va_callr (va_runV (C := "ValueBenchModel") (As := [.int 0, .ref r1, .ref r2]) (rest := []) ⟨hx, hb, hml, hown, htx⟩ (cM_binary1_0 l hl9 D cT aK aV H.size a0 r1 r2 v21 (.ref a4) (.int 2) v22 v23 v24 v25 v26 v27 v28 v29 v30 v31 v32 v33 (.ref a3) (.int 4) (.int 4) (.int 0) (.int 100) v39 (.ref a5) v40 v41 (.ref a1) (.ref a2) v42 v43 v44 v45 v46 v47 (.long 0) (.int 0) (.int 0) (.int 0) (.int 1)) ⟨callB_of 3 htx (xw_goodC kw_6_199) rfl rfl rfl (htx _ kw_1_5) (htx _ kw_6_196) ⟨by decide, by decide, by decide +kernel⟩ ⟨Nat.le_of_ble_eq_true rfl, Nat.le_of_ble_eq_true rfl⟩, (htx _ kw_6_198), (htx _ kp_M_binary1)⟩ ⟨xPre_blind, va_recv hK hP (ci := 5) rfl (q0 := 2) rfl, (fun U hU hW => ⟨rfl, xPre_of hZ hS hFc hPc hDc hK U hU hW⟩)⟩ rfl rfl hl.1 rfl (lv_room (Nat.le_of_ble_eq_true rfl)) dM_finish_35 ⟨Nat.le_of_ble_eq_true rfl, Nat.le_of_ble_eq_true rfl⟩) hS (fun q _ h => hFc q h) hFc (fun u9 r3 t H1 locs ht hvm hr9 hB hz1 hk1 hS => ?_)
  obtain ⟨hra9, hP1, hK1, hD1⟩ := hB
  rw [ht] at hP1
  obtain ⟨hP, hD⟩ := xjoin (W := [(a5, .inl (cT 0, 1024, .inl f63)), (a1, .inl (cT 5, 8, .inr (.inr (.inr (.inr f48))))), (a2, .inl (cT 1, 8, .inl f52)), (a3, .inl (cT 0, 4096, .inl f55)), (a4, .inl (cT 4, 1024, .inr (.inr (.inr (.inr (va_up (va_up f60 0 (some r1)) 1 (some r2))))))), (r2, .inr (6, [.int 0, .long 0, .int 0, .int 0, .int 0, .int 1])), (a0, .inr (5, [v21, .ref a4, .int 2, v22, v23, v24, v25, v26, v27, v28, v29, v30, v31, v32, v33, .ref a3, .int 4, .int 4, .int 0, .int 100, v39, .ref a5, v40, v41, .ref a1, .ref a2, v42, v43, v44, v45, v46, v47])), (r1, .inr (6, [.int 0, .long 0, .int 0, .int 0, .int 0, .int 1]))]) hP hD [2, 1] [0, 3, 4, 5, 6, 7] 6 rfl rfl (by decide) (by decide) hk1 hFc hP1 hD1
  generalize H1 = H at hP hS ⊢
  rw [hra9]
  refine W.eq (g2 := F0 m 38 ls [.ref r2]) rfl ?_
  refine lv_astore (lv' := [(8, .ref r2), (7, .ref r2), (6, .ref r1), (0, .ref a0), (1, .int x6), (2, .int 0), (3, .int 0), (4, .int x11), (5, .int x16)]) hx hb dM_finish_38 hl (by decide) rfl (fun ls hl => ?_)
  refine lv_goto (tgt := 119) hx hb dM_finish_40 (by decide) ?_
  refine lv_aload_n hx hb dM_finish_119 rfl (lv_at hl 3 rfl) ?_
  refine lv_iload_n hx hb dM_finish_120 rfl (lv_at hl 4 rfl) ?_
  refine lv_aload hx hb dM_finish_121 (lv_at hl 0 rfl) ?_
  obtain ⟨hPc, hDc, hFc⟩ := xcut (wc := [(a0, .inr (5, [v21, .ref a4, .int 2, v22, v23, v24, v25, v26, v27, v28, v29, v30, v31, v32, v33, .ref a3, .int 4, .int 4, .int 0, .int 100, v39, .ref a5, v40, v41, .ref a1, .ref a2, v42, v43, v44, v45, v46, v47])), (r2, .inr (6, [.int 0, .long 0, .int 0, .int 0, .int 0, .int 1])), (a5, .inl (cT 0, 1024, .inl f63)), (a1, .inl (cT 5, 8, .inr (.inr (.inr (.inr f48))))), (a3, .inl (cT 0, 4096, .inl f55)), (a2, .inl (cT 1, 8, .inl f52))]) hP hD hS hA [6, 5, 0, 1, 3, 2] rfl rfl (by decide)
  refine va_calli (va_runV (C := "ValueBenchModel") (As := [.int x6, .ref r2]) (rest := []) ⟨hx, hb, hml, hown, htx⟩ (cM_store_0 l hl9 D cT aK aV H.size a0 r2 a5 a1 a3 a2 x6 v21 (.ref a4) (.int 2) v22 v23 v24 v25 v26 v27 v28 v29 v30 v31 v32 v33 (.ref a3) (.int 4) (.int 4) (.int 0) (.int 100) v39 v40 v41 v42 v43 v44 v45 v46 v47 (.long 0) (.int 0) (.int 0) (.int 0) (.int 1) f63 f48 f55 f52 h7 h8 h9 h10 (by first | rfl | exact h49 | exact h50 | exact h51 | exact h53 | exact h54 | exact h56 | exact h57 | exact h58 | exact h59)) ⟨callB_of 2 htx (xw_goodC kw_6_124) rfl rfl rfl (htx _ kw_1_5) (htx _ kw_6_121) ⟨by decide, by decide, by decide +kernel⟩ ⟨Nat.le_of_ble_eq_true rfl, Nat.le_of_ble_eq_true rfl⟩, (htx _ kw_6_123), (htx _ kp_M_store)⟩ ⟨xPre_blind, va_recv hK hP (ci := 5) rfl (q0 := 6) rfl, (fun U hU hW => ⟨rfl, xPre_of hZ hS hFc hPc hDc hK U hU hW⟩)⟩ rfl rfl hl.1 rfl (lv_room (Nat.le_of_ble_eq_true rfl)) dM_finish_123 ⟨Nat.le_of_ble_eq_true rfl, Nat.le_of_ble_eq_true rfl⟩) hS (fun q _ h => hFc q h) hFc (fun r4 u9 t H1 locs ht hvm hr9 hB hz1 hk1 hS => ?_)
  obtain ⟨y5, y6, y7, y8, hP1, hK1, hD1⟩ := hB
  rw [ht] at hP1
  obtain ⟨hP, hD⟩ := xjoin (W := [(a4, .inl (cT 4, 1024, .inr (.inr (.inr (.inr (va_up (va_up f60 0 (some r1)) 1 (some r2))))))), (r1, .inr (6, [.int 0, .long 0, .int 0, .int 0, .int 0, .int 1])), (a0, .inr (5, [v21, .ref a4, .int 2, v22, v23, v24, v25, v26, v27, v28, v29, v30, v31, v32, v33, .ref a3, .int 4, .int 4, .int 0, .int 100, v39, .ref a5, .int 4, .int 4096, .ref a1, .ref a2, v42, v43, v44, v45, v46, v47])), (r2, .inr (6, [.int 0, .long 0, .int 0, .int 0, .int 0, .int 1])), (a5, .inl (cT 0, 1024, .inl (upd (upd (upd (upd f63 0 (vp_nar .byte y5)) 1 (vp_nar .byte y6)) 2 (vp_nar .byte y7)) 3 (vp_nar .byte y8)))), (a1, .inl (cT 5, 8, .inr (.inr (.inr (.inr f48))))), (a3, .inl (cT 0, 4096, .inl (upd (upd (upd (upd f55 0 (vp_nar .byte (vp_nar .byte y5))) 1 (vp_nar .byte (vp_nar .byte y6))) 2 (vp_nar .byte (vp_nar .byte y7))) 3 (vp_nar .byte (vp_nar .byte y8))))), (a2, .inl (cT 1, 8, .inl (upd f52 x6.toNatClampNeg 4)))]) hP hD [6, 5, 0, 1, 3, 2] [4, 7] 2 rfl rfl (by decide) (by decide) hk1 hFc hP1 hD1
  generalize H1 = H at hP hS ⊢
  rw [hr9]
  refine W.eq (g2 := F0 m 126 ls [.int 4]) rfl ?_
  refine lv_istore (lv' := [(9, .int 4), (8, .ref r2), (7, .ref r2), (6, .ref r1), (0, .ref a0), (1, .int x6), (2, .int 0), (3, .int 0), (4, .int x11), (5, .int x16)]) hx hb dM_finish_126 hl (by decide) rfl (fun ls hl => ?_)
  refine lv_goto (tgt := 156) hx hb dM_finish_128 (by decide) ?_
  obtain ⟨hP9, hD9⟩ := xsub (wc := [(a0, .inr (5, [v21, .ref a4, .int 2, v22, v23, v24, v25, v26, v27, v28, v29, v30, v31, v32, v33, .ref a3, .int 4, .int 4, .int 0, .int 100, v39, .ref a5, .int 4, .int 4096, .ref a1, .ref a2, v42, v43, v44, v45, v46, v47])), (a1, .inl (cT 5, 8, .inr (.inr (.inr (.inr f48))))), (a2, .inl (cT 1, 8, .inl (upd f52 x6.toNatClampNeg 4))), (a3, .inl (cT 0, 4096, .inl (upd (upd (upd (upd f55 0 (vp_nar .byte (vp_nar .byte y5))) 1 (vp_nar .byte (vp_nar .byte y6))) 2 (vp_nar .byte (vp_nar .byte y7))) 3 (vp_nar .byte (vp_nar .byte y8))))), (a4, .inl (cT 4, 1024, .inr (.inr (.inr (.inr (va_up (va_up f60 0 (some r1)) 1 (some r2))))))), (a5, .inl (cT 0, 1024, .inl (upd (upd (upd (upd f63 0 (vp_nar .byte y5)) 1 (vp_nar .byte y6)) 2 (vp_nar .byte y7)) 3 (vp_nar .byte y8)))), (r1, .inr (6, [.int 0, .long 0, .int 0, .int 0, .int 0, .int 1])), (r2, .inr (6, [.int 0, .long 0, .int 0, .int 0, .int 0, .int 1]))]) hP hD [2, 5, 7, 6, 0, 4, 1, 3] rfl rfl (by decide)
  refine W.widen (k := 2) (n := 12) (Nat.le_of_ble_eq_true rfl) (Nat.le_of_ble_eq_true rfl) ?_
  exact W.vret hx hb hr (fun t ht hW => ⟨⟨(), rfl, trivial, r1, r2, y5, y6, y7, y8, by rw [ht]; exact hP9, va_K.moved hW.alike hK, hD9⟩, hS.F ht⟩) hS.2.2 dM_finish_156
set_option maxHeartbeats 400000000 in
set_option maxRecDepth 100000 in
theorem cM_binary0_8 (l : Launch) (hl9 : l.stackTraces = false) (D : va_G) (cT : Nat → ClassId) (aK aV : Nat → Nat) (sz : Nat) (a0 : Nat) (a1 : Nat) (a2 : Nat) (a3 : Nat) (a4 : Nat) (a5 : Nat) (x6 : Int32) (x11 : Int32) (x16 : Int32) (v21 : Value) (v22 : Value) (v23 : Value) (v24 : Value) (v25 : Value) (v26 : Value) (v27 : Value) (v28 : Value) (v29 : Value) (v30 : Value) (v31 : Value) (v32 : Value) (v33 : Value) (v34 : Value) (v35 : Value) (v36 : Value) (v37 : Value) (v38 : Value) (v39 : Value) (v40 : Value) (v41 : Value) (v42 : Value) (v43 : Value) (v44 : Value) (v45 : Value) (v46 : Value) (v47 : Value) (v48 : Value) (f49 : Nat → Option Nat) (f53 : Nat → Int32) (f56 : Nat → Int32) (f61 : Nat → Option Nat) (f64 : Nat → Int32) (h7 : ¬ x6 < 0) (h8 : ¬ 7 < x6) (h9 : x6 ≤ 7) (h10 : vp_in x6 8) (h12 : ¬ x11 < 0) (h13 : ¬ 7 < x11) (h14 : x11 ≤ 7) (h15 : vp_in x11 8) (h17 : ¬ x16 < 0) (h18 : ¬ 7 < x16) (h19 : x16 ≤ 7) (h20 : vp_in x16 8) (h50 : f49 x11.toNatClampNeg = some a3) (h51 : f49 x16.toNatClampNeg = some a3) (h52 : f49 x6.toNatClampNeg = some a3) (h54 : f53 x11.toNatClampNeg = 4) (h55 : f53 x16.toNatClampNeg = 4) (h57 : f56 0 = 110) (h58 : f56 1 = 117) (h59 : f56 2 = 108) (h60 : f56 3 = 108) (h62 : f61 0 = none) (h63 : f61 1 = none) : xMet l yM_binary0 wyM_binary0 9 2 12 204 D cT aK aV sz [.ref a0, .int x6, .int 0, .int x11, .int x16] [(a0, .inr (5, [v21, .ref a4, v22, v23, v24, v25, v26, v27, v28, v29, v30, v31, v32, v33, v34, v35, v36, v37, v38, v39, v40, .ref a5, v41, v42, .ref a1, .ref a2, v43, v44, v45, v46, v47, v48])), (a1, .inl (cT 5, 8, .inr (.inr (.inr (.inr f49))))), (a2, .inl (cT 1, 8, .inl f53)), (a3, .inl (cT 0, 4096, .inl f56)), (a4, .inl (cT 4, 1024, .inr (.inr (.inr (.inr f61))))), (a5, .inl (cT 0, 1024, .inl f64))] (fun A => va_Qv (fun _ : Unit => True) (fun _ t => ∃ (q4 : Nat) (q5 : Nat) (y6 : Int32) (y7 : Int32) (y8 : Int32) (y9 : Int32), xB D xcl cT A [(a0, .inr (5, [.int 0, .ref a4, .int 2, v23, .int 0, v25, v26, .int 0, v28, .int 0, v30, v31, .int 0, v33, v34, .ref a3, .int 4, .int 4, .int 0, .int 100, v40, .ref a5, .int 4, .int 4096, .ref a1, .ref a2, v43, v44, v45, v46, v47, v48])), (a1, .inl (cT 5, 8, .inr (.inr (.inr (.inr f49))))), (a2, .inl (cT 1, 8, .inl (upd f53 x6.toNatClampNeg 4))), (a3, .inl (cT 0, 4096, .inl (upd (upd (upd (upd f56 0 (vp_nar .byte (vp_nar .byte y6))) 1 (vp_nar .byte (vp_nar .byte y7))) 2 (vp_nar .byte (vp_nar .byte y8))) 3 (vp_nar .byte (vp_nar .byte y9))))), (a4, .inl (cT 4, 1024, .inr (.inr (.inr (.inr (va_up (va_up f61 0 (some q4)) 1 (some q5))))))), (a5, .inl (cT 0, 1024, .inl (upd (upd (upd (upd f64 0 (vp_nar .byte y6)) 1 (vp_nar .byte y7)) 2 (vp_nar .byte y8)) 3 (vp_nar .byte y9)))), (q4, .inr (6, [.int 0, .long 0, .int 0, .int 0, .int 0, .int 1])), (q5, .inr (6, [.int 0, .long 0, .int 0, .int 0, .int 0, .int 1]))] t) A) := by
  refine Met.ofW (cc := prog_13_method_89_code) (maxL := 5) (ret := none) (by decide) rfl ?_
  intro p e s m args below meth c s₁ B hml hv
  obtain ⟨rfl, hsz, hZ, hP, hK, hD0⟩ := hv
  have hx := B.exec
  have hb := B.bytes
  have hr := B.returns
  have hts := atoms_spec (ws := wyM_binary0) B.pre
  have htx := fun w h => hts w (List.mem_cons_of_mem _ h)
  have hown : s.vm.findClass "ValueBenchModel" = some m.cls := findClass_of_methodNamed B.named
  have hlocks := B.notSynchronized
  subst hsz
  have hD := hD0.self (sz := s.heap.size)
  generalize hAe : va_A [(a0, .inr (5, [v21, .ref a4, v22, v23, v24, v25, v26, v27, v28, v29, v30, v31, v32, v33, v34, v35, v36, v37, v38, v39, v40, .ref a5, v41, v42, .ref a1, .ref a2, v43, v44, v45, v46, v47, v48])), (a1, .inl (cT 5, 8, .inr (.inr (.inr (.inr f49))))), (a2, .inl (cT 1, 8, .inl f53)), (a3, .inl (cT 0, 4096, .inl f56)), (a4, .inl (cT 4, 1024, .inr (.inr (.inr (.inr f61))))), (a5, .inl (cT 0, 1024, .inl f64))] s.heap.size = A at hD hZ ⊢
  have hA : ∀ q : Nat, s.heap.size ≤ q → A q := fun q h => by rw [← hAe]; exact Or.inr h
  have hS : va_S A s.heap s.heap [] := va_S.rf
  have hP : va_P D xcl [(a0, .inr (5, [v21, .ref a4, v22, v23, v24, v25, v26, v27, v28, v29, v30, v31, v32, v33, v34, v35, v36, v37, v38, v39, v40, .ref a5, v41, v42, .ref a1, .ref a2, v43, v44, v45, v46, v47, v48])), (a1, .inl (cT 5, 8, .inr (.inr (.inr (.inr f49))))), (a2, .inl (cT 1, 8, .inl f53)), (a3, .inl (cT 0, 4096, .inl f56)), (a4, .inl (cT 4, 1024, .inr (.inr (.inr (.inr f61))))), (a5, .inl (cT 0, 1024, .inl f64))] s.heap := hP
  have hl := lv_entry ([.ref a0, .int x6, .int 0, .int x11, .int x16]) (n := 5) (Nat.le_of_ble_eq_true rfl)
  rw [lg_entry_eq]
  generalize (lg_sl ([.ref a0, .int x6, .int 0, .int x11, .int x16]) ++ List.replicate (5 - (lg_sl ([.ref a0, .int x6, .int 0, .int x11, .int x16])).length) Slot.unset).toArray = ls at hl ⊢
  have hl : lv_has ls 5 [(0, .ref a0), (1, .int x6), (2, .int 0), (3, .int x11), (4, .int x16)] := hl
  refine lv_aload_n hx hb dM_binary0_0 rfl (lv_at hl 0 rfl) ?_
  obtain ⟨hPc, hDc, hFc⟩ := xcut (wc := [(a0, .inr (5, [v21, .ref a4, v22, v23, v24, v25, v26, v27, v28, v29, v30, v31, v32, v33, v34, v35, v36, v37, v38, v39, v40, .ref a5, v41, v42, .ref a1, .ref a2, v43, v44, v45, v46, v47, v48]))]) hP hD hS hA [0] rfl rfl (by decide)
  refine va_callv (va_runV (C := "ValueBenchModel") (As := []) (rest := []) ⟨hx, hb, hml, hown, htx⟩ (cM_begin_0 l hl9 D cT aK aV s.heap.size a0 v21 (.ref a4) v22 v23 v24 v25 v26 v27 v28 v29 v30 v31 v32 v33 v34 v35 v36 v37 v38 v39 v40 (.ref a5) v41 v42 (.ref a1) (.ref a2) v43 v44 v45 v46 v47 v48) ⟨callB_of 0 htx (xw_goodC kw_5_209) rfl rfl rfl (htx _ kw_1_5) (htx _ kw_5_206) ⟨by decide, by decide, by decide +kernel⟩ ⟨Nat.le_of_ble_eq_true rfl, Nat.le_of_ble_eq_true rfl⟩, (htx _ kw_5_208), (htx _ kp_M_begin)⟩ ⟨xPre_blind, va_recv hK hP (ci := 5) rfl (q0 := 0) rfl, (fun U hU hW => ⟨rfl, xPre_of hZ hS hFc hPc hDc hK U hU hW⟩)⟩ rfl rfl hl.1 rfl (lv_room (Nat.le_of_ble_eq_true rfl)) dM_binary0_1 ⟨Nat.le_of_ble_eq_true rfl, Nat.le_of_ble_eq_true rfl⟩) hS (fun q _ h => hFc q h) hFc (fun u9 t H1 locs ht hvm hr9 hB hz1 hk1 hS => ?_)
  obtain ⟨hP1, hK1, hD1⟩ := hB
  rw [ht] at hP1
  obtain ⟨hP, hD⟩ := xjoin (W := [(a1, .inl (cT 5, 8, .inr (.inr (.inr (.inr f49))))), (a2, .inl (cT 1, 8, .inl f53)), (a3, .inl (cT 0, 4096, .inl f56)), (a4, .inl (cT 4, 1024, .inr (.inr (.inr (.inr f61))))), (a5, .inl (cT 0, 1024, .inl f64)), (a0, .inr (5, [.int 0, .ref a4, .int 0, v23, .int 0, v25, v26, .int 0, v28, .int 0, v30, v31, .int 0, v33, v34, v35, v36, v37, v38, v39, v40, .ref a5, .int 0, .int 1000000000, .ref a1, .ref a2, v43, v44, v45, v46, v47, v48]))]) hP hD [0] [1, 2, 3, 4, 5] 5 rfl rfl (by decide) (by decide) hk1 hFc hP1 hD1
  generalize H1 = H at hP hS ⊢
  refine lv_aload_n hx hb dM_binary0_4 rfl (lv_at hl 0 rfl) ?_
  refine lv_iload_n hx hb dM_binary0_5 rfl (lv_at hl 1 rfl) ?_
  obtain ⟨hPc, hDc, hFc⟩ := xcut (wc := []) hP hD hS hA [] rfl rfl (by decide)
  refine va_calli (va_runV (C := "ValueBenchModel") (As := [.int x6]) (rest := []) ⟨hx, hb, hml, hown, htx⟩ (cM_out_2 l hl9 D cT aK aV H.size a0 x6 h7 h8 h9 h10) ⟨callB_of 1 htx (xw_goodC kw_5_217) rfl rfl rfl (htx _ kw_1_5) (htx _ kw_5_214) ⟨by decide, by decide, by decide +kernel⟩ ⟨Nat.le_of_ble_eq_true rfl, Nat.le_of_ble_eq_true rfl⟩, (htx _ kw_5_216), (htx _ kp_M_out)⟩ ⟨xPre_blind, va_recv hK hP (ci := 5) rfl (q0 := 5) rfl, (fun U hU hW => ⟨rfl, xPre_of hZ hS hFc hPc hDc hK U hU hW⟩)⟩ rfl rfl hl.1 rfl (lv_room (Nat.le_of_ble_eq_true rfl)) dM_binary0_6 ⟨Nat.le_of_ble_eq_true rfl, Nat.le_of_ble_eq_true rfl⟩) hS (fun q _ h => hFc q h) hFc (fun r1 u9 t H1 locs ht hvm hr9 hB hz1 hk1 hS => ?_)
  obtain ⟨hP1, hK1, hD1⟩ := hB
  rw [ht] at hP1
  obtain ⟨hP, hD⟩ := xjoin (W := [(a1, .inl (cT 5, 8, .inr (.inr (.inr (.inr f49))))), (a2, .inl (cT 1, 8, .inl f53)), (a3, .inl (cT 0, 4096, .inl f56)), (a4, .inl (cT 4, 1024, .inr (.inr (.inr (.inr f61))))), (a5, .inl (cT 0, 1024, .inl f64)), (a0, .inr (5, [.int 0, .ref a4, .int 0, v23, .int 0, v25, v26, .int 0, v28, .int 0, v30, v31, .int 0, v33, v34, v35, v36, v37, v38, v39, v40, .ref a5, .int 0, .int 1000000000, .ref a1, .ref a2, v43, v44, v45, v46, v47, v48]))]) hP hD [] [0, 1, 2, 3, 4, 5] 6 rfl rfl (by decide) (by decide) hk1 hFc hP1 hD1
  generalize H1 = H at hP hS ⊢
  rw [hr9]
  refine W.eq (g2 := F0 m 9 ls [.int 0]) rfl ?_
  refine lv_if_ne (tgt := 38) hx hb dM_binary0_9 (by decide) (fun h => ((by revert h; decide : False)).elim) (fun _ => ?_)
  refine lv_iload_n hx hb dM_binary0_12 rfl (lv_at hl 2 rfl) ?_
  refine lv_if_lt (tgt := 38) hx hb dM_binary0_13 (by decide) (fun h => ((by revert h; decide : False)).elim) (fun _ => ?_)
  refine lv_iload_n hx hb dM_binary0_16 rfl (lv_at hl 2 rfl) ?_
  refine lv_iconst (v := 4) hx hb dM_binary0_17 (by decide) ?_
  refine lv_icmp_gt (tgt := 38) hx hb dM_binary0_18 (by decide) (fun h => ((by revert h; decide : False)).elim) (fun _ => ?_)
  refine lv_aload_n hx hb dM_binary0_21 rfl (lv_at hl 0 rfl) ?_
  refine lv_iload_n hx hb dM_binary0_22 rfl (lv_at hl 3 rfl) ?_
  obtain ⟨hPc, hDc, hFc⟩ := xcut (wc := []) hP hD hS hA [] rfl rfl (by decide)
  refine va_calli (va_runV (C := "ValueBenchModel") (As := [.int x11]) (rest := []) ⟨hx, hb, hml, hown, htx⟩ (cM_out_2 l hl9 D cT aK aV H.size a0 x11 h12 h13 h14 h15) ⟨callB_of 1 htx (xw_goodC kw_5_217) rfl rfl rfl (htx _ kw_1_5) (htx _ kw_5_214) ⟨by decide, by decide, by decide +kernel⟩ ⟨Nat.le_of_ble_eq_true rfl, Nat.le_of_ble_eq_true rfl⟩, (htx _ kw_5_216), (htx _ kp_M_out)⟩ ⟨xPre_blind, va_recv hK hP (ci := 5) rfl (q0 := 5) rfl, (fun U hU hW => ⟨rfl, xPre_of hZ hS hFc hPc hDc hK U hU hW⟩)⟩ rfl rfl hl.1 rfl (lv_room (Nat.le_of_ble_eq_true rfl)) dM_binary0_23 ⟨Nat.le_of_ble_eq_true rfl, Nat.le_of_ble_eq_true rfl⟩) hS (fun q _ h => hFc q h) hFc (fun r2 u9 t H1 locs ht hvm hr9 hB hz1 hk1 hS => ?_)
  obtain ⟨hP1, hK1, hD1⟩ := hB
  rw [ht] at hP1
  obtain ⟨hP, hD⟩ := xjoin (W := [(a1, .inl (cT 5, 8, .inr (.inr (.inr (.inr f49))))), (a2, .inl (cT 1, 8, .inl f53)), (a3, .inl (cT 0, 4096, .inl f56)), (a4, .inl (cT 4, 1024, .inr (.inr (.inr (.inr f61))))), (a5, .inl (cT 0, 1024, .inl f64)), (a0, .inr (5, [.int 0, .ref a4, .int 0, v23, .int 0, v25, v26, .int 0, v28, .int 0, v30, v31, .int 0, v33, v34, v35, v36, v37, v38, v39, v40, .ref a5, .int 0, .int 1000000000, .ref a1, .ref a2, v43, v44, v45, v46, v47, v48]))]) hP hD [] [0, 1, 2, 3, 4, 5] 6 rfl rfl (by decide) (by decide) hk1 hFc hP1 hD1
  generalize H1 = H at hP hS ⊢
  rw [hr9]
  refine W.eq (g2 := F0 m 26 ls [.int 0]) rfl ?_
  refine lv_if_ne (tgt := 38) hx hb dM_binary0_26 (by decide) (fun h => ((by revert h; decide : False)).elim) (fun _ => ?_)
  refine lv_aload_n hx hb dM_binary0_29 rfl (lv_at hl 0 rfl) ?_
  refine lv_iload hx hb dM_binary0_30 (lv_at hl 4 rfl) ?_
  obtain ⟨hPc, hDc, hFc⟩ := xcut (wc := []) hP hD hS hA [] rfl rfl (by decide)
  refine va_calli (va_runV (C := "ValueBenchModel") (As := [.int x16]) (rest := []) ⟨hx, hb, hml, hown, htx⟩ (cM_out_2 l hl9 D cT aK aV H.size a0 x16 h17 h18 h19 h20) ⟨callB_of 1 htx (xw_goodC kw_5_217) rfl rfl rfl (htx _ kw_1_5) (htx _ kw_5_214) ⟨by decide, by decide, by decide +kernel⟩ ⟨Nat.le_of_ble_eq_true rfl, Nat.le_of_ble_eq_true rfl⟩, (htx _ kw_5_216), (htx _ kp_M_out)⟩ ⟨xPre_blind, va_recv hK hP (ci := 5) rfl (q0 := 5) rfl, (fun U hU hW => ⟨rfl, xPre_of hZ hS hFc hPc hDc hK U hU hW⟩)⟩ rfl rfl hl.1 rfl (lv_room (Nat.le_of_ble_eq_true rfl)) dM_binary0_32 ⟨Nat.le_of_ble_eq_true rfl, Nat.le_of_ble_eq_true rfl⟩) hS (fun q _ h => hFc q h) hFc (fun r3 u9 t H1 locs ht hvm hr9 hB hz1 hk1 hS => ?_)
  obtain ⟨hP1, hK1, hD1⟩ := hB
  rw [ht] at hP1
  obtain ⟨hP, hD⟩ := xjoin (W := [(a1, .inl (cT 5, 8, .inr (.inr (.inr (.inr f49))))), (a2, .inl (cT 1, 8, .inl f53)), (a3, .inl (cT 0, 4096, .inl f56)), (a4, .inl (cT 4, 1024, .inr (.inr (.inr (.inr f61))))), (a5, .inl (cT 0, 1024, .inl f64)), (a0, .inr (5, [.int 0, .ref a4, .int 0, v23, .int 0, v25, v26, .int 0, v28, .int 0, v30, v31, .int 0, v33, v34, v35, v36, v37, v38, v39, v40, .ref a5, .int 0, .int 1000000000, .ref a1, .ref a2, v43, v44, v45, v46, v47, v48]))]) hP hD [] [0, 1, 2, 3, 4, 5] 6 rfl rfl (by decide) (by decide) hk1 hFc hP1 hD1
  generalize H1 = H at hP hS ⊢
  rw [hr9]
  refine W.eq (g2 := F0 m 35 ls [.int 0]) rfl ?_
  refine lv_if_eq (tgt := 46) hx hb dM_binary0_35 (by decide) (fun _ => ?_) (fun h => ((by revert h; decide : False)).elim)
  refine lv_aload_n hx hb dM_binary0_46 rfl (lv_at hl 0 rfl) ?_
  refine lv_iload_n hx hb dM_binary0_47 rfl (lv_at hl 1 rfl) ?_
  refine lv_iconst (v := 0) hx hb dM_binary0_48 (by decide) ?_
  refine lv_iload_n hx hb dM_binary0_49 rfl (lv_at hl 2 rfl) ?_
  refine lv_iload_n hx hb dM_binary0_50 rfl (lv_at hl 3 rfl) ?_
  refine lv_iload hx hb dM_binary0_51 (lv_at hl 4 rfl) ?_
  obtain ⟨hPc, hDc, hFc⟩ := xcut (wc := [(a0, .inr (5, [.int 0, .ref a4, .int 0, v23, .int 0, v25, v26, .int 0, v28, .int 0, v30, v31, .int 0, v33, v34, v35, v36, v37, v38, v39, v40, .ref a5, .int 0, .int 1000000000, .ref a1, .ref a2, v43, v44, v45, v46, v47, v48])), (a1, .inl (cT 5, 8, .inr (.inr (.inr (.inr f49))))), (a2, .inl (cT 1, 8, .inl f53)), (a3, .inl (cT 0, 4096, .inl f56)), (a4, .inl (cT 4, 1024, .inr (.inr (.inr (.inr f61))))), (a5, .inl (cT 0, 1024, .inl f64))]) hP hD hS hA [5, 0, 1, 2, 3, 4] rfl rfl (by decide)
  refine va_callv (vx_runVW (C := "ValueBenchModel") (As := [.int x6, .int 0, .int 0, .int x11, .int x16]) (rest := []) ⟨hx, hb, hml, hown, htx⟩ (cM_finish_0 l hl9 D cT aK aV H.size a0 a1 a2 a3 a4 a5 x6 x11 x16 (.int 0) v23 (.int 0) v25 v26 (.int 0) v28 (.int 0) v30 v31 (.int 0) v33 v34 v35 v36 v37 v38 v39 v40 (.int 0) (.int 1000000000) v43 v44 v45 v46 v47 v48 f49 f53 f56 f61 f64 h7 h8 h9 h10 h12 h13 h14 h15 h17 h18 h19 h20 (by first | rfl | exact h50 | exact h51 | exact h52 | exact h54 | exact h55 | exact h57 | exact h58 | exact h59 | exact h60 | exact h62 | exact h63) (by first | rfl | exact h50 | exact h51 | exact h52 | exact h54 | exact h55 | exact h57 | exact h58 | exact h59 | exact h60 | exact h62 | exact h63) (by first | rfl | exact h50 | exact h51 | exact h52 | exact h54 | exact h55 | exact h57 | exact h58 | exact h59 | exact h60 | exact h62 | exact h63) (by first | rfl | exact h50 | exact h51 | exact h52 | exact h54 | exact h55 | exact h57 | exact h58 | exact h59 | exact h60 | exact h62 | exact h63) (by first | rfl | exact h50 | exact h51 | exact h52 | exact h54 | exact h55 | exact h57 | exact h58 | exact h59 | exact h60 | exact h62 | exact h63) (by first | rfl | exact h50 | exact h51 | exact h52 | exact h54 | exact h55 | exact h57 | exact h58 | exact h59 | exact h60 | exact h62 | exact h63) (by first | rfl | exact h50 | exact h51 | exact h52 | exact h54 | exact h55 | exact h57 | exact h58 | exact h59 | exact h60 | exact h62 | exact h63) (by first | rfl | exact h50 | exact h51 | exact h52 | exact h54 | exact h55 | exact h57 | exact h58 | exact h59 | exact h60 | exact h62 | exact h63) (by first | rfl | exact h50 | exact h51 | exact h52 | exact h54 | exact h55 | exact h57 | exact h58 | exact h59 | exact h60 | exact h62 | exact h63) (by first | rfl | exact h50 | exact h51 | exact h52 | exact h54 | exact h55 | exact h57 | exact h58 | exact h59 | exact h60 | exact h62 | exact h63) (by first | rfl | exact h50 | exact h51 | exact h52 | exact h54 | exact h55 | exact h57 | exact h58 | exact h59 | exact h60 | exact h62 | exact h63)) (xcVW 5 htx (xw_goodC kw_6_195) rfl rfl rfl (htx _ kw_1_5) (htx _ kw_6_192) ⟨by decide, by decide, by decide +kernel⟩ ⟨Nat.le_of_ble_eq_true rfl, Nat.le_of_ble_eq_true rfl⟩ (htx _ kw_6_194) (htx _ kp_M_finish)) ⟨xPre_blind, va_recv hK hP (ci := 5) rfl (q0 := 5) rfl, (fun U hU hW => ⟨rfl, xPre_of hZ hS hFc hPc hDc hK U hU hW⟩)⟩ rfl rfl hl.1 rfl (lv_room (Nat.le_of_ble_eq_true rfl)) dM_binary0_53 ⟨Nat.le_of_ble_eq_true rfl, Nat.le_of_ble_eq_true rfl⟩) hS (fun q _ h => hFc q h) hFc (fun u9 t H1 locs ht hvm hr9 hB hz1 hk1 hS => ?_)
  obtain ⟨q4, q5, y6, y7, y8, y9, hP1, hK1, hD1⟩ := hB
  rw [ht] at hP1
  obtain ⟨hP, hD⟩ := xjoin (W := [(a0, .inr (5, [.int 0, .ref a4, .int 2, v23, .int 0, v25, v26, .int 0, v28, .int 0, v30, v31, .int 0, v33, v34, .ref a3, .int 4, .int 4, .int 0, .int 100, v40, .ref a5, .int 4, .int 4096, .ref a1, .ref a2, v43, v44, v45, v46, v47, v48])), (a1, .inl (cT 5, 8, .inr (.inr (.inr (.inr f49))))), (a2, .inl (cT 1, 8, .inl (upd f53 x6.toNatClampNeg 4))), (a3, .inl (cT 0, 4096, .inl (upd (upd (upd (upd f56 0 (vp_nar .byte (vp_nar .byte y6))) 1 (vp_nar .byte (vp_nar .byte y7))) 2 (vp_nar .byte (vp_nar .byte y8))) 3 (vp_nar .byte (vp_nar .byte y9))))), (a4, .inl (cT 4, 1024, .inr (.inr (.inr (.inr (va_up (va_up f61 0 (some q4)) 1 (some q5))))))), (a5, .inl (cT 0, 1024, .inl (upd (upd (upd (upd f64 0 (vp_nar .byte y6)) 1 (vp_nar .byte y7)) 2 (vp_nar .byte y8)) 3 (vp_nar .byte y9)))), (q4, .inr (6, [.int 0, .long 0, .int 0, .int 0, .int 0, .int 1])), (q5, .inr (6, [.int 0, .long 0, .int 0, .int 0, .int 0, .int 1]))]) hP hD [5, 0, 1, 2, 3, 4] [] 0 rfl rfl (by decide) (by decide) hk1 hFc hP1 hD1
  generalize H1 = H at hP hS ⊢
  obtain ⟨hP9, hD9⟩ := xsub (wc := [(a0, .inr (5, [.int 0, .ref a4, .int 2, v23, .int 0, v25, v26, .int 0, v28, .int 0, v30, v31, .int 0, v33, v34, .ref a3, .int 4, .int 4, .int 0, .int 100, v40, .ref a5, .int 4, .int 4096, .ref a1, .ref a2, v43, v44, v45, v46, v47, v48])), (a1, .inl (cT 5, 8, .inr (.inr (.inr (.inr f49))))), (a2, .inl (cT 1, 8, .inl (upd f53 x6.toNatClampNeg 4))), (a3, .inl (cT 0, 4096, .inl (upd (upd (upd (upd f56 0 (vp_nar .byte (vp_nar .byte y6))) 1 (vp_nar .byte (vp_nar .byte y7))) 2 (vp_nar .byte (vp_nar .byte y8))) 3 (vp_nar .byte (vp_nar .byte y9))))), (a4, .inl (cT 4, 1024, .inr (.inr (.inr (.inr (va_up (va_up f61 0 (some q4)) 1 (some q5))))))), (a5, .inl (cT 0, 1024, .inl (upd (upd (upd (upd f64 0 (vp_nar .byte y6)) 1 (vp_nar .byte y7)) 2 (vp_nar .byte y8)) 3 (vp_nar .byte y9)))), (q4, .inr (6, [.int 0, .long 0, .int 0, .int 0, .int 0, .int 1])), (q5, .inr (6, [.int 0, .long 0, .int 0, .int 0, .int 0, .int 1]))]) hP hD [0, 1, 2, 3, 4, 5, 6, 7] rfl rfl (by decide)
  refine W.widen (k := 2) (n := 12) (Nat.le_of_ble_eq_true rfl) (Nat.le_of_ble_eq_true rfl) ?_
  exact W.vret hx hb hr (fun t ht hW => ⟨⟨(), rfl, trivial, q4, q5, y6, y7, y8, y9, by rw [ht]; exact hP9, va_K.moved hW.alike hK, hD9⟩, hS.F ht⟩) hS.2.2 dM_binary0_56
set_option maxHeartbeats 400000000 in
set_option maxRecDepth 100000 in
theorem cM_finish_1 (l : Launch) (hl9 : l.stackTraces = false) (D : va_G) (cT : Nat → ClassId) (aK aV : Nat → Nat) (sz : Nat) (a0 : Nat) (a1 : Nat) (a2 : Nat) (a3 : Nat) (a4 : Nat) (a5 : Nat) (a6 : Nat) (x7 : Int32) (x12 : Int32) (x17 : Int32) (v22 : Value) (v23 : Value) (v24 : Value) (v25 : Value) (v26 : Value) (v27 : Value) (v28 : Value) (v29 : Value) (v30 : Value) (v31 : Value) (v32 : Value) (v33 : Value) (v34 : Value) (v35 : Value) (v36 : Value) (v37 : Value) (v38 : Value) (v39 : Value) (v40 : Value) (v41 : Value) (v42 : Value) (v43 : Value) (v44 : Value) (v45 : Value) (v46 : Value) (v47 : Value) (v48 : Value) (f49 : Nat → Option Nat) (f53 : Nat → Int32) (f56 : Nat → Int32) (f61 : Nat → Option Nat) (f64 : Nat → Int32) (f65 : Nat → Int32) (h8 : ¬ x7 < 0) (h9 : ¬ 7 < x7) (h10 : x7 ≤ 7) (h11 : vp_in x7 8) (h13 : ¬ x12 < 0) (h14 : ¬ 7 < x12) (h15 : x12 ≤ 7) (h16 : vp_in x12 8) (h18 : ¬ x17 < 0) (h19 : ¬ 7 < x17) (h20 : x17 ≤ 7) (h21 : vp_in x17 8) (h50 : f49 x12.toNatClampNeg = some a3) (h51 : f49 x17.toNatClampNeg = some a3) (h52 : f49 x7.toNatClampNeg = some a6) (h54 : f53 x12.toNatClampNeg = 4) (h55 : f53 x17.toNatClampNeg = 4) (h57 : f56 0 = 110) (h58 : f56 1 = 117) (h59 : f56 2 = 108) (h60 : f56 3 = 108) (h62 : f61 0 = none) (h63 : f61 1 = none) : xMet l yM_finish wyM_finish 8 2 12 175 D cT aK aV sz [.ref a0, .int x7, .int 0, .int 0, .int x12, .int x17] [(a0, .inr (5, [v22, .ref a4, .int 0, v23, v24, v25, v26, v27, v28, v29, v30, v31, v32, v33, v34, v35, v36, v37, v38, v39, v40, .ref a5, v41, v42, .ref a1, .ref a2, v43, v44, v45, v46, v47, v48])), (a1, .inl (cT 5, 8, .inr (.inr (.inr (.inr f49))))), (a2, .inl (cT 1, 8, .inl f53)), (a3, .inl (cT 0, 4096, .inl f56)), (a4, .inl (cT 4, 1024, .inr (.inr (.inr (.inr f61))))), (a5, .inl (cT 0, 1024, .inl f64)), (a6, .inl (cT 0, 4096, .inl f65))] (fun A => va_Qv (fun _ : Unit => True) (fun _ t => ∃ (r1 : Nat) (r2 : Nat) (y5 : Int32) (y6 : Int32) (y7 : Int32) (y8 : Int32), xB D xcl cT A [(a0, .inr (5, [v22, .ref a4, .int 2, v23, v24, v25, v26, v27, v28, v29, v30, v31, v32, v33, v34, .ref a3, .int 4, .int 4, .int 0, .int 100, v40, .ref a5, .int 4, .int 4096, .ref a1, .ref a2, v43, v44, v45, v46, v47, v48])), (a1, .inl (cT 5, 8, .inr (.inr (.inr (.inr f49))))), (a2, .inl (cT 1, 8, .inl (upd f53 x7.toNatClampNeg 4))), (a3, .inl (cT 0, 4096, .inl f56)), (a4, .inl (cT 4, 1024, .inr (.inr (.inr (.inr (va_up (va_up f61 0 (some r1)) 1 (some r2))))))), (a5, .inl (cT 0, 1024, .inl (upd (upd (upd (upd f64 0 (vp_nar .byte y5)) 1 (vp_nar .byte y6)) 2 (vp_nar .byte y7)) 3 (vp_nar .byte y8)))), (a6, .inl (cT 0, 4096, .inl (upd (upd (upd (upd f65 0 (vp_nar .byte (vp_nar .byte y5))) 1 (vp_nar .byte (vp_nar .byte y6))) 2 (vp_nar .byte (vp_nar .byte y7))) 3 (vp_nar .byte (vp_nar .byte y8))))), (r1, .inr (6, [.int 0, .long 0, .int 0, .int 0, .int 0, .int 1])), (r2, .inr (6, [.int 0, .long 0, .int 0, .int 0, .int 0, .int 1]))] t) A) := by
  refine va_MetW (cc := prog_13_method_90_code) (maxL := 10) (ret := none) (hh := [(0, 128, 131, 83), (0, 128, 149, 86)]) (by decide) rfl ?_
  intro p e s m args below meth c s₁ B hml hv
  obtain ⟨rfl, hsz, hZ, hP, hK, hD0⟩ := hv
  have hx := B.exec
  have hb := B.bytes
  have hr := B.returns
  have hts := atoms_spec (ws := wyM_finish) B.pre
  have htx := fun w h => hts w (List.mem_cons_of_mem _ h)
  have hown : s.vm.findClass "ValueBenchModel" = some m.cls := findClass_of_methodNamed B.named
  have hlocks := B.notSynchronized
  subst hsz
  have hD := hD0.self (sz := s.heap.size)
  generalize hAe : va_A [(a0, .inr (5, [v22, .ref a4, .int 0, v23, v24, v25, v26, v27, v28, v29, v30, v31, v32, v33, v34, v35, v36, v37, v38, v39, v40, .ref a5, v41, v42, .ref a1, .ref a2, v43, v44, v45, v46, v47, v48])), (a1, .inl (cT 5, 8, .inr (.inr (.inr (.inr f49))))), (a2, .inl (cT 1, 8, .inl f53)), (a3, .inl (cT 0, 4096, .inl f56)), (a4, .inl (cT 4, 1024, .inr (.inr (.inr (.inr f61))))), (a5, .inl (cT 0, 1024, .inl f64)), (a6, .inl (cT 0, 4096, .inl f65))] s.heap.size = A at hD hZ ⊢
  have hA : ∀ q : Nat, s.heap.size ≤ q → A q := fun q h => by rw [← hAe]; exact Or.inr h
  have hS : va_S A s.heap s.heap [] := va_S.rf
  have hP : va_P D xcl [(a0, .inr (5, [v22, .ref a4, .int 0, v23, v24, v25, v26, v27, v28, v29, v30, v31, v32, v33, v34, v35, v36, v37, v38, v39, v40, .ref a5, v41, v42, .ref a1, .ref a2, v43, v44, v45, v46, v47, v48])), (a1, .inl (cT 5, 8, .inr (.inr (.inr (.inr f49))))), (a2, .inl (cT 1, 8, .inl f53)), (a3, .inl (cT 0, 4096, .inl f56)), (a4, .inl (cT 4, 1024, .inr (.inr (.inr (.inr f61))))), (a5, .inl (cT 0, 1024, .inl f64)), (a6, .inl (cT 0, 4096, .inl f65))] s.heap := hP
  have hl := lv_entry ([.ref a0, .int x7, .int 0, .int 0, .int x12, .int x17]) (n := 10) (Nat.le_of_ble_eq_true rfl)
  rw [lg_entry_eq]
  generalize (lg_sl ([.ref a0, .int x7, .int 0, .int 0, .int x12, .int x17]) ++ List.replicate (10 - (lg_sl ([.ref a0, .int x7, .int 0, .int 0, .int x12, .int x17])).length) Slot.unset).toArray = ls at hl ⊢
  have hl : lv_has ls 10 [(0, .ref a0), (1, .int x7), (2, .int 0), (3, .int 0), (4, .int x12), (5, .int x17)] := hl
  have htab := vx_table (x := yM_finish) B (hts _ List.mem_cons_self)
  refine lv_aload_n hx hb dM_finish_0 rfl (lv_at hl 0 rfl) ?_
  refine lv_iload hx hb dM_finish_1 (lv_at hl 4 rfl) ?_
  obtain ⟨hPc, hDc, hFc⟩ := xcut (wc := [(a0, .inr (5, [v22, .ref a4, .int 0, v23, v24, v25, v26, v27, v28, v29, v30, v31, v32, v33, v34, v35, v36, v37, v38, v39, v40, .ref a5, v41, v42, .ref a1, .ref a2, v43, v44, v45, v46, v47, v48])), (a1, .inl (cT 5, 8, .inr (.inr (.inr (.inr f49))))), (a2, .inl (cT 1, 8, .inl f53)), (a3, .inl (cT 0, 4096, .inl f56)), (a4, .inl (cT 4, 1024, .inr (.inr (.inr (.inr f61)))))]) hP hD hS hA [0, 1, 2, 3, 4] rfl rfl (by decide)
  refine va_callr (va_runV (C := "ValueBenchModel") (As := [.int x12]) (rest := []) ⟨hx, hb, hml, hown, htx⟩ (cM_register_0 l hl9 D cT aK aV s.heap.size a0 a1 a2 a3 a4 x12 v22 v23 v24 v25 v26 v27 v28 v29 v30 v31 v32 v33 v34 v35 v36 v37 v38 v39 v40 (.ref a5) v41 v42 v43 v44 v45 v46 v47 v48 f49 f53 f56 f61 h13 h14 h15 h16 (by first | rfl | exact h50 | exact h51 | exact h52 | exact h54 | exact h55 | exact h57 | exact h58 | exact h59 | exact h60 | exact h62 | exact h63) (by first | rfl | exact h50 | exact h51 | exact h52 | exact h54 | exact h55 | exact h57 | exact h58 | exact h59 | exact h60 | exact h62 | exact h63) (by first | rfl | exact h50 | exact h51 | exact h52 | exact h54 | exact h55 | exact h57 | exact h58 | exact h59 | exact h60 | exact h62 | exact h63) (by first | rfl | exact h50 | exact h51 | exact h52 | exact h54 | exact h55 | exact h57 | exact h58 | exact h59 | exact h60 | exact h62 | exact h63) (by first | rfl | exact h50 | exact h51 | exact h52 | exact h54 | exact h55 | exact h57 | exact h58 | exact h59 | exact h60 | exact h62 | exact h63) (by first | rfl | exact h50 | exact h51 | exact h52 | exact h54 | exact h55 | exact h57 | exact h58 | exact h59 | exact h60 | exact h62 | exact h63) (by first | rfl | exact h50 | exact h51 | exact h52 | exact h54 | exact h55 | exact h57 | exact h58 | exact h59 | exact h60 | exact h62 | exact h63)) ⟨callB_of 1 htx (xw_goodC kw_6_170) rfl rfl rfl (htx _ kw_1_5) (htx _ kw_6_167) ⟨by decide, by decide, by decide +kernel⟩ ⟨Nat.le_of_ble_eq_true rfl, Nat.le_of_ble_eq_true rfl⟩, (htx _ kw_6_169), (htx _ kp_M_register)⟩ ⟨xPre_blind, va_recv hK hP (ci := 5) rfl (q0 := 0) rfl, (fun U hU hW => ⟨rfl, xPre_of hZ hS hFc hPc hDc hK U hU hW⟩)⟩ rfl rfl hl.1 rfl (lv_room (Nat.le_of_ble_eq_true rfl)) dM_finish_3 ⟨Nat.le_of_ble_eq_true rfl, Nat.le_of_ble_eq_true rfl⟩) hS (fun q _ h => hFc q h) hFc (fun u9 r1 t H1 locs ht hvm hr9 hB hz1 hk1 hS => ?_)
  obtain ⟨hP1, hK1, hD1⟩ := hB
  rw [ht] at hP1
  obtain ⟨hP, hD⟩ := xjoin (W := [(a5, .inl (cT 0, 1024, .inl f64)), (a6, .inl (cT 0, 4096, .inl f65)), (a0, .inr (5, [v22, .ref a4, .int 1, v23, v24, v25, v26, v27, v28, v29, v30, v31, v32, v33, v34, .ref a3, .int 4, .int 4, .int 0, .int 100, v40, .ref a5, v41, v42, .ref a1, .ref a2, v43, v44, v45, v46, v47, v48])), (a1, .inl (cT 5, 8, .inr (.inr (.inr (.inr f49))))), (a2, .inl (cT 1, 8, .inl f53)), (a3, .inl (cT 0, 4096, .inl f56)), (a4, .inl (cT 4, 1024, .inr (.inr (.inr (.inr (va_up f61 0 (some r1))))))), (r1, .inr (6, [.int 0, .long 0, .int 0, .int 0, .int 0, .int 1]))]) hP hD [0, 1, 2, 3, 4] [5, 6] 2 rfl rfl (by decide) (by decide) hk1 hFc hP1 hD1
  generalize H1 = H at hP hS ⊢
  refine W.eq (g2 := F0 m 6 ls [.ref r1]) rfl ?_
  refine lv_astore (lv' := [(6, .ref r1), (0, .ref a0), (1, .int x7), (2, .int 0), (3, .int 0), (4, .int x12), (5, .int x17)]) hx hb dM_finish_6 hl (by decide) rfl (fun ls hl => ?_)
  refine lv_iload_n hx hb dM_finish_8 rfl (lv_at hl 3 rfl) ?_
  refine lv_iconst (v := 1) hx hb dM_finish_9 (by decide) ?_
  refine lv_icmp_ne (tgt := 17) hx hb dM_finish_10 (by decide) (fun _ => ?_) (fun h => ((by revert h; decide : False)).elim)
  refine lv_aload_n hx hb dM_finish_17 rfl (lv_at hl 1 rfl) ?_
  refine lv_iload hx hb dM_finish_18 (lv_at hl 6 rfl) ?_
  obtain ⟨hPc, hDc, hFc⟩ := xcut (wc := [(a0, .inr (5, [v22, .ref a4, .int 1, v23, v24, v25, v26, v27, v28, v29, v30, v31, v32, v33, v34, .ref a3, .int 4, .int 4, .int 0, .int 100, v40, .ref a5, v41, v42, .ref a1, .ref a2, v43, v44, v45, v46, v47, v48])), (a1, .inl (cT 5, 8, .inr (.inr (.inr (.inr f49))))), (a2, .inl (cT 1, 8, .inl f53)), (a3, .inl (cT 0, 4096, .inl f56)), (a4, .inl (cT 4, 1024, .inr (.inr (.inr (.inr (va_up f61 0 (some r1)))))))]) hP hD hS hA [2, 3, 4, 5, 6] rfl rfl (by decide)
  refine va_callr (va_runV (C := "ValueBenchModel") (As := [.int x17]) (rest := []) ⟨hx, hb, hml, hown, htx⟩ (cM_register_1 l hl9 D cT aK aV H.size a0 a1 a2 a3 a4 x17 v22 v23 v24 v25 v26 v27 v28 v29 v30 v31 v32 v33 v34 (.ref a3) (.int 4) (.int 4) (.int 0) (.int 100) v40 (.ref a5) v41 v42 v43 v44 v45 v46 v47 v48 f49 f53 f56 (va_up f61 0 (some r1)) h18 h19 h20 h21 (by first | rfl | exact h50 | exact h51 | exact h52 | exact h54 | exact h55 | exact h57 | exact h58 | exact h59 | exact h60 | exact h63) (by first | rfl | exact h50 | exact h51 | exact h52 | exact h54 | exact h55 | exact h57 | exact h58 | exact h59 | exact h60 | exact h63) (by first | rfl | exact h50 | exact h51 | exact h52 | exact h54 | exact h55 | exact h57 | exact h58 | exact h59 | exact h60 | exact h63) (by first | rfl | exact h50 | exact h51 | exact h52 | exact h54 | exact h55 | exact h57 | exact h58 | exact h59 | exact h60 | exact h63) (by first | rfl | exact h50 | exact h51 | exact h52 | exact h54 | exact h55 | exact h57 | exact h58 | exact h59 | exact h60 | exact h63) (by first | rfl | exact h50 | exact h51 | exact h52 | exact h54 | exact h55 | exact h57 | exact h58 | exact h59 | exact h60 | exact h63) (by first | rfl | exact h50 | exact h51 | exact h52 | exact h54 | exact h55 | exact h57 | exact h58 | exact h59 | exact h60 | exact h63)) ⟨callB_of 1 htx (xw_goodC kw_6_170) rfl rfl rfl (htx _ kw_1_5) (htx _ kw_6_167) ⟨by decide, by decide, by decide +kernel⟩ ⟨Nat.le_of_ble_eq_true rfl, Nat.le_of_ble_eq_true rfl⟩, (htx _ kw_6_169), (htx _ kp_M_register)⟩ ⟨xPre_blind, va_recv hK hP (ci := 5) rfl (q0 := 2) rfl, (fun U hU hW => ⟨rfl, xPre_of hZ hS hFc hPc hDc hK U hU hW⟩)⟩ rfl rfl hl.1 rfl (lv_room (Nat.le_of_ble_eq_true rfl)) dM_finish_20 ⟨Nat.le_of_ble_eq_true rfl, Nat.le_of_ble_eq_true rfl⟩) hS (fun q _ h => hFc q h) hFc (fun u9 r2 t H1 locs ht hvm hr9 hB hz1 hk1 hS => ?_)
  obtain ⟨hP1, hK1, hD1⟩ := hB
  rw [ht] at hP1
  obtain ⟨hP, hD⟩ := xjoin (W := [(a5, .inl (cT 0, 1024, .inl f64)), (a6, .inl (cT 0, 4096, .inl f65)), (r1, .inr (6, [.int 0, .long 0, .int 0, .int 0, .int 0, .int 1])), (a0, .inr (5, [v22, .ref a4, .int 2, v23, v24, v25, v26, v27, v28, v29, v30, v31, v32, v33, v34, .ref a3, .int 4, .int 4, .int 0, .int 100, v40, .ref a5, v41, v42, .ref a1, .ref a2, v43, v44, v45, v46, v47, v48])), (a1, .inl (cT 5, 8, .inr (.inr (.inr (.inr f49))))), (a2, .inl (cT 1, 8, .inl f53)), (a3, .inl (cT 0, 4096, .inl f56)), (a4, .inl (cT 4, 1024, .inr (.inr (.inr (.inr (va_up (va_up f61 0 (some r1)) 1 (some r2))))))), (r2, .inr (6, [.int 0, .long 0, .int 0, .int 0, .int 0, .int 1]))]) hP hD [2, 3, 4, 5, 6] [0, 1, 7] 3 rfl rfl (by decide) (by decide) hk1 hFc hP1 hD1
  generalize H1 = H at hP hS ⊢
  refine W.eq (g2 := F0 m 23 ls [.ref r2]) rfl ?_
  refine lv_astore (lv' := [(7, .ref r2), (6, .ref r1), (0, .ref a0), (1, .int x7), (2, .int 0), (3, .int 0), (4, .int x12), (5, .int x17)]) hx hb dM_finish_23 hl (by decide) rfl (fun ls hl => ?_)
  refine lv_iload_n hx hb dM_finish_25 rfl (lv_at hl 4 rfl) ?_
  refine lv_if_ne (tgt := 43) hx hb dM_finish_26 (by decide) (fun h => ((by revert h; decide : False)).elim) (fun _ => ?_)
  refine lv_aload_n hx hb dM_finish_29 rfl (lv_at hl 2 rfl) ?_
  refine lv_iload_n hx hb dM_finish_30 rfl (lv_at hl 5 rfl) ?_
  refine lv_aload hx hb dM_finish_31 (lv_at hl 1 rfl) ?_
  refine lv_aload hx hb dM_finish_33 (lv_at hl 0 rfl) ?_
  obtain ⟨hPc, hDc, hFc⟩ := xcut (wc := [(a0, .inr (5, [v22, .ref a4, .int 2, v23, v24, v25, v26, v27, v28, v29, v30, v31, v32, v33, v34, .ref a3, .int 4, .int 4, .int 0, .int 100, v40, .ref a5, v41, v42, .ref a1, .ref a2, v43, v44, v45, v46, v47, v48])), (r1, .inr (6, [.int 0, .long 0, .int 0, .int 0, .int 0, .int 1]))]) hP hD hS hA [3, 2] rfl rfl (by decide)
  refine va_callr (va_runV (C := "ValueBenchModel") (As := [.int 0, .ref r1, .ref r2]) (rest := []) ⟨hx, hb, hml, hown, htx⟩ (cM_binary1_0 l hl9 D cT aK aV H.size a0 r1 r2 v22 (.ref a4) (.int 2) v23 v24 v25 v26 v27 v28 v29 v30 v31 v32 v33 v34 (.ref a3) (.int 4) (.int 4) (.int 0) (.int 100) v40 (.ref a5) v41 v42 (.ref a1) (.ref a2) v43 v44 v45 v46 v47 v48 (.long 0) (.int 0) (.int 0) (.int 0) (.int 1)) ⟨callB_of 3 htx (xw_goodC kw_6_199) rfl rfl rfl (htx _ kw_1_5) (htx _ kw_6_196) ⟨by decide, by decide, by decide +kernel⟩ ⟨Nat.le_of_ble_eq_true rfl, Nat.le_of_ble_eq_true rfl⟩, (htx _ kw_6_198), (htx _ kp_M_binary1)⟩ ⟨xPre_blind, va_recv hK hP (ci := 5) rfl (q0 := 3) rfl, (fun U hU hW => ⟨rfl, xPre_of hZ hS hFc hPc hDc hK U hU hW⟩)⟩ rfl rfl hl.1 rfl (lv_room (Nat.le_of_ble_eq_true rfl)) dM_finish_35 ⟨Nat.le_of_ble_eq_true rfl, Nat.le_of_ble_eq_true rfl⟩) hS (fun q _ h => hFc q h) hFc (fun u9 r3 t H1 locs ht hvm hr9 hB hz1 hk1 hS => ?_)
  obtain ⟨hra9, hP1, hK1, hD1⟩ := hB
  rw [ht] at hP1
  obtain ⟨hP, hD⟩ := xjoin (W := [(a5, .inl (cT 0, 1024, .inl f64)), (a6, .inl (cT 0, 4096, .inl f65)), (a1, .inl (cT 5, 8, .inr (.inr (.inr (.inr f49))))), (a2, .inl (cT 1, 8, .inl f53)), (a3, .inl (cT 0, 4096, .inl f56)), (a4, .inl (cT 4, 1024, .inr (.inr (.inr (.inr (va_up (va_up f61 0 (some r1)) 1 (some r2))))))), (r2, .inr (6, [.int 0, .long 0, .int 0, .int 0, .int 0, .int 1])), (a0, .inr (5, [v22, .ref a4, .int 2, v23, v24, v25, v26, v27, v28, v29, v30, v31, v32, v33, v34, .ref a3, .int 4, .int 4, .int 0, .int 100, v40, .ref a5, v41, v42, .ref a1, .ref a2, v43, v44, v45, v46, v47, v48])), (r1, .inr (6, [.int 0, .long 0, .int 0, .int 0, .int 0, .int 1]))]) hP hD [3, 2] [0, 1, 4, 5, 6, 7, 8] 7 rfl rfl (by decide) (by decide) hk1 hFc hP1 hD1
  generalize H1 = H at hP hS ⊢
  rw [hra9]
  refine W.eq (g2 := F0 m 38 ls [.ref r2]) rfl ?_
  refine lv_astore (lv' := [(8, .ref r2), (7, .ref r2), (6, .ref r1), (0, .ref a0), (1, .int x7), (2, .int 0), (3, .int 0), (4, .int x12), (5, .int x17)]) hx hb dM_finish_38 hl (by decide) rfl (fun ls hl => ?_)
  refine lv_goto (tgt := 119) hx hb dM_finish_40 (by decide) ?_
  refine lv_aload_n hx hb dM_finish_119 rfl (lv_at hl 3 rfl) ?_
  refine lv_iload_n hx hb dM_finish_120 rfl (lv_at hl 4 rfl) ?_
  refine lv_aload hx hb dM_finish_121 (lv_at hl 0 rfl) ?_
  obtain ⟨hPc, hDc, hFc⟩ := xcut (wc := [(a0, .inr (5, [v22, .ref a4, .int 2, v23, v24, v25, v26, v27, v28, v29, v30, v31, v32, v33, v34, .ref a3, .int 4, .int 4, .int 0, .int 100, v40, .ref a5, v41, v42, .ref a1, .ref a2, v43, v44, v45, v46, v47, v48])), (r2, .inr (6, [.int 0, .long 0, .int 0, .int 0, .int 0, .int 1])), (a5, .inl (cT 0, 1024, .inl f64)), (a1, .inl (cT 5, 8, .inr (.inr (.inr (.inr f49))))), (a6, .inl (cT 0, 4096, .inl f65)), (a2, .inl (cT 1, 8, .inl f53))]) hP hD hS hA [7, 6, 0, 2, 1, 3] rfl rfl (by decide)
  refine va_calli (va_runV (C := "ValueBenchModel") (As := [.int x7, .ref r2]) (rest := []) ⟨hx, hb, hml, hown, htx⟩ (cM_store_0 l hl9 D cT aK aV H.size a0 r2 a5 a1 a6 a2 x7 v22 (.ref a4) (.int 2) v23 v24 v25 v26 v27 v28 v29 v30 v31 v32 v33 v34 (.ref a3) (.int 4) (.int 4) (.int 0) (.int 100) v40 v41 v42 v43 v44 v45 v46 v47 v48 (.long 0) (.int 0) (.int 0) (.int 0) (.int 1) f64 f49 f65 f53 h8 h9 h10 h11 (by first | rfl | exact h50 | exact h51 | exact h52 | exact h54 | exact h55 | exact h57 | exact h58 | exact h59 | exact h60)) ⟨callB_of 2 htx (xw_goodC kw_6_124) rfl rfl rfl (htx _ kw_1_5) (htx _ kw_6_121) ⟨by decide, by decide, by decide +kernel⟩ ⟨Nat.le_of_ble_eq_true rfl, Nat.le_of_ble_eq_true rfl⟩, (htx _ kw_6_123), (htx _ kp_M_store)⟩ ⟨xPre_blind, va_recv hK hP (ci := 5) rfl (q0 := 7) rfl, (fun U hU hW => ⟨rfl, xPre_of hZ hS hFc hPc hDc hK U hU hW⟩)⟩ rfl rfl hl.1 rfl (lv_room (Nat.le_of_ble_eq_true rfl)) dM_finish_123 ⟨Nat.le_of_ble_eq_true rfl, Nat.le_of_ble_eq_true rfl⟩) hS (fun q _ h => hFc q h) hFc (fun r4 u9 t H1 locs ht hvm hr9 hB hz1 hk1 hS => ?_)
  obtain ⟨y5, y6, y7, y8, hP1, hK1, hD1⟩ := hB
  rw [ht] at hP1
  obtain ⟨hP, hD⟩ := xjoin (W := [(a3, .inl (cT 0, 4096, .inl f56)), (a4, .inl (cT 4, 1024, .inr (.inr (.inr (.inr (va_up (va_up f61 0 (some r1)) 1 (some r2))))))), (r1, .inr (6, [.int 0, .long 0, .int 0, .int 0, .int 0, .int 1])), (a0, .inr (5, [v22, .ref a4, .int 2, v23, v24, v25, v26, v27, v28, v29, v30, v31, v32, v33, v34, .ref a3, .int 4, .int 4, .int 0, .int 100, v40, .ref a5, .int 4, .int 4096, .ref a1, .ref a2, v43, v44, v45, v46, v47, v48])), (r2, .inr (6, [.int 0, .long 0, .int 0, .int 0, .int 0, .int 1])), (a5, .inl (cT 0, 1024, .inl (upd (upd (upd (upd f64 0 (vp_nar .byte y5)) 1 (vp_nar .byte y6)) 2 (vp_nar .byte y7)) 3 (vp_nar .byte y8)))), (a1, .inl (cT 5, 8, .inr (.inr (.inr (.inr f49))))), (a6, .inl (cT 0, 4096, .inl (upd (upd (upd (upd f65 0 (vp_nar .byte (vp_nar .byte y5))) 1 (vp_nar .byte (vp_nar .byte y6))) 2 (vp_nar .byte (vp_nar .byte y7))) 3 (vp_nar .byte (vp_nar .byte y8))))), (a2, .inl (cT 1, 8, .inl (upd f53 x7.toNatClampNeg 4)))]) hP hD [7, 6, 0, 2, 1, 3] [4, 5, 8] 3 rfl rfl (by decide) (by decide) hk1 hFc hP1 hD1
  generalize H1 = H at hP hS ⊢
  rw [hr9]
  refine W.eq (g2 := F0 m 126 ls [.int 4]) rfl ?_
  refine lv_istore (lv' := [(9, .int 4), (8, .ref r2), (7, .ref r2), (6, .ref r1), (0, .ref a0), (1, .int x7), (2, .int 0), (3, .int 0), (4, .int x12), (5, .int x17)]) hx hb dM_finish_126 hl (by decide) rfl (fun ls hl => ?_)
  refine lv_goto (tgt := 156) hx hb dM_finish_128 (by decide) ?_
  obtain ⟨hP9, hD9⟩ := xsub (wc := [(a0, .inr (5, [v22, .ref a4, .int 2, v23, v24, v25, v26, v27, v28, v29, v30, v31, v32, v33, v34, .ref a3, .int 4, .int 4, .int 0, .int 100, v40, .ref a5, .int 4, .int 4096, .ref a1, .ref a2, v43, v44, v45, v46, v47, v48])), (a1, .inl (cT 5, 8, .inr (.inr (.inr (.inr f49))))), (a2, .inl (cT 1, 8, .inl (upd f53 x7.toNatClampNeg 4))), (a3, .inl (cT 0, 4096, .inl f56)), (a4, .inl (cT 4, 1024, .inr (.inr (.inr (.inr (va_up (va_up f61 0 (some r1)) 1 (some r2))))))), (a5, .inl (cT 0, 1024, .inl (upd (upd (upd (upd f64 0 (vp_nar .byte y5)) 1 (vp_nar .byte y6)) 2 (vp_nar .byte y7)) 3 (vp_nar .byte y8)))), (a6, .inl (cT 0, 4096, .inl (upd (upd (upd (upd f65 0 (vp_nar .byte (vp_nar .byte y5))) 1 (vp_nar .byte (vp_nar .byte y6))) 2 (vp_nar .byte (vp_nar .byte y7))) 3 (vp_nar .byte (vp_nar .byte y8))))), (r1, .inr (6, [.int 0, .long 0, .int 0, .int 0, .int 0, .int 1])), (r2, .inr (6, [.int 0, .long 0, .int 0, .int 0, .int 0, .int 1]))]) hP hD [3, 6, 8, 0, 1, 5, 7, 2, 4] rfl rfl (by decide)
  refine W.widen (k := 2) (n := 12) (Nat.le_of_ble_eq_true rfl) (Nat.le_of_ble_eq_true rfl) ?_
  exact W.vret hx hb hr (fun t ht hW => ⟨⟨(), rfl, trivial, r1, r2, y5, y6, y7, y8, by rw [ht]; exact hP9, va_K.moved hW.alike hK, hD9⟩, hS.F ht⟩) hS.2.2 dM_finish_156
set_option maxHeartbeats 400000000 in
set_option maxRecDepth 100000 in
theorem cM_binary0_9 (l : Launch) (hl9 : l.stackTraces = false) (D : va_G) (cT : Nat → ClassId) (aK aV : Nat → Nat) (sz : Nat) (a0 : Nat) (a1 : Nat) (a2 : Nat) (a3 : Nat) (a4 : Nat) (a5 : Nat) (a6 : Nat) (x7 : Int32) (x12 : Int32) (x17 : Int32) (v22 : Value) (v23 : Value) (v24 : Value) (v25 : Value) (v26 : Value) (v27 : Value) (v28 : Value) (v29 : Value) (v30 : Value) (v31 : Value) (v32 : Value) (v33 : Value) (v34 : Value) (v35 : Value) (v36 : Value) (v37 : Value) (v38 : Value) (v39 : Value) (v40 : Value) (v41 : Value) (v42 : Value) (v43 : Value) (v44 : Value) (v45 : Value) (v46 : Value) (v47 : Value) (v48 : Value) (v49 : Value) (f50 : Nat → Option Nat) (f54 : Nat → Int32) (f57 : Nat → Int32) (f62 : Nat → Option Nat) (f65 : Nat → Int32) (f66 : Nat → Int32) (h8 : ¬ x7 < 0) (h9 : ¬ 7 < x7) (h10 : x7 ≤ 7) (h11 : vp_in x7 8) (h13 : ¬ x12 < 0) (h14 : ¬ 7 < x12) (h15 : x12 ≤ 7) (h16 : vp_in x12 8) (h18 : ¬ x17 < 0) (h19 : ¬ 7 < x17) (h20 : x17 ≤ 7) (h21 : vp_in x17 8) (h51 : f50 x12.toNatClampNeg = some a3) (h52 : f50 x17.toNatClampNeg = some a3) (h53 : f50 x7.toNatClampNeg = some a6) (h55 : f54 x12.toNatClampNeg = 4) (h56 : f54 x17.toNatClampNeg = 4) (h58 : f57 0 = 110) (h59 : f57 1 = 117) (h60 : f57 2 = 108) (h61 : f57 3 = 108) (h63 : f62 0 = none) (h64 : f62 1 = none) : xMet l yM_binary0 wyM_binary0 9 2 12 204 D cT aK aV sz [.ref a0, .int x7, .int 0, .int x12, .int x17] [(a0, .inr (5, [v22, .ref a4, v23, v24, v25, v26, v27, v28, v29, v30, v31, v32, v33, v34, v35, v36, v37, v38, v39, v40, v41, .ref a5, v42, v43, .ref a1, .ref a2, v44, v45, v46, v47, v48, v49])), (a1, .inl (cT 5, 8, .inr (.inr (.inr (.inr f50))))), (a2, .inl (cT 1, 8, .inl f54)), (a3, .inl (cT 0, 4096, .inl f57)), (a4, .inl (cT 4, 1024, .inr (.inr (.inr (.inr f62))))), (a5, .inl (cT 0, 1024, .inl f65)), (a6, .inl (cT 0, 4096, .inl f66))] (fun A => va_Qv (fun _ : Unit => True) (fun _ t => ∃ (q4 : Nat) (q5 : Nat) (y6 : Int32) (y7 : Int32) (y8 : Int32) (y9 : Int32), xB D xcl cT A [(a0, .inr (5, [.int 0, .ref a4, .int 2, v24, .int 0, v26, v27, .int 0, v29, .int 0, v31, v32, .int 0, v34, v35, .ref a3, .int 4, .int 4, .int 0, .int 100, v41, .ref a5, .int 4, .int 4096, .ref a1, .ref a2, v44, v45, v46, v47, v48, v49])), (a1, .inl (cT 5, 8, .inr (.inr (.inr (.inr f50))))), (a2, .inl (cT 1, 8, .inl (upd f54 x7.toNatClampNeg 4))), (a3, .inl (cT 0, 4096, .inl f57)), (a4, .inl (cT 4, 1024, .inr (.inr (.inr (.inr (va_up (va_up f62 0 (some q4)) 1 (some q5))))))), (a5, .inl (cT 0, 1024, .inl (upd (upd (upd (upd f65 0 (vp_nar .byte y6)) 1 (vp_nar .byte y7)) 2 (vp_nar .byte y8)) 3 (vp_nar .byte y9)))), (a6, .inl (cT 0, 4096, .inl (upd (upd (upd (upd f66 0 (vp_nar .byte (vp_nar .byte y6))) 1 (vp_nar .byte (vp_nar .byte y7))) 2 (vp_nar .byte (vp_nar .byte y8))) 3 (vp_nar .byte (vp_nar .byte y9))))), (q4, .inr (6, [.int 0, .long 0, .int 0, .int 0, .int 0, .int 1])), (q5, .inr (6, [.int 0, .long 0, .int 0, .int 0, .int 0, .int 1]))] t) A) := by
  refine Met.ofW (cc := prog_13_method_89_code) (maxL := 5) (ret := none) (by decide) rfl ?_
  intro p e s m args below meth c s₁ B hml hv
  obtain ⟨rfl, hsz, hZ, hP, hK, hD0⟩ := hv
  have hx := B.exec
  have hb := B.bytes
  have hr := B.returns
  have hts := atoms_spec (ws := wyM_binary0) B.pre
  have htx := fun w h => hts w (List.mem_cons_of_mem _ h)
  have hown : s.vm.findClass "ValueBenchModel" = some m.cls := findClass_of_methodNamed B.named
  have hlocks := B.notSynchronized
  subst hsz
  have hD := hD0.self (sz := s.heap.size)
  generalize hAe : va_A [(a0, .inr (5, [v22, .ref a4, v23, v24, v25, v26, v27, v28, v29, v30, v31, v32, v33, v34, v35, v36, v37, v38, v39, v40, v41, .ref a5, v42, v43, .ref a1, .ref a2, v44, v45, v46, v47, v48, v49])), (a1, .inl (cT 5, 8, .inr (.inr (.inr (.inr f50))))), (a2, .inl (cT 1, 8, .inl f54)), (a3, .inl (cT 0, 4096, .inl f57)), (a4, .inl (cT 4, 1024, .inr (.inr (.inr (.inr f62))))), (a5, .inl (cT 0, 1024, .inl f65)), (a6, .inl (cT 0, 4096, .inl f66))] s.heap.size = A at hD hZ ⊢
  have hA : ∀ q : Nat, s.heap.size ≤ q → A q := fun q h => by rw [← hAe]; exact Or.inr h
  have hS : va_S A s.heap s.heap [] := va_S.rf
  have hP : va_P D xcl [(a0, .inr (5, [v22, .ref a4, v23, v24, v25, v26, v27, v28, v29, v30, v31, v32, v33, v34, v35, v36, v37, v38, v39, v40, v41, .ref a5, v42, v43, .ref a1, .ref a2, v44, v45, v46, v47, v48, v49])), (a1, .inl (cT 5, 8, .inr (.inr (.inr (.inr f50))))), (a2, .inl (cT 1, 8, .inl f54)), (a3, .inl (cT 0, 4096, .inl f57)), (a4, .inl (cT 4, 1024, .inr (.inr (.inr (.inr f62))))), (a5, .inl (cT 0, 1024, .inl f65)), (a6, .inl (cT 0, 4096, .inl f66))] s.heap := hP
  have hl := lv_entry ([.ref a0, .int x7, .int 0, .int x12, .int x17]) (n := 5) (Nat.le_of_ble_eq_true rfl)
  rw [lg_entry_eq]
  generalize (lg_sl ([.ref a0, .int x7, .int 0, .int x12, .int x17]) ++ List.replicate (5 - (lg_sl ([.ref a0, .int x7, .int 0, .int x12, .int x17])).length) Slot.unset).toArray = ls at hl ⊢
  have hl : lv_has ls 5 [(0, .ref a0), (1, .int x7), (2, .int 0), (3, .int x12), (4, .int x17)] := hl
  refine lv_aload_n hx hb dM_binary0_0 rfl (lv_at hl 0 rfl) ?_
  obtain ⟨hPc, hDc, hFc⟩ := xcut (wc := [(a0, .inr (5, [v22, .ref a4, v23, v24, v25, v26, v27, v28, v29, v30, v31, v32, v33, v34, v35, v36, v37, v38, v39, v40, v41, .ref a5, v42, v43, .ref a1, .ref a2, v44, v45, v46, v47, v48, v49]))]) hP hD hS hA [0] rfl rfl (by decide)
  refine va_callv (va_runV (C := "ValueBenchModel") (As := []) (rest := []) ⟨hx, hb, hml, hown, htx⟩ (cM_begin_0 l hl9 D cT aK aV s.heap.size a0 v22 (.ref a4) v23 v24 v25 v26 v27 v28 v29 v30 v31 v32 v33 v34 v35 v36 v37 v38 v39 v40 v41 (.ref a5) v42 v43 (.ref a1) (.ref a2) v44 v45 v46 v47 v48 v49) ⟨callB_of 0 htx (xw_goodC kw_5_209) rfl rfl rfl (htx _ kw_1_5) (htx _ kw_5_206) ⟨by decide, by decide, by decide +kernel⟩ ⟨Nat.le_of_ble_eq_true rfl, Nat.le_of_ble_eq_true rfl⟩, (htx _ kw_5_208), (htx _ kp_M_begin)⟩ ⟨xPre_blind, va_recv hK hP (ci := 5) rfl (q0 := 0) rfl, (fun U hU hW => ⟨rfl, xPre_of hZ hS hFc hPc hDc hK U hU hW⟩)⟩ rfl rfl hl.1 rfl (lv_room (Nat.le_of_ble_eq_true rfl)) dM_binary0_1 ⟨Nat.le_of_ble_eq_true rfl, Nat.le_of_ble_eq_true rfl⟩) hS (fun q _ h => hFc q h) hFc (fun u9 t H1 locs ht hvm hr9 hB hz1 hk1 hS => ?_)
  obtain ⟨hP1, hK1, hD1⟩ := hB
  rw [ht] at hP1
  obtain ⟨hP, hD⟩ := xjoin (W := [(a1, .inl (cT 5, 8, .inr (.inr (.inr (.inr f50))))), (a2, .inl (cT 1, 8, .inl f54)), (a3, .inl (cT 0, 4096, .inl f57)), (a4, .inl (cT 4, 1024, .inr (.inr (.inr (.inr f62))))), (a5, .inl (cT 0, 1024, .inl f65)), (a6, .inl (cT 0, 4096, .inl f66)), (a0, .inr (5, [.int 0, .ref a4, .int 0, v24, .int 0, v26, v27, .int 0, v29, .int 0, v31, v32, .int 0, v34, v35, v36, v37, v38, v39, v40, v41, .ref a5, .int 0, .int 1000000000, .ref a1, .ref a2, v44, v45, v46, v47, v48, v49]))]) hP hD [0] [1, 2, 3, 4, 5, 6] 6 rfl rfl (by decide) (by decide) hk1 hFc hP1 hD1
  generalize H1 = H at hP hS ⊢
  refine lv_aload_n hx hb dM_binary0_4 rfl (lv_at hl 0 rfl) ?_
  refine lv_iload_n hx hb dM_binary0_5 rfl (lv_at hl 1 rfl) ?_
  obtain ⟨hPc, hDc, hFc⟩ := xcut (wc := []) hP hD hS hA [] rfl rfl (by decide)
  refine va_calli (va_runV (C := "ValueBenchModel") (As := [.int x7]) (rest := []) ⟨hx, hb, hml, hown, htx⟩ (cM_out_2 l hl9 D cT aK aV H.size a0 x7 h8 h9 h10 h11) ⟨callB_of 1 htx (xw_goodC kw_5_217) rfl rfl rfl (htx _ kw_1_5) (htx _ kw_5_214) ⟨by decide, by decide, by decide +kernel⟩ ⟨Nat.le_of_ble_eq_true rfl, Nat.le_of_ble_eq_true rfl⟩, (htx _ kw_5_216), (htx _ kp_M_out)⟩ ⟨xPre_blind, va_recv hK hP (ci := 5) rfl (q0 := 6) rfl, (fun U hU hW => ⟨rfl, xPre_of hZ hS hFc hPc hDc hK U hU hW⟩)⟩ rfl rfl hl.1 rfl (lv_room (Nat.le_of_ble_eq_true rfl)) dM_binary0_6 ⟨Nat.le_of_ble_eq_true rfl, Nat.le_of_ble_eq_true rfl⟩) hS (fun q _ h => hFc q h) hFc (fun r1 u9 t H1 locs ht hvm hr9 hB hz1 hk1 hS => ?_)
  obtain ⟨hP1, hK1, hD1⟩ := hB
  rw [ht] at hP1
  obtain ⟨hP, hD⟩ := xjoin (W := [(a1, .inl (cT 5, 8, .inr (.inr (.inr (.inr f50))))), (a2, .inl (cT 1, 8, .inl f54)), (a3, .inl (cT 0, 4096, .inl f57)), (a4, .inl (cT 4, 1024, .inr (.inr (.inr (.inr f62))))), (a5, .inl (cT 0, 1024, .inl f65)), (a6, .inl (cT 0, 4096, .inl f66)), (a0, .inr (5, [.int 0, .ref a4, .int 0, v24, .int 0, v26, v27, .int 0, v29, .int 0, v31, v32, .int 0, v34, v35, v36, v37, v38, v39, v40, v41, .ref a5, .int 0, .int 1000000000, .ref a1, .ref a2, v44, v45, v46, v47, v48, v49]))]) hP hD [] [0, 1, 2, 3, 4, 5, 6] 7 rfl rfl (by decide) (by decide) hk1 hFc hP1 hD1
  generalize H1 = H at hP hS ⊢
  rw [hr9]
  refine W.eq (g2 := F0 m 9 ls [.int 0]) rfl ?_
  refine lv_if_ne (tgt := 38) hx hb dM_binary0_9 (by decide) (fun h => ((by revert h; decide : False)).elim) (fun _ => ?_)
  refine lv_iload_n hx hb dM_binary0_12 rfl (lv_at hl 2 rfl) ?_
  refine lv_if_lt (tgt := 38) hx hb dM_binary0_13 (by decide) (fun h => ((by revert h; decide : False)).elim) (fun _ => ?_)
  refine lv_iload_n hx hb dM_binary0_16 rfl (lv_at hl 2 rfl) ?_
  refine lv_iconst (v := 4) hx hb dM_binary0_17 (by decide) ?_
  refine lv_icmp_gt (tgt := 38) hx hb dM_binary0_18 (by decide) (fun h => ((by revert h; decide : False)).elim) (fun _ => ?_)
  refine lv_aload_n hx hb dM_binary0_21 rfl (lv_at hl 0 rfl) ?_
  refine lv_iload_n hx hb dM_binary0_22 rfl (lv_at hl 3 rfl) ?_
  obtain ⟨hPc, hDc, hFc⟩ := xcut (wc := []) hP hD hS hA [] rfl rfl (by decide)
  refine va_calli (va_runV (C := "ValueBenchModel") (As := [.int x12]) (rest := []) ⟨hx, hb, hml, hown, htx⟩ (cM_out_2 l hl9 D cT aK aV H.size a0 x12 h13 h14 h15 h16) ⟨callB_of 1 htx (xw_goodC kw_5_217) rfl rfl rfl (htx _ kw_1_5) (htx _ kw_5_214) ⟨by decide, by decide, by decide +kernel⟩ ⟨Nat.le_of_ble_eq_true rfl, Nat.le_of_ble_eq_true rfl⟩, (htx _ kw_5_216), (htx _ kp_M_out)⟩ ⟨xPre_blind, va_recv hK hP (ci := 5) rfl (q0 := 6) rfl, (fun U hU hW => ⟨rfl, xPre_of hZ hS hFc hPc hDc hK U hU hW⟩)⟩ rfl rfl hl.1 rfl (lv_room (Nat.le_of_ble_eq_true rfl)) dM_binary0_23 ⟨Nat.le_of_ble_eq_true rfl, Nat.le_of_ble_eq_true rfl⟩) hS (fun q _ h => hFc q h) hFc (fun r2 u9 t H1 locs ht hvm hr9 hB hz1 hk1 hS => ?_)
  obtain ⟨hP1, hK1, hD1⟩ := hB
  rw [ht] at hP1
  obtain ⟨hP, hD⟩ := xjoin (W := [(a1, .inl (cT 5, 8, .inr (.inr (.inr (.inr f50))))), (a2, .inl (cT 1, 8, .inl f54)), (a3, .inl (cT 0, 4096, .inl f57)), (a4, .inl (cT 4, 1024, .inr (.inr (.inr (.inr f62))))), (a5, .inl (cT 0, 1024, .inl f65)), (a6, .inl (cT 0, 4096, .inl f66)), (a0, .inr (5, [.int 0, .ref a4, .int 0, v24, .int 0, v26, v27, .int 0, v29, .int 0, v31, v32, .int 0, v34, v35, v36, v37, v38, v39, v40, v41, .ref a5, .int 0, .int 1000000000, .ref a1, .ref a2, v44, v45, v46, v47, v48, v49]))]) hP hD [] [0, 1, 2, 3, 4, 5, 6] 7 rfl rfl (by decide) (by decide) hk1 hFc hP1 hD1
  generalize H1 = H at hP hS ⊢
  rw [hr9]
  refine W.eq (g2 := F0 m 26 ls [.int 0]) rfl ?_
  refine lv_if_ne (tgt := 38) hx hb dM_binary0_26 (by decide) (fun h => ((by revert h; decide : False)).elim) (fun _ => ?_)
  refine lv_aload_n hx hb dM_binary0_29 rfl (lv_at hl 0 rfl) ?_
  refine lv_iload hx hb dM_binary0_30 (lv_at hl 4 rfl) ?_
  obtain ⟨hPc, hDc, hFc⟩ := xcut (wc := []) hP hD hS hA [] rfl rfl (by decide)
  refine va_calli (va_runV (C := "ValueBenchModel") (As := [.int x17]) (rest := []) ⟨hx, hb, hml, hown, htx⟩ (cM_out_2 l hl9 D cT aK aV H.size a0 x17 h18 h19 h20 h21) ⟨callB_of 1 htx (xw_goodC kw_5_217) rfl rfl rfl (htx _ kw_1_5) (htx _ kw_5_214) ⟨by decide, by decide, by decide +kernel⟩ ⟨Nat.le_of_ble_eq_true rfl, Nat.le_of_ble_eq_true rfl⟩, (htx _ kw_5_216), (htx _ kp_M_out)⟩ ⟨xPre_blind, va_recv hK hP (ci := 5) rfl (q0 := 6) rfl, (fun U hU hW => ⟨rfl, xPre_of hZ hS hFc hPc hDc hK U hU hW⟩)⟩ rfl rfl hl.1 rfl (lv_room (Nat.le_of_ble_eq_true rfl)) dM_binary0_32 ⟨Nat.le_of_ble_eq_true rfl, Nat.le_of_ble_eq_true rfl⟩) hS (fun q _ h => hFc q h) hFc (fun r3 u9 t H1 locs ht hvm hr9 hB hz1 hk1 hS => ?_)
  obtain ⟨hP1, hK1, hD1⟩ := hB
  rw [ht] at hP1
  obtain ⟨hP, hD⟩ := xjoin (W := [(a1, .inl (cT 5, 8, .inr (.inr (.inr (.inr f50))))), (a2, .inl (cT 1, 8, .inl f54)), (a3, .inl (cT 0, 4096, .inl f57)), (a4, .inl (cT 4, 1024, .inr (.inr (.inr (.inr f62))))), (a5, .inl (cT 0, 1024, .inl f65)), (a6, .inl (cT 0, 4096, .inl f66)), (a0, .inr (5, [.int 0, .ref a4, .int 0, v24, .int 0, v26, v27, .int 0, v29, .int 0, v31, v32, .int 0, v34, v35, v36, v37, v38, v39, v40, v41, .ref a5, .int 0, .int 1000000000, .ref a1, .ref a2, v44, v45, v46, v47, v48, v49]))]) hP hD [] [0, 1, 2, 3, 4, 5, 6] 7 rfl rfl (by decide) (by decide) hk1 hFc hP1 hD1
  generalize H1 = H at hP hS ⊢
  rw [hr9]
  refine W.eq (g2 := F0 m 35 ls [.int 0]) rfl ?_
  refine lv_if_eq (tgt := 46) hx hb dM_binary0_35 (by decide) (fun _ => ?_) (fun h => ((by revert h; decide : False)).elim)
  refine lv_aload_n hx hb dM_binary0_46 rfl (lv_at hl 0 rfl) ?_
  refine lv_iload_n hx hb dM_binary0_47 rfl (lv_at hl 1 rfl) ?_
  refine lv_iconst (v := 0) hx hb dM_binary0_48 (by decide) ?_
  refine lv_iload_n hx hb dM_binary0_49 rfl (lv_at hl 2 rfl) ?_
  refine lv_iload_n hx hb dM_binary0_50 rfl (lv_at hl 3 rfl) ?_
  refine lv_iload hx hb dM_binary0_51 (lv_at hl 4 rfl) ?_
  obtain ⟨hPc, hDc, hFc⟩ := xcut (wc := [(a0, .inr (5, [.int 0, .ref a4, .int 0, v24, .int 0, v26, v27, .int 0, v29, .int 0, v31, v32, .int 0, v34, v35, v36, v37, v38, v39, v40, v41, .ref a5, .int 0, .int 1000000000, .ref a1, .ref a2, v44, v45, v46, v47, v48, v49])), (a1, .inl (cT 5, 8, .inr (.inr (.inr (.inr f50))))), (a2, .inl (cT 1, 8, .inl f54)), (a3, .inl (cT 0, 4096, .inl f57)), (a4, .inl (cT 4, 1024, .inr (.inr (.inr (.inr f62))))), (a5, .inl (cT 0, 1024, .inl f65)), (a6, .inl (cT 0, 4096, .inl f66))]) hP hD hS hA [6, 0, 1, 2, 3, 4, 5] rfl rfl (by decide)
  refine va_callv (vx_runVW (C := "ValueBenchModel") (As := [.int x7, .int 0, .int 0, .int x12, .int x17]) (rest := []) ⟨hx, hb, hml, hown, htx⟩ (cM_finish_1 l hl9 D cT aK aV H.size a0 a1 a2 a3 a4 a5 a6 x7 x12 x17 (.int 0) v24 (.int 0) v26 v27 (.int 0) v29 (.int 0) v31 v32 (.int 0) v34 v35 v36 v37 v38 v39 v40 v41 (.int 0) (.int 1000000000) v44 v45 v46 v47 v48 v49 f50 f54 f57 f62 f65 f66 h8 h9 h10 h11 h13 h14 h15 h16 h18 h19 h20 h21 (by first | rfl | exact h51 | exact h52 | exact h53 | exact h55 | exact h56 | exact h58 | exact h59 | exact h60 | exact h61 | exact h63 | exact h64) (by first | rfl | exact h51 | exact h52 | exact h53 | exact h55 | exact h56 | exact h58 | exact h59 | exact h60 | exact h61 | exact h63 | exact h64) (by first | rfl | exact h51 | exact h52 | exact h53 | exact h55 | exact h56 | exact h58 | exact h59 | exact h60 | exact h61 | exact h63 | exact h64) (by first | rfl | exact h51 | exact h52 | exact h53 | exact h55 | exact h56 | exact h58 | exact h59 | exact h60 | exact h61 | exact h63 | exact h64) (by first | rfl | exact h51 | exact h52 | exact h53 | exact h55 | exact h56 | exact h58 | exact h59 | exact h60 | exact h61 | exact h63 | exact h64) (by first | rfl | exact h51 | exact h52 | exact h53 | exact h55 | exact h56 | exact h58 | exact h59 | exact h60 | exact h61 | exact h63 | exact h64) (by first | rfl | exact h51 | exact h52 | exact h53 | exact h55 | exact h56 | exact h58 | exact h59 | exact h60 | exact h61 | exact h63 | exact h64) (by first | rfl | exact h51 | exact h52 | exact h53 | exact h55 | exact h56 | exact h58 | exact h59 | exact h60 | exact h61 | exact h63 | exact h64) (by first | rfl | exact h51 | exact h52 | exact h53 | exact h55 | exact h56 | exact h58 | exact h59 | exact h60 | exact h61 | exact h63 | exact h64) (by first | rfl | exact h51 | exact h52 | exact h53 | exact h55 | exact h56 | exact h58 | exact h59 | exact h60 | exact h61 | exact h63 | exact h64) (by first | rfl | exact h51 | exact h52 | exact h53 | exact h55 | exact h56 | exact h58 | exact h59 | exact h60 | exact h61 | exact h63 | exact h64)) (xcVW 5 htx (xw_goodC kw_6_195) rfl rfl rfl (htx _ kw_1_5) (htx _ kw_6_192) ⟨by decide, by decide, by decide +kernel⟩ ⟨Nat.le_of_ble_eq_true rfl, Nat.le_of_ble_eq_true rfl⟩ (htx _ kw_6_194) (htx _ kp_M_finish)) ⟨xPre_blind, va_recv hK hP (ci := 5) rfl (q0 := 6) rfl, (fun U hU hW => ⟨rfl, xPre_of hZ hS hFc hPc hDc hK U hU hW⟩)⟩ rfl rfl hl.1 rfl (lv_room (Nat.le_of_ble_eq_true rfl)) dM_binary0_53 ⟨Nat.le_of_ble_eq_true rfl, Nat.le_of_ble_eq_true rfl⟩) hS (fun q _ h => hFc q h) hFc (fun u9 t H1 locs ht hvm hr9 hB hz1 hk1 hS => ?_)
  obtain ⟨q4, q5, y6, y7, y8, y9, hP1, hK1, hD1⟩ := hB
  rw [ht] at hP1
  obtain ⟨hP, hD⟩ := xjoin (W := [(a0, .inr (5, [.int 0, .ref a4, .int 2, v24, .int 0, v26, v27, .int 0, v29, .int 0, v31, v32, .int 0, v34, v35, .ref a3, .int 4, .int 4, .int 0, .int 100, v41, .ref a5, .int 4, .int 4096, .ref a1, .ref a2, v44, v45, v46, v47, v48, v49])), (a1, .inl (cT 5, 8, .inr (.inr (.inr (.inr f50))))), (a2, .inl (cT 1, 8, .inl (upd f54 x7.toNatClampNeg 4))), (a3, .inl (cT 0, 4096, .inl f57)), (a4, .inl (cT 4, 1024, .inr (.inr (.inr (.inr (va_up (va_up f62 0 (some q4)) 1 (some q5))))))), (a5, .inl (cT 0, 1024, .inl (upd (upd (upd (upd f65 0 (vp_nar .byte y6)) 1 (vp_nar .byte y7)) 2 (vp_nar .byte y8)) 3 (vp_nar .byte y9)))), (a6, .inl (cT 0, 4096, .inl (upd (upd (upd (upd f66 0 (vp_nar .byte (vp_nar .byte y6))) 1 (vp_nar .byte (vp_nar .byte y7))) 2 (vp_nar .byte (vp_nar .byte y8))) 3 (vp_nar .byte (vp_nar .byte y9))))), (q4, .inr (6, [.int 0, .long 0, .int 0, .int 0, .int 0, .int 1])), (q5, .inr (6, [.int 0, .long 0, .int 0, .int 0, .int 0, .int 1]))]) hP hD [6, 0, 1, 2, 3, 4, 5] [] 0 rfl rfl (by decide) (by decide) hk1 hFc hP1 hD1
  generalize H1 = H at hP hS ⊢
  obtain ⟨hP9, hD9⟩ := xsub (wc := [(a0, .inr (5, [.int 0, .ref a4, .int 2, v24, .int 0, v26, v27, .int 0, v29, .int 0, v31, v32, .int 0, v34, v35, .ref a3, .int 4, .int 4, .int 0, .int 100, v41, .ref a5, .int 4, .int 4096, .ref a1, .ref a2, v44, v45, v46, v47, v48, v49])), (a1, .inl (cT 5, 8, .inr (.inr (.inr (.inr f50))))), (a2, .inl (cT 1, 8, .inl (upd f54 x7.toNatClampNeg 4))), (a3, .inl (cT 0, 4096, .inl f57)), (a4, .inl (cT 4, 1024, .inr (.inr (.inr (.inr (va_up (va_up f62 0 (some q4)) 1 (some q5))))))), (a5, .inl (cT 0, 1024, .inl (upd (upd (upd (upd f65 0 (vp_nar .byte y6)) 1 (vp_nar .byte y7)) 2 (vp_nar .byte y8)) 3 (vp_nar .byte y9)))), (a6, .inl (cT 0, 4096, .inl (upd (upd (upd (upd f66 0 (vp_nar .byte (vp_nar .byte y6))) 1 (vp_nar .byte (vp_nar .byte y7))) 2 (vp_nar .byte (vp_nar .byte y8))) 3 (vp_nar .byte (vp_nar .byte y9))))), (q4, .inr (6, [.int 0, .long 0, .int 0, .int 0, .int 0, .int 1])), (q5, .inr (6, [.int 0, .long 0, .int 0, .int 0, .int 0, .int 1]))]) hP hD [0, 1, 2, 3, 4, 5, 6, 7, 8] rfl rfl (by decide)
  refine W.widen (k := 2) (n := 12) (Nat.le_of_ble_eq_true rfl) (Nat.le_of_ble_eq_true rfl) ?_
  exact W.vret hx hb hr (fun t ht hW => ⟨⟨(), rfl, trivial, q4, q5, y6, y7, y8, y9, by rw [ht]; exact hP9, va_K.moved hW.alike hK, hD9⟩, hS.F ht⟩) hS.2.2 dM_binary0_56
set_option maxHeartbeats 400000000 in
set_option maxRecDepth 100000 in
theorem cA_plus_1 (l : Launch) (hl9 : l.stackTraces = false) (D : va_G) (cT : Nat → ClassId) (aK aV : Nat → Nat) (sz : Nat) (a0 : Nat) (a1 : Nat) (a2 : Nat) (a3 : Nat) (a4 : Nat) (a5 : Nat) (v6 : Value) (f7 : Nat → Int64) (v9 : Value) (f10 : Nat → Int64) (f12 : Nat → Int64) (h8 : f7 0 = 0) (h11 : f10 0 = 0) : xMet l yA_plus wyA_plus 3 0 0 105 D cT aK aV sz [.ref a0, .ref a3, .ref a2] [(a0, .inr (2, [.ref a1, .int 1, v6])), (a1, .inl (cT 2, 4096, .inr (.inl f7))), (a2, .inr (2, [.ref a5, .int 0, .int 0])), (a3, .inr (2, [.ref a4, .int 1, v9])), (a4, .inl (cT 2, 4096, .inr (.inl f10))), (a5, .inl (cT 2, 4096, .inr (.inl f12)))] (fun A => va_Qi (fun (r : Int32) (_ : Unit) => r = 0) (fun _ t => xB D xcl cT A [(a0, .inr (2, [.ref a1, .int 1, v6])), (a1, .inl (cT 2, 4096, .inr (.inl f7))), (a2, .inr (2, [.ref a5, .int 1, .int 0])), (a3, .inr (2, [.ref a4, .int 1, v9])), (a4, .inl (cT 2, 4096, .inr (.inl f10))), (a5, .inl (cT 2, 4096, .inr (.inl (vp_updL f12 0 0))))] t) A) := by
  refine Met.ofW (cc := prog_3_method_6_code) (maxL := 3) (ret := (some .int)) (by decide) rfl ?_
  intro p e s m args below meth c s₁ B hml hv
  obtain ⟨rfl, hsz, hZ, hP, hK, hD0⟩ := hv
  have hx := B.exec
  have hb := B.bytes
  have hr := B.returns
  have hts := atoms_spec (ws := wyA_plus) B.pre
  have htx := fun w h => hts w (List.mem_cons_of_mem _ h)
  have hown : s.vm.findClass "ValueBench$Operators" = some m.cls := findClass_of_methodNamed B.named
  have hlocks := B.notSynchronized
  subst hsz
  have hD := hD0.self (sz := s.heap.size)
  generalize hAe : va_A [(a0, .inr (2, [.ref a1, .int 1, v6])), (a1, .inl (cT 2, 4096, .inr (.inl f7))), (a2, .inr (2, [.ref a5, .int 0, .int 0])), (a3, .inr (2, [.ref a4, .int 1, v9])), (a4, .inl (cT 2, 4096, .inr (.inl f10))), (a5, .inl (cT 2, 4096, .inr (.inl f12)))] s.heap.size = A at hD hZ ⊢
  have hA : ∀ q : Nat, s.heap.size ≤ q → A q := fun q h => by rw [← hAe]; exact Or.inr h
  have hS : va_S A s.heap s.heap [] := va_S.rf
  have hP : va_P D xcl [(a0, .inr (2, [.ref a1, .int 1, v6])), (a1, .inl (cT 2, 4096, .inr (.inl f7))), (a2, .inr (2, [.ref a5, .int 0, .int 0])), (a3, .inr (2, [.ref a4, .int 1, v9])), (a4, .inl (cT 2, 4096, .inr (.inl f10))), (a5, .inl (cT 2, 4096, .inr (.inl f12)))] s.heap := hP
  have hl := lv_entry ([.ref a0, .ref a3, .ref a2]) (n := 3) (Nat.le_of_ble_eq_true rfl)
  rw [lg_entry_eq]
  generalize (lg_sl ([.ref a0, .ref a3, .ref a2]) ++ List.replicate (3 - (lg_sl ([.ref a0, .ref a3, .ref a2])).length) Slot.unset).toArray = ls at hl ⊢
  have hl : lv_has ls 3 [(0, .ref a0), (1, .ref a3), (2, .ref a2)] := hl
  refine lv_aload_n hx hb dA_plus_0 rfl (lv_at hl 0 rfl) ?_
  refine lv_iconst (v := 0) hx hb dA_plus_1 (by decide) ?_
  refine lv_iconst (v := 0) hx hb dA_plus_2 (by decide) ?_
  obtain ⟨hPc, hDc, hFc⟩ := xcut (wc := [(a0, .inr (2, [.ref a1, .int 1, v6])), (a1, .inl (cT 2, 4096, .inr (.inl f7)))]) hP hD hS hA [0, 1] rfl rfl (by decide)
  refine va_calli (va_runV (C := "ValueBench$Row") (As := [.int 0, .int 0]) (rest := []) ⟨hx, hb, hml, hown, htx⟩ (cR_is_1 l hl9 D cT aK aV s.heap.size a0 a1 v6 f7 (by first | rfl | exact h8 | exact h11)) ⟨callB_of 2 htx (xw_goodC kw_3_75) rfl rfl rfl (htx _ kw_1_4) (htx _ kw_3_106) ⟨by decide, by decide, by decide +kernel⟩ ⟨Nat.le_of_ble_eq_true rfl, Nat.le_of_ble_eq_true rfl⟩, (htx _ kw_3_73), (htx _ kw_3_74)⟩ ⟨xPre_blind, va_recv hK hP (ci := 2) rfl (q0 := 0) rfl, (fun U hU hW => ⟨rfl, xPre_of hZ hS hFc hPc hDc hK U hU hW⟩)⟩ rfl rfl hl.1 rfl (lv_room (Nat.le_of_ble_eq_true rfl)) dA_plus_3 ⟨Nat.le_of_ble_eq_true rfl, Nat.le_of_ble_eq_true rfl⟩) hS (fun q _ h => hFc q h) hFc (fun r1 u9 t H1 locs ht hvm hr9 hB hz1 hk1 hS => ?_)
  obtain ⟨hP1, hK1, hD1⟩ := hB
  rw [ht] at hP1
  obtain ⟨hP, hD⟩ := xjoin (W := [(a2, .inr (2, [.ref a5, .int 0, .int 0])), (a3, .inr (2, [.ref a4, .int 1, v9])), (a4, .inl (cT 2, 4096, .inr (.inl f10))), (a5, .inl (cT 2, 4096, .inr (.inl f12))), (a0, .inr (2, [.ref a1, .int 1, v6])), (a1, .inl (cT 2, 4096, .inr (.inl f7)))]) hP hD [0, 1] [2, 3, 4, 5] 4 rfl rfl (by decide) (by decide) hk1 hFc hP1 hD1
  generalize H1 = H at hP hS ⊢
  rw [hr9]
  refine W.eq (g2 := F0 m 6 ls [.int 1]) rfl ?_
  refine lv_if_ne (tgt := 18) hx hb dA_plus_6 (by decide) (fun _ => ?_) (fun h => ((by revert h; decide : False)).elim)
  refine lv_aload_n hx hb dA_plus_18 rfl (lv_at hl 2 rfl) ?_
  refine lv_aload_n hx hb dA_plus_19 rfl (lv_at hl 0 rfl) ?_
  refine lv_iconst (v := 0) hx hb dA_plus_20 (by decide) ?_
  refine lv_iconst (v := 0) hx hb dA_plus_21 (by decide) ?_
  obtain ⟨hPc, hDc, hFc⟩ := xcut (wc := [(a0, .inr (2, [.ref a1, .int 1, v6])), (a1, .inl (cT 2, 4096, .inr (.inl f7)))]) hP hD hS hA [4, 5] rfl rfl (by decide)
  refine va_calli (va_runV (C := "ValueBench$Row") (As := [.int 0, .int 0]) (rest := [.ref a2]) ⟨hx, hb, hml, hown, htx⟩ (cR_is_1 l hl9 D cT aK aV H.size a0 a1 v6 f7 (by first | rfl | exact h8 | exact h11)) ⟨callB_of 2 htx (xw_goodC kw_3_75) rfl rfl rfl (htx _ kw_1_4) (htx _ kw_3_106) ⟨by decide, by decide, by decide +kernel⟩ ⟨Nat.le_of_ble_eq_true rfl, Nat.le_of_ble_eq_true rfl⟩, (htx _ kw_3_73), (htx _ kw_3_74)⟩ ⟨xPre_blind, va_recv hK hP (ci := 2) rfl (q0 := 4) rfl, (fun U hU hW => ⟨rfl, xPre_of hZ hS hFc hPc hDc hK U hU hW⟩)⟩ rfl rfl hl.1 rfl (lv_room (Nat.le_of_ble_eq_true rfl)) dA_plus_22 ⟨Nat.le_of_ble_eq_true rfl, Nat.le_of_ble_eq_true rfl⟩) hS (fun q _ h => hFc q h) hFc (fun r2 u9 t H1 locs ht hvm hr9 hB hz1 hk1 hS => ?_)
  obtain ⟨hP1, hK1, hD1⟩ := hB
  rw [ht] at hP1
  obtain ⟨hP, hD⟩ := xjoin (W := [(a2, .inr (2, [.ref a5, .int 0, .int 0])), (a3, .inr (2, [.ref a4, .int 1, v9])), (a4, .inl (cT 2, 4096, .inr (.inl f10))), (a5, .inl (cT 2, 4096, .inr (.inl f12))), (a0, .inr (2, [.ref a1, .int 1, v6])), (a1, .inl (cT 2, 4096, .inr (.inl f7)))]) hP hD [4, 5] [0, 1, 2, 3] 4 rfl rfl (by decide) (by decide) hk1 hFc hP1 hD1
  generalize H1 = H at hP hS ⊢
  rw [hr9]
  refine W.eq (g2 := F0 m 25 ls [.int 1, .ref a2]) rfl ?_
  refine lv_if_eq (tgt := 32) hx hb dA_plus_25 (by decide) (fun h => ((by revert h; decide : False)).elim) (fun _ => ?_)
  refine lv_aload_n hx hb dA_plus_28 rfl (lv_at hl 1 rfl) ?_
  refine lv_goto (tgt := 33) hx hb dA_plus_29 (by decide) ?_
  refine lv_iconst (v := 0) hx hb dA_plus_33 (by decide) ?_
  obtain ⟨hPc, hDc, hFc⟩ := xcut (wc := [(a3, .inr (2, [.ref a4, .int 1, v9])), (a4, .inl (cT 2, 4096, .inr (.inl f10))), (a2, .inr (2, [.ref a5, .int 0, .int 0])), (a5, .inl (cT 2, 4096, .inr (.inl f12)))]) hP hD hS hA [1, 2, 0, 3] rfl rfl (by decide)
  refine va_callv (va_runV (C := "ValueBench$Row") (As := [.ref a3, .int 0]) (rest := []) ⟨hx, hb, hml, hown, htx⟩ (cR_putCopy_0 l hl9 D cT aK aV H.size a3 a4 a2 a5 v9 f10 f12 (by first | rfl | exact h8 | exact h11)) ⟨callB_of 2 htx (xw_goodC kw_3_126) rfl rfl rfl (htx _ kw_1_4) (htx _ kw_3_123) ⟨by decide, by decide, by decide +kernel⟩ ⟨Nat.le_of_ble_eq_true rfl, Nat.le_of_ble_eq_true rfl⟩, (htx _ kw_3_124), (htx _ kw_3_125)⟩ ⟨xPre_blind, va_recv hK hP (ci := 2) rfl (q0 := 0) rfl, (fun U hU hW => ⟨rfl, xPre_of hZ hS hFc hPc hDc hK U hU hW⟩)⟩ rfl rfl hl.1 rfl (lv_room (Nat.le_of_ble_eq_true rfl)) dA_plus_34 ⟨Nat.le_of_ble_eq_true rfl, Nat.le_of_ble_eq_true rfl⟩) hS (fun q _ h => hFc q h) hFc (fun u9 t H1 locs ht hvm hr9 hB hz1 hk1 hS => ?_)
  obtain ⟨hP1, hK1, hD1⟩ := hB
  rw [ht] at hP1
  obtain ⟨hP, hD⟩ := xjoin (W := [(a0, .inr (2, [.ref a1, .int 1, v6])), (a1, .inl (cT 2, 4096, .inr (.inl f7))), (a3, .inr (2, [.ref a4, .int 1, v9])), (a4, .inl (cT 2, 4096, .inr (.inl f10))), (a2, .inr (2, [.ref a5, .int 1, .int 0])), (a5, .inl (cT 2, 4096, .inr (.inl (vp_updL f12 0 0))))]) hP hD [1, 2, 0, 3] [4, 5] 2 rfl rfl (by decide) (by decide) hk1 hFc hP1 hD1
  generalize H1 = H at hP hS ⊢
  refine lv_iconst (v := 0) hx hb dA_plus_37 (by decide) ?_
  obtain ⟨hP9, hD9⟩ := xsub (wc := [(a0, .inr (2, [.ref a1, .int 1, v6])), (a1, .inl (cT 2, 4096, .inr (.inl f7))), (a2, .inr (2, [.ref a5, .int 1, .int 0])), (a3, .inr (2, [.ref a4, .int 1, v9])), (a4, .inl (cT 2, 4096, .inr (.inl f10))), (a5, .inl (cT 2, 4096, .inr (.inl (vp_updL f12 0 0))))]) hP hD [0, 1, 4, 2, 3, 5] rfl rfl (by decide)
  refine W.widen (k := 0) (n := 0) (Nat.le_of_ble_eq_true rfl) (Nat.le_of_ble_eq_true rfl) ?_
  exact W.iret (v := 0) hx hb hr (fun t ht hW => ⟨⟨0, (), rfl, rfl, by rw [ht]; exact hP9, va_K.moved hW.alike hK, hD9⟩, hS.F ht⟩) hS.2.2 dA_plus_38
set_option maxHeartbeats 400000000 in
set_option maxRecDepth 100000 in
theorem cA_apply_1 (l : Launch) (hl9 : l.stackTraces = false) (D : va_G) (cT : Nat → ClassId) (aK aV : Nat → Nat) (sz : Nat) (a0 : Nat) (a1 : Nat) (a2 : Nat) (a3 : Nat) (a4 : Nat) (a5 : Nat) (v6 : Value) (f7 : Nat → Int64) (v9 : Value) (f10 : Nat → Int64) (f12 : Nat → Int64) (h8 : f7 0 = 0) (h11 : f10 0 = 0) : xMet l yA_apply wyA_apply 4 0 0 127 D cT aK aV sz [.int 0, .ref a0, .ref a3, .ref a2] [(a0, .inr (2, [.ref a1, .int 1, v6])), (a1, .inl (cT 2, 4096, .inr (.inl f7))), (a2, .inr (2, [.ref a5, .int 0, .int 0])), (a3, .inr (2, [.ref a4, .int 1, v9])), (a4, .inl (cT 2, 4096, .inr (.inl f10))), (a5, .inl (cT 2, 4096, .inr (.inl f12)))] (fun A => va_Qi (fun (r : Int32) (_ : Unit) => r = 0) (fun _ t => xB D xcl cT A [(a0, .inr (2, [.ref a1, .int 1, v6])), (a1, .inl (cT 2, 4096, .inr (.inl f7))), (a2, .inr (2, [.ref a5, .int 1, .int 0])), (a3, .inr (2, [.ref a4, .int 1, v9])), (a4, .inl (cT 2, 4096, .inr (.inl f10))), (a5, .inl (cT 2, 4096, .inr (.inl (vp_updL f12 0 0))))] t) A) := by
  refine Met.ofW (cc := prog_3_method_2_code) (maxL := 4) (ret := (some .int)) (by decide) rfl ?_
  intro p e s m args below meth c s₁ B hml hv
  obtain ⟨rfl, hsz, hZ, hP, hK, hD0⟩ := hv
  have hx := B.exec
  have hb := B.bytes
  have hr := B.returns
  have hts := atoms_spec (ws := wyA_apply) B.pre
  have htx := fun w h => hts w (List.mem_cons_of_mem _ h)
  have hown : s.vm.findClass "ValueBench$Operators" = some m.cls := findClass_of_methodNamed B.named
  have hlocks := B.notSynchronized
  subst hsz
  have hD := hD0.self (sz := s.heap.size)
  generalize hAe : va_A [(a0, .inr (2, [.ref a1, .int 1, v6])), (a1, .inl (cT 2, 4096, .inr (.inl f7))), (a2, .inr (2, [.ref a5, .int 0, .int 0])), (a3, .inr (2, [.ref a4, .int 1, v9])), (a4, .inl (cT 2, 4096, .inr (.inl f10))), (a5, .inl (cT 2, 4096, .inr (.inl f12)))] s.heap.size = A at hD hZ ⊢
  have hA : ∀ q : Nat, s.heap.size ≤ q → A q := fun q h => by rw [← hAe]; exact Or.inr h
  have hS : va_S A s.heap s.heap [] := va_S.rf
  have hP : va_P D xcl [(a0, .inr (2, [.ref a1, .int 1, v6])), (a1, .inl (cT 2, 4096, .inr (.inl f7))), (a2, .inr (2, [.ref a5, .int 0, .int 0])), (a3, .inr (2, [.ref a4, .int 1, v9])), (a4, .inl (cT 2, 4096, .inr (.inl f10))), (a5, .inl (cT 2, 4096, .inr (.inl f12)))] s.heap := hP
  have hl := lv_entry ([.int 0, .ref a0, .ref a3, .ref a2]) (n := 4) (Nat.le_of_ble_eq_true rfl)
  rw [lg_entry_eq]
  generalize (lg_sl ([.int 0, .ref a0, .ref a3, .ref a2]) ++ List.replicate (4 - (lg_sl ([.int 0, .ref a0, .ref a3, .ref a2])).length) Slot.unset).toArray = ls at hl ⊢
  have hl : lv_has ls 4 [(0, .int 0), (1, .ref a0), (2, .ref a3), (3, .ref a2)] := hl
  refine lv_aload_n hx hb dA_apply_0 rfl (lv_at hl 1 rfl) ?_
  refine lv_iconst (v := 0) hx hb dA_apply_1 (by decide) ?_
  refine lv_iconst (v := 3) hx hb dA_apply_2 (by decide) ?_
  obtain ⟨hPc, hDc, hFc⟩ := xcut (wc := [(a0, .inr (2, [.ref a1, .int 1, v6])), (a1, .inl (cT 2, 4096, .inr (.inl f7)))]) hP hD hS hA [0, 1] rfl rfl (by decide)
  refine va_calli (va_runV (C := "ValueBench$Row") (As := [.int 0, .int 3]) (rest := []) ⟨hx, hb, hml, hown, htx⟩ (cR_is_0 l hl9 D cT aK aV s.heap.size a0 a1 v6 f7 (by first | rfl | exact h8 | exact h11)) ⟨callB_of 2 htx (xw_goodC kw_3_75) rfl rfl rfl (htx _ kw_1_4) (htx _ kw_3_106) ⟨by decide, by decide, by decide +kernel⟩ ⟨Nat.le_of_ble_eq_true rfl, Nat.le_of_ble_eq_true rfl⟩, (htx _ kw_3_73), (htx _ kw_3_74)⟩ ⟨xPre_blind, va_recv hK hP (ci := 2) rfl (q0 := 0) rfl, (fun U hU hW => ⟨rfl, xPre_of hZ hS hFc hPc hDc hK U hU hW⟩)⟩ rfl rfl hl.1 rfl (lv_room (Nat.le_of_ble_eq_true rfl)) dA_apply_3 ⟨Nat.le_of_ble_eq_true rfl, Nat.le_of_ble_eq_true rfl⟩) hS (fun q _ h => hFc q h) hFc (fun r1 u9 t H1 locs ht hvm hr9 hB hz1 hk1 hS => ?_)
  obtain ⟨hP1, hK1, hD1⟩ := hB
  rw [ht] at hP1
  obtain ⟨hP, hD⟩ := xjoin (W := [(a2, .inr (2, [.ref a5, .int 0, .int 0])), (a3, .inr (2, [.ref a4, .int 1, v9])), (a4, .inl (cT 2, 4096, .inr (.inl f10))), (a5, .inl (cT 2, 4096, .inr (.inl f12))), (a0, .inr (2, [.ref a1, .int 1, v6])), (a1, .inl (cT 2, 4096, .inr (.inl f7)))]) hP hD [0, 1] [2, 3, 4, 5] 4 rfl rfl (by decide) (by decide) hk1 hFc hP1 hD1
  generalize H1 = H at hP hS ⊢
  rw [hr9]
  refine W.eq (g2 := F0 m 6 ls [.int 0]) rfl ?_
  refine lv_if_eq (tgt := 34) hx hb dA_apply_6 (by decide) (fun _ => ?_) (fun h => ((by revert h; decide : False)).elim)
  refine lv_iload_n hx hb dA_apply_34 rfl (lv_at hl 0 rfl) ?_
  refine lv_tableIn (off := 29) (tgt := 64) hx hb dA_apply_35 (by decide) (by decide) (by decide) (by decide) ?_
  refine lv_aload_n hx hb dA_apply_64 rfl (lv_at hl 1 rfl) ?_
  refine lv_aload_n hx hb dA_apply_65 rfl (lv_at hl 2 rfl) ?_
  refine lv_aload_n hx hb dA_apply_66 rfl (lv_at hl 3 rfl) ?_
  obtain ⟨hPc, hDc, hFc⟩ := xcut (wc := [(a0, .inr (2, [.ref a1, .int 1, v6])), (a1, .inl (cT 2, 4096, .inr (.inl f7))), (a2, .inr (2, [.ref a5, .int 0, .int 0])), (a3, .inr (2, [.ref a4, .int 1, v9])), (a4, .inl (cT 2, 4096, .inr (.inl f10))), (a5, .inl (cT 2, 4096, .inr (.inl f12)))]) hP hD hS hA [4, 5, 0, 1, 2, 3] rfl rfl (by decide)
  refine va_calli (va_runS (As := [.ref a0, .ref a3, .ref a2]) (rest := []) ⟨hx, hb, hml, hown, htx⟩ (cA_plus_1 l hl9 D cT aK aV H.size a0 a1 a2 a3 a4 a5 v6 f7 v9 f10 f12 (by first | rfl | exact h8 | exact h11) (by first | rfl | exact h8 | exact h11)) ⟨callB_of 3 htx (xw_goodC kw_3_122) rfl rfl rfl (htx _ kw_1_21) (htx _ kw_3_120) ⟨by decide, by decide, by decide +kernel⟩ ⟨Nat.le_of_ble_eq_true rfl, Nat.le_of_ble_eq_true rfl⟩, htx _ kw_3_121⟩ ⟨xPre_blind, (fun U hU hW => ⟨rfl, xPre_of hZ hS hFc hPc hDc hK U hU hW⟩)⟩ rfl rfl hl.1 rfl (lv_room (Nat.le_of_ble_eq_true rfl)) dA_apply_67 ⟨Nat.le_of_ble_eq_true rfl, Nat.le_of_ble_eq_true rfl⟩) hS (fun q _ h => hFc q h) hFc (fun r2 u9 t H1 locs ht hvm hr9 hB hz1 hk1 hS => ?_)
  obtain ⟨hP1, hK1, hD1⟩ := hB
  rw [ht] at hP1
  obtain ⟨hP, hD⟩ := xjoin (W := [(a0, .inr (2, [.ref a1, .int 1, v6])), (a1, .inl (cT 2, 4096, .inr (.inl f7))), (a2, .inr (2, [.ref a5, .int 1, .int 0])), (a3, .inr (2, [.ref a4, .int 1, v9])), (a4, .inl (cT 2, 4096, .inr (.inl f10))), (a5, .inl (cT 2, 4096, .inr (.inl (vp_updL f12 0 0))))]) hP hD [4, 5, 0, 1, 2, 3] [] 0 rfl rfl (by decide) (by decide) hk1 hFc hP1 hD1
  generalize H1 = H at hP hS ⊢
  rw [hr9]
  refine W.eq (g2 := F0 m 70 ls [.int 0]) rfl ?_
  obtain ⟨hP9, hD9⟩ := xsub (wc := [(a0, .inr (2, [.ref a1, .int 1, v6])), (a1, .inl (cT 2, 4096, .inr (.inl f7))), (a2, .inr (2, [.ref a5, .int 1, .int 0])), (a3, .inr (2, [.ref a4, .int 1, v9])), (a4, .inl (cT 2, 4096, .inr (.inl f10))), (a5, .inl (cT 2, 4096, .inr (.inl (vp_updL f12 0 0))))]) hP hD [0, 1, 2, 3, 4, 5] rfl rfl (by decide)
  refine W.widen (k := 0) (n := 0) (Nat.le_of_ble_eq_true rfl) (Nat.le_of_ble_eq_true rfl) ?_
  exact W.iret (v := 0) hx hb hr (fun t ht hW => ⟨⟨0, (), rfl, rfl, by rw [ht]; exact hP9, va_K.moved hW.alike hK, hD9⟩, hS.F ht⟩) hS.2.2 dA_apply_70
set_option maxHeartbeats 400000000 in
set_option maxRecDepth 100000 in
theorem cB_binary_9 (l : Launch) (hl9 : l.stackTraces = false) (D : va_G) (cT : Nat → ClassId) (aK aV : Nat → Nat) (sz : Nat) (a0 : Nat) (a1 : Nat) (a2 : Nat) (a3 : Nat) (a4 : Nat) (a5 : Nat) (a6 : Nat) (a7 : Nat) (a8 : Nat) (a9 : Nat) (x10 : Int32) (x15 : Int32) (x20 : Int32) (v25 : Value) (v26 : Value) (v27 : Value) (v28 : Value) (v29 : Value) (v30 : Value) (v31 : Value) (f32 : Nat → Option Nat) (b35 : Nat) (v37 : Value) (f38 : Nat → Int64) (v40 : Value) (f41 : Nat → Int64) (f43 : Nat → Int64) (v44 : Value) (v45 : Value) (f46 : Nat → Int32) (h11 : ¬ x10 < 0) (h12 : ¬ 7 < x10) (h13 : x10 ≤ 7) (h14 : vp_in x10 8) (h16 : ¬ x15 < 0) (h17 : ¬ 7 < x15) (h18 : x15 ≤ 7) (h19 : vp_in x15 8) (h21 : ¬ x20 < 0) (h22 : ¬ 7 < x20) (h23 : x20 ≤ 7) (h24 : vp_in x20 8) (h33 : f32 x15.toNatClampNeg = some a3) (h34 : f32 x20.toNatClampNeg = some a5) (h36 : f32 x10.toNatClampNeg = some b35) (h39 : f38 0 = 0) (h42 : f41 0 = 0) : xMet l yB_binary wyB_binary 7 0 0 152 D cT aK aV sz [.ref a0, .int x10, .int 0, .int x15, .int x20] [(a0, .inr (0, [v25, v26, .ref a8, .ref a2, v27, .ref a1, v28, v29])), (a1, .inr (2, [.ref a7, v30, v31])), (a2, .inl (cT 3, 8, .inr (.inr (.inr (.inr f32))))), (a3, .inr (2, [.ref a4, .int 1, v37])), (a4, .inl (cT 2, 4096, .inr (.inl f38))), (a5, .inr (2, [.ref a6, .int 1, v40])), (a6, .inl (cT 2, 4096, .inr (.inl f41))), (a7, .inl (cT 2, 4096, .inr (.inl f43))), (a8, .inr (1, [.ref a9, v44, v45])), (a9, .inl (cT 0, 4096, .inl f46))] (fun A => va_Qv (fun _ : Unit => True) (fun _ t => ∃ (y7 : Int32) (y8 : Int32) (y9 : Int32) (y10 : Int32), xB D xcl cT A [(a0, .inr (0, [v25, v26, .ref a8, .ref a2, v27, .ref b35, v28, v29])), (a1, .inr (2, [.ref a7, .int 1, .int 0])), (a2, .inl (cT 3, 8, .inr (.inr (.inr (.inr (va_up f32 x10.toNatClampNeg (some a1))))))), (a3, .inr (2, [.ref a4, .int 1, v37])), (a4, .inl (cT 2, 4096, .inr (.inl f38))), (a5, .inr (2, [.ref a6, .int 1, v40])), (a6, .inl (cT 2, 4096, .inr (.inl f41))), (a7, .inl (cT 2, 4096, .inr (.inl (vp_updL f43 0 0)))), (a8, .inr (1, [.ref a9, .int 4, .int 0])), (a9, .inl (cT 0, 4096, .inl (upd (upd (upd (upd f46 0 (vp_nar .byte y7)) 1 (vp_nar .byte y8)) 2 (vp_nar .byte y9)) 3 (vp_nar .byte y10))))] t) A) := by
  refine Met.ofW (cc := prog_1_method_6_code) (maxL := 5) (ret := none) (by decide) rfl ?_
  intro p e s m args below meth c s₁ B hml hv
  obtain ⟨rfl, hsz, hZ, hP, hK, hD0⟩ := hv
  have hx := B.exec
  have hb := B.bytes
  have hr := B.returns
  have hts := atoms_spec (ws := wyB_binary) B.pre
  have htx := fun w h => hts w (List.mem_cons_of_mem _ h)
  have hown : s.vm.findClass "ValueBench" = some m.cls := findClass_of_methodNamed B.named
  have hlocks := B.notSynchronized
  subst hsz
  have hD := hD0.self (sz := s.heap.size)
  generalize hAe : va_A [(a0, .inr (0, [v25, v26, .ref a8, .ref a2, v27, .ref a1, v28, v29])), (a1, .inr (2, [.ref a7, v30, v31])), (a2, .inl (cT 3, 8, .inr (.inr (.inr (.inr f32))))), (a3, .inr (2, [.ref a4, .int 1, v37])), (a4, .inl (cT 2, 4096, .inr (.inl f38))), (a5, .inr (2, [.ref a6, .int 1, v40])), (a6, .inl (cT 2, 4096, .inr (.inl f41))), (a7, .inl (cT 2, 4096, .inr (.inl f43))), (a8, .inr (1, [.ref a9, v44, v45])), (a9, .inl (cT 0, 4096, .inl f46))] s.heap.size = A at hD hZ ⊢
  have hA : ∀ q : Nat, s.heap.size ≤ q → A q := fun q h => by rw [← hAe]; exact Or.inr h
  have hS : va_S A s.heap s.heap [] := va_S.rf
  have hP : va_P D xcl [(a0, .inr (0, [v25, v26, .ref a8, .ref a2, v27, .ref a1, v28, v29])), (a1, .inr (2, [.ref a7, v30, v31])), (a2, .inl (cT 3, 8, .inr (.inr (.inr (.inr f32))))), (a3, .inr (2, [.ref a4, .int 1, v37])), (a4, .inl (cT 2, 4096, .inr (.inl f38))), (a5, .inr (2, [.ref a6, .int 1, v40])), (a6, .inl (cT 2, 4096, .inr (.inl f41))), (a7, .inl (cT 2, 4096, .inr (.inl f43))), (a8, .inr (1, [.ref a9, v44, v45])), (a9, .inl (cT 0, 4096, .inl f46))] s.heap := hP
  have hl := lv_entry ([.ref a0, .int x10, .int 0, .int x15, .int x20]) (n := 5) (Nat.le_of_ble_eq_true rfl)
  rw [lg_entry_eq]
  generalize (lg_sl ([.ref a0, .int x10, .int 0, .int x15, .int x20]) ++ List.replicate (5 - (lg_sl ([.ref a0, .int x10, .int 0, .int x15, .int x20])).length) Slot.unset).toArray = ls at hl ⊢
  have hl : lv_has ls 5 [(0, .ref a0), (1, .int x10), (2, .int 0), (3, .int x15), (4, .int x20)] := hl
  refine lv_iload_n hx hb dB_binary_0 rfl (lv_at hl 1 rfl) ?_
  obtain ⟨hPc, hDc, hFc⟩ := xcut (wc := []) hP hD hS hA [] rfl rfl (by decide)
  refine va_calli (va_runS (As := [.int x10]) (rest := []) ⟨hx, hb, hml, hown, htx⟩ (cB_isRegister_2 l hl9 D cT aK aV s.heap.size x10 h11 h12 h13 h14) ⟨callB_of 1 htx (xw_goodC kw_2_18) rfl rfl rfl (htx _ kw_1_1) (htx _ kw_2_16) ⟨by decide, by decide, by decide +kernel⟩ ⟨Nat.le_of_ble_eq_true rfl, Nat.le_of_ble_eq_true rfl⟩, htx _ kw_2_17⟩ ⟨xPre_blind, (fun U hU hW => ⟨rfl, xPre_of hZ hS hFc hPc hDc hK U hU hW⟩)⟩ rfl rfl hl.1 rfl (lv_room (Nat.le_of_ble_eq_true rfl)) dB_binary_1 ⟨Nat.le_of_ble_eq_true rfl, Nat.le_of_ble_eq_true rfl⟩) hS (fun q _ h => hFc q h) hFc (fun r1 u9 t H1 locs ht hvm hr9 hB hz1 hk1 hS => ?_)
  obtain ⟨hP1, hK1, hD1⟩ := hB
  rw [ht] at hP1
  obtain ⟨hP, hD⟩ := xjoin (W := [(a0, .inr (0, [v25, v26, .ref a8, .ref a2, v27, .ref a1, v28, v29])), (a1, .inr (2, [.ref a7, v30, v31])), (a2, .inl (cT 3, 8, .inr (.inr (.inr (.inr f32))))), (a3, .inr (2, [.ref a4, .int 1, v37])), (a4, .inl (cT 2, 4096, .inr (.inl f38))), (a5, .inr (2, [.ref a6, .int 1, v40])), (a6, .inl (cT 2, 4096, .inr (.inl f41))), (a7, .inl (cT 2, 4096, .inr (.inl f43))), (a8, .inr (1, [.ref a9, v44, v45])), (a9, .inl (cT 0, 4096, .inl f46))]) hP hD [] [0, 1, 2, 3, 4, 5, 6, 7, 8, 9] 10 rfl rfl (by decide) (by decide) hk1 hFc hP1 hD1
  generalize H1 = H at hP hS ⊢
  rw [hr9]
  refine W.eq (g2 := F0 m 4 ls [.int 1]) rfl ?_
  refine lv_if_eq (tgt := 34) hx hb dB_binary_4 (by decide) (fun h => ((by revert h; decide : False)).elim) (fun _ => ?_)
  refine lv_iload_n hx hb dB_binary_7 rfl (lv_at hl 2 rfl) ?_
  refine lv_iconst (v := 4) hx hb dB_binary_8 (by decide) ?_
  obtain ⟨hPc, hDc, hFc⟩ := xcut (wc := []) hP hD hS hA [] rfl rfl (by decide)
  refine va_calli (va_runS (As := [.int 0, .int 4]) (rest := []) ⟨hx, hb, hml, hown, htx⟩ (cB_isWithin_7 l hl9 D cT aK aV H.size) ⟨callB_of 2 htx (xw_goodC kw_1_218) rfl rfl rfl (htx _ kw_1_1) (htx _ kw_1_216) ⟨by decide, by decide, by decide +kernel⟩ ⟨Nat.le_of_ble_eq_true rfl, Nat.le_of_ble_eq_true rfl⟩, htx _ kw_1_217⟩ ⟨xPre_blind, (fun U hU hW => ⟨rfl, xPre_of hZ hS hFc hPc hDc hK U hU hW⟩)⟩ rfl rfl hl.1 rfl (lv_room (Nat.le_of_ble_eq_true rfl)) dB_binary_9 ⟨Nat.le_of_ble_eq_true rfl, Nat.le_of_ble_eq_true rfl⟩) hS (fun q _ h => hFc q h) hFc (fun r2 u9 t H1 locs ht hvm hr9 hB hz1 hk1 hS => ?_)
  obtain ⟨hP1, hK1, hD1⟩ := hB
  rw [ht] at hP1
  obtain ⟨hP, hD⟩ := xjoin (W := [(a0, .inr (0, [v25, v26, .ref a8, .ref a2, v27, .ref a1, v28, v29])), (a1, .inr (2, [.ref a7, v30, v31])), (a2, .inl (cT 3, 8, .inr (.inr (.inr (.inr f32))))), (a3, .inr (2, [.ref a4, .int 1, v37])), (a4, .inl (cT 2, 4096, .inr (.inl f38))), (a5, .inr (2, [.ref a6, .int 1, v40])), (a6, .inl (cT 2, 4096, .inr (.inl f41))), (a7, .inl (cT 2, 4096, .inr (.inl f43))), (a8, .inr (1, [.ref a9, v44, v45])), (a9, .inl (cT 0, 4096, .inl f46))]) hP hD [] [0, 1, 2, 3, 4, 5, 6, 7, 8, 9] 10 rfl rfl (by decide) (by decide) hk1 hFc hP1 hD1
  generalize H1 = H at hP hS ⊢
  rw [hr9]
  refine W.eq (g2 := F0 m 12 ls [.int 1]) rfl ?_
  refine lv_if_eq (tgt := 34) hx hb dB_binary_12 (by decide) (fun h => ((by revert h; decide : False)).elim) (fun _ => ?_)
  refine lv_iload_n hx hb dB_binary_15 rfl (lv_at hl 3 rfl) ?_
  obtain ⟨hPc, hDc, hFc⟩ := xcut (wc := []) hP hD hS hA [] rfl rfl (by decide)
  refine va_calli (va_runS (As := [.int x15]) (rest := []) ⟨hx, hb, hml, hown, htx⟩ (cB_isRegister_2 l hl9 D cT aK aV H.size x15 h16 h17 h18 h19) ⟨callB_of 1 htx (xw_goodC kw_2_18) rfl rfl rfl (htx _ kw_1_1) (htx _ kw_2_16) ⟨by decide, by decide, by decide +kernel⟩ ⟨Nat.le_of_ble_eq_true rfl, Nat.le_of_ble_eq_true rfl⟩, htx _ kw_2_17⟩ ⟨xPre_blind, (fun U hU hW => ⟨rfl, xPre_of hZ hS hFc hPc hDc hK U hU hW⟩)⟩ rfl rfl hl.1 rfl (lv_room (Nat.le_of_ble_eq_true rfl)) dB_binary_16 ⟨Nat.le_of_ble_eq_true rfl, Nat.le_of_ble_eq_true rfl⟩) hS (fun q _ h => hFc q h) hFc (fun r3 u9 t H1 locs ht hvm hr9 hB hz1 hk1 hS => ?_)
  obtain ⟨hP1, hK1, hD1⟩ := hB
  rw [ht] at hP1
  obtain ⟨hP, hD⟩ := xjoin (W := [(a0, .inr (0, [v25, v26, .ref a8, .ref a2, v27, .ref a1, v28, v29])), (a1, .inr (2, [.ref a7, v30, v31])), (a2, .inl (cT 3, 8, .inr (.inr (.inr (.inr f32))))), (a3, .inr (2, [.ref a4, .int 1, v37])), (a4, .inl (cT 2, 4096, .inr (.inl f38))), (a5, .inr (2, [.ref a6, .int 1, v40])), (a6, .inl (cT 2, 4096, .inr (.inl f41))), (a7, .inl (cT 2, 4096, .inr (.inl f43))), (a8, .inr (1, [.ref a9, v44, v45])), (a9, .inl (cT 0, 4096, .inl f46))]) hP hD [] [0, 1, 2, 3, 4, 5, 6, 7, 8, 9] 10 rfl rfl (by decide) (by decide) hk1 hFc hP1 hD1
  generalize H1 = H at hP hS ⊢
  rw [hr9]
  refine W.eq (g2 := F0 m 19 ls [.int 1]) rfl ?_
  refine lv_if_eq (tgt := 34) hx hb dB_binary_19 (by decide) (fun h => ((by revert h; decide : False)).elim) (fun _ => ?_)
  refine lv_iload hx hb dB_binary_22 (lv_at hl 4 rfl) ?_
  obtain ⟨hPc, hDc, hFc⟩ := xcut (wc := []) hP hD hS hA [] rfl rfl (by decide)
  refine va_calli (va_runS (As := [.int x20]) (rest := []) ⟨hx, hb, hml, hown, htx⟩ (cB_isRegister_2 l hl9 D cT aK aV H.size x20 h21 h22 h23 h24) ⟨callB_of 1 htx (xw_goodC kw_2_18) rfl rfl rfl (htx _ kw_1_1) (htx _ kw_2_16) ⟨by decide, by decide, by decide +kernel⟩ ⟨Nat.le_of_ble_eq_true rfl, Nat.le_of_ble_eq_true rfl⟩, htx _ kw_2_17⟩ ⟨xPre_blind, (fun U hU hW => ⟨rfl, xPre_of hZ hS hFc hPc hDc hK U hU hW⟩)⟩ rfl rfl hl.1 rfl (lv_room (Nat.le_of_ble_eq_true rfl)) dB_binary_24 ⟨Nat.le_of_ble_eq_true rfl, Nat.le_of_ble_eq_true rfl⟩) hS (fun q _ h => hFc q h) hFc (fun r4 u9 t H1 locs ht hvm hr9 hB hz1 hk1 hS => ?_)
  obtain ⟨hP1, hK1, hD1⟩ := hB
  rw [ht] at hP1
  obtain ⟨hP, hD⟩ := xjoin (W := [(a0, .inr (0, [v25, v26, .ref a8, .ref a2, v27, .ref a1, v28, v29])), (a1, .inr (2, [.ref a7, v30, v31])), (a2, .inl (cT 3, 8, .inr (.inr (.inr (.inr f32))))), (a3, .inr (2, [.ref a4, .int 1, v37])), (a4, .inl (cT 2, 4096, .inr (.inl f38))), (a5, .inr (2, [.ref a6, .int 1, v40])), (a6, .inl (cT 2, 4096, .inr (.inl f41))), (a7, .inl (cT 2, 4096, .inr (.inl f43))), (a8, .inr (1, [.ref a9, v44, v45])), (a9, .inl (cT 0, 4096, .inl f46))]) hP hD [] [0, 1, 2, 3, 4, 5, 6, 7, 8, 9] 10 rfl rfl (by decide) (by decide) hk1 hFc hP1 hD1
  generalize H1 = H at hP hS ⊢
  rw [hr9]
  refine W.eq (g2 := F0 m 27 ls [.int 1]) rfl ?_
  refine lv_if_eq (tgt := 34) hx hb dB_binary_27 (by decide) (fun h => ((by revert h; decide : False)).elim) (fun _ => ?_)
  refine lv_iconst (v := 1) hx hb dB_binary_30 (by decide) ?_
  refine lv_goto (tgt := 35) hx hb dB_binary_31 (by decide) ?_
  obtain ⟨hPc, hDc, hFc⟩ := xcut (wc := []) hP hD hS hA [] rfl rfl (by decide)
  refine va_callv (va_runS (As := [.int 1]) (rest := []) ⟨hx, hb, hml, hown, htx⟩ (cB_demand_1 l hl9 D cT aK aV H.size) ⟨callB_of 1 htx (xw_goodC kw_1_221) rfl rfl rfl (htx _ kw_1_1) (htx _ kw_1_219) ⟨by decide, by decide, by decide +kernel⟩ ⟨Nat.le_of_ble_eq_true rfl, Nat.le_of_ble_eq_true rfl⟩, htx _ kw_1_220⟩ ⟨xPre_blind, (fun U hU hW => ⟨rfl, xPre_of hZ hS hFc hPc hDc hK U hU hW⟩)⟩ rfl rfl hl.1 rfl (lv_room (Nat.le_of_ble_eq_true rfl)) dB_binary_35 ⟨Nat.le_of_ble_eq_true rfl, Nat.le_of_ble_eq_true rfl⟩) hS (fun q _ h => hFc q h) hFc (fun u9 t H1 locs ht hvm hr9 hB hz1 hk1 hS => ?_)
  obtain ⟨hP1, hK1, hD1⟩ := hB
  rw [ht] at hP1
  obtain ⟨hP, hD⟩ := xjoin (W := [(a0, .inr (0, [v25, v26, .ref a8, .ref a2, v27, .ref a1, v28, v29])), (a1, .inr (2, [.ref a7, v30, v31])), (a2, .inl (cT 3, 8, .inr (.inr (.inr (.inr f32))))), (a3, .inr (2, [.ref a4, .int 1, v37])), (a4, .inl (cT 2, 4096, .inr (.inl f38))), (a5, .inr (2, [.ref a6, .int 1, v40])), (a6, .inl (cT 2, 4096, .inr (.inl f41))), (a7, .inl (cT 2, 4096, .inr (.inl f43))), (a8, .inr (1, [.ref a9, v44, v45])), (a9, .inl (cT 0, 4096, .inl f46))]) hP hD [] [0, 1, 2, 3, 4, 5, 6, 7, 8, 9] 10 rfl rfl (by decide) (by decide) hk1 hFc hP1 hD1
  generalize H1 = H at hP hS ⊢
  refine lv_aload_n hx hb dB_binary_38 rfl (lv_at hl 0 rfl) ?_
  refine va_get (D := D) (ci := 0) (v := .ref a1) (C := "ValueBench") (T := TB) (N := 8) hx hb htx inB hown hK hP 0 rfl rfl 5 (by decide) (htx _ kw_1_100) (fun _ h9 => h9) rfl dB_binary_39 ?_
  obtain ⟨hPc, hDc, hFc⟩ := xcut (wc := [(a1, .inr (2, [.ref a7, v30, v31]))]) hP hD hS hA [1] rfl rfl (by decide)
  refine va_callv (va_runV (C := "ValueBench$Row") (As := []) (rest := []) ⟨hx, hb, hml, hown, htx⟩ (cR_clear_0 l hl9 D cT aK aV H.size a1 (.ref a7) v30 v31) ⟨callB_of 0 htx (xw_goodC kw_2_22) rfl rfl rfl (htx _ kw_1_4) (htx _ kw_2_19) ⟨by decide, by decide, by decide +kernel⟩ ⟨Nat.le_of_ble_eq_true rfl, Nat.le_of_ble_eq_true rfl⟩, (htx _ kw_2_20), (htx _ kw_2_21)⟩ ⟨xPre_blind, va_recv hK hP (ci := 2) rfl (q0 := 1) rfl, (fun U hU hW => ⟨rfl, xPre_of hZ hS hFc hPc hDc hK U hU hW⟩)⟩ rfl rfl hl.1 rfl (lv_room (Nat.le_of_ble_eq_true rfl)) dB_binary_42 ⟨Nat.le_of_ble_eq_true rfl, Nat.le_of_ble_eq_true rfl⟩) hS (fun q _ h => hFc q h) hFc (fun u9 t H1 locs ht hvm hr9 hB hz1 hk1 hS => ?_)
  obtain ⟨hP1, hK1, hD1⟩ := hB
  rw [ht] at hP1
  obtain ⟨hP, hD⟩ := xjoin (W := [(a0, .inr (0, [v25, v26, .ref a8, .ref a2, v27, .ref a1, v28, v29])), (a2, .inl (cT 3, 8, .inr (.inr (.inr (.inr f32))))), (a3, .inr (2, [.ref a4, .int 1, v37])), (a4, .inl (cT 2, 4096, .inr (.inl f38))), (a5, .inr (2, [.ref a6, .int 1, v40])), (a6, .inl (cT 2, 4096, .inr (.inl f41))), (a7, .inl (cT 2, 4096, .inr (.inl f43))), (a8, .inr (1, [.ref a9, v44, v45])), (a9, .inl (cT 0, 4096, .inl f46)), (a1, .inr (2, [.ref a7, .int 0, .int 0]))]) hP hD [1] [0, 2, 3, 4, 5, 6, 7, 8, 9] 9 rfl rfl (by decide) (by decide) hk1 hFc hP1 hD1
  generalize H1 = H at hP hS ⊢
  refine lv_aload_n hx hb dB_binary_45 rfl (lv_at hl 0 rfl) ?_
  refine lv_iload_n hx hb dB_binary_46 rfl (lv_at hl 2 rfl) ?_
  refine lv_aload_n hx hb dB_binary_47 rfl (lv_at hl 0 rfl) ?_
  refine va_get (D := D) (ci := 0) (v := .ref a2) (C := "ValueBench") (T := TB) (N := 8) hx hb htx inB hown hK hP 0 rfl rfl 3 (by decide) (htx _ kw_1_98) (fun _ h9 => h9) rfl dB_binary_48 ?_
  refine lv_iload_n hx hb dB_binary_51 rfl (lv_at hl 3 rfl) ?_
  refine va_aldq hx hb hK hP 1 3 rfl rfl h19 dB_binary_52 ?_
  refine W.eq (g2 := F0 m 53 ls [va_rf (f32 x15.toNatClampNeg), .int 0, .ref a0]) rfl ?_
  rw [h33]
  refine W.eq (g2 := F0 m 53 ls [.ref a3, .int 0, .ref a0]) rfl ?_
  refine lv_aload_n hx hb dB_binary_53 rfl (lv_at hl 0 rfl) ?_
  refine va_get (D := D) (ci := 0) (v := .ref a2) (C := "ValueBench") (T := TB) (N := 8) hx hb htx inB hown hK hP 0 rfl rfl 3 (by decide) (htx _ kw_1_98) (fun _ h9 => h9) rfl dB_binary_54 ?_
  refine lv_iload hx hb dB_binary_57 (lv_at hl 4 rfl) ?_
  refine va_aldq hx hb hK hP 1 3 rfl rfl h24 dB_binary_59 ?_
  refine W.eq (g2 := F0 m 60 ls [va_rf (f32 x20.toNatClampNeg), .ref a3, .int 0, .ref a0]) rfl ?_
  rw [h34]
  refine W.eq (g2 := F0 m 60 ls [.ref a5, .ref a3, .int 0, .ref a0]) rfl ?_
  refine lv_aload_n hx hb dB_binary_60 rfl (lv_at hl 0 rfl) ?_
  refine va_get (D := D) (ci := 0) (v := .ref a1) (C := "ValueBench") (T := TB) (N := 8) hx hb htx inB hown hK hP 0 rfl rfl 5 (by decide) (htx _ kw_1_100) (fun _ h9 => h9) rfl dB_binary_61 ?_
  obtain ⟨hPc, hDc, hFc⟩ := xcut (wc := [(a3, .inr (2, [.ref a4, .int 1, v37])), (a4, .inl (cT 2, 4096, .inr (.inl f38))), (a1, .inr (2, [.ref a7, .int 0, .int 0])), (a5, .inr (2, [.ref a6, .int 1, v40])), (a6, .inl (cT 2, 4096, .inr (.inl f41))), (a7, .inl (cT 2, 4096, .inr (.inl f43)))]) hP hD hS hA [2, 3, 9, 4, 5, 6] rfl rfl (by decide)
  refine va_calli (va_runS (As := [.int 0, .ref a3, .ref a5, .ref a1]) (rest := [.ref a0]) ⟨hx, hb, hml, hown, htx⟩ (cA_apply_1 l hl9 D cT aK aV H.size a3 a4 a1 a5 a6 a7 v37 f38 v40 f41 f43 (by first | rfl | exact h33 | exact h34 | exact h36 | exact h39 | exact h42) (by first | rfl | exact h33 | exact h34 | exact h36 | exact h39 | exact h42)) ⟨callB_of 4 htx (xw_goodC kw_3_105) rfl rfl rfl (htx _ kw_1_21) (htx _ kw_3_103) ⟨by decide, by decide, by decide +kernel⟩ ⟨Nat.le_of_ble_eq_true rfl, Nat.le_of_ble_eq_true rfl⟩, htx _ kw_3_104⟩ ⟨xPre_blind, (fun U hU hW => ⟨rfl, xPre_of hZ hS hFc hPc hDc hK U hU hW⟩)⟩ rfl rfl hl.1 rfl (lv_room (Nat.le_of_ble_eq_true rfl)) dB_binary_64 ⟨Nat.le_of_ble_eq_true rfl, Nat.le_of_ble_eq_true rfl⟩) hS (fun q _ h => hFc q h) hFc (fun r5 u9 t H1 locs ht hvm hr9 hB hz1 hk1 hS => ?_)
  obtain ⟨hP1, hK1, hD1⟩ := hB
  rw [ht] at hP1
  obtain ⟨hP, hD⟩ := xjoin (W := [(a0, .inr (0, [v25, v26, .ref a8, .ref a2, v27, .ref a1, v28, v29])), (a2, .inl (cT 3, 8, .inr (.inr (.inr (.inr f32))))), (a8, .inr (1, [.ref a9, v44, v45])), (a9, .inl (cT 0, 4096, .inl f46)), (a3, .inr (2, [.ref a4, .int 1, v37])), (a4, .inl (cT 2, 4096, .inr (.inl f38))), (a1, .inr (2, [.ref a7, .int 1, .int 0])), (a5, .inr (2, [.ref a6, .int 1, v40])), (a6, .inl (cT 2, 4096, .inr (.inl f41))), (a7, .inl (cT 2, 4096, .inr (.inl (vp_updL f43 0 0))))]) hP hD [2, 3, 9, 4, 5, 6] [0, 1, 7, 8] 4 rfl rfl (by decide) (by decide) hk1 hFc hP1 hD1
  generalize H1 = H at hP hS ⊢
  rw [hr9]
  refine W.eq (g2 := F0 m 67 ls [.int 0, .ref a0]) rfl ?_
  obtain ⟨hPc, hDc, hFc⟩ := xcut (wc := []) hP hD hS hA [] rfl rfl (by decide)
  refine va_callv (va_runV (C := "ValueBench") (As := [.int 0]) (rest := []) ⟨hx, hb, hml, hown, htx⟩ (cB_demandDone_0 l hl9 D cT aK aV H.size a0) ⟨callB_of 1 htx (xw_goodC kw_3_222) rfl rfl rfl (htx _ kw_1_1) (htx _ kw_3_219) ⟨by decide, by decide, by decide +kernel⟩ ⟨Nat.le_of_ble_eq_true rfl, Nat.le_of_ble_eq_true rfl⟩, (htx _ kw_3_221), (htx _ kp_B_demandDone)⟩ ⟨xPre_blind, va_recv hK hP (ci := 0) rfl (q0 := 0) rfl, (fun U hU hW => ⟨rfl, xPre_of hZ hS hFc hPc hDc hK U hU hW⟩)⟩ rfl rfl hl.1 rfl (lv_room (Nat.le_of_ble_eq_true rfl)) dB_binary_67 ⟨Nat.le_of_ble_eq_true rfl, Nat.le_of_ble_eq_true rfl⟩) hS (fun q _ h => hFc q h) hFc (fun u9 t H1 locs ht hvm hr9 hB hz1 hk1 hS => ?_)
  obtain ⟨hP1, hK1, hD1⟩ := hB
  rw [ht] at hP1
  obtain ⟨hP, hD⟩ := xjoin (W := [(a0, .inr (0, [v25, v26, .ref a8, .ref a2, v27, .ref a1, v28, v29])), (a2, .inl (cT 3, 8, .inr (.inr (.inr (.inr f32))))), (a8, .inr (1, [.ref a9, v44, v45])), (a9, .inl (cT 0, 4096, .inl f46)), (a3, .inr (2, [.ref a4, .int 1, v37])), (a4, .inl (cT 2, 4096, .inr (.inl f38))), (a1, .inr (2, [.ref a7, .int 1, .int 0])), (a5, .inr (2, [.ref a6, .int 1, v40])), (a6, .inl (cT 2, 4096, .inr (.inl f41))), (a7, .inl (cT 2, 4096, .inr (.inl (vp_updL f43 0 0))))]) hP hD [] [0, 1, 2, 3, 4, 5, 6, 7, 8, 9] 10 rfl rfl (by decide) (by decide) hk1 hFc hP1 hD1
  generalize H1 = H at hP hS ⊢
  refine lv_aload_n hx hb dB_binary_70 rfl (lv_at hl 0 rfl) ?_
  refine lv_iload_n hx hb dB_binary_71 rfl (lv_at hl 1 rfl) ?_
  obtain ⟨hPc, hDc, hFc⟩ := xcut (wc := [(a0, .inr (0, [v25, v26, .ref a8, .ref a2, v27, .ref a1, v28, v29])), (a8, .inr (1, [.ref a9, v44, v45])), (a1, .inr (2, [.ref a7, .int 1, .int 0])), (a7, .inl (cT 2, 4096, .inr (.inl (vp_updL f43 0 0)))), (a9, .inl (cT 0, 4096, .inl f46)), (a2, .inl (cT 3, 8, .inr (.inr (.inr (.inr f32)))))]) hP hD hS hA [0, 2, 6, 9, 3, 1] rfl rfl (by decide)
  refine va_calli (va_runV (C := "ValueBench") (As := [.int x10]) (rest := []) ⟨hx, hb, hml, hown, htx⟩ (cB_keepSpare_0 l hl9 D cT aK aV H.size a0 a8 a1 a7 a9 a2 x10 v25 v26 v27 v28 v29 v44 v45 (vp_updL f43 0 0) f46 f32 b35 h11 h12 h13 h14 (by first | rfl | exact h33 | exact h34 | exact h36 | exact h39 | exact h42) (by first | rfl | exact h33 | exact h34 | exact h36 | exact h39 | exact h42)) ⟨callB_of 1 htx (xw_goodC kw_3_17) rfl rfl rfl (htx _ kw_1_1) (htx _ kw_3_14) ⟨by decide, by decide, by decide +kernel⟩ ⟨Nat.le_of_ble_eq_true rfl, Nat.le_of_ble_eq_true rfl⟩, (htx _ kw_3_16), (htx _ kp_B_keepSpare)⟩ ⟨xPre_blind, va_recv hK hP (ci := 0) rfl (q0 := 0) rfl, (fun U hU hW => ⟨rfl, xPre_of hZ hS hFc hPc hDc hK U hU hW⟩)⟩ rfl rfl hl.1 rfl (lv_room (Nat.le_of_ble_eq_true rfl)) dB_binary_72 ⟨Nat.le_of_ble_eq_true rfl, Nat.le_of_ble_eq_true rfl⟩) hS (fun q _ h => hFc q h) hFc (fun r6 u9 t H1 locs ht hvm hr9 hB hz1 hk1 hS => ?_)
  obtain ⟨y7, y8, y9, y10, hP1, hK1, hD1⟩ := hB
  rw [ht] at hP1
  obtain ⟨hP, hD⟩ := xjoin (W := [(a3, .inr (2, [.ref a4, .int 1, v37])), (a4, .inl (cT 2, 4096, .inr (.inl f38))), (a5, .inr (2, [.ref a6, .int 1, v40])), (a6, .inl (cT 2, 4096, .inr (.inl f41))), (a0, .inr (0, [v25, v26, .ref a8, .ref a2, v27, .ref b35, v28, v29])), (a8, .inr (1, [.ref a9, .int 4, .int 0])), (a1, .inr (2, [.ref a7, .int 1, .int 0])), (a7, .inl (cT 2, 4096, .inr (.inl (vp_updL f43 0 0)))), (a9, .inl (cT 0, 4096, .inl (upd (upd (upd (upd f46 0 (vp_nar .byte y7)) 1 (vp_nar .byte y8)) 2 (vp_nar .byte y9)) 3 (vp_nar .byte y10)))), (a2, .inl (cT 3, 8, .inr (.inr (.inr (.inr (va_up f32 x10.toNatClampNeg (some a1)))))))]) hP hD [0, 2, 6, 9, 3, 1] [4, 5, 7, 8] 4 rfl rfl (by decide) (by decide) hk1 hFc hP1 hD1
  generalize H1 = H at hP hS ⊢
  rw [hr9]
  refine W.eq (g2 := F0 m 75 ls [.int 4]) rfl ?_
  refine lv_pop hx hb dB_binary_75 rfl ?_
  obtain ⟨hP9, hD9⟩ := xsub (wc := [(a0, .inr (0, [v25, v26, .ref a8, .ref a2, v27, .ref b35, v28, v29])), (a1, .inr (2, [.ref a7, .int 1, .int 0])), (a2, .inl (cT 3, 8, .inr (.inr (.inr (.inr (va_up f32 x10.toNatClampNeg (some a1))))))), (a3, .inr (2, [.ref a4, .int 1, v37])), (a4, .inl (cT 2, 4096, .inr (.inl f38))), (a5, .inr (2, [.ref a6, .int 1, v40])), (a6, .inl (cT 2, 4096, .inr (.inl f41))), (a7, .inl (cT 2, 4096, .inr (.inl (vp_updL f43 0 0)))), (a8, .inr (1, [.ref a9, .int 4, .int 0])), (a9, .inl (cT 0, 4096, .inl (upd (upd (upd (upd f46 0 (vp_nar .byte y7)) 1 (vp_nar .byte y8)) 2 (vp_nar .byte y9)) 3 (vp_nar .byte y10))))]) hP hD [4, 6, 9, 0, 1, 2, 3, 7, 5, 8] rfl rfl (by decide)
  refine W.widen (k := 0) (n := 0) (Nat.le_of_ble_eq_true rfl) (Nat.le_of_ble_eq_true rfl) ?_
  exact W.vret hx hb hr (fun t ht hW => ⟨⟨(), rfl, trivial, y7, y8, y9, y10, by rw [ht]; exact hP9, va_K.moved hW.alike hK, hD9⟩, hS.F ht⟩) hS.2.2 dB_binary_76
set_option maxHeartbeats 400000000 in
set_option maxRecDepth 100000 in
theorem cL_binary_9 (l : Launch) (hl9 : l.stackTraces = false) (D : va_G) (cT : Nat → ClassId) (aK aV : Nat → Nat) (sz : Nat) (a0 : Nat) (a1 : Nat) (a2 : Nat) (a3 : Nat) (a4 : Nat) (a5 : Nat) (a6 : Nat) (a7 : Nat) (a8 : Nat) (a9 : Nat) (x10 : Int32) (x15 : Int32) (x20 : Int32) (v25 : Value) (v26 : Value) (v27 : Value) (v28 : Value) (v29 : Value) (v30 : Value) (v31 : Value) (f32 : Nat → Option Nat) (b35 : Nat) (v37 : Value) (f38 : Nat → Int64) (v40 : Value) (f41 : Nat → Int64) (f43 : Nat → Int64) (v44 : Value) (v45 : Value) (f46 : Nat → Int32) (h11 : ¬ x10 < 0) (h12 : ¬ 7 < x10) (h13 : x10 ≤ 7) (h14 : vp_in x10 8) (h16 : ¬ x15 < 0) (h17 : ¬ 7 < x15) (h18 : x15 ≤ 7) (h19 : vp_in x15 8) (h21 : ¬ x20 < 0) (h22 : ¬ 7 < x20) (h23 : x20 ≤ 7) (h24 : vp_in x20 8) (h33 : f32 x15.toNatClampNeg = some a3) (h34 : f32 x20.toNatClampNeg = some a5) (h36 : f32 x10.toNatClampNeg = some b35) (h39 : f38 0 = 0) (h42 : f41 0 = 0) : xMet l yL_binary wyL_binary 8 0 0 176 D cT aK aV sz [.ref a0, .int x10, .int 0, .int x15, .int x20] [(a0, .inr (0, [v25, v26, .ref a8, .ref a2, v27, .ref a1, v28, v29])), (a1, .inr (2, [.ref a7, v30, v31])), (a2, .inl (cT 3, 8, .inr (.inr (.inr (.inr f32))))), (a3, .inr (2, [.ref a4, .int 1, v37])), (a4, .inl (cT 2, 4096, .inr (.inl f38))), (a5, .inr (2, [.ref a6, .int 1, v40])), (a6, .inl (cT 2, 4096, .inr (.inl f41))), (a7, .inl (cT 2, 4096, .inr (.inl f43))), (a8, .inr (1, [.ref a9, v44, v45])), (a9, .inl (cT 0, 4096, .inl f46))] (fun A => va_Qi (fun (r : Int32) (_ : Unit) => r = 0) (fun _ t => ∃ (y1 : Int32) (y2 : Int32) (y3 : Int32) (y4 : Int32), xB D xcl cT A [(a0, .inr (0, [v25, v26, .ref a8, .ref a2, v27, .ref b35, v28, v29])), (a1, .inr (2, [.ref a7, .int 1, .int 0])), (a2, .inl (cT 3, 8, .inr (.inr (.inr (.inr (va_up f32 x10.toNatClampNeg (some a1))))))), (a3, .inr (2, [.ref a4, .int 1, v37])), (a4, .inl (cT 2, 4096, .inr (.inl f38))), (a5, .inr (2, [.ref a6, .int 1, v40])), (a6, .inl (cT 2, 4096, .inr (.inl f41))), (a7, .inl (cT 2, 4096, .inr (.inl (vp_updL f43 0 0)))), (a8, .inr (1, [.ref a9, .int 4, .int 0])), (a9, .inl (cT 0, 4096, .inl (upd (upd (upd (upd f46 0 (vp_nar .byte y1)) 1 (vp_nar .byte y2)) 2 (vp_nar .byte y3)) 3 (vp_nar .byte y4))))] t) A) := by
  refine va_MetW (cc := method_7_code) (maxL := 6) (ret := (some .int)) (hh := [(0, 9, 12, 19), (0, 9, 16, 33), (0, 9, 20, 13)]) (by decide) rfl ?_
  intro p e s m args below meth c s₁ B hml hv
  obtain ⟨rfl, hsz, hZ, hP, hK, hD0⟩ := hv
  have hx := B.exec
  have hb := B.bytes
  have hr := B.returns
  have hts := atoms_spec (ws := wyL_binary) B.pre
  have htx := fun w h => hts w (List.mem_cons_of_mem _ h)
  have hown : s.vm.findClass "ValueBenchLaw" = some m.cls := findClass_of_methodNamed B.named
  have hlocks := B.notSynchronized
  subst hsz
  have hD := hD0.self (sz := s.heap.size)
  generalize hAe : va_A [(a0, .inr (0, [v25, v26, .ref a8, .ref a2, v27, .ref a1, v28, v29])), (a1, .inr (2, [.ref a7, v30, v31])), (a2, .inl (cT 3, 8, .inr (.inr (.inr (.inr f32))))), (a3, .inr (2, [.ref a4, .int 1, v37])), (a4, .inl (cT 2, 4096, .inr (.inl f38))), (a5, .inr (2, [.ref a6, .int 1, v40])), (a6, .inl (cT 2, 4096, .inr (.inl f41))), (a7, .inl (cT 2, 4096, .inr (.inl f43))), (a8, .inr (1, [.ref a9, v44, v45])), (a9, .inl (cT 0, 4096, .inl f46))] s.heap.size = A at hD hZ ⊢
  have hA : ∀ q : Nat, s.heap.size ≤ q → A q := fun q h => by rw [← hAe]; exact Or.inr h
  have hS : va_S A s.heap s.heap [] := va_S.rf
  have hP : va_P D xcl [(a0, .inr (0, [v25, v26, .ref a8, .ref a2, v27, .ref a1, v28, v29])), (a1, .inr (2, [.ref a7, v30, v31])), (a2, .inl (cT 3, 8, .inr (.inr (.inr (.inr f32))))), (a3, .inr (2, [.ref a4, .int 1, v37])), (a4, .inl (cT 2, 4096, .inr (.inl f38))), (a5, .inr (2, [.ref a6, .int 1, v40])), (a6, .inl (cT 2, 4096, .inr (.inl f41))), (a7, .inl (cT 2, 4096, .inr (.inl f43))), (a8, .inr (1, [.ref a9, v44, v45])), (a9, .inl (cT 0, 4096, .inl f46))] s.heap := hP
  have hl := lv_entry ([.ref a0, .int x10, .int 0, .int x15, .int x20]) (n := 6) (Nat.le_of_ble_eq_true rfl)
  rw [lg_entry_eq]
  generalize (lg_sl ([.ref a0, .int x10, .int 0, .int x15, .int x20]) ++ List.replicate (6 - (lg_sl ([.ref a0, .int x10, .int 0, .int x15, .int x20])).length) Slot.unset).toArray = ls at hl ⊢
  have hl : lv_has ls 6 [(0, .ref a0), (1, .int x10), (2, .int 0), (3, .int x15), (4, .int x20)] := hl
  have htab := vx_table (x := yL_binary) B (hts _ List.mem_cons_self)
  refine lv_aload_n hx hb dL_binary_0 rfl (lv_at hl 0 rfl) ?_
  refine lv_iload_n hx hb dL_binary_1 rfl (lv_at hl 1 rfl) ?_
  refine lv_iload_n hx hb dL_binary_2 rfl (lv_at hl 2 rfl) ?_
  refine lv_iload_n hx hb dL_binary_3 rfl (lv_at hl 3 rfl) ?_
  refine lv_iload hx hb dL_binary_4 (lv_at hl 4 rfl) ?_
  obtain ⟨hPc, hDc, hFc⟩ := xcut (wc := [(a0, .inr (0, [v25, v26, .ref a8, .ref a2, v27, .ref a1, v28, v29])), (a1, .inr (2, [.ref a7, v30, v31])), (a2, .inl (cT 3, 8, .inr (.inr (.inr (.inr f32))))), (a3, .inr (2, [.ref a4, .int 1, v37])), (a4, .inl (cT 2, 4096, .inr (.inl f38))), (a5, .inr (2, [.ref a6, .int 1, v40])), (a6, .inl (cT 2, 4096, .inr (.inl f41))), (a7, .inl (cT 2, 4096, .inr (.inl f43))), (a8, .inr (1, [.ref a9, v44, v45])), (a9, .inl (cT 0, 4096, .inl f46))]) hP hD hS hA [0, 1, 2, 3, 4, 5, 6, 7, 8, 9] rfl rfl (by decide)
  refine va_callv (va_runV (C := "ValueBench") (As := [.int x10, .int 0, .int x15, .int x20]) (rest := []) ⟨hx, hb, hml, hown, htx⟩ (cB_binary_9 l hl9 D cT aK aV s.heap.size a0 a1 a2 a3 a4 a5 a6 a7 a8 a9 x10 x15 x20 v25 v26 v27 v28 v29 v30 v31 f32 b35 v37 f38 v40 f41 f43 v44 v45 f46 h11 h12 h13 h14 h16 h17 h18 h19 h21 h22 h23 h24 (by first | rfl | exact h33 | exact h34 | exact h36 | exact h39 | exact h42) (by first | rfl | exact h33 | exact h34 | exact h36 | exact h39 | exact h42) (by first | rfl | exact h33 | exact h34 | exact h36 | exact h39 | exact h42) (by first | rfl | exact h33 | exact h34 | exact h36 | exact h39 | exact h42) (by first | rfl | exact h33 | exact h34 | exact h36 | exact h39 | exact h42)) ⟨callB_of 4 htx (xw_goodC kw_3_102) rfl rfl rfl (htx _ kw_1_1) (htx _ kw_3_99) ⟨by decide, by decide, by decide +kernel⟩ ⟨Nat.le_of_ble_eq_true rfl, Nat.le_of_ble_eq_true rfl⟩, (htx _ kw_3_100), (htx _ kw_3_101)⟩ ⟨xPre_blind, va_recv hK hP (ci := 0) rfl (q0 := 0) rfl, (fun U hU hW => ⟨rfl, xPre_of hZ hS hFc hPc hDc hK U hU hW⟩)⟩ rfl rfl hl.1 rfl (lv_room (Nat.le_of_ble_eq_true rfl)) dL_binary_6 ⟨Nat.le_of_ble_eq_true rfl, Nat.le_of_ble_eq_true rfl⟩) hS (fun q _ h => hFc q h) hFc (fun u9 t H1 locs ht hvm hr9 hB hz1 hk1 hS => ?_)
  obtain ⟨y1, y2, y3, y4, hP1, hK1, hD1⟩ := hB
  rw [ht] at hP1
  obtain ⟨hP, hD⟩ := xjoin (W := [(a0, .inr (0, [v25, v26, .ref a8, .ref a2, v27, .ref b35, v28, v29])), (a1, .inr (2, [.ref a7, .int 1, .int 0])), (a2, .inl (cT 3, 8, .inr (.inr (.inr (.inr (va_up f32 x10.toNatClampNeg (some a1))))))), (a3, .inr (2, [.ref a4, .int 1, v37])), (a4, .inl (cT 2, 4096, .inr (.inl f38))), (a5, .inr (2, [.ref a6, .int 1, v40])), (a6, .inl (cT 2, 4096, .inr (.inl f41))), (a7, .inl (cT 2, 4096, .inr (.inl (vp_updL f43 0 0)))), (a8, .inr (1, [.ref a9, .int 4, .int 0])), (a9, .inl (cT 0, 4096, .inl (upd (upd (upd (upd f46 0 (vp_nar .byte y1)) 1 (vp_nar .byte y2)) 2 (vp_nar .byte y3)) 3 (vp_nar .byte y4))))]) hP hD [0, 1, 2, 3, 4, 5, 6, 7, 8, 9] [] 0 rfl rfl (by decide) (by decide) hk1 hFc hP1 hD1
  generalize H1 = H at hP hS ⊢
  refine lv_goto (tgt := 24) hx hb dL_binary_9 (by decide) ?_
  refine lv_iconst (v := 0) hx hb dL_binary_24 (by decide) ?_
  obtain ⟨hP9, hD9⟩ := xsub (wc := [(a0, .inr (0, [v25, v26, .ref a8, .ref a2, v27, .ref b35, v28, v29])), (a1, .inr (2, [.ref a7, .int 1, .int 0])), (a2, .inl (cT 3, 8, .inr (.inr (.inr (.inr (va_up f32 x10.toNatClampNeg (some a1))))))), (a3, .inr (2, [.ref a4, .int 1, v37])), (a4, .inl (cT 2, 4096, .inr (.inl f38))), (a5, .inr (2, [.ref a6, .int 1, v40])), (a6, .inl (cT 2, 4096, .inr (.inl f41))), (a7, .inl (cT 2, 4096, .inr (.inl (vp_updL f43 0 0)))), (a8, .inr (1, [.ref a9, .int 4, .int 0])), (a9, .inl (cT 0, 4096, .inl (upd (upd (upd (upd f46 0 (vp_nar .byte y1)) 1 (vp_nar .byte y2)) 2 (vp_nar .byte y3)) 3 (vp_nar .byte y4))))]) hP hD [0, 1, 2, 3, 4, 5, 6, 7, 8, 9] rfl rfl (by decide)
  refine W.widen (k := 0) (n := 0) (Nat.le_of_ble_eq_true rfl) (Nat.le_of_ble_eq_true rfl) ?_
  exact W.iret (v := 0) hx hb hr (fun t ht hW => ⟨⟨0, (), rfl, rfl, y1, y2, y3, y4, by rw [ht]; exact hP9, va_K.moved hW.alike hK, hD9⟩, hS.F ht⟩) hS.2.2 dL_binary_25
set_option maxHeartbeats 400000000 in
set_option maxRecDepth 100000 in
theorem cM_finish_2 (l : Launch) (hl9 : l.stackTraces = false) (D : va_G) (cT : Nat → ClassId) (aK aV : Nat → Nat) (sz : Nat) (a0 : Nat) (a1 : Nat) (a2 : Nat) (a3 : Nat) (a4 : Nat) (a5 : Nat) (a6 : Nat) (x7 : Int32) (x12 : Int32) (x17 : Int32) (v22 : Value) (v23 : Value) (v24 : Value) (v25 : Value) (v26 : Value) (v27 : Value) (v28 : Value) (v29 : Value) (v30 : Value) (v31 : Value) (v32 : Value) (v33 : Value) (v34 : Value) (v35 : Value) (v36 : Value) (v37 : Value) (v38 : Value) (v39 : Value) (v40 : Value) (v41 : Value) (v42 : Value) (v43 : Value) (v44 : Value) (v45 : Value) (v46 : Value) (v47 : Value) (v48 : Value) (f49 : Nat → Option Nat) (f53 : Nat → Int32) (f56 : Nat → Int32) (f61 : Nat → Option Nat) (f64 : Nat → Int32) (f69 : Nat → Int32) (h8 : ¬ x7 < 0) (h9 : ¬ 7 < x7) (h10 : x7 ≤ 7) (h11 : vp_in x7 8) (h13 : ¬ x12 < 0) (h14 : ¬ 7 < x12) (h15 : x12 ≤ 7) (h16 : vp_in x12 8) (h18 : ¬ x17 < 0) (h19 : ¬ 7 < x17) (h20 : x17 ≤ 7) (h21 : vp_in x17 8) (h50 : f49 x12.toNatClampNeg = some a3) (h51 : f49 x17.toNatClampNeg = some a5) (h52 : f49 x7.toNatClampNeg = some a3) (h54 : f53 x12.toNatClampNeg = 4) (h55 : f53 x17.toNatClampNeg = 4) (h57 : f56 0 = 110) (h58 : f56 1 = 117) (h59 : f56 2 = 108) (h60 : f56 3 = 108) (h62 : f61 0 = none) (h63 : f61 1 = none) (h65 : f64 0 = 110) (h66 : f64 1 = 117) (h67 : f64 2 = 108) (h68 : f64 3 = 108) : xMet l yM_finish wyM_finish 8 2 12 175 D cT aK aV sz [.ref a0, .int x7, .int 0, .int 0, .int x12, .int x17] [(a0, .inr (5, [v22, .ref a4, .int 0, v23, v24, v25, v26, v27, v28, v29, v30, v31, v32, v33, v34, v35, v36, v37, v38, v39, v40, .ref a6, v41, v42, .ref a1, .ref a2, v43, v44, v45, v46, v47, v48])), (a1, .inl (cT 5, 8, .inr (.inr (.inr (.inr f49))))), (a2, .inl (cT 1, 8, .inl f53)), (a3, .inl (cT 0, 4096, .inl f56)), (a4, .inl (cT 4, 1024, .inr (.inr (.inr (.inr f61))))), (a5, .inl (cT 0, 4096, .inl f64)), (a6, .inl (cT 0, 1024, .inl f69))] (fun A => va_Qv (fun _ : Unit => True) (fun _ t => ∃ (r1 : Nat) (r2 : Nat) (y5 : Int32) (y6 : Int32) (y7 : Int32) (y8 : Int32), xB D xcl cT A [(a0, .inr (5, [v22, .ref a4, .int 2, v23, v24, v25, v26, v27, v28, v29, v30, v31, v32, v33, v34, .ref a5, .int 4, .int 4, .int 0, .int 100, v40, .ref a6, .int 4, .int 4096, .ref a1, .ref a2, v43, v44, v45, v46, v47, v48])), (a1, .inl (cT 5, 8, .inr (.inr (.inr (.inr f49))))), (a2, .inl (cT 1, 8, .inl (upd f53 x7.toNatClampNeg 4))), (a3, .inl (cT 0, 4096, .inl (upd (upd (upd (upd f56 0 (vp_nar .byte (vp_nar .byte y5))) 1 (vp_nar .byte (vp_nar .byte y6))) 2 (vp_nar .byte (vp_nar .byte y7))) 3 (vp_nar .byte (vp_nar .byte y8))))), (a4, .inl (cT 4, 1024, .inr (.inr (.inr (.inr (va_up (va_up f61 0 (some r1)) 1 (some r2))))))), (a5, .inl (cT 0, 4096, .inl f64)), (a6, .inl (cT 0, 1024, .inl (upd (upd (upd (upd f69 0 (vp_nar .byte y5)) 1 (vp_nar .byte y6)) 2 (vp_nar .byte y7)) 3 (vp_nar .byte y8)))), (r1, .inr (6, [.int 0, .long 0, .int 0, .int 0, .int 0, .int 1])), (r2, .inr (6, [.int 0, .long 0, .int 0, .int 0, .int 0, .int 1]))] t) A) := by
  refine va_MetW (cc := prog_13_method_90_code) (maxL := 10) (ret := none) (hh := [(0, 128, 131, 83), (0, 128, 149, 86)]) (by decide) rfl ?_
  intro p e s m args below meth c s₁ B hml hv
  obtain ⟨rfl, hsz, hZ, hP, hK, hD0⟩ := hv
  have hx := B.exec
  have hb := B.bytes
  have hr := B.returns
  have hts := atoms_spec (ws := wyM_finish) B.pre
  have htx := fun w h => hts w (List.mem_cons_of_mem _ h)
  have hown : s.vm.findClass "ValueBenchModel" = some m.cls := findClass_of_methodNamed B.named
  have hlocks := B.notSynchronized
  subst hsz
  have hD := hD0.self (sz := s.heap.size)
  generalize hAe : va_A [(a0, .inr (5, [v22, .ref a4, .int 0, v23, v24, v25, v26, v27, v28, v29, v30, v31, v32, v33, v34, v35, v36, v37, v38, v39, v40, .ref a6, v41, v42, .ref a1, .ref a2, v43, v44, v45, v46, v47, v48])), (a1, .inl (cT 5, 8, .inr (.inr (.inr (.inr f49))))), (a2, .inl (cT 1, 8, .inl f53)), (a3, .inl (cT 0, 4096, .inl f56)), (a4, .inl (cT 4, 1024, .inr (.inr (.inr (.inr f61))))), (a5, .inl (cT 0, 4096, .inl f64)), (a6, .inl (cT 0, 1024, .inl f69))] s.heap.size = A at hD hZ ⊢
  have hA : ∀ q : Nat, s.heap.size ≤ q → A q := fun q h => by rw [← hAe]; exact Or.inr h
  have hS : va_S A s.heap s.heap [] := va_S.rf
  have hP : va_P D xcl [(a0, .inr (5, [v22, .ref a4, .int 0, v23, v24, v25, v26, v27, v28, v29, v30, v31, v32, v33, v34, v35, v36, v37, v38, v39, v40, .ref a6, v41, v42, .ref a1, .ref a2, v43, v44, v45, v46, v47, v48])), (a1, .inl (cT 5, 8, .inr (.inr (.inr (.inr f49))))), (a2, .inl (cT 1, 8, .inl f53)), (a3, .inl (cT 0, 4096, .inl f56)), (a4, .inl (cT 4, 1024, .inr (.inr (.inr (.inr f61))))), (a5, .inl (cT 0, 4096, .inl f64)), (a6, .inl (cT 0, 1024, .inl f69))] s.heap := hP
  have hl := lv_entry ([.ref a0, .int x7, .int 0, .int 0, .int x12, .int x17]) (n := 10) (Nat.le_of_ble_eq_true rfl)
  rw [lg_entry_eq]
  generalize (lg_sl ([.ref a0, .int x7, .int 0, .int 0, .int x12, .int x17]) ++ List.replicate (10 - (lg_sl ([.ref a0, .int x7, .int 0, .int 0, .int x12, .int x17])).length) Slot.unset).toArray = ls at hl ⊢
  have hl : lv_has ls 10 [(0, .ref a0), (1, .int x7), (2, .int 0), (3, .int 0), (4, .int x12), (5, .int x17)] := hl
  have htab := vx_table (x := yM_finish) B (hts _ List.mem_cons_self)
  refine lv_aload_n hx hb dM_finish_0 rfl (lv_at hl 0 rfl) ?_
  refine lv_iload hx hb dM_finish_1 (lv_at hl 4 rfl) ?_
  obtain ⟨hPc, hDc, hFc⟩ := xcut (wc := [(a0, .inr (5, [v22, .ref a4, .int 0, v23, v24, v25, v26, v27, v28, v29, v30, v31, v32, v33, v34, v35, v36, v37, v38, v39, v40, .ref a6, v41, v42, .ref a1, .ref a2, v43, v44, v45, v46, v47, v48])), (a1, .inl (cT 5, 8, .inr (.inr (.inr (.inr f49))))), (a2, .inl (cT 1, 8, .inl f53)), (a3, .inl (cT 0, 4096, .inl f56)), (a4, .inl (cT 4, 1024, .inr (.inr (.inr (.inr f61)))))]) hP hD hS hA [0, 1, 2, 3, 4] rfl rfl (by decide)
  refine va_callr (va_runV (C := "ValueBenchModel") (As := [.int x12]) (rest := []) ⟨hx, hb, hml, hown, htx⟩ (cM_register_0 l hl9 D cT aK aV s.heap.size a0 a1 a2 a3 a4 x12 v22 v23 v24 v25 v26 v27 v28 v29 v30 v31 v32 v33 v34 v35 v36 v37 v38 v39 v40 (.ref a6) v41 v42 v43 v44 v45 v46 v47 v48 f49 f53 f56 f61 h13 h14 h15 h16 (by first | rfl | exact h50 | exact h51 | exact h52 | exact h54 | exact h55 | exact h57 | exact h58 | exact h59 | exact h60 | exact h62 | exact h63 | exact h65 | exact h66 | exact h67 | exact h68) (by first | rfl | exact h50 | exact h51 | exact h52 | exact h54 | exact h55 | exact h57 | exact h58 | exact h59 | exact h60 | exact h62 | exact h63 | exact h65 | exact h66 | exact h67 | exact h68) (by first | rfl | exact h50 | exact h51 | exact h52 | exact h54 | exact h55 | exact h57 | exact h58 | exact h59 | exact h60 | exact h62 | exact h63 | exact h65 | exact h66 | exact h67 | exact h68) (by first | rfl | exact h50 | exact h51 | exact h52 | exact h54 | exact h55 | exact h57 | exact h58 | exact h59 | exact h60 | exact h62 | exact h63 | exact h65 | exact h66 | exact h67 | exact h68) (by first | rfl | exact h50 | exact h51 | exact h52 | exact h54 | exact h55 | exact h57 | exact h58 | exact h59 | exact h60 | exact h62 | exact h63 | exact h65 | exact h66 | exact h67 | exact h68) (by first | rfl | exact h50 | exact h51 | exact h52 | exact h54 | exact h55 | exact h57 | exact h58 | exact h59 | exact h60 | exact h62 | exact h63 | exact h65 | exact h66 | exact h67 | exact h68) (by first | rfl | exact h50 | exact h51 | exact h52 | exact h54 | exact h55 | exact h57 | exact h58 | exact h59 | exact h60 | exact h62 | exact h63 | exact h65 | exact h66 | exact h67 | exact h68)) ⟨callB_of 1 htx (xw_goodC kw_6_170) rfl rfl rfl (htx _ kw_1_5) (htx _ kw_6_167) ⟨by decide, by decide, by decide +kernel⟩ ⟨Nat.le_of_ble_eq_true rfl, Nat.le_of_ble_eq_true rfl⟩, (htx _ kw_6_169), (htx _ kp_M_register)⟩ ⟨xPre_blind, va_recv hK hP (ci := 5) rfl (q0 := 0) rfl, (fun U hU hW => ⟨rfl, xPre_of hZ hS hFc hPc hDc hK U hU hW⟩)⟩ rfl rfl hl.1 rfl (lv_room (Nat.le_of_ble_eq_true rfl)) dM_finish_3 ⟨Nat.le_of_ble_eq_true rfl, Nat.le_of_ble_eq_true rfl⟩) hS (fun q _ h => hFc q h) hFc (fun u9 r1 t H1 locs ht hvm hr9 hB hz1 hk1 hS => ?_)
  obtain ⟨hP1, hK1, hD1⟩ := hB
  rw [ht] at hP1
  obtain ⟨hP, hD⟩ := xjoin (W := [(a5, .inl (cT 0, 4096, .inl f64)), (a6, .inl (cT 0, 1024, .inl f69)), (a0, .inr (5, [v22, .ref a4, .int 1, v23, v24, v25, v26, v27, v28, v29, v30, v31, v32, v33, v34, .ref a3, .int 4, .int 4, .int 0, .int 100, v40, .ref a6, v41, v42, .ref a1, .ref a2, v43, v44, v45, v46, v47, v48])), (a1, .inl (cT 5, 8, .inr (.inr (.inr (.inr f49))))), (a2, .inl (cT 1, 8, .inl f53)), (a3, .inl (cT 0, 4096, .inl f56)), (a4, .inl (cT 4, 1024, .inr (.inr (.inr (.inr (va_up f61 0 (some r1))))))), (r1, .inr (6, [.int 0, .long 0, .int 0, .int 0, .int 0, .int 1]))]) hP hD [0, 1, 2, 3, 4] [5, 6] 2 rfl rfl (by decide) (by decide) hk1 hFc hP1 hD1
  generalize H1 = H at hP hS ⊢
  refine W.eq (g2 := F0 m 6 ls [.ref r1]) rfl ?_
  refine lv_astore (lv' := [(6, .ref r1), (0, .ref a0), (1, .int x7), (2, .int 0), (3, .int 0), (4, .int x12), (5, .int x17)]) hx hb dM_finish_6 hl (by decide) rfl (fun ls hl => ?_)
  refine lv_iload_n hx hb dM_finish_8 rfl (lv_at hl 3 rfl) ?_
  refine lv_iconst (v := 1) hx hb dM_finish_9 (by decide) ?_
  refine lv_icmp_ne (tgt := 17) hx hb dM_finish_10 (by decide) (fun _ => ?_) (fun h => ((by revert h; decide : False)).elim)
  refine lv_aload_n hx hb dM_finish_17 rfl (lv_at hl 1 rfl) ?_
  refine lv_iload hx hb dM_finish_18 (lv_at hl 6 rfl) ?_
  obtain ⟨hPc, hDc, hFc⟩ := xcut (wc := [(a0, .inr (5, [v22, .ref a4, .int 1, v23, v24, v25, v26, v27, v28, v29, v30, v31, v32, v33, v34, .ref a3, .int 4, .int 4, .int 0, .int 100, v40, .ref a6, v41, v42, .ref a1, .ref a2, v43, v44, v45, v46, v47, v48])), (a1, .inl (cT 5, 8, .inr (.inr (.inr (.inr f49))))), (a2, .inl (cT 1, 8, .inl f53)), (a5, .inl (cT 0, 4096, .inl f64)), (a4, .inl (cT 4, 1024, .inr (.inr (.inr (.inr (va_up f61 0 (some r1)))))))]) hP hD hS hA [2, 3, 4, 0, 6] rfl rfl (by decide)
  refine va_callr (va_runV (C := "ValueBenchModel") (As := [.int x17]) (rest := []) ⟨hx, hb, hml, hown, htx⟩ (cM_register_1 l hl9 D cT aK aV H.size a0 a1 a2 a5 a4 x17 v22 v23 v24 v25 v26 v27 v28 v29 v30 v31 v32 v33 v34 (.ref a3) (.int 4) (.int 4) (.int 0) (.int 100) v40 (.ref a6) v41 v42 v43 v44 v45 v46 v47 v48 f49 f53 f64 (va_up f61 0 (some r1)) h18 h19 h20 h21 (by first | rfl | exact h50 | exact h51 | exact h52 | exact h54 | exact h55 | exact h57 | exact h58 | exact h59 | exact h60 | exact h63 | exact h65 | exact h66 | exact h67 | exact h68) (by first | rfl | exact h50 | exact h51 | exact h52 | exact h54 | exact h55 | exact h57 | exact h58 | exact h59 | exact h60 | exact h63 | exact h65 | exact h66 | exact h67 | exact h68) (by first | rfl | exact h50 | exact h51 | exact h52 | exact h54 | exact h55 | exact h57 | exact h58 | exact h59 | exact h60 | exact h63 | exact h65 | exact h66 | exact h67 | exact h68) (by first | rfl | exact h50 | exact h51 | exact h52 | exact h54 | exact h55 | exact h57 | exact h58 | exact h59 | exact h60 | exact h63 | exact h65 | exact h66 | exact h67 | exact h68) (by first | rfl | exact h50 | exact h51 | exact h52 | exact h54 | exact h55 | exact h57 | exact h58 | exact h59 | exact h60 | exact h63 | exact h65 | exact h66 | exact h67 | exact h68) (by first | rfl | exact h50 | exact h51 | exact h52 | exact h54 | exact h55 | exact h57 | exact h58 | exact h59 | exact h60 | exact h63 | exact h65 | exact h66 | exact h67 | exact h68) (by first | rfl | exact h50 | exact h51 | exact h52 | exact h54 | exact h55 | exact h57 | exact h58 | exact h59 | exact h60 | exact h63 | exact h65 | exact h66 | exact h67 | exact h68)) ⟨callB_of 1 htx (xw_goodC kw_6_170) rfl rfl rfl (htx _ kw_1_5) (htx _ kw_6_167) ⟨by decide, by decide, by decide +kernel⟩ ⟨Nat.le_of_ble_eq_true rfl, Nat.le_of_ble_eq_true rfl⟩, (htx _ kw_6_169), (htx _ kp_M_register)⟩ ⟨xPre_blind, va_recv hK hP (ci := 5) rfl (q0 := 2) rfl, (fun U hU hW => ⟨rfl, xPre_of hZ hS hFc hPc hDc hK U hU hW⟩)⟩ rfl rfl hl.1 rfl (lv_room (Nat.le_of_ble_eq_true rfl)) dM_finish_20 ⟨Nat.le_of_ble_eq_true rfl, Nat.le_of_ble_eq_true rfl⟩) hS (fun q _ h => hFc q h) hFc (fun u9 r2 t H1 locs ht hvm hr9 hB hz1 hk1 hS => ?_)
  obtain ⟨hP1, hK1, hD1⟩ := hB
  rw [ht] at hP1
  obtain ⟨hP, hD⟩ := xjoin (W := [(a6, .inl (cT 0, 1024, .inl f69)), (a3, .inl (cT 0, 4096, .inl f56)), (r1, .inr (6, [.int 0, .long 0, .int 0, .int 0, .int 0, .int 1])), (a0, .inr (5, [v22, .ref a4, .int 2, v23, v24, v25, v26, v27, v28, v29, v30, v31, v32, v33, v34, .ref a5, .int 4, .int 4, .int 0, .int 100, v40, .ref a6, v41, v42, .ref a1, .ref a2, v43, v44, v45, v46, v47, v48])), (a1, .inl (cT 5, 8, .inr (.inr (.inr (.inr f49))))), (a2, .inl (cT 1, 8, .inl f53)), (a5, .inl (cT 0, 4096, .inl f64)), (a4, .inl (cT 4, 1024, .inr (.inr (.inr (.inr (va_up (va_up f61 0 (some r1)) 1 (some r2))))))), (r2, .inr (6, [.int 0, .long 0, .int 0, .int 0, .int 0, .int 1]))]) hP hD [2, 3, 4, 0, 6] [1, 5, 7] 3 rfl rfl (by decide) (by decide) hk1 hFc hP1 hD1
  generalize H1 = H at hP hS ⊢
  refine W.eq (g2 := F0 m 23 ls [.ref r2]) rfl ?_
  refine lv_astore (lv' := [(7, .ref r2), (6, .ref r1), (0, .ref a0), (1, .int x7), (2, .int 0), (3, .int 0), (4, .int x12), (5, .int x17)]) hx hb dM_finish_23 hl (by decide) rfl (fun ls hl => ?_)
  refine lv_iload_n hx hb dM_finish_25 rfl (lv_at hl 4 rfl) ?_
  refine lv_if_ne (tgt := 43) hx hb dM_finish_26 (by decide) (fun h => ((by revert h; decide : False)).elim) (fun _ => ?_)
  refine lv_aload_n hx hb dM_finish_29 rfl (lv_at hl 2 rfl) ?_
  refine lv_iload_n hx hb dM_finish_30 rfl (lv_at hl 5 rfl) ?_
  refine lv_aload hx hb dM_finish_31 (lv_at hl 1 rfl) ?_
  refine lv_aload hx hb dM_finish_33 (lv_at hl 0 rfl) ?_
  obtain ⟨hPc, hDc, hFc⟩ := xcut (wc := [(a0, .inr (5, [v22, .ref a4, .int 2, v23, v24, v25, v26, v27, v28, v29, v30, v31, v32, v33, v34, .ref a5, .int 4, .int 4, .int 0, .int 100, v40, .ref a6, v41, v42, .ref a1, .ref a2, v43, v44, v45, v46, v47, v48])), (r1, .inr (6, [.int 0, .long 0, .int 0, .int 0, .int 0, .int 1]))]) hP hD hS hA [3, 2] rfl rfl (by decide)
  refine va_callr (va_runV (C := "ValueBenchModel") (As := [.int 0, .ref r1, .ref r2]) (rest := []) ⟨hx, hb, hml, hown, htx⟩ (cM_binary1_0 l hl9 D cT aK aV H.size a0 r1 r2 v22 (.ref a4) (.int 2) v23 v24 v25 v26 v27 v28 v29 v30 v31 v32 v33 v34 (.ref a5) (.int 4) (.int 4) (.int 0) (.int 100) v40 (.ref a6) v41 v42 (.ref a1) (.ref a2) v43 v44 v45 v46 v47 v48 (.long 0) (.int 0) (.int 0) (.int 0) (.int 1)) ⟨callB_of 3 htx (xw_goodC kw_6_199) rfl rfl rfl (htx _ kw_1_5) (htx _ kw_6_196) ⟨by decide, by decide, by decide +kernel⟩ ⟨Nat.le_of_ble_eq_true rfl, Nat.le_of_ble_eq_true rfl⟩, (htx _ kw_6_198), (htx _ kp_M_binary1)⟩ ⟨xPre_blind, va_recv hK hP (ci := 5) rfl (q0 := 3) rfl, (fun U hU hW => ⟨rfl, xPre_of hZ hS hFc hPc hDc hK U hU hW⟩)⟩ rfl rfl hl.1 rfl (lv_room (Nat.le_of_ble_eq_true rfl)) dM_finish_35 ⟨Nat.le_of_ble_eq_true rfl, Nat.le_of_ble_eq_true rfl⟩) hS (fun q _ h => hFc q h) hFc (fun u9 r3 t H1 locs ht hvm hr9 hB hz1 hk1 hS => ?_)
  obtain ⟨hra9, hP1, hK1, hD1⟩ := hB
  rw [ht] at hP1
  obtain ⟨hP, hD⟩ := xjoin (W := [(a6, .inl (cT 0, 1024, .inl f69)), (a3, .inl (cT 0, 4096, .inl f56)), (a1, .inl (cT 5, 8, .inr (.inr (.inr (.inr f49))))), (a2, .inl (cT 1, 8, .inl f53)), (a5, .inl (cT 0, 4096, .inl f64)), (a4, .inl (cT 4, 1024, .inr (.inr (.inr (.inr (va_up (va_up f61 0 (some r1)) 1 (some r2))))))), (r2, .inr (6, [.int 0, .long 0, .int 0, .int 0, .int 0, .int 1])), (a0, .inr (5, [v22, .ref a4, .int 2, v23, v24, v25, v26, v27, v28, v29, v30, v31, v32, v33, v34, .ref a5, .int 4, .int 4, .int 0, .int 100, v40, .ref a6, v41, v42, .ref a1, .ref a2, v43, v44, v45, v46, v47, v48])), (r1, .inr (6, [.int 0, .long 0, .int 0, .int 0, .int 0, .int 1]))]) hP hD [3, 2] [0, 1, 4, 5, 6, 7, 8] 7 rfl rfl (by decide) (by decide) hk1 hFc hP1 hD1
  generalize H1 = H at hP hS ⊢
  rw [hra9]
  refine W.eq (g2 := F0 m 38 ls [.ref r2]) rfl ?_
  refine lv_astore (lv' := [(8, .ref r2), (7, .ref r2), (6, .ref r1), (0, .ref a0), (1, .int x7), (2, .int 0), (3, .int 0), (4, .int x12), (5, .int x17)]) hx hb dM_finish_38 hl (by decide) rfl (fun ls hl => ?_)
  refine lv_goto (tgt := 119) hx hb dM_finish_40 (by decide) ?_
  refine lv_aload_n hx hb dM_finish_119 rfl (lv_at hl 3 rfl) ?_
  refine lv_iload_n hx hb dM_finish_120 rfl (lv_at hl 4 rfl) ?_
  refine lv_aload hx hb dM_finish_121 (lv_at hl 0 rfl) ?_
  obtain ⟨hPc, hDc, hFc⟩ := xcut (wc := [(a0, .inr (5, [v22, .ref a4, .int 2, v23, v24, v25, v26, v27, v28, v29, v30, v31, v32, v33, v34, .ref a5, .int 4, .int 4, .int 0, .int 100, v40, .ref a6, v41, v42, .ref a1, .ref a2, v43, v44, v45, v46, v47, v48])), (r2, .inr (6, [.int 0, .long 0, .int 0, .int 0, .int 0, .int 1])), (a6, .inl (cT 0, 1024, .inl f69)), (a1, .inl (cT 5, 8, .inr (.inr (.inr (.inr f49))))), (a3, .inl (cT 0, 4096, .inl f56)), (a2, .inl (cT 1, 8, .inl f53))]) hP hD hS hA [7, 6, 0, 2, 1, 3] rfl rfl (by decide)
  refine va_calli (va_runV (C := "ValueBenchModel") (As := [.int x7, .ref r2]) (rest := []) ⟨hx, hb, hml, hown, htx⟩ (cM_store_0 l hl9 D cT aK aV H.size a0 r2 a6 a1 a3 a2 x7 v22 (.ref a4) (.int 2) v23 v24 v25 v26 v27 v28 v29 v30 v31 v32 v33 v34 (.ref a5) (.int 4) (.int 4) (.int 0) (.int 100) v40 v41 v42 v43 v44 v45 v46 v47 v48 (.long 0) (.int 0) (.int 0) (.int 0) (.int 1) f69 f49 f56 f53 h8 h9 h10 h11 (by first | rfl | exact h50 | exact h51 | exact h52 | exact h54 | exact h55 | exact h57 | exact h58 | exact h59 | exact h60 | exact h65 | exact h66 | exact h67 | exact h68)) ⟨callB_of 2 htx (xw_goodC kw_6_124) rfl rfl rfl (htx _ kw_1_5) (htx _ kw_6_121) ⟨by decide, by decide, by decide +kernel⟩ ⟨Nat.le_of_ble_eq_true rfl, Nat.le_of_ble_eq_true rfl⟩, (htx _ kw_6_123), (htx _ kp_M_store)⟩ ⟨xPre_blind, va_recv hK hP (ci := 5) rfl (q0 := 7) rfl, (fun U hU hW => ⟨rfl, xPre_of hZ hS hFc hPc hDc hK U hU hW⟩)⟩ rfl rfl hl.1 rfl (lv_room (Nat.le_of_ble_eq_true rfl)) dM_finish_123 ⟨Nat.le_of_ble_eq_true rfl, Nat.le_of_ble_eq_true rfl⟩) hS (fun q _ h => hFc q h) hFc (fun r4 u9 t H1 locs ht hvm hr9 hB hz1 hk1 hS => ?_)
  obtain ⟨y5, y6, y7, y8, hP1, hK1, hD1⟩ := hB
  rw [ht] at hP1
  obtain ⟨hP, hD⟩ := xjoin (W := [(a5, .inl (cT 0, 4096, .inl f64)), (a4, .inl (cT 4, 1024, .inr (.inr (.inr (.inr (va_up (va_up f61 0 (some r1)) 1 (some r2))))))), (r1, .inr (6, [.int 0, .long 0, .int 0, .int 0, .int 0, .int 1])), (a0, .inr (5, [v22, .ref a4, .int 2, v23, v24, v25, v26, v27, v28, v29, v30, v31, v32, v33, v34, .ref a5, .int 4, .int 4, .int 0, .int 100, v40, .ref a6, .int 4, .int 4096, .ref a1, .ref a2, v43, v44, v45, v46, v47, v48])), (r2, .inr (6, [.int 0, .long 0, .int 0, .int 0, .int 0, .int 1])), (a6, .inl (cT 0, 1024, .inl (upd (upd (upd (upd f69 0 (vp_nar .byte y5)) 1 (vp_nar .byte y6)) 2 (vp_nar .byte y7)) 3 (vp_nar .byte y8)))), (a1, .inl (cT 5, 8, .inr (.inr (.inr (.inr f49))))), (a3, .inl (cT 0, 4096, .inl (upd (upd (upd (upd f56 0 (vp_nar .byte (vp_nar .byte y5))) 1 (vp_nar .byte (vp_nar .byte y6))) 2 (vp_nar .byte (vp_nar .byte y7))) 3 (vp_nar .byte (vp_nar .byte y8))))), (a2, .inl (cT 1, 8, .inl (upd f53 x7.toNatClampNeg 4)))]) hP hD [7, 6, 0, 2, 1, 3] [4, 5, 8] 3 rfl rfl (by decide) (by decide) hk1 hFc hP1 hD1
  generalize H1 = H at hP hS ⊢
  rw [hr9]
  refine W.eq (g2 := F0 m 126 ls [.int 4]) rfl ?_
  refine lv_istore (lv' := [(9, .int 4), (8, .ref r2), (7, .ref r2), (6, .ref r1), (0, .ref a0), (1, .int x7), (2, .int 0), (3, .int 0), (4, .int x12), (5, .int x17)]) hx hb dM_finish_126 hl (by decide) rfl (fun ls hl => ?_)
  refine lv_goto (tgt := 156) hx hb dM_finish_128 (by decide) ?_
  obtain ⟨hP9, hD9⟩ := xsub (wc := [(a0, .inr (5, [v22, .ref a4, .int 2, v23, v24, v25, v26, v27, v28, v29, v30, v31, v32, v33, v34, .ref a5, .int 4, .int 4, .int 0, .int 100, v40, .ref a6, .int 4, .int 4096, .ref a1, .ref a2, v43, v44, v45, v46, v47, v48])), (a1, .inl (cT 5, 8, .inr (.inr (.inr (.inr f49))))), (a2, .inl (cT 1, 8, .inl (upd f53 x7.toNatClampNeg 4))), (a3, .inl (cT 0, 4096, .inl (upd (upd (upd (upd f56 0 (vp_nar .byte (vp_nar .byte y5))) 1 (vp_nar .byte (vp_nar .byte y6))) 2 (vp_nar .byte (vp_nar .byte y7))) 3 (vp_nar .byte (vp_nar .byte y8))))), (a4, .inl (cT 4, 1024, .inr (.inr (.inr (.inr (va_up (va_up f61 0 (some r1)) 1 (some r2))))))), (a5, .inl (cT 0, 4096, .inl f64)), (a6, .inl (cT 0, 1024, .inl (upd (upd (upd (upd f69 0 (vp_nar .byte y5)) 1 (vp_nar .byte y6)) 2 (vp_nar .byte y7)) 3 (vp_nar .byte y8)))), (r1, .inr (6, [.int 0, .long 0, .int 0, .int 0, .int 0, .int 1])), (r2, .inr (6, [.int 0, .long 0, .int 0, .int 0, .int 0, .int 1]))]) hP hD [3, 6, 8, 7, 1, 0, 5, 2, 4] rfl rfl (by decide)
  refine W.widen (k := 2) (n := 12) (Nat.le_of_ble_eq_true rfl) (Nat.le_of_ble_eq_true rfl) ?_
  exact W.vret hx hb hr (fun t ht hW => ⟨⟨(), rfl, trivial, r1, r2, y5, y6, y7, y8, by rw [ht]; exact hP9, va_K.moved hW.alike hK, hD9⟩, hS.F ht⟩) hS.2.2 dM_finish_156
set_option maxHeartbeats 400000000 in
set_option maxRecDepth 100000 in
theorem cM_binary0_10 (l : Launch) (hl9 : l.stackTraces = false) (D : va_G) (cT : Nat → ClassId) (aK aV : Nat → Nat) (sz : Nat) (a0 : Nat) (a1 : Nat) (a2 : Nat) (a3 : Nat) (a4 : Nat) (a5 : Nat) (a6 : Nat) (x7 : Int32) (x12 : Int32) (x17 : Int32) (v22 : Value) (v23 : Value) (v24 : Value) (v25 : Value) (v26 : Value) (v27 : Value) (v28 : Value) (v29 : Value) (v30 : Value) (v31 : Value) (v32 : Value) (v33 : Value) (v34 : Value) (v35 : Value) (v36 : Value) (v37 : Value) (v38 : Value) (v39 : Value) (v40 : Value) (v41 : Value) (v42 : Value) (v43 : Value) (v44 : Value) (v45 : Value) (v46 : Value) (v47 : Value) (v48 : Value) (v49 : Value) (f50 : Nat → Option Nat) (f54 : Nat → Int32) (f57 : Nat → Int32) (f62 : Nat → Option Nat) (f65 : Nat → Int32) (f70 : Nat → Int32) (h8 : ¬ x7 < 0) (h9 : ¬ 7 < x7) (h10 : x7 ≤ 7) (h11 : vp_in x7 8) (h13 : ¬ x12 < 0) (h14 : ¬ 7 < x12) (h15 : x12 ≤ 7) (h16 : vp_in x12 8) (h18 : ¬ x17 < 0) (h19 : ¬ 7 < x17) (h20 : x17 ≤ 7) (h21 : vp_in x17 8) (h51 : f50 x12.toNatClampNeg = some a3) (h52 : f50 x17.toNatClampNeg = some a5) (h53 : f50 x7.toNatClampNeg = some a3) (h55 : f54 x12.toNatClampNeg = 4) (h56 : f54 x17.toNatClampNeg = 4) (h58 : f57 0 = 110) (h59 : f57 1 = 117) (h60 : f57 2 = 108) (h61 : f57 3 = 108) (h63 : f62 0 = none) (h64 : f62 1 = none) (h66 : f65 0 = 110) (h67 : f65 1 = 117) (h68 : f65 2 = 108) (h69 : f65 3 = 108) : xMet l yM_binary0 wyM_binary0 9 2 12 204 D cT aK aV sz [.ref a0, .int x7, .int 0, .int x12, .int x17] [(a0, .inr (5, [v22, .ref a4, v23, v24, v25, v26, v27, v28, v29, v30, v31, v32, v33, v34, v35, v36, v37, v38, v39, v40, v41, .ref a6, v42, v43, .ref a1, .ref a2, v44, v45, v46, v47, v48, v49])), (a1, .inl (cT 5, 8, .inr (.inr (.inr (.inr f50))))), (a2, .inl (cT 1, 8, .inl f54)), (a3, .inl (cT 0, 4096, .inl f57)), (a4, .inl (cT 4, 1024, .inr (.inr (.inr (.inr f62))))), (a5, .inl (cT 0, 4096, .inl f65)), (a6, .inl (cT 0, 1024, .inl f70))] (fun A => va_Qv (fun _ : Unit => True) (fun _ t => ∃ (q4 : Nat) (q5 : Nat) (y6 : Int32) (y7 : Int32) (y8 : Int32) (y9 : Int32), xB D xcl cT A [(a0, .inr (5, [.int 0, .ref a4, .int 2, v24, .int 0, v26, v27, .int 0, v29, .int 0, v31, v32, .int 0, v34, v35, .ref a5, .int 4, .int 4, .int 0, .int 100, v41, .ref a6, .int 4, .int 4096, .ref a1, .ref a2, v44, v45, v46, v47, v48, v49])), (a1, .inl (cT 5, 8, .inr (.inr (.inr (.inr f50))))), (a2, .inl (cT 1, 8, .inl (upd f54 x7.toNatClampNeg 4))), (a3, .inl (cT 0, 4096, .inl (upd (upd (upd (upd f57 0 (vp_nar .byte (vp_nar .byte y6))) 1 (vp_nar .byte (vp_nar .byte y7))) 2 (vp_nar .byte (vp_nar .byte y8))) 3 (vp_nar .byte (vp_nar .byte y9))))), (a4, .inl (cT 4, 1024, .inr (.inr (.inr (.inr (va_up (va_up f62 0 (some q4)) 1 (some q5))))))), (a5, .inl (cT 0, 4096, .inl f65)), (a6, .inl (cT 0, 1024, .inl (upd (upd (upd (upd f70 0 (vp_nar .byte y6)) 1 (vp_nar .byte y7)) 2 (vp_nar .byte y8)) 3 (vp_nar .byte y9)))), (q4, .inr (6, [.int 0, .long 0, .int 0, .int 0, .int 0, .int 1])), (q5, .inr (6, [.int 0, .long 0, .int 0, .int 0, .int 0, .int 1]))] t) A) := by
  refine Met.ofW (cc := prog_13_method_89_code) (maxL := 5) (ret := none) (by decide) rfl ?_
  intro p e s m args below meth c s₁ B hml hv
  obtain ⟨rfl, hsz, hZ, hP, hK, hD0⟩ := hv
  have hx := B.exec
  have hb := B.bytes
  have hr := B.returns
  have hts := atoms_spec (ws := wyM_binary0) B.pre
  have htx := fun w h => hts w (List.mem_cons_of_mem _ h)
  have hown : s.vm.findClass "ValueBenchModel" = some m.cls := findClass_of_methodNamed B.named
  have hlocks := B.notSynchronized
  subst hsz
  have hD := hD0.self (sz := s.heap.size)
  generalize hAe : va_A [(a0, .inr (5, [v22, .ref a4, v23, v24, v25, v26, v27, v28, v29, v30, v31, v32, v33, v34, v35, v36, v37, v38, v39, v40, v41, .ref a6, v42, v43, .ref a1, .ref a2, v44, v45, v46, v47, v48, v49])), (a1, .inl (cT 5, 8, .inr (.inr (.inr (.inr f50))))), (a2, .inl (cT 1, 8, .inl f54)), (a3, .inl (cT 0, 4096, .inl f57)), (a4, .inl (cT 4, 1024, .inr (.inr (.inr (.inr f62))))), (a5, .inl (cT 0, 4096, .inl f65)), (a6, .inl (cT 0, 1024, .inl f70))] s.heap.size = A at hD hZ ⊢
  have hA : ∀ q : Nat, s.heap.size ≤ q → A q := fun q h => by rw [← hAe]; exact Or.inr h
  have hS : va_S A s.heap s.heap [] := va_S.rf
  have hP : va_P D xcl [(a0, .inr (5, [v22, .ref a4, v23, v24, v25, v26, v27, v28, v29, v30, v31, v32, v33, v34, v35, v36, v37, v38, v39, v40, v41, .ref a6, v42, v43, .ref a1, .ref a2, v44, v45, v46, v47, v48, v49])), (a1, .inl (cT 5, 8, .inr (.inr (.inr (.inr f50))))), (a2, .inl (cT 1, 8, .inl f54)), (a3, .inl (cT 0, 4096, .inl f57)), (a4, .inl (cT 4, 1024, .inr (.inr (.inr (.inr f62))))), (a5, .inl (cT 0, 4096, .inl f65)), (a6, .inl (cT 0, 1024, .inl f70))] s.heap := hP
  have hl := lv_entry ([.ref a0, .int x7, .int 0, .int x12, .int x17]) (n := 5) (Nat.le_of_ble_eq_true rfl)
  rw [lg_entry_eq]
  generalize (lg_sl ([.ref a0, .int x7, .int 0, .int x12, .int x17]) ++ List.replicate (5 - (lg_sl ([.ref a0, .int x7, .int 0, .int x12, .int x17])).length) Slot.unset).toArray = ls at hl ⊢
  have hl : lv_has ls 5 [(0, .ref a0), (1, .int x7), (2, .int 0), (3, .int x12), (4, .int x17)] := hl
  refine lv_aload_n hx hb dM_binary0_0 rfl (lv_at hl 0 rfl) ?_
  obtain ⟨hPc, hDc, hFc⟩ := xcut (wc := [(a0, .inr (5, [v22, .ref a4, v23, v24, v25, v26, v27, v28, v29, v30, v31, v32, v33, v34, v35, v36, v37, v38, v39, v40, v41, .ref a6, v42, v43, .ref a1, .ref a2, v44, v45, v46, v47, v48, v49]))]) hP hD hS hA [0] rfl rfl (by decide)
  refine va_callv (va_runV (C := "ValueBenchModel") (As := []) (rest := []) ⟨hx, hb, hml, hown, htx⟩ (cM_begin_0 l hl9 D cT aK aV s.heap.size a0 v22 (.ref a4) v23 v24 v25 v26 v27 v28 v29 v30 v31 v32 v33 v34 v35 v36 v37 v38 v39 v40 v41 (.ref a6) v42 v43 (.ref a1) (.ref a2) v44 v45 v46 v47 v48 v49) ⟨callB_of 0 htx (xw_goodC kw_5_209) rfl rfl rfl (htx _ kw_1_5) (htx _ kw_5_206) ⟨by decide, by decide, by decide +kernel⟩ ⟨Nat.le_of_ble_eq_true rfl, Nat.le_of_ble_eq_true rfl⟩, (htx _ kw_5_208), (htx _ kp_M_begin)⟩ ⟨xPre_blind, va_recv hK hP (ci := 5) rfl (q0 := 0) rfl, (fun U hU hW => ⟨rfl, xPre_of hZ hS hFc hPc hDc hK U hU hW⟩)⟩ rfl rfl hl.1 rfl (lv_room (Nat.le_of_ble_eq_true rfl)) dM_binary0_1 ⟨Nat.le_of_ble_eq_true rfl, Nat.le_of_ble_eq_true rfl⟩) hS (fun q _ h => hFc q h) hFc (fun u9 t H1 locs ht hvm hr9 hB hz1 hk1 hS => ?_)
  obtain ⟨hP1, hK1, hD1⟩ := hB
  rw [ht] at hP1
  obtain ⟨hP, hD⟩ := xjoin (W := [(a1, .inl (cT 5, 8, .inr (.inr (.inr (.inr f50))))), (a2, .inl (cT 1, 8, .inl f54)), (a3, .inl (cT 0, 4096, .inl f57)), (a4, .inl (cT 4, 1024, .inr (.inr (.inr (.inr f62))))), (a5, .inl (cT 0, 4096, .inl f65)), (a6, .inl (cT 0, 1024, .inl f70)), (a0, .inr (5, [.int 0, .ref a4, .int 0, v24, .int 0, v26, v27, .int 0, v29, .int 0, v31, v32, .int 0, v34, v35, v36, v37, v38, v39, v40, v41, .ref a6, .int 0, .int 1000000000, .ref a1, .ref a2, v44, v45, v46, v47, v48, v49]))]) hP hD [0] [1, 2, 3, 4, 5, 6] 6 rfl rfl (by decide) (by decide) hk1 hFc hP1 hD1
  generalize H1 = H at hP hS ⊢
  refine lv_aload_n hx hb dM_binary0_4 rfl (lv_at hl 0 rfl) ?_
  refine lv_iload_n hx hb dM_binary0_5 rfl (lv_at hl 1 rfl) ?_
  obtain ⟨hPc, hDc, hFc⟩ := xcut (wc := []) hP hD hS hA [] rfl rfl (by decide)
  refine va_calli (va_runV (C := "ValueBenchModel") (As := [.int x7]) (rest := []) ⟨hx, hb, hml, hown, htx⟩ (cM_out_2 l hl9 D cT aK aV H.size a0 x7 h8 h9 h10 h11) ⟨callB_of 1 htx (xw_goodC kw_5_217) rfl rfl rfl (htx _ kw_1_5) (htx _ kw_5_214) ⟨by decide, by decide, by decide +kernel⟩ ⟨Nat.le_of_ble_eq_true rfl, Nat.le_of_ble_eq_true rfl⟩, (htx _ kw_5_216), (htx _ kp_M_out)⟩ ⟨xPre_blind, va_recv hK hP (ci := 5) rfl (q0 := 6) rfl, (fun U hU hW => ⟨rfl, xPre_of hZ hS hFc hPc hDc hK U hU hW⟩)⟩ rfl rfl hl.1 rfl (lv_room (Nat.le_of_ble_eq_true rfl)) dM_binary0_6 ⟨Nat.le_of_ble_eq_true rfl, Nat.le_of_ble_eq_true rfl⟩) hS (fun q _ h => hFc q h) hFc (fun r1 u9 t H1 locs ht hvm hr9 hB hz1 hk1 hS => ?_)
  obtain ⟨hP1, hK1, hD1⟩ := hB
  rw [ht] at hP1
  obtain ⟨hP, hD⟩ := xjoin (W := [(a1, .inl (cT 5, 8, .inr (.inr (.inr (.inr f50))))), (a2, .inl (cT 1, 8, .inl f54)), (a3, .inl (cT 0, 4096, .inl f57)), (a4, .inl (cT 4, 1024, .inr (.inr (.inr (.inr f62))))), (a5, .inl (cT 0, 4096, .inl f65)), (a6, .inl (cT 0, 1024, .inl f70)), (a0, .inr (5, [.int 0, .ref a4, .int 0, v24, .int 0, v26, v27, .int 0, v29, .int 0, v31, v32, .int 0, v34, v35, v36, v37, v38, v39, v40, v41, .ref a6, .int 0, .int 1000000000, .ref a1, .ref a2, v44, v45, v46, v47, v48, v49]))]) hP hD [] [0, 1, 2, 3, 4, 5, 6] 7 rfl rfl (by decide) (by decide) hk1 hFc hP1 hD1
  generalize H1 = H at hP hS ⊢
  rw [hr9]
  refine W.eq (g2 := F0 m 9 ls [.int 0]) rfl ?_
  refine lv_if_ne (tgt := 38) hx hb dM_binary0_9 (by decide) (fun h => ((by revert h; decide : False)).elim) (fun _ => ?_)
  refine lv_iload_n hx hb dM_binary0_12 rfl (lv_at hl 2 rfl) ?_
  refine lv_if_lt (tgt := 38) hx hb dM_binary0_13 (by decide) (fun h => ((by revert h; decide : False)).elim) (fun _ => ?_)
  refine lv_iload_n hx hb dM_binary0_16 rfl (lv_at hl 2 rfl) ?_
  refine lv_iconst (v := 4) hx hb dM_binary0_17 (by decide) ?_
  refine lv_icmp_gt (tgt := 38) hx hb dM_binary0_18 (by decide) (fun h => ((by revert h; decide : False)).elim) (fun _ => ?_)
  refine lv_aload_n hx hb dM_binary0_21 rfl (lv_at hl 0 rfl) ?_
  refine lv_iload_n hx hb dM_binary0_22 rfl (lv_at hl 3 rfl) ?_
  obtain ⟨hPc, hDc, hFc⟩ := xcut (wc := []) hP hD hS hA [] rfl rfl (by decide)
  refine va_calli (va_runV (C := "ValueBenchModel") (As := [.int x12]) (rest := []) ⟨hx, hb, hml, hown, htx⟩ (cM_out_2 l hl9 D cT aK aV H.size a0 x12 h13 h14 h15 h16) ⟨callB_of 1 htx (xw_goodC kw_5_217) rfl rfl rfl (htx _ kw_1_5) (htx _ kw_5_214) ⟨by decide, by decide, by decide +kernel⟩ ⟨Nat.le_of_ble_eq_true rfl, Nat.le_of_ble_eq_true rfl⟩, (htx _ kw_5_216), (htx _ kp_M_out)⟩ ⟨xPre_blind, va_recv hK hP (ci := 5) rfl (q0 := 6) rfl, (fun U hU hW => ⟨rfl, xPre_of hZ hS hFc hPc hDc hK U hU hW⟩)⟩ rfl rfl hl.1 rfl (lv_room (Nat.le_of_ble_eq_true rfl)) dM_binary0_23 ⟨Nat.le_of_ble_eq_true rfl, Nat.le_of_ble_eq_true rfl⟩) hS (fun q _ h => hFc q h) hFc (fun r2 u9 t H1 locs ht hvm hr9 hB hz1 hk1 hS => ?_)
  obtain ⟨hP1, hK1, hD1⟩ := hB
  rw [ht] at hP1
  obtain ⟨hP, hD⟩ := xjoin (W := [(a1, .inl (cT 5, 8, .inr (.inr (.inr (.inr f50))))), (a2, .inl (cT 1, 8, .inl f54)), (a3, .inl (cT 0, 4096, .inl f57)), (a4, .inl (cT 4, 1024, .inr (.inr (.inr (.inr f62))))), (a5, .inl (cT 0, 4096, .inl f65)), (a6, .inl (cT 0, 1024, .inl f70)), (a0, .inr (5, [.int 0, .ref a4, .int 0, v24, .int 0, v26, v27, .int 0, v29, .int 0, v31, v32, .int 0, v34, v35, v36, v37, v38, v39, v40, v41, .ref a6, .int 0, .int 1000000000, .ref a1, .ref a2, v44, v45, v46, v47, v48, v49]))]) hP hD [] [0, 1, 2, 3, 4, 5, 6] 7 rfl rfl (by decide) (by decide) hk1 hFc hP1 hD1
  generalize H1 = H at hP hS ⊢
  rw [hr9]
  refine W.eq (g2 := F0 m 26 ls [.int 0]) rfl ?_
  refine lv_if_ne (tgt := 38) hx hb dM_binary0_26 (by decide) (fun h => ((by revert h; decide : False)).elim) (fun _ => ?_)
  refine lv_aload_n hx hb dM_binary0_29 rfl (lv_at hl 0 rfl) ?_
  refine lv_iload hx hb dM_binary0_30 (lv_at hl 4 rfl) ?_
  obtain ⟨hPc, hDc, hFc⟩ := xcut (wc := []) hP hD hS hA [] rfl rfl (by decide)
  refine va_calli (va_runV (C := "ValueBenchModel") (As := [.int x17]) (rest := []) ⟨hx, hb, hml, hown, htx⟩ (cM_out_2 l hl9 D cT aK aV H.size a0 x17 h18 h19 h20 h21) ⟨callB_of 1 htx (xw_goodC kw_5_217) rfl rfl rfl (htx _ kw_1_5) (htx _ kw_5_214) ⟨by decide, by decide, by decide +kernel⟩ ⟨Nat.le_of_ble_eq_true rfl, Nat.le_of_ble_eq_true rfl⟩, (htx _ kw_5_216), (htx _ kp_M_out)⟩ ⟨xPre_blind, va_recv hK hP (ci := 5) rfl (q0 := 6) rfl, (fun U hU hW => ⟨rfl, xPre_of hZ hS hFc hPc hDc hK U hU hW⟩)⟩ rfl rfl hl.1 rfl (lv_room (Nat.le_of_ble_eq_true rfl)) dM_binary0_32 ⟨Nat.le_of_ble_eq_true rfl, Nat.le_of_ble_eq_true rfl⟩) hS (fun q _ h => hFc q h) hFc (fun r3 u9 t H1 locs ht hvm hr9 hB hz1 hk1 hS => ?_)
  obtain ⟨hP1, hK1, hD1⟩ := hB
  rw [ht] at hP1
  obtain ⟨hP, hD⟩ := xjoin (W := [(a1, .inl (cT 5, 8, .inr (.inr (.inr (.inr f50))))), (a2, .inl (cT 1, 8, .inl f54)), (a3, .inl (cT 0, 4096, .inl f57)), (a4, .inl (cT 4, 1024, .inr (.inr (.inr (.inr f62))))), (a5, .inl (cT 0, 4096, .inl f65)), (a6, .inl (cT 0, 1024, .inl f70)), (a0, .inr (5, [.int 0, .ref a4, .int 0, v24, .int 0, v26, v27, .int 0, v29, .int 0, v31, v32, .int 0, v34, v35, v36, v37, v38, v39, v40, v41, .ref a6, .int 0, .int 1000000000, .ref a1, .ref a2, v44, v45, v46, v47, v48, v49]))]) hP hD [] [0, 1, 2, 3, 4, 5, 6] 7 rfl rfl (by decide) (by decide) hk1 hFc hP1 hD1
  generalize H1 = H at hP hS ⊢
  rw [hr9]
  refine W.eq (g2 := F0 m 35 ls [.int 0]) rfl ?_
  refine lv_if_eq (tgt := 46) hx hb dM_binary0_35 (by decide) (fun _ => ?_) (fun h => ((by revert h; decide : False)).elim)
  refine lv_aload_n hx hb dM_binary0_46 rfl (lv_at hl 0 rfl) ?_
  refine lv_iload_n hx hb dM_binary0_47 rfl (lv_at hl 1 rfl) ?_
  refine lv_iconst (v := 0) hx hb dM_binary0_48 (by decide) ?_
  refine lv_iload_n hx hb dM_binary0_49 rfl (lv_at hl 2 rfl) ?_
  refine lv_iload_n hx hb dM_binary0_50 rfl (lv_at hl 3 rfl) ?_
  refine lv_iload hx hb dM_binary0_51 (lv_at hl 4 rfl) ?_
  obtain ⟨hPc, hDc, hFc⟩ := xcut (wc := [(a0, .inr (5, [.int 0, .ref a4, .int 0, v24, .int 0, v26, v27, .int 0, v29, .int 0, v31, v32, .int 0, v34, v35, v36, v37, v38, v39, v40, v41, .ref a6, .int 0, .int 1000000000, .ref a1, .ref a2, v44, v45, v46, v47, v48, v49])), (a1, .inl (cT 5, 8, .inr (.inr (.inr (.inr f50))))), (a2, .inl (cT 1, 8, .inl f54)), (a3, .inl (cT 0, 4096, .inl f57)), (a4, .inl (cT 4, 1024, .inr (.inr (.inr (.inr f62))))), (a5, .inl (cT 0, 4096, .inl f65)), (a6, .inl (cT 0, 1024, .inl f70))]) hP hD hS hA [6, 0, 1, 2, 3, 4, 5] rfl rfl (by decide)
  refine va_callv (vx_runVW (C := "ValueBenchModel") (As := [.int x7, .int 0, .int 0, .int x12, .int x17]) (rest := []) ⟨hx, hb, hml, hown, htx⟩ (cM_finish_2 l hl9 D cT aK aV H.size a0 a1 a2 a3 a4 a5 a6 x7 x12 x17 (.int 0) v24 (.int 0) v26 v27 (.int 0) v29 (.int 0) v31 v32 (.int 0) v34 v35 v36 v37 v38 v39 v40 v41 (.int 0) (.int 1000000000) v44 v45 v46 v47 v48 v49 f50 f54 f57 f62 f65 f70 h8 h9 h10 h11 h13 h14 h15 h16 h18 h19 h20 h21 (by first | rfl | exact h51 | exact h52 | exact h53 | exact h55 | exact h56 | exact h58 | exact h59 | exact h60 | exact h61 | exact h63 | exact h64 | exact h66 | exact h67 | exact h68 | exact h69) (by first | rfl | exact h51 | exact h52 | exact h53 | exact h55 | exact h56 | exact h58 | exact h59 | exact h60 | exact h61 | exact h63 | exact h64 | exact h66 | exact h67 | exact h68 | exact h69) (by first | rfl | exact h51 | exact h52 | exact h53 | exact h55 | exact h56 | exact h58 | exact h59 | exact h60 | exact h61 | exact h63 | exact h64 | exact h66 | exact h67 | exact h68 | exact h69) (by first | rfl | exact h51 | exact h52 | exact h53 | exact h55 | exact h56 | exact h58 | exact h59 | exact h60 | exact h61 | exact h63 | exact h64 | exact h66 | exact h67 | exact h68 | exact h69) (by first | rfl | exact h51 | exact h52 | exact h53 | exact h55 | exact h56 | exact h58 | exact h59 | exact h60 | exact h61 | exact h63 | exact h64 | exact h66 | exact h67 | exact h68 | exact h69) (by first | rfl | exact h51 | exact h52 | exact h53 | exact h55 | exact h56 | exact h58 | exact h59 | exact h60 | exact h61 | exact h63 | exact h64 | exact h66 | exact h67 | exact h68 | exact h69) (by first | rfl | exact h51 | exact h52 | exact h53 | exact h55 | exact h56 | exact h58 | exact h59 | exact h60 | exact h61 | exact h63 | exact h64 | exact h66 | exact h67 | exact h68 | exact h69) (by first | rfl | exact h51 | exact h52 | exact h53 | exact h55 | exact h56 | exact h58 | exact h59 | exact h60 | exact h61 | exact h63 | exact h64 | exact h66 | exact h67 | exact h68 | exact h69) (by first | rfl | exact h51 | exact h52 | exact h53 | exact h55 | exact h56 | exact h58 | exact h59 | exact h60 | exact h61 | exact h63 | exact h64 | exact h66 | exact h67 | exact h68 | exact h69) (by first | rfl | exact h51 | exact h52 | exact h53 | exact h55 | exact h56 | exact h58 | exact h59 | exact h60 | exact h61 | exact h63 | exact h64 | exact h66 | exact h67 | exact h68 | exact h69) (by first | rfl | exact h51 | exact h52 | exact h53 | exact h55 | exact h56 | exact h58 | exact h59 | exact h60 | exact h61 | exact h63 | exact h64 | exact h66 | exact h67 | exact h68 | exact h69) (by first | rfl | exact h51 | exact h52 | exact h53 | exact h55 | exact h56 | exact h58 | exact h59 | exact h60 | exact h61 | exact h63 | exact h64 | exact h66 | exact h67 | exact h68 | exact h69) (by first | rfl | exact h51 | exact h52 | exact h53 | exact h55 | exact h56 | exact h58 | exact h59 | exact h60 | exact h61 | exact h63 | exact h64 | exact h66 | exact h67 | exact h68 | exact h69) (by first | rfl | exact h51 | exact h52 | exact h53 | exact h55 | exact h56 | exact h58 | exact h59 | exact h60 | exact h61 | exact h63 | exact h64 | exact h66 | exact h67 | exact h68 | exact h69) (by first | rfl | exact h51 | exact h52 | exact h53 | exact h55 | exact h56 | exact h58 | exact h59 | exact h60 | exact h61 | exact h63 | exact h64 | exact h66 | exact h67 | exact h68 | exact h69)) (xcVW 5 htx (xw_goodC kw_6_195) rfl rfl rfl (htx _ kw_1_5) (htx _ kw_6_192) ⟨by decide, by decide, by decide +kernel⟩ ⟨Nat.le_of_ble_eq_true rfl, Nat.le_of_ble_eq_true rfl⟩ (htx _ kw_6_194) (htx _ kp_M_finish)) ⟨xPre_blind, va_recv hK hP (ci := 5) rfl (q0 := 6) rfl, (fun U hU hW => ⟨rfl, xPre_of hZ hS hFc hPc hDc hK U hU hW⟩)⟩ rfl rfl hl.1 rfl (lv_room (Nat.le_of_ble_eq_true rfl)) dM_binary0_53 ⟨Nat.le_of_ble_eq_true rfl, Nat.le_of_ble_eq_true rfl⟩) hS (fun q _ h => hFc q h) hFc (fun u9 t H1 locs ht hvm hr9 hB hz1 hk1 hS => ?_)
  obtain ⟨q4, q5, y6, y7, y8, y9, hP1, hK1, hD1⟩ := hB
  rw [ht] at hP1
  obtain ⟨hP, hD⟩ := xjoin (W := [(a0, .inr (5, [.int 0, .ref a4, .int 2, v24, .int 0, v26, v27, .int 0, v29, .int 0, v31, v32, .int 0, v34, v35, .ref a5, .int 4, .int 4, .int 0, .int 100, v41, .ref a6, .int 4, .int 4096, .ref a1, .ref a2, v44, v45, v46, v47, v48, v49])), (a1, .inl (cT 5, 8, .inr (.inr (.inr (.inr f50))))), (a2, .inl (cT 1, 8, .inl (upd f54 x7.toNatClampNeg 4))), (a3, .inl (cT 0, 4096, .inl (upd (upd (upd (upd f57 0 (vp_nar .byte (vp_nar .byte y6))) 1 (vp_nar .byte (vp_nar .byte y7))) 2 (vp_nar .byte (vp_nar .byte y8))) 3 (vp_nar .byte (vp_nar .byte y9))))), (a4, .inl (cT 4, 1024, .inr (.inr (.inr (.inr (va_up (va_up f62 0 (some q4)) 1 (some q5))))))), (a5, .inl (cT 0, 4096, .inl f65)), (a6, .inl (cT 0, 1024, .inl (upd (upd (upd (upd f70 0 (vp_nar .byte y6)) 1 (vp_nar .byte y7)) 2 (vp_nar .byte y8)) 3 (vp_nar .byte y9)))), (q4, .inr (6, [.int 0, .long 0, .int 0, .int 0, .int 0, .int 1])), (q5, .inr (6, [.int 0, .long 0, .int 0, .int 0, .int 0, .int 1]))]) hP hD [6, 0, 1, 2, 3, 4, 5] [] 0 rfl rfl (by decide) (by decide) hk1 hFc hP1 hD1
  generalize H1 = H at hP hS ⊢
  obtain ⟨hP9, hD9⟩ := xsub (wc := [(a0, .inr (5, [.int 0, .ref a4, .int 2, v24, .int 0, v26, v27, .int 0, v29, .int 0, v31, v32, .int 0, v34, v35, .ref a5, .int 4, .int 4, .int 0, .int 100, v41, .ref a6, .int 4, .int 4096, .ref a1, .ref a2, v44, v45, v46, v47, v48, v49])), (a1, .inl (cT 5, 8, .inr (.inr (.inr (.inr f50))))), (a2, .inl (cT 1, 8, .inl (upd f54 x7.toNatClampNeg 4))), (a3, .inl (cT 0, 4096, .inl (upd (upd (upd (upd f57 0 (vp_nar .byte (vp_nar .byte y6))) 1 (vp_nar .byte (vp_nar .byte y7))) 2 (vp_nar .byte (vp_nar .byte y8))) 3 (vp_nar .byte (vp_nar .byte y9))))), (a4, .inl (cT 4, 1024, .inr (.inr (.inr (.inr (va_up (va_up f62 0 (some q4)) 1 (some q5))))))), (a5, .inl (cT 0, 4096, .inl f65)), (a6, .inl (cT 0, 1024, .inl (upd (upd (upd (upd f70 0 (vp_nar .byte y6)) 1 (vp_nar .byte y7)) 2 (vp_nar .byte y8)) 3 (vp_nar .byte y9)))), (q4, .inr (6, [.int 0, .long 0, .int 0, .int 0, .int 0, .int 1])), (q5, .inr (6, [.int 0, .long 0, .int 0, .int 0, .int 0, .int 1]))]) hP hD [0, 1, 2, 3, 4, 5, 6, 7, 8] rfl rfl (by decide)
  refine W.widen (k := 2) (n := 12) (Nat.le_of_ble_eq_true rfl) (Nat.le_of_ble_eq_true rfl) ?_
  exact W.vret hx hb hr (fun t ht hW => ⟨⟨(), rfl, trivial, q4, q5, y6, y7, y8, y9, by rw [ht]; exact hP9, va_K.moved hW.alike hK, hD9⟩, hS.F ht⟩) hS.2.2 dM_binary0_56
set_option maxHeartbeats 400000000 in
set_option maxRecDepth 100000 in
theorem cM_finish_3 (l : Launch) (hl9 : l.stackTraces = false) (D : va_G) (cT : Nat → ClassId) (aK aV : Nat → Nat) (sz : Nat) (a0 : Nat) (a1 : Nat) (a2 : Nat) (a3 : Nat) (a4 : Nat) (a5 : Nat) (a6 : Nat) (x7 : Int32) (x12 : Int32) (x17 : Int32) (v22 : Value) (v23 : Value) (v24 : Value) (v25 : Value) (v26 : Value) (v27 : Value) (v28 : Value) (v29 : Value) (v30 : Value) (v31 : Value) (v32 : Value) (v33 : Value) (v34 : Value) (v35 : Value) (v36 : Value) (v37 : Value) (v38 : Value) (v39 : Value) (v40 : Value) (v41 : Value) (v42 : Value) (v43 : Value) (v44 : Value) (v45 : Value) (v46 : Value) (v47 : Value) (v48 : Value) (f49 : Nat → Option Nat) (f53 : Nat → Int32) (f56 : Nat → Int32) (f61 : Nat → Option Nat) (f64 : Nat → Int32) (f69 : Nat → Int32) (h8 : ¬ x7 < 0) (h9 : ¬ 7 < x7) (h10 : x7 ≤ 7) (h11 : vp_in x7 8) (h13 : ¬ x12 < 0) (h14 : ¬ 7 < x12) (h15 : x12 ≤ 7) (h16 : vp_in x12 8) (h18 : ¬ x17 < 0) (h19 : ¬ 7 < x17) (h20 : x17 ≤ 7) (h21 : vp_in x17 8) (h50 : f49 x12.toNatClampNeg = some a3) (h51 : f49 x17.toNatClampNeg = some a5) (h52 : f49 x7.toNatClampNeg = some a5) (h54 : f53 x12.toNatClampNeg = 4) (h55 : f53 x17.toNatClampNeg = 4) (h57 : f56 0 = 110) (h58 : f56 1 = 117) (h59 : f56 2 = 108) (h60 : f56 3 = 108) (h62 : f61 0 = none) (h63 : f61 1 = none) (h65 : f64 0 = 110) (h66 : f64 1 = 117) (h67 : f64 2 = 108) (h68 : f64 3 = 108) : xMet l yM_finish wyM_finish 8 2 12 175 D cT aK aV sz [.ref a0, .int x7, .int 0, .int 0, .int x12, .int x17] [(a0, .inr (5, [v22, .ref a4, .int 0, v23, v24, v25, v26, v27, v28, v29, v30, v31, v32, v33, v34, v35, v36, v37, v38, v39, v40, .ref a6, v41, v42, .ref a1, .ref a2, v43, v44, v45, v46, v47, v48])), (a1, .inl (cT 5, 8, .inr (.inr (.inr (.inr f49))))), (a2, .inl (cT 1, 8, .inl f53)), (a3, .inl (cT 0, 4096, .inl f56)), (a4, .inl (cT 4, 1024, .inr (.inr (.inr (.inr f61))))), (a5, .inl (cT 0, 4096, .inl f64)), (a6, .inl (cT 0, 1024, .inl f69))] (fun A => va_Qv (fun _ : Unit => True) (fun _ t => ∃ (r1 : Nat) (r2 : Nat) (y5 : Int32) (y6 : Int32) (y7 : Int32) (y8 : Int32), xB D xcl cT A [(a0, .inr (5, [v22, .ref a4, .int 2, v23, v24, v25, v26, v27, v28, v29, v30, v31, v32, v33, v34, .ref a5, .int 4, .int 4, .int 0, .int 100, v40, .ref a6, .int 4, .int 4096, .ref a1, .ref a2, v43, v44, v45, v46, v47, v48])), (a1, .inl (cT 5, 8, .inr (.inr (.inr (.inr f49))))), (a2, .inl (cT 1, 8, .inl (upd f53 x7.toNatClampNeg 4))), (a3, .inl (cT 0, 4096, .inl f56)), (a4, .inl (cT 4, 1024, .inr (.inr (.inr (.inr (va_up (va_up f61 0 (some r1)) 1 (some r2))))))), (a5, .inl (cT 0, 4096, .inl (upd (upd (upd (upd f64 0 (vp_nar .byte (vp_nar .byte y5))) 1 (vp_nar .byte (vp_nar .byte y6))) 2 (vp_nar .byte (vp_nar .byte y7))) 3 (vp_nar .byte (vp_nar .byte y8))))), (a6, .inl (cT 0, 1024, .inl (upd (upd (upd (upd f69 0 (vp_nar .byte y5)) 1 (vp_nar .byte y6)) 2 (vp_nar .byte y7)) 3 (vp_nar .byte y8)))), (r1, .inr (6, [.int 0, .long 0, .int 0, .int 0, .int 0, .int 1])), (r2, .inr (6, [.int 0, .long 0, .int 0, .int 0, .int 0, .int 1]))] t) A) := by
  refine va_MetW (cc := prog_13_method_90_code) (maxL := 10) (ret := none) (hh := [(0, 128, 131, 83), (0, 128, 149, 86)]) (by decide) rfl ?_
  intro p e s m args below meth c s₁ B hml hv
  obtain ⟨rfl, hsz, hZ, hP, hK, hD0⟩ := hv
  have hx := B.exec
  have hb := B.bytes
  have hr := B.returns
  have hts := atoms_spec (ws := wyM_finish) B.pre
  have htx := fun w h => hts w (List.mem_cons_of_mem _ h)
  have hown : s.vm.findClass "ValueBenchModel" = some m.cls := findClass_of_methodNamed B.named
  have hlocks := B.notSynchronized
  subst hsz
  have hD := hD0.self (sz := s.heap.size)
  generalize hAe : va_A [(a0, .inr (5, [v22, .ref a4, .int 0, v23, v24, v25, v26, v27, v28, v29, v30, v31, v32, v33, v34, v35, v36, v37, v38, v39, v40, .ref a6, v41, v42, .ref a1, .ref a2, v43, v44, v45, v46, v47, v48])), (a1, .inl (cT 5, 8, .inr (.inr (.inr (.inr f49))))), (a2, .inl (cT 1, 8, .inl f53)), (a3, .inl (cT 0, 4096, .inl f56)), (a4, .inl (cT 4, 1024, .inr (.inr (.inr (.inr f61))))), (a5, .inl (cT 0, 4096, .inl f64)), (a6, .inl (cT 0, 1024, .inl f69))] s.heap.size = A at hD hZ ⊢
  have hA : ∀ q : Nat, s.heap.size ≤ q → A q := fun q h => by rw [← hAe]; exact Or.inr h
  have hS : va_S A s.heap s.heap [] := va_S.rf
  have hP : va_P D xcl [(a0, .inr (5, [v22, .ref a4, .int 0, v23, v24, v25, v26, v27, v28, v29, v30, v31, v32, v33, v34, v35, v36, v37, v38, v39, v40, .ref a6, v41, v42, .ref a1, .ref a2, v43, v44, v45, v46, v47, v48])), (a1, .inl (cT 5, 8, .inr (.inr (.inr (.inr f49))))), (a2, .inl (cT 1, 8, .inl f53)), (a3, .inl (cT 0, 4096, .inl f56)), (a4, .inl (cT 4, 1024, .inr (.inr (.inr (.inr f61))))), (a5, .inl (cT 0, 4096, .inl f64)), (a6, .inl (cT 0, 1024, .inl f69))] s.heap := hP
  have hl := lv_entry ([.ref a0, .int x7, .int 0, .int 0, .int x12, .int x17]) (n := 10) (Nat.le_of_ble_eq_true rfl)
  rw [lg_entry_eq]
  generalize (lg_sl ([.ref a0, .int x7, .int 0, .int 0, .int x12, .int x17]) ++ List.replicate (10 - (lg_sl ([.ref a0, .int x7, .int 0, .int 0, .int x12, .int x17])).length) Slot.unset).toArray = ls at hl ⊢
  have hl : lv_has ls 10 [(0, .ref a0), (1, .int x7), (2, .int 0), (3, .int 0), (4, .int x12), (5, .int x17)] := hl
  have htab := vx_table (x := yM_finish) B (hts _ List.mem_cons_self)
  refine lv_aload_n hx hb dM_finish_0 rfl (lv_at hl 0 rfl) ?_
  refine lv_iload hx hb dM_finish_1 (lv_at hl 4 rfl) ?_
  obtain ⟨hPc, hDc, hFc⟩ := xcut (wc := [(a0, .inr (5, [v22, .ref a4, .int 0, v23, v24, v25, v26, v27, v28, v29, v30, v31, v32, v33, v34, v35, v36, v37, v38, v39, v40, .ref a6, v41, v42, .ref a1, .ref a2, v43, v44, v45, v46, v47, v48])), (a1, .inl (cT 5, 8, .inr (.inr (.inr (.inr f49))))), (a2, .inl (cT 1, 8, .inl f53)), (a3, .inl (cT 0, 4096, .inl f56)), (a4, .inl (cT 4, 1024, .inr (.inr (.inr (.inr f61)))))]) hP hD hS hA [0, 1, 2, 3, 4] rfl rfl (by decide)
  refine va_callr (va_runV (C := "ValueBenchModel") (As := [.int x12]) (rest := []) ⟨hx, hb, hml, hown, htx⟩ (cM_register_0 l hl9 D cT aK aV s.heap.size a0 a1 a2 a3 a4 x12 v22 v23 v24 v25 v26 v27 v28 v29 v30 v31 v32 v33 v34 v35 v36 v37 v38 v39 v40 (.ref a6) v41 v42 v43 v44 v45 v46 v47 v48 f49 f53 f56 f61 h13 h14 h15 h16 (by first | rfl | exact h50 | exact h51 | exact h52 | exact h54 | exact h55 | exact h57 | exact h58 | exact h59 | exact h60 | exact h62 | exact h63 | exact h65 | exact h66 | exact h67 | exact h68) (by first | rfl | exact h50 | exact h51 | exact h52 | exact h54 | exact h55 | exact h57 | exact h58 | exact h59 | exact h60 | exact h62 | exact h63 | exact h65 | exact h66 | exact h67 | exact h68) (by first | rfl | exact h50 | exact h51 | exact h52 | exact h54 | exact h55 | exact h57 | exact h58 | exact h59 | exact h60 | exact h62 | exact h63 | exact h65 | exact h66 | exact h67 | exact h68) (by first | rfl | exact h50 | exact h51 | exact h52 | exact h54 | exact h55 | exact h57 | exact h58 | exact h59 | exact h60 | exact h62 | exact h63 | exact h65 | exact h66 | exact h67 | exact h68) (by first | rfl | exact h50 | exact h51 | exact h52 | exact h54 | exact h55 | exact h57 | exact h58 | exact h59 | exact h60 | exact h62 | exact h63 | exact h65 | exact h66 | exact h67 | exact h68) (by first | rfl | exact h50 | exact h51 | exact h52 | exact h54 | exact h55 | exact h57 | exact h58 | exact h59 | exact h60 | exact h62 | exact h63 | exact h65 | exact h66 | exact h67 | exact h68) (by first | rfl | exact h50 | exact h51 | exact h52 | exact h54 | exact h55 | exact h57 | exact h58 | exact h59 | exact h60 | exact h62 | exact h63 | exact h65 | exact h66 | exact h67 | exact h68)) ⟨callB_of 1 htx (xw_goodC kw_6_170) rfl rfl rfl (htx _ kw_1_5) (htx _ kw_6_167) ⟨by decide, by decide, by decide +kernel⟩ ⟨Nat.le_of_ble_eq_true rfl, Nat.le_of_ble_eq_true rfl⟩, (htx _ kw_6_169), (htx _ kp_M_register)⟩ ⟨xPre_blind, va_recv hK hP (ci := 5) rfl (q0 := 0) rfl, (fun U hU hW => ⟨rfl, xPre_of hZ hS hFc hPc hDc hK U hU hW⟩)⟩ rfl rfl hl.1 rfl (lv_room (Nat.le_of_ble_eq_true rfl)) dM_finish_3 ⟨Nat.le_of_ble_eq_true rfl, Nat.le_of_ble_eq_true rfl⟩) hS (fun q _ h => hFc q h) hFc (fun u9 r1 t H1 locs ht hvm hr9 hB hz1 hk1 hS => ?_)
  obtain ⟨hP1, hK1, hD1⟩ := hB
  rw [ht] at hP1
  obtain ⟨hP, hD⟩ := xjoin (W := [(a5, .inl (cT 0, 4096, .inl f64)), (a6, .inl (cT 0, 1024, .inl f69)), (a0, .inr (5, [v22, .ref a4, .int 1, v23, v24, v25, v26, v27, v28, v29, v30, v31, v32, v33, v34, .ref a3, .int 4, .int 4, .int 0, .int 100, v40, .ref a6, v41, v42, .ref a1, .ref a2, v43, v44, v45, v46, v47, v48])), (a1, .inl (cT 5, 8, .inr (.inr (.inr (.inr f49))))), (a2, .inl (cT 1, 8, .inl f53)), (a3, .inl (cT 0, 4096, .inl f56)), (a4, .inl (cT 4, 1024, .inr (.inr (.inr (.inr (va_up f61 0 (some r1))))))), (r1, .inr (6, [.int 0, .long 0, .int 0, .int 0, .int 0, .int 1]))]) hP hD [0, 1, 2, 3, 4] [5, 6] 2 rfl rfl (by decide) (by decide) hk1 hFc hP1 hD1
  generalize H1 = H at hP hS ⊢
  refine W.eq (g2 := F0 m 6 ls [.ref r1]) rfl ?_
  refine lv_astore (lv' := [(6, .ref r1), (0, .ref a0), (1, .int x7), (2, .int 0), (3, .int 0), (4, .int x12), (5, .int x17)]) hx hb dM_finish_6 hl (by decide) rfl (fun ls hl => ?_)
  refine lv_iload_n hx hb dM_finish_8 rfl (lv_at hl 3 rfl) ?_
  refine lv_iconst (v := 1) hx hb dM_finish_9 (by decide) ?_
  refine lv_icmp_ne (tgt := 17) hx hb dM_finish_10 (by decide) (fun _ => ?_) (fun h => ((by revert h; decide : False)).elim)
  refine lv_aload_n hx hb dM_finish_17 rfl (lv_at hl 1 rfl) ?_
  refine lv_iload hx hb dM_finish_18 (lv_at hl 6 rfl) ?_
  obtain ⟨hPc, hDc, hFc⟩ := xcut (wc := [(a0, .inr (5, [v22, .ref a4, .int 1, v23, v24, v25, v26, v27, v28, v29, v30, v31, v32, v33, v34, .ref a3, .int 4, .int 4, .int 0, .int 100, v40, .ref a6, v41, v42, .ref a1, .ref a2, v43, v44, v45, v46, v47, v48])), (a1, .inl (cT 5, 8, .inr (.inr (.inr (.inr f49))))), (a2, .inl (cT 1, 8, .inl f53)), (a5, .inl (cT 0, 4096, .inl f64)), (a4, .inl (cT 4, 1024, .inr (.inr (.inr (.inr (va_up f61 0 (some r1)))))))]) hP hD hS hA [2, 3, 4, 0, 6] rfl rfl (by decide)
  refine va_callr (va_runV (C := "ValueBenchModel") (As := [.int x17]) (rest := []) ⟨hx, hb, hml, hown, htx⟩ (cM_register_1 l hl9 D cT aK aV H.size a0 a1 a2 a5 a4 x17 v22 v23 v24 v25 v26 v27 v28 v29 v30 v31 v32 v33 v34 (.ref a3) (.int 4) (.int 4) (.int 0) (.int 100) v40 (.ref a6) v41 v42 v43 v44 v45 v46 v47 v48 f49 f53 f64 (va_up f61 0 (some r1)) h18 h19 h20 h21 (by first | rfl | exact h50 | exact h51 | exact h52 | exact h54 | exact h55 | exact h57 | exact h58 | exact h59 | exact h60 | exact h63 | exact h65 | exact h66 | exact h67 | exact h68) (by first | rfl | exact h50 | exact h51 | exact h52 | exact h54 | exact h55 | exact h57 | exact h58 | exact h59 | exact h60 | exact h63 | exact h65 | exact h66 | exact h67 | exact h68) (by first | rfl | exact h50 | exact h51 | exact h52 | exact h54 | exact h55 | exact h57 | exact h58 | exact h59 | exact h60 | exact h63 | exact h65 | exact h66 | exact h67 | exact h68) (by first | rfl | exact h50 | exact h51 | exact h52 | exact h54 | exact h55 | exact h57 | exact h58 | exact h59 | exact h60 | exact h63 | exact h65 | exact h66 | exact h67 | exact h68) (by first | rfl | exact h50 | exact h51 | exact h52 | exact h54 | exact h55 | exact h57 | exact h58 | exact h59 | exact h60 | exact h63 | exact h65 | exact h66 | exact h67 | exact h68) (by first | rfl | exact h50 | exact h51 | exact h52 | exact h54 | exact h55 | exact h57 | exact h58 | exact h59 | exact h60 | exact h63 | exact h65 | exact h66 | exact h67 | exact h68) (by first | rfl | exact h50 | exact h51 | exact h52 | exact h54 | exact h55 | exact h57 | exact h58 | exact h59 | exact h60 | exact h63 | exact h65 | exact h66 | exact h67 | exact h68)) ⟨callB_of 1 htx (xw_goodC kw_6_170) rfl rfl rfl (htx _ kw_1_5) (htx _ kw_6_167) ⟨by decide, by decide, by decide +kernel⟩ ⟨Nat.le_of_ble_eq_true rfl, Nat.le_of_ble_eq_true rfl⟩, (htx _ kw_6_169), (htx _ kp_M_register)⟩ ⟨xPre_blind, va_recv hK hP (ci := 5) rfl (q0 := 2) rfl, (fun U hU hW => ⟨rfl, xPre_of hZ hS hFc hPc hDc hK U hU hW⟩)⟩ rfl rfl hl.1 rfl (lv_room (Nat.le_of_ble_eq_true rfl)) dM_finish_20 ⟨Nat.le_of_ble_eq_true rfl, Nat.le_of_ble_eq_true rfl⟩) hS (fun q _ h => hFc q h) hFc (fun u9 r2 t H1 locs ht hvm hr9 hB hz1 hk1 hS => ?_)
  obtain ⟨hP1, hK1, hD1⟩ := hB
  rw [ht] at hP1
  obtain ⟨hP, hD⟩ := xjoin (W := [(a6, .inl (cT 0, 1024, .inl f69)), (a3, .inl (cT 0, 4096, .inl f56)), (r1, .inr (6, [.int 0, .long 0, .int 0, .int 0, .int 0, .int 1])), (a0, .inr (5, [v22, .ref a4, .int 2, v23, v24, v25, v26, v27, v28, v29, v30, v31, v32, v33, v34, .ref a5, .int 4, .int 4, .int 0, .int 100, v40, .ref a6, v41, v42, .ref a1, .ref a2, v43, v44, v45, v46, v47, v48])), (a1, .inl (cT 5, 8, .inr (.inr (.inr (.inr f49))))), (a2, .inl (cT 1, 8, .inl f53)), (a5, .inl (cT 0, 4096, .inl f64)), (a4, .inl (cT 4, 1024, .inr (.inr (.inr (.inr (va_up (va_up f61 0 (some r1)) 1 (some r2))))))), (r2, .inr (6, [.int 0, .long 0, .int 0, .int 0, .int 0, .int 1]))]) hP hD [2, 3, 4, 0, 6] [1, 5, 7] 3 rfl rfl (by decide) (by decide) hk1 hFc hP1 hD1
  generalize H1 = H at hP hS ⊢
  refine W.eq (g2 := F0 m 23 ls [.ref r2]) rfl ?_
  refine lv_astore (lv' := [(7, .ref r2), (6, .ref r1), (0, .ref a0), (1, .int x7), (2, .int 0), (3, .int 0), (4, .int x12), (5, .int x17)]) hx hb dM_finish_23 hl (by decide) rfl (fun ls hl => ?_)
  refine lv_iload_n hx hb dM_finish_25 rfl (lv_at hl 4 rfl) ?_
  refine lv_if_ne (tgt := 43) hx hb dM_finish_26 (by decide) (fun h => ((by revert h; decide : False)).elim) (fun _ => ?_)
  refine lv_aload_n hx hb dM_finish_29 rfl (lv_at hl 2 rfl) ?_
  refine lv_iload_n hx hb dM_finish_30 rfl (lv_at hl 5 rfl) ?_
  refine lv_aload hx hb dM_finish_31 (lv_at hl 1 rfl) ?_
  refine lv_aload hx hb dM_finish_33 (lv_at hl 0 rfl) ?_
  obtain ⟨hPc, hDc, hFc⟩ := xcut (wc := [(a0, .inr (5, [v22, .ref a4, .int 2, v23, v24, v25, v26, v27, v28, v29, v30, v31, v32, v33, v34, .ref a5, .int 4, .int 4, .int 0, .int 100, v40, .ref a6, v41, v42, .ref a1, .ref a2, v43, v44, v45, v46, v47, v48])), (r1, .inr (6, [.int 0, .long 0, .int 0, .int 0, .int 0, .int 1]))]) hP hD hS hA [3, 2] rfl rfl (by decide)
  refine va_callr (va_runV (C := "ValueBenchModel") (As := [.int 0, .ref r1, .ref r2]) (rest := []) ⟨hx, hb, hml, hown, htx⟩ (cM_binary1_0 l hl9 D cT aK aV H.size a0 r1 r2 v22 (.ref a4) (.int 2) v23 v24 v25 v26 v27 v28 v29 v30 v31 v32 v33 v34 (.ref a5) (.int 4) (.int 4) (.int 0) (.int 100) v40 (.ref a6) v41 v42 (.ref a1) (.ref a2) v43 v44 v45 v46 v47 v48 (.long 0) (.int 0) (.int 0) (.int 0) (.int 1)) ⟨callB_of 3 htx (xw_goodC kw_6_199) rfl rfl rfl (htx _ kw_1_5) (htx _ kw_6_196) ⟨by decide, by decide, by decide +kernel⟩ ⟨Nat.le_of_ble_eq_true rfl, Nat.le_of_ble_eq_true rfl⟩, (htx _ kw_6_198), (htx _ kp_M_binary1)⟩ ⟨xPre_blind, va_recv hK hP (ci := 5) rfl (q0 := 3) rfl, (fun U hU hW => ⟨rfl, xPre_of hZ hS hFc hPc hDc hK U hU hW⟩)⟩ rfl rfl hl.1 rfl (lv_room (Nat.le_of_ble_eq_true rfl)) dM_finish_35 ⟨Nat.le_of_ble_eq_true rfl, Nat.le_of_ble_eq_true rfl⟩) hS (fun q _ h => hFc q h) hFc (fun u9 r3 t H1 locs ht hvm hr9 hB hz1 hk1 hS => ?_)
  obtain ⟨hra9, hP1, hK1, hD1⟩ := hB
  rw [ht] at hP1
  obtain ⟨hP, hD⟩ := xjoin (W := [(a6, .inl (cT 0, 1024, .inl f69)), (a3, .inl (cT 0, 4096, .inl f56)), (a1, .inl (cT 5, 8, .inr (.inr (.inr (.inr f49))))), (a2, .inl (cT 1, 8, .inl f53)), (a5, .inl (cT 0, 4096, .inl f64)), (a4, .inl (cT 4, 1024, .inr (.inr (.inr (.inr (va_up (va_up f61 0 (some r1)) 1 (some r2))))))), (r2, .inr (6, [.int 0, .long 0, .int 0, .int 0, .int 0, .int 1])), (a0, .inr (5, [v22, .ref a4, .int 2, v23, v24, v25, v26, v27, v28, v29, v30, v31, v32, v33, v34, .ref a5, .int 4, .int 4, .int 0, .int 100, v40, .ref a6, v41, v42, .ref a1, .ref a2, v43, v44, v45, v46, v47, v48])), (r1, .inr (6, [.int 0, .long 0, .int 0, .int 0, .int 0, .int 1]))]) hP hD [3, 2] [0, 1, 4, 5, 6, 7, 8] 7 rfl rfl (by decide) (by decide) hk1 hFc hP1 hD1
  generalize H1 = H at hP hS ⊢
  rw [hra9]
  refine W.eq (g2 := F0 m 38 ls [.ref r2]) rfl ?_
  refine lv_astore (lv' := [(8, .ref r2), (7, .ref r2), (6, .ref r1), (0, .ref a0), (1, .int x7), (2, .int 0), (3, .int 0), (4, .int x12), (5, .int x17)]) hx hb dM_finish_38 hl (by decide) rfl (fun ls hl => ?_)
  refine lv_goto (tgt := 119) hx hb dM_finish_40 (by decide) ?_
  refine lv_aload_n hx hb dM_finish_119 rfl (lv_at hl 3 rfl) ?_
  refine lv_iload_n hx hb dM_finish_120 rfl (lv_at hl 4 rfl) ?_
  refine lv_aload hx hb dM_finish_121 (lv_at hl 0 rfl) ?_
  obtain ⟨hPc, hDc, hFc⟩ := xcut (wc := [(a0, .inr (5, [v22, .ref a4, .int 2, v23, v24, v25, v26, v27, v28, v29, v30, v31, v32, v33, v34, .ref a5, .int 4, .int 4, .int 0, .int 100, v40, .ref a6, v41, v42, .ref a1, .ref a2, v43, v44, v45, v46, v47, v48])), (r2, .inr (6, [.int 0, .long 0, .int 0, .int 0, .int 0, .int 1])), (a6, .inl (cT 0, 1024, .inl f69)), (a1, .inl (cT 5, 8, .inr (.inr (.inr (.inr f49))))), (a5, .inl (cT 0, 4096, .inl f64)), (a2, .inl (cT 1, 8, .inl f53))]) hP hD hS hA [7, 6, 0, 2, 4, 3] rfl rfl (by decide)
  refine va_calli (va_runV (C := "ValueBenchModel") (As := [.int x7, .ref r2]) (rest := []) ⟨hx, hb, hml, hown, htx⟩ (cM_store_0 l hl9 D cT aK aV H.size a0 r2 a6 a1 a5 a2 x7 v22 (.ref a4) (.int 2) v23 v24 v25 v26 v27 v28 v29 v30 v31 v32 v33 v34 (.ref a5) (.int 4) (.int 4) (.int 0) (.int 100) v40 v41 v42 v43 v44 v45 v46 v47 v48 (.long 0) (.int 0) (.int 0) (.int 0) (.int 1) f69 f49 f64 f53 h8 h9 h10 h11 (by first | rfl | exact h50 | exact h51 | exact h52 | exact h54 | exact h55 | exact h57 | exact h58 | exact h59 | exact h60 | exact h65 | exact h66 | exact h67 | exact h68)) ⟨callB_of 2 htx (xw_goodC kw_6_124) rfl rfl rfl (htx _ kw_1_5) (htx _ kw_6_121) ⟨by decide, by decide, by decide +kernel⟩ ⟨Nat.le_of_ble_eq_true rfl, Nat.le_of_ble_eq_true rfl⟩, (htx _ kw_6_123), (htx _ kp_M_store)⟩ ⟨xPre_blind, va_recv hK hP (ci := 5) rfl (q0 := 7) rfl, (fun U hU hW => ⟨rfl, xPre_of hZ hS hFc hPc hDc hK U hU hW⟩)⟩ rfl rfl hl.1 rfl (lv_room (Nat.le_of_ble_eq_true rfl)) dM_finish_123 ⟨Nat.le_of_ble_eq_true rfl, Nat.le_of_ble_eq_true rfl⟩) hS (fun q _ h => hFc q h) hFc (fun r4 u9 t H1 locs ht hvm hr9 hB hz1 hk1 hS => ?_)
  obtain ⟨y5, y6, y7, y8, hP1, hK1, hD1⟩ := hB
  rw [ht] at hP1
  obtain ⟨hP, hD⟩ := xjoin (W := [(a3, .inl (cT 0, 4096, .inl f56)), (a4, .inl (cT 4, 1024, .inr (.inr (.inr (.inr (va_up (va_up f61 0 (some r1)) 1 (some r2))))))), (r1, .inr (6, [.int 0, .long 0, .int 0, .int 0, .int 0, .int 1])), (a0, .inr (5, [v22, .ref a4, .int 2, v23, v24, v25, v26, v27, v28, v29, v30, v31, v32, v33, v34, .ref a5, .int 4, .int 4, .int 0, .int 100, v40, .ref a6, .int 4, .int 4096, .ref a1, .ref a2, v43, v44, v45, v46, v47, v48])), (r2, .inr (6, [.int 0, .long 0, .int 0, .int 0, .int 0, .int 1])), (a6, .inl (cT 0, 1024, .inl (upd (upd (upd (upd f69 0 (vp_nar .byte y5)) 1 (vp_nar .byte y6)) 2 (vp_nar .byte y7)) 3 (vp_nar .byte y8)))), (a1, .inl (cT 5, 8, .inr (.inr (.inr (.inr f49))))), (a5, .inl (cT 0, 4096, .inl (upd (upd (upd (upd f64 0 (vp_nar .byte (vp_nar .byte y5))) 1 (vp_nar .byte (vp_nar .byte y6))) 2 (vp_nar .byte (vp_nar .byte y7))) 3 (vp_nar .byte (vp_nar .byte y8))))), (a2, .inl (cT 1, 8, .inl (upd f53 x7.toNatClampNeg 4)))]) hP hD [7, 6, 0, 2, 4, 3] [1, 5, 8] 3 rfl rfl (by decide) (by decide) hk1 hFc hP1 hD1
  generalize H1 = H at hP hS ⊢
  rw [hr9]
  refine W.eq (g2 := F0 m 126 ls [.int 4]) rfl ?_
  refine lv_istore (lv' := [(9, .int 4), (8, .ref r2), (7, .ref r2), (6, .ref r1), (0, .ref a0), (1, .int x7), (2, .int 0), (3, .int 0), (4, .int x12), (5, .int x17)]) hx hb dM_finish_126 hl (by decide) rfl (fun ls hl => ?_)
  refine lv_goto (tgt := 156) hx hb dM_finish_128 (by decide) ?_
  obtain ⟨hP9, hD9⟩ := xsub (wc := [(a0, .inr (5, [v22, .ref a4, .int 2, v23, v24, v25, v26, v27, v28, v29, v30, v31, v32, v33, v34, .ref a5, .int 4, .int 4, .int 0, .int 100, v40, .ref a6, .int 4, .int 4096, .ref a1, .ref a2, v43, v44, v45, v46, v47, v48])), (a1, .inl (cT 5, 8, .inr (.inr (.inr (.inr f49))))), (a2, .inl (cT 1, 8, .inl (upd f53 x7.toNatClampNeg 4))), (a3, .inl (cT 0, 4096, .inl f56)), (a4, .inl (cT 4, 1024, .inr (.inr (.inr (.inr (va_up (va_up f61 0 (some r1)) 1 (some r2))))))), (a5, .inl (cT 0, 4096, .inl (upd (upd (upd (upd f64 0 (vp_nar .byte (vp_nar .byte y5))) 1 (vp_nar .byte (vp_nar .byte y6))) 2 (vp_nar .byte (vp_nar .byte y7))) 3 (vp_nar .byte (vp_nar .byte y8))))), (a6, .inl (cT 0, 1024, .inl (upd (upd (upd (upd f69 0 (vp_nar .byte y5)) 1 (vp_nar .byte y6)) 2 (vp_nar .byte y7)) 3 (vp_nar .byte y8)))), (r1, .inr (6, [.int 0, .long 0, .int 0, .int 0, .int 0, .int 1])), (r2, .inr (6, [.int 0, .long 0, .int 0, .int 0, .int 0, .int 1]))]) hP hD [3, 6, 8, 0, 1, 7, 5, 2, 4] rfl rfl (by decide)
  refine W.widen (k := 2) (n := 12) (Nat.le_of_ble_eq_true rfl) (Nat.le_of_ble_eq_true rfl) ?_
  exact W.vret hx hb hr (fun t ht hW => ⟨⟨(), rfl, trivial, r1, r2, y5, y6, y7, y8, by rw [ht]; exact hP9, va_K.moved hW.alike hK, hD9⟩, hS.F ht⟩) hS.2.2 dM_finish_156
set_option maxHeartbeats 400000000 in
set_option maxRecDepth 100000 in
theorem cM_binary0_11 (l : Launch) (hl9 : l.stackTraces = false) (D : va_G) (cT : Nat → ClassId) (aK aV : Nat → Nat) (sz : Nat) (a0 : Nat) (a1 : Nat) (a2 : Nat) (a3 : Nat) (a4 : Nat) (a5 : Nat) (a6 : Nat) (x7 : Int32) (x12 : Int32) (x17 : Int32) (v22 : Value) (v23 : Value) (v24 : Value) (v25 : Value) (v26 : Value) (v27 : Value) (v28 : Value) (v29 : Value) (v30 : Value) (v31 : Value) (v32 : Value) (v33 : Value) (v34 : Value) (v35 : Value) (v36 : Value) (v37 : Value) (v38 : Value) (v39 : Value) (v40 : Value) (v41 : Value) (v42 : Value) (v43 : Value) (v44 : Value) (v45 : Value) (v46 : Value) (v47 : Value) (v48 : Value) (v49 : Value) (f50 : Nat → Option Nat) (f54 : Nat → Int32) (f57 : Nat → Int32) (f62 : Nat → Option Nat) (f65 : Nat → Int32) (f70 : Nat → Int32) (h8 : ¬ x7 < 0) (h9 : ¬ 7 < x7) (h10 : x7 ≤ 7) (h11 : vp_in x7 8) (h13 : ¬ x12 < 0) (h14 : ¬ 7 < x12) (h15 : x12 ≤ 7) (h16 : vp_in x12 8) (h18 : ¬ x17 < 0) (h19 : ¬ 7 < x17) (h20 : x17 ≤ 7) (h21 : vp_in x17 8) (h51 : f50 x12.toNatClampNeg = some a3) (h52 : f50 x17.toNatClampNeg = some a5) (h53 : f50 x7.toNatClampNeg = some a5) (h55 : f54 x12.toNatClampNeg = 4) (h56 : f54 x17.toNatClampNeg = 4) (h58 : f57 0 = 110) (h59 : f57 1 = 117) (h60 : f57 2 = 108) (h61 : f57 3 = 108) (h63 : f62 0 = none) (h64 : f62 1 = none) (h66 : f65 0 = 110) (h67 : f65 1 = 117) (h68 : f65 2 = 108) (h69 : f65 3 = 108) : xMet l yM_binary0 wyM_binary0 9 2 12 204 D cT aK aV sz [.ref a0, .int x7, .int 0, .int x12, .int x17] [(a0, .inr (5, [v22, .ref a4, v23, v24, v25, v26, v27, v28, v29, v30, v31, v32, v33, v34, v35, v36, v37, v38, v39, v40, v41, .ref a6, v42, v43, .ref a1, .ref a2, v44, v45, v46, v47, v48, v49])), (a1, .inl (cT 5, 8, .inr (.inr (.inr (.inr f50))))), (a2, .inl (cT 1, 8, .inl f54)), (a3, .inl (cT 0, 4096, .inl f57)), (a4, .inl (cT 4, 1024, .inr (.inr (.inr (.inr f62))))), (a5, .inl (cT 0, 4096, .inl f65)), (a6, .inl (cT 0, 1024, .inl f70))] (fun A => va_Qv (fun _ : Unit => True) (fun _ t => ∃ (q4 : Nat) (q5 : Nat) (y6 : Int32) (y7 : Int32) (y8 : Int32) (y9 : Int32), xB D xcl cT A [(a0, .inr (5, [.int 0, .ref a4, .int 2, v24, .int 0, v26, v27, .int 0, v29, .int 0, v31, v32, .int 0, v34, v35, .ref a5, .int 4, .int 4, .int 0, .int 100, v41, .ref a6, .int 4, .int 4096, .ref a1, .ref a2, v44, v45, v46, v47, v48, v49])), (a1, .inl (cT 5, 8, .inr (.inr (.inr (.inr f50))))), (a2, .inl (cT 1, 8, .inl (upd f54 x7.toNatClampNeg 4))), (a3, .inl (cT 0, 4096, .inl f57)), (a4, .inl (cT 4, 1024, .inr (.inr (.inr (.inr (va_up (va_up f62 0 (some q4)) 1 (some q5))))))), (a5, .inl (cT 0, 4096, .inl (upd (upd (upd (upd f65 0 (vp_nar .byte (vp_nar .byte y6))) 1 (vp_nar .byte (vp_nar .byte y7))) 2 (vp_nar .byte (vp_nar .byte y8))) 3 (vp_nar .byte (vp_nar .byte y9))))), (a6, .inl (cT 0, 1024, .inl (upd (upd (upd (upd f70 0 (vp_nar .byte y6)) 1 (vp_nar .byte y7)) 2 (vp_nar .byte y8)) 3 (vp_nar .byte y9)))), (q4, .inr (6, [.int 0, .long 0, .int 0, .int 0, .int 0, .int 1])), (q5, .inr (6, [.int 0, .long 0, .int 0, .int 0, .int 0, .int 1]))] t) A) := by
  refine Met.ofW (cc := prog_13_method_89_code) (maxL := 5) (ret := none) (by decide) rfl ?_
  intro p e s m args below meth c s₁ B hml hv
  obtain ⟨rfl, hsz, hZ, hP, hK, hD0⟩ := hv
  have hx := B.exec
  have hb := B.bytes
  have hr := B.returns
  have hts := atoms_spec (ws := wyM_binary0) B.pre
  have htx := fun w h => hts w (List.mem_cons_of_mem _ h)
  have hown : s.vm.findClass "ValueBenchModel" = some m.cls := findClass_of_methodNamed B.named
  have hlocks := B.notSynchronized
  subst hsz
  have hD := hD0.self (sz := s.heap.size)
  generalize hAe : va_A [(a0, .inr (5, [v22, .ref a4, v23, v24, v25, v26, v27, v28, v29, v30, v31, v32, v33, v34, v35, v36, v37, v38, v39, v40, v41, .ref a6, v42, v43, .ref a1, .ref a2, v44, v45, v46, v47, v48, v49])), (a1, .inl (cT 5, 8, .inr (.inr (.inr (.inr f50))))), (a2, .inl (cT 1, 8, .inl f54)), (a3, .inl (cT 0, 4096, .inl f57)), (a4, .inl (cT 4, 1024, .inr (.inr (.inr (.inr f62))))), (a5, .inl (cT 0, 4096, .inl f65)), (a6, .inl (cT 0, 1024, .inl f70))] s.heap.size = A at hD hZ ⊢
  have hA : ∀ q : Nat, s.heap.size ≤ q → A q := fun q h => by rw [← hAe]; exact Or.inr h
  have hS : va_S A s.heap s.heap [] := va_S.rf
  have hP : va_P D xcl [(a0, .inr (5, [v22, .ref a4, v23, v24, v25, v26, v27, v28, v29, v30, v31, v32, v33, v34, v35, v36, v37, v38, v39, v40, v41, .ref a6, v42, v43, .ref a1, .ref a2, v44, v45, v46, v47, v48, v49])), (a1, .inl (cT 5, 8, .inr (.inr (.inr (.inr f50))))), (a2, .inl (cT 1, 8, .inl f54)), (a3, .inl (cT 0, 4096, .inl f57)), (a4, .inl (cT 4, 1024, .inr (.inr (.inr (.inr f62))))), (a5, .inl (cT 0, 4096, .inl f65)), (a6, .inl (cT 0, 1024, .inl f70))] s.heap := hP
  have hl := lv_entry ([.ref a0, .int x7, .int 0, .int x12, .int x17]) (n := 5) (Nat.le_of_ble_eq_true rfl)
  rw [lg_entry_eq]
  generalize (lg_sl ([.ref a0, .int x7, .int 0, .int x12, .int x17]) ++ List.replicate (5 - (lg_sl ([.ref a0, .int x7, .int 0, .int x12, .int x17])).length) Slot.unset).toArray = ls at hl ⊢
  have hl : lv_has ls 5 [(0, .ref a0), (1, .int x7), (2, .int 0), (3, .int x12), (4, .int x17)] := hl
  refine lv_aload_n hx hb dM_binary0_0 rfl (lv_at hl 0 rfl) ?_
  obtain ⟨hPc, hDc, hFc⟩ := xcut (wc := [(a0, .inr (5, [v22, .ref a4, v23, v24, v25, v26, v27, v28, v29, v30, v31, v32, v33, v34, v35, v36, v37, v38, v39, v40, v41, .ref a6, v42, v43, .ref a1, .ref a2, v44, v45, v46, v47, v48, v49]))]) hP hD hS hA [0] rfl rfl (by decide)
  refine va_callv (va_runV (C := "ValueBenchModel") (As := []) (rest := []) ⟨hx, hb, hml, hown, htx⟩ (cM_begin_0 l hl9 D cT aK aV s.heap.size a0 v22 (.ref a4) v23 v24 v25 v26 v27 v28 v29 v30 v31 v32 v33 v34 v35 v36 v37 v38 v39 v40 v41 (.ref a6) v42 v43 (.ref a1) (.ref a2) v44 v45 v46 v47 v48 v49) ⟨callB_of 0 htx (xw_goodC kw_5_209) rfl rfl rfl (htx _ kw_1_5) (htx _ kw_5_206) ⟨by decide, by decide, by decide +kernel⟩ ⟨Nat.le_of_ble_eq_true rfl, Nat.le_of_ble_eq_true rfl⟩, (htx _ kw_5_208), (htx _ kp_M_begin)⟩ ⟨xPre_blind, va_recv hK hP (ci := 5) rfl (q0 := 0) rfl, (fun U hU hW => ⟨rfl, xPre_of hZ hS hFc hPc hDc hK U hU hW⟩)⟩ rfl rfl hl.1 rfl (lv_room (Nat.le_of_ble_eq_true rfl)) dM_binary0_1 ⟨Nat.le_of_ble_eq_true rfl, Nat.le_of_ble_eq_true rfl⟩) hS (fun q _ h => hFc q h) hFc (fun u9 t H1 locs ht hvm hr9 hB hz1 hk1 hS => ?_)
  obtain ⟨hP1, hK1, hD1⟩ := hB
  rw [ht] at hP1
  obtain ⟨hP, hD⟩ := xjoin (W := [(a1, .inl (cT 5, 8, .inr (.inr (.inr (.inr f50))))), (a2, .inl (cT 1, 8, .inl f54)), (a3, .inl (cT 0, 4096, .inl f57)), (a4, .inl (cT 4, 1024, .inr (.inr (.inr (.inr f62))))), (a5, .inl (cT 0, 4096, .inl f65)), (a6, .inl (cT 0, 1024, .inl f70)), (a0, .inr (5, [.int 0, .ref a4, .int 0, v24, .int 0, v26, v27, .int 0, v29, .int 0, v31, v32, .int 0, v34, v35, v36, v37, v38, v39, v40, v41, .ref a6, .int 0, .int 1000000000, .ref a1, .ref a2, v44, v45, v46, v47, v48, v49]))]) hP hD [0] [1, 2, 3, 4, 5, 6] 6 rfl rfl (by decide) (by decide) hk1 hFc hP1 hD1
  generalize H1 = H at hP hS ⊢
  refine lv_aload_n hx hb dM_binary0_4 rfl (lv_at hl 0 rfl) ?_
  refine lv_iload_n hx hb dM_binary0_5 rfl (lv_at hl 1 rfl) ?_
  obtain ⟨hPc, hDc, hFc⟩ := xcut (wc := []) hP hD hS hA [] rfl rfl (by decide)
  refine va_calli (va_runV (C := "ValueBenchModel") (As := [.int x7]) (rest := []) ⟨hx, hb, hml, hown, htx⟩ (cM_out_2 l hl9 D cT aK aV H.size a0 x7 h8 h9 h10 h11) ⟨callB_of 1 htx (xw_goodC kw_5_217) rfl rfl rfl (htx _ kw_1_5) (htx _ kw_5_214) ⟨by decide, by decide, by decide +kernel⟩ ⟨Nat.le_of_ble_eq_true rfl, Nat.le_of_ble_eq_true rfl⟩, (htx _ kw_5_216), (htx _ kp_M_out)⟩ ⟨xPre_blind, va_recv hK hP (ci := 5) rfl (q0 := 6) rfl, (fun U hU hW => ⟨rfl, xPre_of hZ hS hFc hPc hDc hK U hU hW⟩)⟩ rfl rfl hl.1 rfl (lv_room (Nat.le_of_ble_eq_true rfl)) dM_binary0_6 ⟨Nat.le_of_ble_eq_true rfl, Nat.le_of_ble_eq_true rfl⟩) hS (fun q _ h => hFc q h) hFc (fun r1 u9 t H1 locs ht hvm hr9 hB hz1 hk1 hS => ?_)
  obtain ⟨hP1, hK1, hD1⟩ := hB
  rw [ht] at hP1
  obtain ⟨hP, hD⟩ := xjoin (W := [(a1, .inl (cT 5, 8, .inr (.inr (.inr (.inr f50))))), (a2, .inl (cT 1, 8, .inl f54)), (a3, .inl (cT 0, 4096, .inl f57)), (a4, .inl (cT 4, 1024, .inr (.inr (.inr (.inr f62))))), (a5, .inl (cT 0, 4096, .inl f65)), (a6, .inl (cT 0, 1024, .inl f70)), (a0, .inr (5, [.int 0, .ref a4, .int 0, v24, .int 0, v26, v27, .int 0, v29, .int 0, v31, v32, .int 0, v34, v35, v36, v37, v38, v39, v40, v41, .ref a6, .int 0, .int 1000000000, .ref a1, .ref a2, v44, v45, v46, v47, v48, v49]))]) hP hD [] [0, 1, 2, 3, 4, 5, 6] 7 rfl rfl (by decide) (by decide) hk1 hFc hP1 hD1
  generalize H1 = H at hP hS ⊢
  rw [hr9]
  refine W.eq (g2 := F0 m 9 ls [.int 0]) rfl ?_
  refine lv_if_ne (tgt := 38) hx hb dM_binary0_9 (by decide) (fun h => ((by revert h; decide : False)).elim) (fun _ => ?_)
  refine lv_iload_n hx hb dM_binary0_12 rfl (lv_at hl 2 rfl) ?_
  refine lv_if_lt (tgt := 38) hx hb dM_binary0_13 (by decide) (fun h => ((by revert h; decide : False)).elim) (fun _ => ?_)
  refine lv_iload_n hx hb dM_binary0_16 rfl (lv_at hl 2 rfl) ?_
  refine lv_iconst (v := 4) hx hb dM_binary0_17 (by decide) ?_
  refine lv_icmp_gt (tgt := 38) hx hb dM_binary0_18 (by decide) (fun h => ((by revert h; decide : False)).elim) (fun _ => ?_)
  refine lv_aload_n hx hb dM_binary0_21 rfl (lv_at hl 0 rfl) ?_
  refine lv_iload_n hx hb dM_binary0_22 rfl (lv_at hl 3 rfl) ?_
  obtain ⟨hPc, hDc, hFc⟩ := xcut (wc := []) hP hD hS hA [] rfl rfl (by decide)
  refine va_calli (va_runV (C := "ValueBenchModel") (As := [.int x12]) (rest := []) ⟨hx, hb, hml, hown, htx⟩ (cM_out_2 l hl9 D cT aK aV H.size a0 x12 h13 h14 h15 h16) ⟨callB_of 1 htx (xw_goodC kw_5_217) rfl rfl rfl (htx _ kw_1_5) (htx _ kw_5_214) ⟨by decide, by decide, by decide +kernel⟩ ⟨Nat.le_of_ble_eq_true rfl, Nat.le_of_ble_eq_true rfl⟩, (htx _ kw_5_216), (htx _ kp_M_out)⟩ ⟨xPre_blind, va_recv hK hP (ci := 5) rfl (q0 := 6) rfl, (fun U hU hW => ⟨rfl, xPre_of hZ hS hFc hPc hDc hK U hU hW⟩)⟩ rfl rfl hl.1 rfl (lv_room (Nat.le_of_ble_eq_true rfl)) dM_binary0_23 ⟨Nat.le_of_ble_eq_true rfl, Nat.le_of_ble_eq_true rfl⟩) hS (fun q _ h => hFc q h) hFc (fun r2 u9 t H1 locs ht hvm hr9 hB hz1 hk1 hS => ?_)
  obtain ⟨hP1, hK1, hD1⟩ := hB
  rw [ht] at hP1
  obtain ⟨hP, hD⟩ := xjoin (W := [(a1, .inl (cT 5, 8, .inr (.inr (.inr (.inr f50))))), (a2, .inl (cT 1, 8, .inl f54)), (a3, .inl (cT 0, 4096, .inl f57)), (a4, .inl (cT 4, 1024, .inr (.inr (.inr (.inr f62))))), (a5, .inl (cT 0, 4096, .inl f65)), (a6, .inl (cT 0, 1024, .inl f70)), (a0, .inr (5, [.int 0, .ref a4, .int 0, v24, .int 0, v26, v27, .int 0, v29, .int 0, v31, v32, .int 0, v34, v35, v36, v37, v38, v39, v40, v41, .ref a6, .int 0, .int 1000000000, .ref a1, .ref a2, v44, v45, v46, v47, v48, v49]))]) hP hD [] [0, 1, 2, 3, 4, 5, 6] 7 rfl rfl (by decide) (by decide) hk1 hFc hP1 hD1
  generalize H1 = H at hP hS ⊢
  rw [hr9]
  refine W.eq (g2 := F0 m 26 ls [.int 0]) rfl ?_
  refine lv_if_ne (tgt := 38) hx hb dM_binary0_26 (by decide) (fun h => ((by revert h; decide : False)).elim) (fun _ => ?_)
  refine lv_aload_n hx hb dM_binary0_29 rfl (lv_at hl 0 rfl) ?_
  refine lv_iload hx hb dM_binary0_30 (lv_at hl 4 rfl) ?_
  obtain ⟨hPc, hDc, hFc⟩ := xcut (wc := []) hP hD hS hA [] rfl rfl (by decide)
  refine va_calli (va_runV (C := "ValueBenchModel") (As := [.int x17]) (rest := []) ⟨hx, hb, hml, hown, htx⟩ (cM_out_2 l hl9 D cT aK aV H.size a0 x17 h18 h19 h20 h21) ⟨callB_of 1 htx (xw_goodC kw_5_217) rfl rfl rfl (htx _ kw_1_5) (htx _ kw_5_214) ⟨by decide, by decide, by decide +kernel⟩ ⟨Nat.le_of_ble_eq_true rfl, Nat.le_of_ble_eq_true rfl⟩, (htx _ kw_5_216), (htx _ kp_M_out)⟩ ⟨xPre_blind, va_recv hK hP (ci := 5) rfl (q0 := 6) rfl, (fun U hU hW => ⟨rfl, xPre_of hZ hS hFc hPc hDc hK U hU hW⟩)⟩ rfl rfl hl.1 rfl (lv_room (Nat.le_of_ble_eq_true rfl)) dM_binary0_32 ⟨Nat.le_of_ble_eq_true rfl, Nat.le_of_ble_eq_true rfl⟩) hS (fun q _ h => hFc q h) hFc (fun r3 u9 t H1 locs ht hvm hr9 hB hz1 hk1 hS => ?_)
  obtain ⟨hP1, hK1, hD1⟩ := hB
  rw [ht] at hP1
  obtain ⟨hP, hD⟩ := xjoin (W := [(a1, .inl (cT 5, 8, .inr (.inr (.inr (.inr f50))))), (a2, .inl (cT 1, 8, .inl f54)), (a3, .inl (cT 0, 4096, .inl f57)), (a4, .inl (cT 4, 1024, .inr (.inr (.inr (.inr f62))))), (a5, .inl (cT 0, 4096, .inl f65)), (a6, .inl (cT 0, 1024, .inl f70)), (a0, .inr (5, [.int 0, .ref a4, .int 0, v24, .int 0, v26, v27, .int 0, v29, .int 0, v31, v32, .int 0, v34, v35, v36, v37, v38, v39, v40, v41, .ref a6, .int 0, .int 1000000000, .ref a1, .ref a2, v44, v45, v46, v47, v48, v49]))]) hP hD [] [0, 1, 2, 3, 4, 5, 6] 7 rfl rfl (by decide) (by decide) hk1 hFc hP1 hD1
  generalize H1 = H at hP hS ⊢
  rw [hr9]
  refine W.eq (g2 := F0 m 35 ls [.int 0]) rfl ?_
  refine lv_if_eq (tgt := 46) hx hb dM_binary0_35 (by decide) (fun _ => ?_) (fun h => ((by revert h; decide : False)).elim)
  refine lv_aload_n hx hb dM_binary0_46 rfl (lv_at hl 0 rfl) ?_
  refine lv_iload_n hx hb dM_binary0_47 rfl (lv_at hl 1 rfl) ?_
  refine lv_iconst (v := 0) hx hb dM_binary0_48 (by decide) ?_
  refine lv_iload_n hx hb dM_binary0_49 rfl (lv_at hl 2 rfl) ?_
  refine lv_iload_n hx hb dM_binary0_50 rfl (lv_at hl 3 rfl) ?_
  refine lv_iload hx hb dM_binary0_51 (lv_at hl 4 rfl) ?_
  obtain ⟨hPc, hDc, hFc⟩ := xcut (wc := [(a0, .inr (5, [.int 0, .ref a4, .int 0, v24, .int 0, v26, v27, .int 0, v29, .int 0, v31, v32, .int 0, v34, v35, v36, v37, v38, v39, v40, v41, .ref a6, .int 0, .int 1000000000, .ref a1, .ref a2, v44, v45, v46, v47, v48, v49])), (a1, .inl (cT 5, 8, .inr (.inr (.inr (.inr f50))))), (a2, .inl (cT 1, 8, .inl f54)), (a3, .inl (cT 0, 4096, .inl f57)), (a4, .inl (cT 4, 1024, .inr (.inr (.inr (.inr f62))))), (a5, .inl (cT 0, 4096, .inl f65)), (a6, .inl (cT 0, 1024, .inl f70))]) hP hD hS hA [6, 0, 1, 2, 3, 4, 5] rfl rfl (by decide)
  refine va_callv (vx_runVW (C := "ValueBenchModel") (As := [.int x7, .int 0, .int 0, .int x12, .int x17]) (rest := []) ⟨hx, hb, hml, hown, htx⟩ (cM_finish_3 l hl9 D cT aK aV H.size a0 a1 a2 a3 a4 a5 a6 x7 x12 x17 (.int 0) v24 (.int 0) v26 v27 (.int 0) v29 (.int 0) v31 v32 (.int 0) v34 v35 v36 v37 v38 v39 v40 v41 (.int 0) (.int 1000000000) v44 v45 v46 v47 v48 v49 f50 f54 f57 f62 f65 f70 h8 h9 h10 h11 h13 h14 h15 h16 h18 h19 h20 h21 (by first | rfl | exact h51 | exact h52 | exact h53 | exact h55 | exact h56 | exact h58 | exact h59 | exact h60 | exact h61 | exact h63 | exact h64 | exact h66 | exact h67 | exact h68 | exact h69) (by first | rfl | exact h51 | exact h52 | exact h53 | exact h55 | exact h56 | exact h58 | exact h59 | exact h60 | exact h61 | exact h63 | exact h64 | exact h66 | exact h67 | exact h68 | exact h69) (by first | rfl | exact h51 | exact h52 | exact h53 | exact h55 | exact h56 | exact h58 | exact h59 | exact h60 | exact h61 | exact h63 | exact h64 | exact h66 | exact h67 | exact h68 | exact h69) (by first | rfl | exact h51 | exact h52 | exact h53 | exact h55 | exact h56 | exact h58 | exact h59 | exact h60 | exact h61 | exact h63 | exact h64 | exact h66 | exact h67 | exact h68 | exact h69) (by first | rfl | exact h51 | exact h52 | exact h53 | exact h55 | exact h56 | exact h58 | exact h59 | exact h60 | exact h61 | exact h63 | exact h64 | exact h66 | exact h67 | exact h68 | exact h69) (by first | rfl | exact h51 | exact h52 | exact h53 | exact h55 | exact h56 | exact h58 | exact h59 | exact h60 | exact h61 | exact h63 | exact h64 | exact h66 | exact h67 | exact h68 | exact h69) (by first | rfl | exact h51 | exact h52 | exact h53 | exact h55 | exact h56 | exact h58 | exact h59 | exact h60 | exact h61 | exact h63 | exact h64 | exact h66 | exact h67 | exact h68 | exact h69) (by first | rfl | exact h51 | exact h52 | exact h53 | exact h55 | exact h56 | exact h58 | exact h59 | exact h60 | exact h61 | exact h63 | exact h64 | exact h66 | exact h67 | exact h68 | exact h69) (by first | rfl | exact h51 | exact h52 | exact h53 | exact h55 | exact h56 | exact h58 | exact h59 | exact h60 | exact h61 | exact h63 | exact h64 | exact h66 | exact h67 | exact h68 | exact h69) (by first | rfl | exact h51 | exact h52 | exact h53 | exact h55 | exact h56 | exact h58 | exact h59 | exact h60 | exact h61 | exact h63 | exact h64 | exact h66 | exact h67 | exact h68 | exact h69) (by first | rfl | exact h51 | exact h52 | exact h53 | exact h55 | exact h56 | exact h58 | exact h59 | exact h60 | exact h61 | exact h63 | exact h64 | exact h66 | exact h67 | exact h68 | exact h69) (by first | rfl | exact h51 | exact h52 | exact h53 | exact h55 | exact h56 | exact h58 | exact h59 | exact h60 | exact h61 | exact h63 | exact h64 | exact h66 | exact h67 | exact h68 | exact h69) (by first | rfl | exact h51 | exact h52 | exact h53 | exact h55 | exact h56 | exact h58 | exact h59 | exact h60 | exact h61 | exact h63 | exact h64 | exact h66 | exact h67 | exact h68 | exact h69) (by first | rfl | exact h51 | exact h52 | exact h53 | exact h55 | exact h56 | exact h58 | exact h59 | exact h60 | exact h61 | exact h63 | exact h64 | exact h66 | exact h67 | exact h68 | exact h69) (by first | rfl | exact h51 | exact h52 | exact h53 | exact h55 | exact h56 | exact h58 | exact h59 | exact h60 | exact h61 | exact h63 | exact h64 | exact h66 | exact h67 | exact h68 | exact h69)) (xcVW 5 htx (xw_goodC kw_6_195) rfl rfl rfl (htx _ kw_1_5) (htx _ kw_6_192) ⟨by decide, by decide, by decide +kernel⟩ ⟨Nat.le_of_ble_eq_true rfl, Nat.le_of_ble_eq_true rfl⟩ (htx _ kw_6_194) (htx _ kp_M_finish)) ⟨xPre_blind, va_recv hK hP (ci := 5) rfl (q0 := 6) rfl, (fun U hU hW => ⟨rfl, xPre_of hZ hS hFc hPc hDc hK U hU hW⟩)⟩ rfl rfl hl.1 rfl (lv_room (Nat.le_of_ble_eq_true rfl)) dM_binary0_53 ⟨Nat.le_of_ble_eq_true rfl, Nat.le_of_ble_eq_true rfl⟩) hS (fun q _ h => hFc q h) hFc (fun u9 t H1 locs ht hvm hr9 hB hz1 hk1 hS => ?_)
  obtain ⟨q4, q5, y6, y7, y8, y9, hP1, hK1, hD1⟩ := hB
  rw [ht] at hP1
  obtain ⟨hP, hD⟩ := xjoin (W := [(a0, .inr (5, [.int 0, .ref a4, .int 2, v24, .int 0, v26, v27, .int 0, v29, .int 0, v31, v32, .int 0, v34, v35, .ref a5, .int 4, .int 4, .int 0, .int 100, v41, .ref a6, .int 4, .int 4096, .ref a1, .ref a2, v44, v45, v46, v47, v48, v49])), (a1, .inl (cT 5, 8, .inr (.inr (.inr (.inr f50))))), (a2, .inl (cT 1, 8, .inl (upd f54 x7.toNatClampNeg 4))), (a3, .inl (cT 0, 4096, .inl f57)), (a4, .inl (cT 4, 1024, .inr (.inr (.inr (.inr (va_up (va_up f62 0 (some q4)) 1 (some q5))))))), (a5, .inl (cT 0, 4096, .inl (upd (upd (upd (upd f65 0 (vp_nar .byte (vp_nar .byte y6))) 1 (vp_nar .byte (vp_nar .byte y7))) 2 (vp_nar .byte (vp_nar .byte y8))) 3 (vp_nar .byte (vp_nar .byte y9))))), (a6, .inl (cT 0, 1024, .inl (upd (upd (upd (upd f70 0 (vp_nar .byte y6)) 1 (vp_nar .byte y7)) 2 (vp_nar .byte y8)) 3 (vp_nar .byte y9)))), (q4, .inr (6, [.int 0, .long 0, .int 0, .int 0, .int 0, .int 1])), (q5, .inr (6, [.int 0, .long 0, .int 0, .int 0, .int 0, .int 1]))]) hP hD [6, 0, 1, 2, 3, 4, 5] [] 0 rfl rfl (by decide) (by decide) hk1 hFc hP1 hD1
  generalize H1 = H at hP hS ⊢
  obtain ⟨hP9, hD9⟩ := xsub (wc := [(a0, .inr (5, [.int 0, .ref a4, .int 2, v24, .int 0, v26, v27, .int 0, v29, .int 0, v31, v32, .int 0, v34, v35, .ref a5, .int 4, .int 4, .int 0, .int 100, v41, .ref a6, .int 4, .int 4096, .ref a1, .ref a2, v44, v45, v46, v47, v48, v49])), (a1, .inl (cT 5, 8, .inr (.inr (.inr (.inr f50))))), (a2, .inl (cT 1, 8, .inl (upd f54 x7.toNatClampNeg 4))), (a3, .inl (cT 0, 4096, .inl f57)), (a4, .inl (cT 4, 1024, .inr (.inr (.inr (.inr (va_up (va_up f62 0 (some q4)) 1 (some q5))))))), (a5, .inl (cT 0, 4096, .inl (upd (upd (upd (upd f65 0 (vp_nar .byte (vp_nar .byte y6))) 1 (vp_nar .byte (vp_nar .byte y7))) 2 (vp_nar .byte (vp_nar .byte y8))) 3 (vp_nar .byte (vp_nar .byte y9))))), (a6, .inl (cT 0, 1024, .inl (upd (upd (upd (upd f70 0 (vp_nar .byte y6)) 1 (vp_nar .byte y7)) 2 (vp_nar .byte y8)) 3 (vp_nar .byte y9)))), (q4, .inr (6, [.int 0, .long 0, .int 0, .int 0, .int 0, .int 1])), (q5, .inr (6, [.int 0, .long 0, .int 0, .int 0, .int 0, .int 1]))]) hP hD [0, 1, 2, 3, 4, 5, 6, 7, 8] rfl rfl (by decide)
  refine W.widen (k := 2) (n := 12) (Nat.le_of_ble_eq_true rfl) (Nat.le_of_ble_eq_true rfl) ?_
  exact W.vret hx hb hr (fun t ht hW => ⟨⟨(), rfl, trivial, q4, q5, y6, y7, y8, y9, by rw [ht]; exact hP9, va_K.moved hW.alike hK, hD9⟩, hS.F ht⟩) hS.2.2 dM_binary0_56
set_option maxHeartbeats 400000000 in
set_option maxRecDepth 100000 in
theorem cM_finish_4 (l : Launch) (hl9 : l.stackTraces = false) (D : va_G) (cT : Nat → ClassId) (aK aV : Nat → Nat) (sz : Nat) (a0 : Nat) (a1 : Nat) (a2 : Nat) (a3 : Nat) (a4 : Nat) (a5 : Nat) (a6 : Nat) (a7 : Nat) (x8 : Int32) (x13 : Int32) (x18 : Int32) (v23 : Value) (v24 : Value) (v25 : Value) (v26 : Value) (v27 : Value) (v28 : Value) (v29 : Value) (v30 : Value) (v31 : Value) (v32 : Value) (v33 : Value) (v34 : Value) (v35 : Value) (v36 : Value) (v37 : Value) (v38 : Value) (v39 : Value) (v40 : Value) (v41 : Value) (v42 : Value) (v43 : Value) (v44 : Value) (v45 : Value) (v46 : Value) (v47 : Value) (v48 : Value) (v49 : Value) (f50 : Nat → Option Nat) (f54 : Nat → Int32) (f57 : Nat → Int32) (f62 : Nat → Option Nat) (f65 : Nat → Int32) (f70 : Nat → Int32) (f71 : Nat → Int32) (h9 : ¬ x8 < 0) (h10 : ¬ 7 < x8) (h11 : x8 ≤ 7) (h12 : vp_in x8 8) (h14 : ¬ x13 < 0) (h15 : ¬ 7 < x13) (h16 : x13 ≤ 7) (h17 : vp_in x13 8) (h19 : ¬ x18 < 0) (h20 : ¬ 7 < x18) (h21 : x18 ≤ 7) (h22 : vp_in x18 8) (h51 : f50 x13.toNatClampNeg = some a3) (h52 : f50 x18.toNatClampNeg = some a5) (h53 : f50 x8.toNatClampNeg = some a7) (h55 : f54 x13.toNatClampNeg = 4) (h56 : f54 x18.toNatClampNeg = 4) (h58 : f57 0 = 110) (h59 : f57 1 = 117) (h60 : f57 2 = 108) (h61 : f57 3 = 108) (h63 : f62 0 = none) (h64 : f62 1 = none) (h66 : f65 0 = 110) (h67 : f65 1 = 117) (h68 : f65 2 = 108) (h69 : f65 3 = 108) : xMet l yM_finish wyM_finish 8 2 12 175 D cT aK aV sz [.ref a0, .int x8, .int 0, .int 0, .int x13, .int x18] [(a0, .inr (5, [v23, .ref a4, .int 0, v24, v25, v26, v27, v28, v29, v30, v31, v32, v33, v34, v35, v36, v37, v38, v39, v40, v41, .ref a6, v42, v43, .ref a1, .ref a2, v44, v45, v46, v47, v48, v49])), (a1, .inl (cT 5, 8, .inr (.inr (.inr (.inr f50))))), (a2, .inl (cT 1, 8, .inl f54)), (a3, .inl (cT 0, 4096, .inl f57)), (a4, .inl (cT 4, 1024, .inr (.inr (.inr (.inr f62))))), (a5, .inl (cT 0, 4096, .inl f65)), (a6, .inl (cT 0, 1024, .inl f70)), (a7, .inl (cT 0, 4096, .inl f71))] (fun A => va_Qv (fun _ : Unit => True) (fun _ t => ∃ (r1 : Nat) (r2 : Nat) (y5 : Int32) (y6 : Int32) (y7 : Int32) (y8 : Int32), xB D xcl cT A [(a0, .inr (5, [v23, .ref a4, .int 2, v24, v25, v26, v27, v28, v29, v30, v31, v32, v33, v34, v35, .ref a5, .int 4, .int 4, .int 0, .int 100, v41, .ref a6, .int 4, .int 4096, .ref a1, .ref a2, v44, v45, v46, v47, v48, v49])), (a1, .inl (cT 5, 8, .inr (.inr (.inr (.inr f50))))), (a2, .inl (cT 1, 8, .inl (upd f54 x8.toNatClampNeg 4))), (a3, .inl (cT 0, 4096, .inl f57)), (a4, .inl (cT 4, 1024, .inr (.inr (.inr (.inr (va_up (va_up f62 0 (some r1)) 1 (some r2))))))), (a5, .inl (cT 0, 4096, .inl f65)), (a6, .inl (cT 0, 1024, .inl (upd (upd (upd (upd f70 0 (vp_nar .byte y5)) 1 (vp_nar .byte y6)) 2 (vp_nar .byte y7)) 3 (vp_nar .byte y8)))), (a7, .inl (cT 0, 4096, .inl (upd (upd (upd (upd f71 0 (vp_nar .byte (vp_nar .byte y5))) 1 (vp_nar .byte (vp_nar .byte y6))) 2 (vp_nar .byte (vp_nar .byte y7))) 3 (vp_nar .byte (vp_nar .byte y8))))), (r1, .inr (6, [.int 0, .long 0, .int 0, .int 0, .int 0, .int 1])), (r2, .inr (6, [.int 0, .long 0, .int 0, .int 0, .int 0, .int 1]))] t) A) := by
  refine va_MetW (cc := prog_13_method_90_code) (maxL := 10) (ret := none) (hh := [(0, 128, 131, 83), (0, 128, 149, 86)]) (by decide) rfl ?_
  intro p e s m args below meth c s₁ B hml hv
  obtain ⟨rfl, hsz, hZ, hP, hK, hD0⟩ := hv
  have hx := B.exec
  have hb := B.bytes
  have hr := B.returns
  have hts := atoms_spec (ws := wyM_finish) B.pre
  have htx := fun w h => hts w (List.mem_cons_of_mem _ h)
  have hown : s.vm.findClass "ValueBenchModel" = some m.cls := findClass_of_methodNamed B.named
  have hlocks := B.notSynchronized
  subst hsz
  have hD := hD0.self (sz := s.heap.size)
  generalize hAe : va_A [(a0, .inr (5, [v23, .ref a4, .int 0, v24, v25, v26, v27, v28, v29, v30, v31, v32, v33, v34, v35, v36, v37, v38, v39, v40, v41, .ref a6, v42, v43, .ref a1, .ref a2, v44, v45, v46, v47, v48, v49])), (a1, .inl (cT 5, 8, .inr (.inr (.inr (.inr f50))))), (a2, .inl (cT 1, 8, .inl f54)), (a3, .inl (cT 0, 4096, .inl f57)), (a4, .inl (cT 4, 1024, .inr (.inr (.inr (.inr f62))))), (a5, .inl (cT 0, 4096, .inl f65)), (a6, .inl (cT 0, 1024, .inl f70)), (a7, .inl (cT 0, 4096, .inl f71))] s.heap.size = A at hD hZ ⊢
  have hA : ∀ q : Nat, s.heap.size ≤ q → A q := fun q h => by rw [← hAe]; exact Or.inr h
  have hS : va_S A s.heap s.heap [] := va_S.rf
  have hP : va_P D xcl [(a0, .inr (5, [v23, .ref a4, .int 0, v24, v25, v26, v27, v28, v29, v30, v31, v32, v33, v34, v35, v36, v37, v38, v39, v40, v41, .ref a6, v42, v43, .ref a1, .ref a2, v44, v45, v46, v47, v48, v49])), (a1, .inl (cT 5, 8, .inr (.inr (.inr (.inr f50))))), (a2, .inl (cT 1, 8, .inl f54)), (a3, .inl (cT 0, 4096, .inl f57)), (a4, .inl (cT 4, 1024, .inr (.inr (.inr (.inr f62))))), (a5, .inl (cT 0, 4096, .inl f65)), (a6, .inl (cT 0, 1024, .inl f70)), (a7, .inl (cT 0, 4096, .inl f71))] s.heap := hP
  have hl := lv_entry ([.ref a0, .int x8, .int 0, .int 0, .int x13, .int x18]) (n := 10) (Nat.le_of_ble_eq_true rfl)
  rw [lg_entry_eq]
  generalize (lg_sl ([.ref a0, .int x8, .int 0, .int 0, .int x13, .int x18]) ++ List.replicate (10 - (lg_sl ([.ref a0, .int x8, .int 0, .int 0, .int x13, .int x18])).length) Slot.unset).toArray = ls at hl ⊢
  have hl : lv_has ls 10 [(0, .ref a0), (1, .int x8), (2, .int 0), (3, .int 0), (4, .int x13), (5, .int x18)] := hl
  have htab := vx_table (x := yM_finish) B (hts _ List.mem_cons_self)
  refine lv_aload_n hx hb dM_finish_0 rfl (lv_at hl 0 rfl) ?_
  refine lv_iload hx hb dM_finish_1 (lv_at hl 4 rfl) ?_
  obtain ⟨hPc, hDc, hFc⟩ := xcut (wc := [(a0, .inr (5, [v23, .ref a4, .int 0, v24, v25, v26, v27, v28, v29, v30, v31, v32, v33, v34, v35, v36, v37, v38, v39, v40, v41, .ref a6, v42, v43, .ref a1, .ref a2, v44, v45, v46, v47, v48, v49])), (a1, .inl (cT 5, 8, .inr (.inr (.inr (.inr f50))))), (a2, .inl (cT 1, 8, .inl f54)), (a3, .inl (cT 0, 4096, .inl f57)), (a4, .inl (cT 4, 1024, .inr (.inr (.inr (.inr f62)))))]) hP hD hS hA [0, 1, 2, 3, 4] rfl rfl (by decide)
  refine va_callr (va_runV (C := "ValueBenchModel") (As := [.int x13]) (rest := []) ⟨hx, hb, hml, hown, htx⟩ (cM_register_0 l hl9 D cT aK aV s.heap.size a0 a1 a2 a3 a4 x13 v23 v24 v25 v26 v27 v28 v29 v30 v31 v32 v33 v34 v35 v36 v37 v38 v39 v40 v41 (.ref a6) v42 v43 v44 v45 v46 v47 v48 v49 f50 f54 f57 f62 h14 h15 h16 h17 (by first | rfl | exact h51 | exact h52 | exact h53 | exact h55 | exact h56 | exact h58 | exact h59 | exact h60 | exact h61 | exact h63 | exact h64 | exact h66 | exact h67 | exact h68 | exact h69) (by first | rfl | exact h51 | exact h52 | exact h53 | exact h55 | exact h56 | exact h58 | exact h59 | exact h60 | exact h61 | exact h63 | exact h64 | exact h66 | exact h67 | exact h68 | exact h69) (by first | rfl | exact h51 | exact h52 | exact h53 | exact h55 | exact h56 | exact h58 | exact h59 | exact h60 | exact h61 | exact h63 | exact h64 | exact h66 | exact h67 | exact h68 | exact h69) (by first | rfl | exact h51 | exact h52 | exact h53 | exact h55 | exact h56 | exact h58 | exact h59 | exact h60 | exact h61 | exact h63 | exact h64 | exact h66 | exact h67 | exact h68 | exact h69) (by first | rfl | exact h51 | exact h52 | exact h53 | exact h55 | exact h56 | exact h58 | exact h59 | exact h60 | exact h61 | exact h63 | exact h64 | exact h66 | exact h67 | exact h68 | exact h69) (by first | rfl | exact h51 | exact h52 | exact h53 | exact h55 | exact h56 | exact h58 | exact h59 | exact h60 | exact h61 | exact h63 | exact h64 | exact h66 | exact h67 | exact h68 | exact h69) (by first | rfl | exact h51 | exact h52 | exact h53 | exact h55 | exact h56 | exact h58 | exact h59 | exact h60 | exact h61 | exact h63 | exact h64 | exact h66 | exact h67 | exact h68 | exact h69)) ⟨callB_of 1 htx (xw_goodC kw_6_170) rfl rfl rfl (htx _ kw_1_5) (htx _ kw_6_167) ⟨by decide, by decide, by decide +kernel⟩ ⟨Nat.le_of_ble_eq_true rfl, Nat.le_of_ble_eq_true rfl⟩, (htx _ kw_6_169), (htx _ kp_M_register)⟩ ⟨xPre_blind, va_recv hK hP (ci := 5) rfl (q0 := 0) rfl, (fun U hU hW => ⟨rfl, xPre_of hZ hS hFc hPc hDc hK U hU hW⟩)⟩ rfl rfl hl.1 rfl (lv_room (Nat.le_of_ble_eq_true rfl)) dM_finish_3 ⟨Nat.le_of_ble_eq_true rfl, Nat.le_of_ble_eq_true rfl⟩) hS (fun q _ h => hFc q h) hFc (fun u9 r1 t H1 locs ht hvm hr9 hB hz1 hk1 hS => ?_)
  obtain ⟨hP1, hK1, hD1⟩ := hB
  rw [ht] at hP1
  obtain ⟨hP, hD⟩ := xjoin (W := [(a5, .inl (cT 0, 4096, .inl f65)), (a6, .inl (cT 0, 1024, .inl f70)), (a7, .inl (cT 0, 4096, .inl f71)), (a0, .inr (5, [v23, .ref a4, .int 1, v24, v25, v26, v27, v28, v29, v30, v31, v32, v33, v34, v35, .ref a3, .int 4, .int 4, .int 0, .int 100, v41, .ref a6, v42, v43, .ref a1, .ref a2, v44, v45, v46, v47, v48, v49])), (a1, .inl (cT 5, 8, .inr (.inr (.inr (.inr f50))))), (a2, .inl (cT 1, 8, .inl f54)), (a3, .inl (cT 0, 4096, .inl f57)), (a4, .inl (cT 4, 1024, .inr (.inr (.inr (.inr (va_up f62 0 (some r1))))))), (r1, .inr (6, [.int 0, .long 0, .int 0, .int 0, .int 0, .int 1]))]) hP hD [0, 1, 2, 3, 4] [5, 6, 7] 3 rfl rfl (by decide) (by decide) hk1 hFc hP1 hD1
  generalize H1 = H at hP hS ⊢
  refine W.eq (g2 := F0 m 6 ls [.ref r1]) rfl ?_
  refine lv_astore (lv' := [(6, .ref r1), (0, .ref a0), (1, .int x8), (2, .int 0), (3, .int 0), (4, .int x13), (5, .int x18)]) hx hb dM_finish_6 hl (by decide) rfl (fun ls hl => ?_)
  refine lv_iload_n hx hb dM_finish_8 rfl (lv_at hl 3 rfl) ?_
  refine lv_iconst (v := 1) hx hb dM_finish_9 (by decide) ?_
  refine lv_icmp_ne (tgt := 17) hx hb dM_finish_10 (by decide) (fun _ => ?_) (fun h => ((by revert h; decide : False)).elim)
  refine lv_aload_n hx hb dM_finish_17 rfl (lv_at hl 1 rfl) ?_
  refine lv_iload hx hb dM_finish_18 (lv_at hl 6 rfl) ?_
  obtain ⟨hPc, hDc, hFc⟩ := xcut (wc := [(a0, .inr (5, [v23, .ref a4, .int 1, v24, v25, v26, v27, v28, v29, v30, v31, v32, v33, v34, v35, .ref a3, .int 4, .int 4, .int 0, .int 100, v41, .ref a6, v42, v43, .ref a1, .ref a2, v44, v45, v46, v47, v48, v49])), (a1, .inl (cT 5, 8, .inr (.inr (.inr (.inr f50))))), (a2, .inl (cT 1, 8, .inl f54)), (a5, .inl (cT 0, 4096, .inl f65)), (a4, .inl (cT 4, 1024, .inr (.inr (.inr (.inr (va_up f62 0 (some r1)))))))]) hP hD hS hA [3, 4, 5, 0, 7] rfl rfl (by decide)
  refine va_callr (va_runV (C := "ValueBenchModel") (As := [.int x18]) (rest := []) ⟨hx, hb, hml, hown, htx⟩ (cM_register_1 l hl9 D cT aK aV H.size a0 a1 a2 a5 a4 x18 v23 v24 v25 v26 v27 v28 v29 v30 v31 v32 v33 v34 v35 (.ref a3) (.int 4) (.int 4) (.int 0) (.int 100) v41 (.ref a6) v42 v43 v44 v45 v46 v47 v48 v49 f50 f54 f65 (va_up f62 0 (some r1)) h19 h20 h21 h22 (by first | rfl | exact h51 | exact h52 | exact h53 | exact h55 | exact h56 | exact h58 | exact h59 | exact h60 | exact h61 | exact h64 | exact h66 | exact h67 | exact h68 | exact h69) (by first | rfl | exact h51 | exact h52 | exact h53 | exact h55 | exact h56 | exact h58 | exact h59 | exact h60 | exact h61 | exact h64 | exact h66 | exact h67 | exact h68 | exact h69) (by first | rfl | exact h51 | exact h52 | exact h53 | exact h55 | exact h56 | exact h58 | exact h59 | exact h60 | exact h61 | exact h64 | exact h66 | exact h67 | exact h68 | exact h69) (by first | rfl | exact h51 | exact h52 | exact h53 | exact h55 | exact h56 | exact h58 | exact h59 | exact h60 | exact h61 | exact h64 | exact h66 | exact h67 | exact h68 | exact h69) (by first | rfl | exact h51 | exact h52 | exact h53 | exact h55 | exact h56 | exact h58 | exact h59 | exact h60 | exact h61 | exact h64 | exact h66 | exact h67 | exact h68 | exact h69) (by first | rfl | exact h51 | exact h52 | exact h53 | exact h55 | exact h56 | exact h58 | exact h59 | exact h60 | exact h61 | exact h64 | exact h66 | exact h67 | exact h68 | exact h69) (by first | rfl | exact h51 | exact h52 | exact h53 | exact h55 | exact h56 | exact h58 | exact h59 | exact h60 | exact h61 | exact h64 | exact h66 | exact h67 | exact h68 | exact h69)) ⟨callB_of 1 htx (xw_goodC kw_6_170) rfl rfl rfl (htx _ kw_1_5) (htx _ kw_6_167) ⟨by decide, by decide, by decide +kernel⟩ ⟨Nat.le_of_ble_eq_true rfl, Nat.le_of_ble_eq_true rfl⟩, (htx _ kw_6_169), (htx _ kp_M_register)⟩ ⟨xPre_blind, va_recv hK hP (ci := 5) rfl (q0 := 3) rfl, (fun U hU hW => ⟨rfl, xPre_of hZ hS hFc hPc hDc hK U hU hW⟩)⟩ rfl rfl hl.1 rfl (lv_room (Nat.le_of_ble_eq_true rfl)) dM_finish_20 ⟨Nat.le_of_ble_eq_true rfl, Nat.le_of_ble_eq_true rfl⟩) hS (fun q _ h => hFc q h) hFc (fun u9 r2 t H1 locs ht hvm hr9 hB hz1 hk1 hS => ?_)
  obtain ⟨hP1, hK1, hD1⟩ := hB
  rw [ht] at hP1
  obtain ⟨hP, hD⟩ := xjoin (W := [(a6, .inl (cT 0, 1024, .inl f70)), (a7, .inl (cT 0, 4096, .inl f71)), (a3, .inl (cT 0, 4096, .inl f57)), (r1, .inr (6, [.int 0, .long 0, .int 0, .int 0, .int 0, .int 1])), (a0, .inr (5, [v23, .ref a4, .int 2, v24, v25, v26, v27, v28, v29, v30, v31, v32, v33, v34, v35, .ref a5, .int 4, .int 4, .int 0, .int 100, v41, .ref a6, v42, v43, .ref a1, .ref a2, v44, v45, v46, v47, v48, v49])), (a1, .inl (cT 5, 8, .inr (.inr (.inr (.inr f50))))), (a2, .inl (cT 1, 8, .inl f54)), (a5, .inl (cT 0, 4096, .inl f65)), (a4, .inl (cT 4, 1024, .inr (.inr (.inr (.inr (va_up (va_up f62 0 (some r1)) 1 (some r2))))))), (r2, .inr (6, [.int 0, .long 0, .int 0, .int 0, .int 0, .int 1]))]) hP hD [3, 4, 5, 0, 7] [1, 2, 6, 8] 4 rfl rfl (by decide) (by decide) hk1 hFc hP1 hD1
  generalize H1 = H at hP hS ⊢
  refine W.eq (g2 := F0 m 23 ls [.ref r2]) rfl ?_
  refine lv_astore (lv' := [(7, .ref r2), (6, .ref r1), (0, .ref a0), (1, .int x8), (2, .int 0), (3, .int 0), (4, .int x13), (5, .int x18)]) hx hb dM_finish_23 hl (by decide) rfl (fun ls hl => ?_)
  refine lv_iload_n hx hb dM_finish_25 rfl (lv_at hl 4 rfl) ?_
  refine lv_if_ne (tgt := 43) hx hb dM_finish_26 (by decide) (fun h => ((by revert h; decide : False)).elim) (fun _ => ?_)
  refine lv_aload_n hx hb dM_finish_29 rfl (lv_at hl 2 rfl) ?_
  refine lv_iload_n hx hb dM_finish_30 rfl (lv_at hl 5 rfl) ?_
  refine lv_aload hx hb dM_finish_31 (lv_at hl 1 rfl) ?_
  refine lv_aload hx hb dM_finish_33 (lv_at hl 0 rfl) ?_
  obtain ⟨hPc, hDc, hFc⟩ := xcut (wc := [(a0, .inr (5, [v23, .ref a4, .int 2, v24, v25, v26, v27, v28, v29, v30, v31, v32, v33, v34, v35, .ref a5, .int 4, .int 4, .int 0, .int 100, v41, .ref a6, v42, v43, .ref a1, .ref a2, v44, v45, v46, v47, v48, v49])), (r1, .inr (6, [.int 0, .long 0, .int 0, .int 0, .int 0, .int 1]))]) hP hD hS hA [4, 3] rfl rfl (by decide)
  refine va_callr (va_runV (C := "ValueBenchModel") (As := [.int 0, .ref r1, .ref r2]) (rest := []) ⟨hx, hb, hml, hown, htx⟩ (cM_binary1_0 l hl9 D cT aK aV H.size a0 r1 r2 v23 (.ref a4) (.int 2) v24 v25 v26 v27 v28 v29 v30 v31 v32 v33 v34 v35 (.ref a5) (.int 4) (.int 4) (.int 0) (.int 100) v41 (.ref a6) v42 v43 (.ref a1) (.ref a2) v44 v45 v46 v47 v48 v49 (.long 0) (.int 0) (.int 0) (.int 0) (.int 1)) ⟨callB_of 3 htx (xw_goodC kw_6_199) rfl rfl rfl (htx _ kw_1_5) (htx _ kw_6_196) ⟨by decide, by decide, by decide +kernel⟩ ⟨Nat.le_of_ble_eq_true rfl, Nat.le_of_ble_eq_true rfl⟩, (htx _ kw_6_198), (htx _ kp_M_binary1)⟩ ⟨xPre_blind, va_recv hK hP (ci := 5) rfl (q0 := 4) rfl, (fun U hU hW => ⟨rfl, xPre_of hZ hS hFc hPc hDc hK U hU hW⟩)⟩ rfl rfl hl.1 rfl (lv_room (Nat.le_of_ble_eq_true rfl)) dM_finish_35 ⟨Nat.le_of_ble_eq_true rfl, Nat.le_of_ble_eq_true rfl⟩) hS (fun q _ h => hFc q h) hFc (fun u9 r3 t H1 locs ht hvm hr9 hB hz1 hk1 hS => ?_)
  obtain ⟨hra9, hP1, hK1, hD1⟩ := hB
  rw [ht] at hP1
  obtain ⟨hP, hD⟩ := xjoin (W := [(a6, .inl (cT 0, 1024, .inl f70)), (a7, .inl (cT 0, 4096, .inl f71)), (a3, .inl (cT 0, 4096, .inl f57)), (a1, .inl (cT 5, 8, .inr (.inr (.inr (.inr f50))))), (a2, .inl (cT 1, 8, .inl f54)), (a5, .inl (cT 0, 4096, .inl f65)), (a4, .inl (cT 4, 1024, .inr (.inr (.inr (.inr (va_up (va_up f62 0 (some r1)) 1 (some r2))))))), (r2, .inr (6, [.int 0, .long 0, .int 0, .int 0, .int 0, .int 1])), (a0, .inr (5, [v23, .ref a4, .int 2, v24, v25, v26, v27, v28, v29, v30, v31, v32, v33, v34, v35, .ref a5, .int 4, .int 4, .int 0, .int 100, v41, .ref a6, v42, v43, .ref a1, .ref a2, v44, v45, v46, v47, v48, v49])), (r1, .inr (6, [.int 0, .long 0, .int 0, .int 0, .int 0, .int 1]))]) hP hD [4, 3] [0, 1, 2, 5, 6, 7, 8, 9] 8 rfl rfl (by decide) (by decide) hk1 hFc hP1 hD1
  generalize H1 = H at hP hS ⊢
  rw [hra9]
  refine W.eq (g2 := F0 m 38 ls [.ref r2]) rfl ?_
  refine lv_astore (lv' := [(8, .ref r2), (7, .ref r2), (6, .ref r1), (0, .ref a0), (1, .int x8), (2, .int 0), (3, .int 0), (4, .int x13), (5, .int x18)]) hx hb dM_finish_38 hl (by decide) rfl (fun ls hl => ?_)
  refine lv_goto (tgt := 119) hx hb dM_finish_40 (by decide) ?_
  refine lv_aload_n hx hb dM_finish_119 rfl (lv_at hl 3 rfl) ?_
  refine lv_iload_n hx hb dM_finish_120 rfl (lv_at hl 4 rfl) ?_
  refine lv_aload hx hb dM_finish_121 (lv_at hl 0 rfl) ?_
  obtain ⟨hPc, hDc, hFc⟩ := xcut (wc := [(a0, .inr (5, [v23, .ref a4, .int 2, v24, v25, v26, v27, v28, v29, v30, v31, v32, v33, v34, v35, .ref a5, .int 4, .int 4, .int 0, .int 100, v41, .ref a6, v42, v43, .ref a1, .ref a2, v44, v45, v46, v47, v48, v49])), (r2, .inr (6, [.int 0, .long 0, .int 0, .int 0, .int 0, .int 1])), (a6, .inl (cT 0, 1024, .inl f70)), (a1, .inl (cT 5, 8, .inr (.inr (.inr (.inr f50))))), (a7, .inl (cT 0, 4096, .inl f71)), (a2, .inl (cT 1, 8, .inl f54))]) hP hD hS hA [8, 7, 0, 3, 1, 4] rfl rfl (by decide)
  refine va_calli (va_runV (C := "ValueBenchModel") (As := [.int x8, .ref r2]) (rest := []) ⟨hx, hb, hml, hown, htx⟩ (cM_store_0 l hl9 D cT aK aV H.size a0 r2 a6 a1 a7 a2 x8 v23 (.ref a4) (.int 2) v24 v25 v26 v27 v28 v29 v30 v31 v32 v33 v34 v35 (.ref a5) (.int 4) (.int 4) (.int 0) (.int 100) v41 v42 v43 v44 v45 v46 v47 v48 v49 (.long 0) (.int 0) (.int 0) (.int 0) (.int 1) f70 f50 f71 f54 h9 h10 h11 h12 (by first | rfl | exact h51 | exact h52 | exact h53 | exact h55 | exact h56 | exact h58 | exact h59 | exact h60 | exact h61 | exact h66 | exact h67 | exact h68 | exact h69)) ⟨callB_of 2 htx (xw_goodC kw_6_124) rfl rfl rfl (htx _ kw_1_5) (htx _ kw_6_121) ⟨by decide, by decide, by decide +kernel⟩ ⟨Nat.le_of_ble_eq_true rfl, Nat.le_of_ble_eq_true rfl⟩, (htx _ kw_6_123), (htx _ kp_M_store)⟩ ⟨xPre_blind, va_recv hK hP (ci := 5) rfl (q0 := 8) rfl, (fun U hU hW => ⟨rfl, xPre_of hZ hS hFc hPc hDc hK U hU hW⟩)⟩ rfl rfl hl.1 rfl (lv_room (Nat.le_of_ble_eq_true rfl)) dM_finish_123 ⟨Nat.le_of_ble_eq_true rfl, Nat.le_of_ble_eq_true rfl⟩) hS (fun q _ h => hFc q h) hFc (fun r4 u9 t H1 locs ht hvm hr9 hB hz1 hk1 hS => ?_)
  obtain ⟨y5, y6, y7, y8, hP1, hK1, hD1⟩ := hB
  rw [ht] at hP1
  obtain ⟨hP, hD⟩ := xjoin (W := [(a3, .inl (cT 0, 4096, .inl f57)), (a5, .inl (cT 0, 4096, .inl f65)), (a4, .inl (cT 4, 1024, .inr (.inr (.inr (.inr (va_up (va_up f62 0 (some r1)) 1 (some r2))))))), (r1, .inr (6, [.int 0, .long 0, .int 0, .int 0, .int 0, .int 1])), (a0, .inr (5, [v23, .ref a4, .int 2, v24, v25, v26, v27, v28, v29, v30, v31, v32, v33, v34, v35, .ref a5, .int 4, .int 4, .int 0, .int 100, v41, .ref a6, .int 4, .int 4096, .ref a1, .ref a2, v44, v45, v46, v47, v48, v49])), (r2, .inr (6, [.int 0, .long 0, .int 0, .int 0, .int 0, .int 1])), (a6, .inl (cT 0, 1024, .inl (upd (upd (upd (upd f70 0 (vp_nar .byte y5)) 1 (vp_nar .byte y6)) 2 (vp_nar .byte y7)) 3 (vp_nar .byte y8)))), (a1, .inl (cT 5, 8, .inr (.inr (.inr (.inr f50))))), (a7, .inl (cT 0, 4096, .inl (upd (upd (upd (upd f71 0 (vp_nar .byte (vp_nar .byte y5))) 1 (vp_nar .byte (vp_nar .byte y6))) 2 (vp_nar .byte (vp_nar .byte y7))) 3 (vp_nar .byte (vp_nar .byte y8))))), (a2, .inl (cT 1, 8, .inl (upd f54 x8.toNatClampNeg 4)))]) hP hD [8, 7, 0, 3, 1, 4] [2, 5, 6, 9] 4 rfl rfl (by decide) (by decide) hk1 hFc hP1 hD1
  generalize H1 = H at hP hS ⊢
  rw [hr9]
  refine W.eq (g2 := F0 m 126 ls [.int 4]) rfl ?_
  refine lv_istore (lv' := [(9, .int 4), (8, .ref r2), (7, .ref r2), (6, .ref r1), (0, .ref a0), (1, .int x8), (2, .int 0), (3, .int 0), (4, .int x13), (5, .int x18)]) hx hb dM_finish_126 hl (by decide) rfl (fun ls hl => ?_)
  refine lv_goto (tgt := 156) hx hb dM_finish_128 (by decide) ?_
  obtain ⟨hP9, hD9⟩ := xsub (wc := [(a0, .inr (5, [v23, .ref a4, .int 2, v24, v25, v26, v27, v28, v29, v30, v31, v32, v33, v34, v35, .ref a5, .int 4, .int 4, .int 0, .int 100, v41, .ref a6, .int 4, .int 4096, .ref a1, .ref a2, v44, v45, v46, v47, v48, v49])), (a1, .inl (cT 5, 8, .inr (.inr (.inr (.inr f50))))), (a2, .inl (cT 1, 8, .inl (upd f54 x8.toNatClampNeg 4))), (a3, .inl (cT 0, 4096, .inl f57)), (a4, .inl (cT 4, 1024, .inr (.inr (.inr (.inr (va_up (va_up f62 0 (some r1)) 1 (some r2))))))), (a5, .inl (cT 0, 4096, .inl f65)), (a6, .inl (cT 0, 1024, .inl (upd (upd (upd (upd f70 0 (vp_nar .byte y5)) 1 (vp_nar .byte y6)) 2 (vp_nar .byte y7)) 3 (vp_nar .byte y8)))), (a7, .inl (cT 0, 4096, .inl (upd (upd (upd (upd f71 0 (vp_nar .byte (vp_nar .byte y5))) 1 (vp_nar .byte (vp_nar .byte y6))) 2 (vp_nar .byte (vp_nar .byte y7))) 3 (vp_nar .byte (vp_nar .byte y8))))), (r1, .inr (6, [.int 0, .long 0, .int 0, .int 0, .int 0, .int 1])), (r2, .inr (6, [.int 0, .long 0, .int 0, .int 0, .int 0, .int 1]))]) hP hD [4, 7, 9, 0, 2, 1, 6, 8, 3, 5] rfl rfl (by decide)
  refine W.widen (k := 2) (n := 12) (Nat.le_of_ble_eq_true rfl) (Nat.le_of_ble_eq_true rfl) ?_
  exact W.vret hx hb hr (fun t ht hW => ⟨⟨(), rfl, trivial, r1, r2, y5, y6, y7, y8, by rw [ht]; exact hP9, va_K.moved hW.alike hK, hD9⟩, hS.F ht⟩) hS.2.2 dM_finish_156
set_option maxHeartbeats 400000000 in
set_option maxRecDepth 100000 in
theorem cM_binary0_12 (l : Launch) (hl9 : l.stackTraces = false) (D : va_G) (cT : Nat → ClassId) (aK aV : Nat → Nat) (sz : Nat) (a0 : Nat) (a1 : Nat) (a2 : Nat) (a3 : Nat) (a4 : Nat) (a5 : Nat) (a6 : Nat) (a7 : Nat) (x8 : Int32) (x13 : Int32) (x18 : Int32) (v23 : Value) (v24 : Value) (v25 : Value) (v26 : Value) (v27 : Value) (v28 : Value) (v29 : Value) (v30 : Value) (v31 : Value) (v32 : Value) (v33 : Value) (v34 : Value) (v35 : Value) (v36 : Value) (v37 : Value) (v38 : Value) (v39 : Value) (v40 : Value) (v41 : Value) (v42 : Value) (v43 : Value) (v44 : Value) (v45 : Value) (v46 : Value) (v47 : Value) (v48 : Value) (v49 : Value) (v50 : Value) (f51 : Nat → Option Nat) (f55 : Nat → Int32) (f58 : Nat → Int32) (f63 : Nat → Option Nat) (f66 : Nat → Int32) (f71 : Nat → Int32) (f72 : Nat → Int32) (h9 : ¬ x8 < 0) (h10 : ¬ 7 < x8) (h11 : x8 ≤ 7) (h12 : vp_in x8 8) (h14 : ¬ x13 < 0) (h15 : ¬ 7 < x13) (h16 : x13 ≤ 7) (h17 : vp_in x13 8) (h19 : ¬ x18 < 0) (h20 : ¬ 7 < x18) (h21 : x18 ≤ 7) (h22 : vp_in x18 8) (h52 : f51 x13.toNatClampNeg = some a3) (h53 : f51 x18.toNatClampNeg = some a5) (h54 : f51 x8.toNatClampNeg = some a7) (h56 : f55 x13.toNatClampNeg = 4) (h57 : f55 x18.toNatClampNeg = 4) (h59 : f58 0 = 110) (h60 : f58 1 = 117) (h61 : f58 2 = 108) (h62 : f58 3 = 108) (h64 : f63 0 = none) (h65 : f63 1 = none) (h67 : f66 0 = 110) (h68 : f66 1 = 117) (h69 : f66 2 = 108) (h70 : f66 3 = 108) : xMet l yM_binary0 wyM_binary0 9 2 12 204 D cT aK aV sz [.ref a0, .int x8, .int 0, .int x13, .int x18] [(a0, .inr (5, [v23, .ref a4, v24, v25, v26, v27, v28, v29, v30, v31, v32, v33, v34, v35, v36, v37, v38, v39, v40, v41, v42, .ref a6, v43, v44, .ref a1, .ref a2, v45, v46, v47, v48, v49, v50])), (a1, .inl (cT 5, 8, .inr (.inr (.inr (.inr f51))))), (a2, .inl (cT 1, 8, .inl f55)), (a3, .inl (cT 0, 4096, .inl f58)), (a4, .inl (cT 4, 1024, .inr (.inr (.inr (.inr f63))))), (a5, .inl (cT 0, 4096, .inl f66)), (a6, .inl (cT 0, 1024, .inl f71)), (a7, .inl (cT 0, 4096, .inl f72))] (fun A => va_Qv (fun _ : Unit => True) (fun _ t => ∃ (q4 : Nat) (q5 : Nat) (y6 : Int32) (y7 : Int32) (y8 : Int32) (y9 : Int32), xB D xcl cT A [(a0, .inr (5, [.int 0, .ref a4, .int 2, v25, .int 0, v27, v28, .int 0, v30, .int 0, v32, v33, .int 0, v35, v36, .ref a5, .int 4, .int 4, .int 0, .int 100, v42, .ref a6, .int 4, .int 4096, .ref a1, .ref a2, v45, v46, v47, v48, v49, v50])), (a1, .inl (cT 5, 8, .inr (.inr (.inr (.inr f51))))), (a2, .inl (cT 1, 8, .inl (upd f55 x8.toNatClampNeg 4))), (a3, .inl (cT 0, 4096, .inl f58)), (a4, .inl (cT 4, 1024, .inr (.inr (.inr (.inr (va_up (va_up f63 0 (some q4)) 1 (some q5))))))), (a5, .inl (cT 0, 4096, .inl f66)), (a6, .inl (cT 0, 1024, .inl (upd (upd (upd (upd f71 0 (vp_nar .byte y6)) 1 (vp_nar .byte y7)) 2 (vp_nar .byte y8)) 3 (vp_nar .byte y9)))), (a7, .inl (cT 0, 4096, .inl (upd (upd (upd (upd f72 0 (vp_nar .byte (vp_nar .byte y6))) 1 (vp_nar .byte (vp_nar .byte y7))) 2 (vp_nar .byte (vp_nar .byte y8))) 3 (vp_nar .byte (vp_nar .byte y9))))), (q4, .inr (6, [.int 0, .long 0, .int 0, .int 0, .int 0, .int 1])), (q5, .inr (6, [.int 0, .long 0, .int 0, .int 0, .int 0, .int 1]))] t) A) := by
  refine Met.ofW (cc := prog_13_method_89_code) (maxL := 5) (ret := none) (by decide) rfl ?_
  intro p e s m args below meth c s₁ B hml hv
  obtain ⟨rfl, hsz, hZ, hP, hK, hD0⟩ := hv
  have hx := B.exec
  have hb := B.bytes
  have hr := B.returns
  have hts := atoms_spec (ws := wyM_binary0) B.pre
  have htx := fun w h => hts w (List.mem_cons_of_mem _ h)
  have hown : s.vm.findClass "ValueBenchModel" = some m.cls := findClass_of_methodNamed B.named
  have hlocks := B.notSynchronized
  subst hsz
  have hD := hD0.self (sz := s.heap.size)
  generalize hAe : va_A [(a0, .inr (5, [v23, .ref a4, v24, v25, v26, v27, v28, v29, v30, v31, v32, v33, v34, v35, v36, v37, v38, v39, v40, v41, v42, .ref a6, v43, v44, .ref a1, .ref a2, v45, v46, v47, v48, v49, v50])), (a1, .inl (cT 5, 8, .inr (.inr (.inr (.inr f51))))), (a2, .inl (cT 1, 8, .inl f55)), (a3, .inl (cT 0, 4096, .inl f58)), (a4, .inl (cT 4, 1024, .inr (.inr (.inr (.inr f63))))), (a5, .inl (cT 0, 4096, .inl f66)), (a6, .inl (cT 0, 1024, .inl f71)), (a7, .inl (cT 0, 4096, .inl f72))] s.heap.size = A at hD hZ ⊢
  have hA : ∀ q : Nat, s.heap.size ≤ q → A q := fun q h => by rw [← hAe]; exact Or.inr h
  have hS : va_S A s.heap s.heap [] := va_S.rf
  have hP : va_P D xcl [(a0, .inr (5, [v23, .ref a4, v24, v25, v26, v27, v28, v29, v30, v31, v32, v33, v34, v35, v36, v37, v38, v39, v40, v41, v42, .ref a6, v43, v44, .ref a1, .ref a2, v45, v46, v47, v48, v49, v50])), (a1, .inl (cT 5, 8, .inr (.inr (.inr (.inr f51))))), (a2, .inl (cT 1, 8, .inl f55)), (a3, .inl (cT 0, 4096, .inl f58)), (a4, .inl (cT 4, 1024, .inr (.inr (.inr (.inr f63))))), (a5, .inl (cT 0, 4096, .inl f66)), (a6, .inl (cT 0, 1024, .inl f71)), (a7, .inl (cT 0, 4096, .inl f72))] s.heap := hP
  have hl := lv_entry ([.ref a0, .int x8, .int 0, .int x13, .int x18]) (n := 5) (Nat.le_of_ble_eq_true rfl)
  rw [lg_entry_eq]
  generalize (lg_sl ([.ref a0, .int x8, .int 0, .int x13, .int x18]) ++ List.replicate (5 - (lg_sl ([.ref a0, .int x8, .int 0, .int x13, .int x18])).length) Slot.unset).toArray = ls at hl ⊢
  have hl : lv_has ls 5 [(0, .ref a0), (1, .int x8), (2, .int 0), (3, .int x13), (4, .int x18)] := hl
  refine lv_aload_n hx hb dM_binary0_0 rfl (lv_at hl 0 rfl) ?_
  obtain ⟨hPc, hDc, hFc⟩ := xcut (wc := [(a0, .inr (5, [v23, .ref a4, v24, v25, v26, v27, v28, v29, v30, v31, v32, v33, v34, v35, v36, v37, v38, v39, v40, v41, v42, .ref a6, v43, v44, .ref a1, .ref a2, v45, v46, v47, v48, v49, v50]))]) hP hD hS hA [0] rfl rfl (by decide)
  refine va_callv (va_runV (C := "ValueBenchModel") (As := []) (rest := []) ⟨hx, hb, hml, hown, htx⟩ (cM_begin_0 l hl9 D cT aK aV s.heap.size a0 v23 (.ref a4) v24 v25 v26 v27 v28 v29 v30 v31 v32 v33 v34 v35 v36 v37 v38 v39 v40 v41 v42 (.ref a6) v43 v44 (.ref a1) (.ref a2) v45 v46 v47 v48 v49 v50) ⟨callB_of 0 htx (xw_goodC kw_5_209) rfl rfl rfl (htx _ kw_1_5) (htx _ kw_5_206) ⟨by decide, by decide, by decide +kernel⟩ ⟨Nat.le_of_ble_eq_true rfl, Nat.le_of_ble_eq_true rfl⟩, (htx _ kw_5_208), (htx _ kp_M_begin)⟩ ⟨xPre_blind, va_recv hK hP (ci := 5) rfl (q0 := 0) rfl, (fun U hU hW => ⟨rfl, xPre_of hZ hS hFc hPc hDc hK U hU hW⟩)⟩ rfl rfl hl.1 rfl (lv_room (Nat.le_of_ble_eq_true rfl)) dM_binary0_1 ⟨Nat.le_of_ble_eq_true rfl, Nat.le_of_ble_eq_true rfl⟩) hS (fun q _ h => hFc q h) hFc (fun u9 t H1 locs ht hvm hr9 hB hz1 hk1 hS => ?_)
  obtain ⟨hP1, hK1, hD1⟩ := hB
  rw [ht] at hP1
  obtain ⟨hP, hD⟩ := xjoin (W := [(a1, .inl (cT 5, 8, .inr (.inr (.inr (.inr f51))))), (a2, .inl (cT 1, 8, .inl f55)), (a3, .inl (cT 0, 4096, .inl f58)), (a4, .inl (cT 4, 1024, .inr (.inr (.inr (.inr f63))))), (a5, .inl (cT 0, 4096, .inl f66)), (a6, .inl (cT 0, 1024, .inl f71)), (a7, .inl (cT 0, 4096, .inl f72)), (a0, .inr (5, [.int 0, .ref a4, .int 0, v25, .int 0, v27, v28, .int 0, v30, .int 0, v32, v33, .int 0, v35, v36, v37, v38, v39, v40, v41, v42, .ref a6, .int 0, .int 1000000000, .ref a1, .ref a2, v45, v46, v47, v48, v49, v50]))]) hP hD [0] [1, 2, 3, 4, 5, 6, 7] 7 rfl rfl (by decide) (by decide) hk1 hFc hP1 hD1
  generalize H1 = H at hP hS ⊢
  refine lv_aload_n hx hb dM_binary0_4 rfl (lv_at hl 0 rfl) ?_
  refine lv_iload_n hx hb dM_binary0_5 rfl (lv_at hl 1 rfl) ?_
  obtain ⟨hPc, hDc, hFc⟩ := xcut (wc := []) hP hD hS hA [] rfl rfl (by decide)
  refine va_calli (va_runV (C := "ValueBenchModel") (As := [.int x8]) (rest := []) ⟨hx, hb, hml, hown, htx⟩ (cM_out_2 l hl9 D cT aK aV H.size a0 x8 h9 h10 h11 h12) ⟨callB_of 1 htx (xw_goodC kw_5_217) rfl rfl rfl (htx _ kw_1_5) (htx _ kw_5_214) ⟨by decide, by decide, by decide +kernel⟩ ⟨Nat.le_of_ble_eq_true rfl, Nat.le_of_ble_eq_true rfl⟩, (htx _ kw_5_216), (htx _ kp_M_out)⟩ ⟨xPre_blind, va_recv hK hP (ci := 5) rfl (q0 := 7) rfl, (fun U hU hW => ⟨rfl, xPre_of hZ hS hFc hPc hDc hK U hU hW⟩)⟩ rfl rfl hl.1 rfl (lv_room (Nat.le_of_ble_eq_true rfl)) dM_binary0_6 ⟨Nat.le_of_ble_eq_true rfl, Nat.le_of_ble_eq_true rfl⟩) hS (fun q _ h => hFc q h) hFc (fun r1 u9 t H1 locs ht hvm hr9 hB hz1 hk1 hS => ?_)
  obtain ⟨hP1, hK1, hD1⟩ := hB
  rw [ht] at hP1
  obtain ⟨hP, hD⟩ := xjoin (W := [(a1, .inl (cT 5, 8, .inr (.inr (.inr (.inr f51))))), (a2, .inl (cT 1, 8, .inl f55)), (a3, .inl (cT 0, 4096, .inl f58)), (a4, .inl (cT 4, 1024, .inr (.inr (.inr (.inr f63))))), (a5, .inl (cT 0, 4096, .inl f66)), (a6, .inl (cT 0, 1024, .inl f71)), (a7, .inl (cT 0, 4096, .inl f72)), (a0, .inr (5, [.int 0, .ref a4, .int 0, v25, .int 0, v27, v28, .int 0, v30, .int 0, v32, v33, .int 0, v35, v36, v37, v38, v39, v40, v41, v42, .ref a6, .int 0, .int 1000000000, .ref a1, .ref a2, v45, v46, v47, v48, v49, v50]))]) hP hD [] [0, 1, 2, 3, 4, 5, 6, 7] 8 rfl rfl (by decide) (by decide) hk1 hFc hP1 hD1
  generalize H1 = H at hP hS ⊢
  rw [hr9]
  refine W.eq (g2 := F0 m 9 ls [.int 0]) rfl ?_
  refine lv_if_ne (tgt := 38) hx hb dM_binary0_9 (by decide) (fun h => ((by revert h; decide : False)).elim) (fun _ => ?_)
  refine lv_iload_n hx hb dM_binary0_12 rfl (lv_at hl 2 rfl) ?_
  refine lv_if_lt (tgt := 38) hx hb dM_binary0_13 (by decide) (fun h => ((by revert h; decide : False)).elim) (fun _ => ?_)
  refine lv_iload_n hx hb dM_binary0_16 rfl (lv_at hl 2 rfl) ?_
  refine lv_iconst (v := 4) hx hb dM_binary0_17 (by decide) ?_
  refine lv_icmp_gt (tgt := 38) hx hb dM_binary0_18 (by decide) (fun h => ((by revert h; decide : False)).elim) (fun _ => ?_)
  refine lv_aload_n hx hb dM_binary0_21 rfl (lv_at hl 0 rfl) ?_
  refine lv_iload_n hx hb dM_binary0_22 rfl (lv_at hl 3 rfl) ?_
  obtain ⟨hPc, hDc, hFc⟩ := xcut (wc := []) hP hD hS hA [] rfl rfl (by decide)
  refine va_calli (va_runV (C := "ValueBenchModel") (As := [.int x13]) (rest := []) ⟨hx, hb, hml, hown, htx⟩ (cM_out_2 l hl9 D cT aK aV H.size a0 x13 h14 h15 h16 h17) ⟨callB_of 1 htx (xw_goodC kw_5_217) rfl rfl rfl (htx _ kw_1_5) (htx _ kw_5_214) ⟨by decide, by decide, by decide +kernel⟩ ⟨Nat.le_of_ble_eq_true rfl, Nat.le_of_ble_eq_true rfl⟩, (htx _ kw_5_216), (htx _ kp_M_out)⟩ ⟨xPre_blind, va_recv hK hP (ci := 5) rfl (q0 := 7) rfl, (fun U hU hW => ⟨rfl, xPre_of hZ hS hFc hPc hDc hK U hU hW⟩)⟩ rfl rfl hl.1 rfl (lv_room (Nat.le_of_ble_eq_true rfl)) dM_binary0_23 ⟨Nat.le_of_ble_eq_true rfl, Nat.le_of_ble_eq_true rfl⟩) hS (fun q _ h => hFc q h) hFc (fun r2 u9 t H1 locs ht hvm hr9 hB hz1 hk1 hS => ?_)
  obtain ⟨hP1, hK1, hD1⟩ := hB
  rw [ht] at hP1
  obtain ⟨hP, hD⟩ := xjoin (W := [(a1, .inl (cT 5, 8, .inr (.inr (.inr (.inr f51))))), (a2, .inl (cT 1, 8, .inl f55)), (a3, .inl (cT 0, 4096, .inl f58)), (a4, .inl (cT 4, 1024, .inr (.inr (.inr (.inr f63))))), (a5, .inl (cT 0, 4096, .inl f66)), (a6, .inl (cT 0, 1024, .inl f71)), (a7, .inl (cT 0, 4096, .inl f72)), (a0, .inr (5, [.int 0, .ref a4, .int 0, v25, .int 0, v27, v28, .int 0, v30, .int 0, v32, v33, .int 0, v35, v36, v37, v38, v39, v40, v41, v42, .ref a6, .int 0, .int 1000000000, .ref a1, .ref a2, v45, v46, v47, v48, v49, v50]))]) hP hD [] [0, 1, 2, 3, 4, 5, 6, 7] 8 rfl rfl (by decide) (by decide) hk1 hFc hP1 hD1
  generalize H1 = H at hP hS ⊢
  rw [hr9]
  refine W.eq (g2 := F0 m 26 ls [.int 0]) rfl ?_
  refine lv_if_ne (tgt := 38) hx hb dM_binary0_26 (by decide) (fun h => ((by revert h; decide : False)).elim) (fun _ => ?_)
  refine lv_aload_n hx hb dM_binary0_29 rfl (lv_at hl 0 rfl) ?_
  refine lv_iload hx hb dM_binary0_30 (lv_at hl 4 rfl) ?_
  obtain ⟨hPc, hDc, hFc⟩ := xcut (wc := []) hP hD hS hA [] rfl rfl (by decide)
  refine va_calli (va_runV (C := "ValueBenchModel") (As := [.int x18]) (rest := []) ⟨hx, hb, hml, hown, htx⟩ (cM_out_2 l hl9 D cT aK aV H.size a0 x18 h19 h20 h21 h22) ⟨callB_of 1 htx (xw_goodC kw_5_217) rfl rfl rfl (htx _ kw_1_5) (htx _ kw_5_214) ⟨by decide, by decide, by decide +kernel⟩ ⟨Nat.le_of_ble_eq_true rfl, Nat.le_of_ble_eq_true rfl⟩, (htx _ kw_5_216), (htx _ kp_M_out)⟩ ⟨xPre_blind, va_recv hK hP (ci := 5) rfl (q0 := 7) rfl, (fun U hU hW => ⟨rfl, xPre_of hZ hS hFc hPc hDc hK U hU hW⟩)⟩ rfl rfl hl.1 rfl (lv_room (Nat.le_of_ble_eq_true rfl)) dM_binary0_32 ⟨Nat.le_of_ble_eq_true rfl, Nat.le_of_ble_eq_true rfl⟩) hS (fun q _ h => hFc q h) hFc (fun r3 u9 t H1 locs ht hvm hr9 hB hz1 hk1 hS => ?_)
  obtain ⟨hP1, hK1, hD1⟩ := hB
  rw [ht] at hP1
  obtain ⟨hP, hD⟩ := xjoin (W := [(a1, .inl (cT 5, 8, .inr (.inr (.inr (.inr f51))))), (a2, .inl (cT 1, 8, .inl f55)), (a3, .inl (cT 0, 4096, .inl f58)), (a4, .inl (cT 4, 1024, .inr (.inr (.inr (.inr f63))))), (a5, .inl (cT 0, 4096, .inl f66)), (a6, .inl (cT 0, 1024, .inl f71)), (a7, .inl (cT 0, 4096, .inl f72)), (a0, .inr (5, [.int 0, .ref a4, .int 0, v25, .int 0, v27, v28, .int 0, v30, .int 0, v32, v33, .int 0, v35, v36, v37, v38, v39, v40, v41, v42, .ref a6, .int 0, .int 1000000000, .ref a1, .ref a2, v45, v46, v47, v48, v49, v50]))]) hP hD [] [0, 1, 2, 3, 4, 5, 6, 7] 8 rfl rfl (by decide) (by decide) hk1 hFc hP1 hD1
  generalize H1 = H at hP hS ⊢
  rw [hr9]
  refine W.eq (g2 := F0 m 35 ls [.int 0]) rfl ?_
  refine lv_if_eq (tgt := 46) hx hb dM_binary0_35 (by decide) (fun _ => ?_) (fun h => ((by revert h; decide : False)).elim)
  refine lv_aload_n hx hb dM_binary0_46 rfl (lv_at hl 0 rfl) ?_
  refine lv_iload_n hx hb dM_binary0_47 rfl (lv_at hl 1 rfl) ?_
  refine lv_iconst (v := 0) hx hb dM_binary0_48 (by decide) ?_
  refine lv_iload_n hx hb dM_binary0_49 rfl (lv_at hl 2 rfl) ?_
  refine lv_iload_n hx hb dM_binary0_50 rfl (lv_at hl 3 rfl) ?_
  refine lv_iload hx hb dM_binary0_51 (lv_at hl 4 rfl) ?_
  obtain ⟨hPc, hDc, hFc⟩ := xcut (wc := [(a0, .inr (5, [.int 0, .ref a4, .int 0, v25, .int 0, v27, v28, .int 0, v30, .int 0, v32, v33, .int 0, v35, v36, v37, v38, v39, v40, v41, v42, .ref a6, .int 0, .int 1000000000, .ref a1, .ref a2, v45, v46, v47, v48, v49, v50])), (a1, .inl (cT 5, 8, .inr (.inr (.inr (.inr f51))))), (a2, .inl (cT 1, 8, .inl f55)), (a3, .inl (cT 0, 4096, .inl f58)), (a4, .inl (cT 4, 1024, .inr (.inr (.inr (.inr f63))))), (a5, .inl (cT 0, 4096, .inl f66)), (a6, .inl (cT 0, 1024, .inl f71)), (a7, .inl (cT 0, 4096, .inl f72))]) hP hD hS hA [7, 0, 1, 2, 3, 4, 5, 6] rfl rfl (by decide)
  refine va_callv (vx_runVW (C := "ValueBenchModel") (As := [.int x8, .int 0, .int 0, .int x13, .int x18]) (rest := []) ⟨hx, hb, hml, hown, htx⟩ (cM_finish_4 l hl9 D cT aK aV H.size a0 a1 a2 a3 a4 a5 a6 a7 x8 x13 x18 (.int 0) v25 (.int 0) v27 v28 (.int 0) v30 (.int 0) v32 v33 (.int 0) v35 v36 v37 v38 v39 v40 v41 v42 (.int 0) (.int 1000000000) v45 v46 v47 v48 v49 v50 f51 f55 f58 f63 f66 f71 f72 h9 h10 h11 h12 h14 h15 h16 h17 h19 h20 h21 h22 (by first | rfl | exact h52 | exact h53 | exact h54 | exact h56 | exact h57 | exact h59 | exact h60 | exact h61 | exact h62 | exact h64 | exact h65 | exact h67 | exact h68 | exact h69 | exact h70) (by first | rfl | exact h52 | exact h53 | exact h54 | exact h56 | exact h57 | exact h59 | exact h60 | exact h61 | exact h62 | exact h64 | exact h65 | exact h67 | exact h68 | exact h69 | exact h70) (by first | rfl | exact h52 | exact h53 | exact h54 | exact h56 | exact h57 | exact h59 | exact h60 | exact h61 | exact h62 | exact h64 | exact h65 | exact h67 | exact h68 | exact h69 | exact h70) (by first | rfl | exact h52 | exact h53 | exact h54 | exact h56 | exact h57 | exact h59 | exact h60 | exact h61 | exact h62 | exact h64 | exact h65 | exact h67 | exact h68 | exact h69 | exact h70) (by first | rfl | exact h52 | exact h53 | exact h54 | exact h56 | exact h57 | exact h59 | exact h60 | exact h61 | exact h62 | exact h64 | exact h65 | exact h67 | exact h68 | exact h69 | exact h70) (by first | rfl | exact h52 | exact h53 | exact h54 | exact h56 | exact h57 | exact h59 | exact h60 | exact h61 | exact h62 | exact h64 | exact h65 | exact h67 | exact h68 | exact h69 | exact h70) (by first | rfl | exact h52 | exact h53 | exact h54 | exact h56 | exact h57 | exact h59 | exact h60 | exact h61 | exact h62 | exact h64 | exact h65 | exact h67 | exact h68 | exact h69 | exact h70) (by first | rfl | exact h52 | exact h53 | exact h54 | exact h56 | exact h57 | exact h59 | exact h60 | exact h61 | exact h62 | exact h64 | exact h65 | exact h67 | exact h68 | exact h69 | exact h70) (by first | rfl | exact h52 | exact h53 | exact h54 | exact h56 | exact h57 | exact h59 | exact h60 | exact h61 | exact h62 | exact h64 | exact h65 | exact h67 | exact h68 | exact h69 | exact h70) (by first | rfl | exact h52 | exact h53 | exact h54 | exact h56 | exact h57 | exact h59 | exact h60 | exact h61 | exact h62 | exact h64 | exact h65 | exact h67 | exact h68 | exact h69 | exact h70) (by first | rfl | exact h52 | exact h53 | exact h54 | exact h56 | exact h57 | exact h59 | exact h60 | exact h61 | exact h62 | exact h64 | exact h65 | exact h67 | exact h68 | exact h69 | exact h70) (by first | rfl | exact h52 | exact h53 | exact h54 | exact h56 | exact h57 | exact h59 | exact h60 | exact h61 | exact h62 | exact h64 | exact h65 | exact h67 | exact h68 | exact h69 | exact h70) (by first | rfl | exact h52 | exact h53 | exact h54 | exact h56 | exact h57 | exact h59 | exact h60 | exact h61 | exact h62 | exact h64 | exact h65 | exact h67 | exact h68 | exact h69 | exact h70) (by first | rfl | exact h52 | exact h53 | exact h54 | exact h56 | exact h57 | exact h59 | exact h60 | exact h61 | exact h62 | exact h64 | exact h65 | exact h67 | exact h68 | exact h69 | exact h70) (by first | rfl | exact h52 | exact h53 | exact h54 | exact h56 | exact h57 | exact h59 | exact h60 | exact h61 | exact h62 | exact h64 | exact h65 | exact h67 | exact h68 | exact h69 | exact h70)) (xcVW 5 htx (xw_goodC kw_6_195) rfl rfl rfl (htx _ kw_1_5) (htx _ kw_6_192) ⟨by decide, by decide, by decide +kernel⟩ ⟨Nat.le_of_ble_eq_true rfl, Nat.le_of_ble_eq_true rfl⟩ (htx _ kw_6_194) (htx _ kp_M_finish)) ⟨xPre_blind, va_recv hK hP (ci := 5) rfl (q0 := 7) rfl, (fun U hU hW => ⟨rfl, xPre_of hZ hS hFc hPc hDc hK U hU hW⟩)⟩ rfl rfl hl.1 rfl (lv_room (Nat.le_of_ble_eq_true rfl)) dM_binary0_53 ⟨Nat.le_of_ble_eq_true rfl, Nat.le_of_ble_eq_true rfl⟩) hS (fun q _ h => hFc q h) hFc (fun u9 t H1 locs ht hvm hr9 hB hz1 hk1 hS => ?_)
  obtain ⟨q4, q5, y6, y7, y8, y9, hP1, hK1, hD1⟩ := hB
  rw [ht] at hP1
  obtain ⟨hP, hD⟩ := xjoin (W := [(a0, .inr (5, [.int 0, .ref a4, .int 2, v25, .int 0, v27, v28, .int 0, v30, .int 0, v32, v33, .int 0, v35, v36, .ref a5, .int 4, .int 4, .int 0, .int 100, v42, .ref a6, .int 4, .int 4096, .ref a1, .ref a2, v45, v46, v47, v48, v49, v50])), (a1, .inl (cT 5, 8, .inr (.inr (.inr (.inr f51))))), (a2, .inl (cT 1, 8, .inl (upd f55 x8.toNatClampNeg 4))), (a3, .inl (cT 0, 4096, .inl f58)), (a4, .inl (cT 4, 1024, .inr (.inr (.inr (.inr (va_up (va_up f63 0 (some q4)) 1 (some q5))))))), (a5, .inl (cT 0, 4096, .inl f66)), (a6, .inl (cT 0, 1024, .inl (upd (upd (upd (upd f71 0 (vp_nar .byte y6)) 1 (vp_nar .byte y7)) 2 (vp_nar .byte y8)) 3 (vp_nar .byte y9)))), (a7, .inl (cT 0, 4096, .inl (upd (upd (upd (upd f72 0 (vp_nar .byte (vp_nar .byte y6))) 1 (vp_nar .byte (vp_nar .byte y7))) 2 (vp_nar .byte (vp_nar .byte y8))) 3 (vp_nar .byte (vp_nar .byte y9))))), (q4, .inr (6, [.int 0, .long 0, .int 0, .int 0, .int 0, .int 1])), (q5, .inr (6, [.int 0, .long 0, .int 0, .int 0, .int 0, .int 1]))]) hP hD [7, 0, 1, 2, 3, 4, 5, 6] [] 0 rfl rfl (by decide) (by decide) hk1 hFc hP1 hD1
  generalize H1 = H at hP hS ⊢
  obtain ⟨hP9, hD9⟩ := xsub (wc := [(a0, .inr (5, [.int 0, .ref a4, .int 2, v25, .int 0, v27, v28, .int 0, v30, .int 0, v32, v33, .int 0, v35, v36, .ref a5, .int 4, .int 4, .int 0, .int 100, v42, .ref a6, .int 4, .int 4096, .ref a1, .ref a2, v45, v46, v47, v48, v49, v50])), (a1, .inl (cT 5, 8, .inr (.inr (.inr (.inr f51))))), (a2, .inl (cT 1, 8, .inl (upd f55 x8.toNatClampNeg 4))), (a3, .inl (cT 0, 4096, .inl f58)), (a4, .inl (cT 4, 1024, .inr (.inr (.inr (.inr (va_up (va_up f63 0 (some q4)) 1 (some q5))))))), (a5, .inl (cT 0, 4096, .inl f66)), (a6, .inl (cT 0, 1024, .inl (upd (upd (upd (upd f71 0 (vp_nar .byte y6)) 1 (vp_nar .byte y7)) 2 (vp_nar .byte y8)) 3 (vp_nar .byte y9)))), (a7, .inl (cT 0, 4096, .inl (upd (upd (upd (upd f72 0 (vp_nar .byte (vp_nar .byte y6))) 1 (vp_nar .byte (vp_nar .byte y7))) 2 (vp_nar .byte (vp_nar .byte y8))) 3 (vp_nar .byte (vp_nar .byte y9))))), (q4, .inr (6, [.int 0, .long 0, .int 0, .int 0, .int 0, .int 1])), (q5, .inr (6, [.int 0, .long 0, .int 0, .int 0, .int 0, .int 1]))]) hP hD [0, 1, 2, 3, 4, 5, 6, 7, 8, 9] rfl rfl (by decide)
  refine W.widen (k := 2) (n := 12) (Nat.le_of_ble_eq_true rfl) (Nat.le_of_ble_eq_true rfl) ?_
  exact W.vret hx hb hr (fun t ht hW => ⟨⟨(), rfl, trivial, q4, q5, y6, y7, y8, y9, by rw [ht]; exact hP9, va_K.moved hW.alike hK, hD9⟩, hS.F ht⟩) hS.2.2 dM_binary0_56
set_option maxHeartbeats 400000000 in
set_option maxRecDepth 100000 in
theorem cB_isWithin_8 (l : Launch) (hl9 : l.stackTraces = false) (D : va_G) (cT : Nat → ClassId) (aK aV : Nat → Nat) (sz : Nat) : xMet l yB_isWithin wyB_isWithin 0 0 0 0 D cT aK aV sz [.int 1, .int 4] [] (fun A => va_Qi (fun (r : Int32) (_ : Unit) => r = 1) (fun _ t => xB D xcl cT A [] t) A) := by
  refine Met.ofW (cc := prog_1_method_15_code) (maxL := 2) (ret := (some .boolean)) (by decide) rfl ?_
  intro p e s m args below meth c s₁ B hml hv
  obtain ⟨rfl, hsz, hZ, hP, hK, hD0⟩ := hv
  have hx := B.exec
  have hb := B.bytes
  have hr := B.returns
  have hts := atoms_spec (ws := wyB_isWithin) B.pre
  have htx := fun w h => hts w (List.mem_cons_of_mem _ h)
  have hown : s.vm.findClass "ValueBench" = some m.cls := findClass_of_methodNamed B.named
  have hlocks := B.notSynchronized
  subst hsz
  have hD := hD0.self (sz := s.heap.size)
  generalize hAe : va_A [] s.heap.size = A at hD hZ ⊢
  have hA : ∀ q : Nat, s.heap.size ≤ q → A q := fun q h => by rw [← hAe]; exact Or.inr h
  have hS : va_S A s.heap s.heap [] := va_S.rf
  have hP : va_P D xcl [] s.heap := hP
  have hl := lv_entry ([.int 1, .int 4]) (n := 2) (Nat.le_of_ble_eq_true rfl)
  rw [lg_entry_eq]
  generalize (lg_sl ([.int 1, .int 4]) ++ List.replicate (2 - (lg_sl ([.int 1, .int 4])).length) Slot.unset).toArray = ls at hl ⊢
  have hl : lv_has ls 2 [(0, .int 1), (1, .int 4)] := hl
  refine lv_iload_n hx hb dB_isWithin_0 rfl (lv_at hl 0 rfl) ?_
  refine lv_if_lt (tgt := 13) hx hb dB_isWithin_1 (by decide) (fun h => ((by revert h; decide : False)).elim) (fun _ => ?_)
  refine lv_iload_n hx hb dB_isWithin_4 rfl (lv_at hl 0 rfl) ?_
  refine lv_iload_n hx hb dB_isWithin_5 rfl (lv_at hl 1 rfl) ?_
  refine lv_icmp_gt (tgt := 13) hx hb dB_isWithin_6 (by decide) (fun h => ((by revert h; decide : False)).elim) (fun _ => ?_)
  refine lv_iconst (v := 1) hx hb dB_isWithin_9 (by decide) ?_
  refine lv_goto (tgt := 14) hx hb dB_isWithin_10 (by decide) ?_
  obtain ⟨hP9, hD9⟩ := xsub (wc := []) hP hD [] rfl rfl (by decide)
  refine W.widen (k := 0) (n := 0) (Nat.le_of_ble_eq_true rfl) (Nat.le_of_ble_eq_true rfl) ?_
  exact W.zret (v := 1) hx hb hr rfl (fun t ht hW => ⟨⟨1, (), rfl, rfl, by rw [ht]; exact hP9, va_K.moved hW.alike hK, hD9⟩, hS.F ht⟩) hS.2.2 dB_isWithin_14
set_option maxHeartbeats 400000000 in
set_option maxRecDepth 100000 in
theorem cR_is_2 (l : Launch) (hl9 : l.stackTraces = false) (D : va_G) (cT : Nat → ClassId) (aK aV : Nat → Nat) (sz : Nat) (a0 : Nat) (a1 : Nat) (v2 : Value) (f3 : Nat → Int64) (h4 : f3 0 = 0) : xMet l yR_is wyR_is 1 0 0 21 D cT aK aV sz [.ref a0, .int 0, .int 5] [(a0, .inr (2, [.ref a1, .int 1, v2])), (a1, .inl (cT 2, 4096, .inr (.inl f3)))] (fun A => va_Qi (fun (r : Int32) (_ : Unit) => r = 0) (fun _ t => xB D xcl cT A [(a0, .inr (2, [.ref a1, .int 1, v2])), (a1, .inl (cT 2, 4096, .inr (.inl f3)))] t) A) := by
  refine Met.ofW (cc := prog_8_method_7_code) (maxL := 3) (ret := (some .boolean)) (by decide) rfl ?_
  intro p e s m args below meth c s₁ B hml hv
  obtain ⟨rfl, hsz, hZ, hP, hK, hD0⟩ := hv
  have hx := B.exec
  have hb := B.bytes
  have hr := B.returns
  have hts := atoms_spec (ws := wyR_is) B.pre
  have htx := fun w h => hts w (List.mem_cons_of_mem _ h)
  have hown : s.vm.findClass "ValueBench$Row" = some m.cls := findClass_of_methodNamed B.named
  have hlocks := B.notSynchronized
  subst hsz
  have hD := hD0.self (sz := s.heap.size)
  generalize hAe : va_A [(a0, .inr (2, [.ref a1, .int 1, v2])), (a1, .inl (cT 2, 4096, .inr (.inl f3)))] s.heap.size = A at hD hZ ⊢
  have hA : ∀ q : Nat, s.heap.size ≤ q → A q := fun q h => by rw [← hAe]; exact Or.inr h
  have hS : va_S A s.heap s.heap [] := va_S.rf
  have hP : va_P D xcl [(a0, .inr (2, [.ref a1, .int 1, v2])), (a1, .inl (cT 2, 4096, .inr (.inl f3)))] s.heap := hP
  have hl := lv_entry ([.ref a0, .int 0, .int 5]) (n := 3) (Nat.le_of_ble_eq_true rfl)
  rw [lg_entry_eq]
  generalize (lg_sl ([.ref a0, .int 0, .int 5]) ++ List.replicate (3 - (lg_sl ([.ref a0, .int 0, .int 5])).length) Slot.unset).toArray = ls at hl ⊢
  have hl : lv_has ls 3 [(0, .ref a0), (1, .int 0), (2, .int 5)] := hl
  refine lv_aload_n hx hb dR_is_0 rfl (lv_at hl 0 rfl) ?_
  refine lv_iload_n hx hb dR_is_1 rfl (lv_at hl 1 rfl) ?_
  obtain ⟨hPc, hDc, hFc⟩ := xcut (wc := [(a0, .inr (2, [.ref a1, .int 1, v2])), (a1, .inl (cT 2, 4096, .inr (.inl f3)))]) hP hD hS hA [0, 1] rfl rfl (by decide)
  refine va_calli (va_runV (C := "ValueBench$Row") (As := [.int 0]) (rest := []) ⟨hx, hb, hml, hown, htx⟩ (cR_kind_0 l hl9 D cT aK aV s.heap.size a0 a1 v2 f3 (by first | rfl | exact h4)) ⟨callB_of 1 htx (xw_goodC kw_3_24) rfl rfl rfl (htx _ kw_1_4) (htx _ kw_3_76) ⟨by decide, by decide, by decide +kernel⟩ ⟨Nat.le_of_ble_eq_true rfl, Nat.le_of_ble_eq_true rfl⟩, (htx _ kw_3_22), (htx _ kw_3_23)⟩ ⟨xPre_blind, va_recv hK hP (ci := 2) rfl (q0 := 0) rfl, (fun U hU hW => ⟨rfl, xPre_of hZ hS hFc hPc hDc hK U hU hW⟩)⟩ rfl rfl hl.1 rfl (lv_room (Nat.le_of_ble_eq_true rfl)) dR_is_2 ⟨Nat.le_of_ble_eq_true rfl, Nat.le_of_ble_eq_true rfl⟩) hS (fun q _ h => hFc q h) hFc (fun r1 u9 t H1 locs ht hvm hr9 hB hz1 hk1 hS => ?_)
  obtain ⟨hP1, hK1, hD1⟩ := hB
  rw [ht] at hP1
  obtain ⟨hP, hD⟩ := xjoin (W := [(a0, .inr (2, [.ref a1, .int 1, v2])), (a1, .inl (cT 2, 4096, .inr (.inl f3)))]) hP hD [0, 1] [] 0 rfl rfl (by decide) (by decide) hk1 hFc hP1 hD1
  generalize H1 = H at hP hS ⊢
  rw [hr9]
  refine W.eq (g2 := F0 m 5 ls [.int 0]) rfl ?_
  refine lv_iload_n hx hb dR_is_5 rfl (lv_at hl 2 rfl) ?_
  refine lv_icmp_ne (tgt := 13) hx hb dR_is_6 (by decide) (fun _ => ?_) (fun h => ((by revert h; decide : False)).elim)
  refine lv_iconst (v := 0) hx hb dR_is_13 (by decide) ?_
  obtain ⟨hP9, hD9⟩ := xsub (wc := [(a0, .inr (2, [.ref a1, .int 1, v2])), (a1, .inl (cT 2, 4096, .inr (.inl f3)))]) hP hD [0, 1] rfl rfl (by decide)
  refine W.widen (k := 0) (n := 0) (Nat.le_of_ble_eq_true rfl) (Nat.le_of_ble_eq_true rfl) ?_
  exact W.zret (v := 0) hx hb hr rfl (fun t ht hW => ⟨⟨0, (), rfl, rfl, by rw [ht]; exact hP9, va_K.moved hW.alike hK, hD9⟩, hS.F ht⟩) hS.2.2 dR_is_14
set_option maxHeartbeats 400000000 in
set_option maxRecDepth 100000 in
theorem cA_minus_0 (l : Launch) (hl9 : l.stackTraces = false) (D : va_G) (cT : Nat → ClassId) (aK aV : Nat → Nat) (sz : Nat) (a0 : Nat) (a1 : Nat) (b2 : Nat) (v3 : Value) (f4 : Nat → Int64) (h5 : f4 0 = 0) : xMet l yA_minus wyA_minus 2 0 0 43 D cT aK aV sz [.ref a0, .ref a0, .ref b2] [(a0, .inr (2, [.ref a1, .int 1, v3])), (a1, .inl (cT 2, 4096, .inr (.inl f4)))] (fun A => va_Qi (fun (r : Int32) (_ : Unit) => r = 1) (fun _ t => xB D xcl cT A [(a0, .inr (2, [.ref a1, .int 1, v3])), (a1, .inl (cT 2, 4096, .inr (.inl f4)))] t) A) := by
  refine Met.ofW (cc := prog_3_method_10_code) (maxL := 7) (ret := (some .int)) (by decide) rfl ?_
  intro p e s m args below meth c s₁ B hml hv
  obtain ⟨rfl, hsz, hZ, hP, hK, hD0⟩ := hv
  have hx := B.exec
  have hb := B.bytes
  have hr := B.returns
  have hts := atoms_spec (ws := wyA_minus) B.pre
  have htx := fun w h => hts w (List.mem_cons_of_mem _ h)
  have hown : s.vm.findClass "ValueBench$Operators" = some m.cls := findClass_of_methodNamed B.named
  have hlocks := B.notSynchronized
  subst hsz
  have hD := hD0.self (sz := s.heap.size)
  generalize hAe : va_A [(a0, .inr (2, [.ref a1, .int 1, v3])), (a1, .inl (cT 2, 4096, .inr (.inl f4)))] s.heap.size = A at hD hZ ⊢
  have hA : ∀ q : Nat, s.heap.size ≤ q → A q := fun q h => by rw [← hAe]; exact Or.inr h
  have hS : va_S A s.heap s.heap [] := va_S.rf
  have hP : va_P D xcl [(a0, .inr (2, [.ref a1, .int 1, v3])), (a1, .inl (cT 2, 4096, .inr (.inl f4)))] s.heap := hP
  have hl := lv_entry ([.ref a0, .ref a0, .ref b2]) (n := 7) (Nat.le_of_ble_eq_true rfl)
  rw [lg_entry_eq]
  generalize (lg_sl ([.ref a0, .ref a0, .ref b2]) ++ List.replicate (7 - (lg_sl ([.ref a0, .ref a0, .ref b2])).length) Slot.unset).toArray = ls at hl ⊢
  have hl : lv_has ls 7 [(0, .ref a0), (1, .ref a0), (2, .ref b2)] := hl
  refine lv_aload_n hx hb dA_minus_0 rfl (lv_at hl 0 rfl) ?_
  refine lv_iconst (v := 0) hx hb dA_minus_1 (by decide) ?_
  refine lv_iconst (v := 5) hx hb dA_minus_2 (by decide) ?_
  obtain ⟨hPc, hDc, hFc⟩ := xcut (wc := [(a0, .inr (2, [.ref a1, .int 1, v3])), (a1, .inl (cT 2, 4096, .inr (.inl f4)))]) hP hD hS hA [0, 1] rfl rfl (by decide)
  refine va_calli (va_runV (C := "ValueBench$Row") (As := [.int 0, .int 5]) (rest := []) ⟨hx, hb, hml, hown, htx⟩ (cR_is_2 l hl9 D cT aK aV s.heap.size a0 a1 v3 f4 (by first | rfl | exact h5)) ⟨callB_of 2 htx (xw_goodC kw_3_75) rfl rfl rfl (htx _ kw_1_4) (htx _ kw_3_106) ⟨by decide, by decide, by decide +kernel⟩ ⟨Nat.le_of_ble_eq_true rfl, Nat.le_of_ble_eq_true rfl⟩, (htx _ kw_3_73), (htx _ kw_3_74)⟩ ⟨xPre_blind, va_recv hK hP (ci := 2) rfl (q0 := 0) rfl, (fun U hU hW => ⟨rfl, xPre_of hZ hS hFc hPc hDc hK U hU hW⟩)⟩ rfl rfl hl.1 rfl (lv_room (Nat.le_of_ble_eq_true rfl)) dA_minus_3 ⟨Nat.le_of_ble_eq_true rfl, Nat.le_of_ble_eq_true rfl⟩) hS (fun q _ h => hFc q h) hFc (fun r1 u9 t H1 locs ht hvm hr9 hB hz1 hk1 hS => ?_)
  obtain ⟨hP1, hK1, hD1⟩ := hB
  rw [ht] at hP1
  obtain ⟨hP, hD⟩ := xjoin (W := [(a0, .inr (2, [.ref a1, .int 1, v3])), (a1, .inl (cT 2, 4096, .inr (.inl f4)))]) hP hD [0, 1] [] 0 rfl rfl (by decide) (by decide) hk1 hFc hP1 hD1
  generalize H1 = H at hP hS ⊢
  rw [hr9]
  refine W.eq (g2 := F0 m 6 ls [.int 0]) rfl ?_
  refine lv_if_eq (tgt := 18) hx hb dA_minus_6 (by decide) (fun _ => ?_) (fun h => ((by revert h; decide : False)).elim)
  refine lv_iconst (v := 1) hx hb dA_minus_18 (by decide) ?_
  obtain ⟨hP9, hD9⟩ := xsub (wc := [(a0, .inr (2, [.ref a1, .int 1, v3])), (a1, .inl (cT 2, 4096, .inr (.inl f4)))]) hP hD [0, 1] rfl rfl (by decide)
  refine W.widen (k := 0) (n := 0) (Nat.le_of_ble_eq_true rfl) (Nat.le_of_ble_eq_true rfl) ?_
  exact W.iret (v := 1) hx hb hr (fun t ht hW => ⟨⟨1, (), rfl, rfl, by rw [ht]; exact hP9, va_K.moved hW.alike hK, hD9⟩, hS.F ht⟩) hS.2.2 dA_minus_19
set_option maxHeartbeats 400000000 in
set_option maxRecDepth 100000 in
theorem cA_apply_2 (l : Launch) (hl9 : l.stackTraces = false) (D : va_G) (cT : Nat → ClassId) (aK aV : Nat → Nat) (sz : Nat) (a0 : Nat) (a1 : Nat) (b2 : Nat) (v3 : Value) (f4 : Nat → Int64) (h5 : f4 0 = 0) : xMet l yA_apply wyA_apply 3 0 0 69 D cT aK aV sz [.int 1, .ref a0, .ref a0, .ref b2] [(a0, .inr (2, [.ref a1, .int 1, v3])), (a1, .inl (cT 2, 4096, .inr (.inl f4)))] (fun A => va_Qi (fun (r : Int32) (_ : Unit) => r = 1) (fun _ t => xB D xcl cT A [(a0, .inr (2, [.ref a1, .int 1, v3])), (a1, .inl (cT 2, 4096, .inr (.inl f4)))] t) A) := by
  refine Met.ofW (cc := prog_3_method_2_code) (maxL := 4) (ret := (some .int)) (by decide) rfl ?_
  intro p e s m args below meth c s₁ B hml hv
  obtain ⟨rfl, hsz, hZ, hP, hK, hD0⟩ := hv
  have hx := B.exec
  have hb := B.bytes
  have hr := B.returns
  have hts := atoms_spec (ws := wyA_apply) B.pre
  have htx := fun w h => hts w (List.mem_cons_of_mem _ h)
  have hown : s.vm.findClass "ValueBench$Operators" = some m.cls := findClass_of_methodNamed B.named
  have hlocks := B.notSynchronized
  subst hsz
  have hD := hD0.self (sz := s.heap.size)
  generalize hAe : va_A [(a0, .inr (2, [.ref a1, .int 1, v3])), (a1, .inl (cT 2, 4096, .inr (.inl f4)))] s.heap.size = A at hD hZ ⊢
  have hA : ∀ q : Nat, s.heap.size ≤ q → A q := fun q h => by rw [← hAe]; exact Or.inr h
  have hS : va_S A s.heap s.heap [] := va_S.rf
  have hP : va_P D xcl [(a0, .inr (2, [.ref a1, .int 1, v3])), (a1, .inl (cT 2, 4096, .inr (.inl f4)))] s.heap := hP
  have hl := lv_entry ([.int 1, .ref a0, .ref a0, .ref b2]) (n := 4) (Nat.le_of_ble_eq_true rfl)
  rw [lg_entry_eq]
  generalize (lg_sl ([.int 1, .ref a0, .ref a0, .ref b2]) ++ List.replicate (4 - (lg_sl ([.int 1, .ref a0, .ref a0, .ref b2])).length) Slot.unset).toArray = ls at hl ⊢
  have hl : lv_has ls 4 [(0, .int 1), (1, .ref a0), (2, .ref a0), (3, .ref b2)] := hl
  refine lv_aload_n hx hb dA_apply_0 rfl (lv_at hl 1 rfl) ?_
  refine lv_iconst (v := 0) hx hb dA_apply_1 (by decide) ?_
  refine lv_iconst (v := 3) hx hb dA_apply_2 (by decide) ?_
  obtain ⟨hPc, hDc, hFc⟩ := xcut (wc := [(a0, .inr (2, [.ref a1, .int 1, v3])), (a1, .inl (cT 2, 4096, .inr (.inl f4)))]) hP hD hS hA [0, 1] rfl rfl (by decide)
  refine va_calli (va_runV (C := "ValueBench$Row") (As := [.int 0, .int 3]) (rest := []) ⟨hx, hb, hml, hown, htx⟩ (cR_is_0 l hl9 D cT aK aV s.heap.size a0 a1 v3 f4 (by first | rfl | exact h5)) ⟨callB_of 2 htx (xw_goodC kw_3_75) rfl rfl rfl (htx _ kw_1_4) (htx _ kw_3_106) ⟨by decide, by decide, by decide +kernel⟩ ⟨Nat.le_of_ble_eq_true rfl, Nat.le_of_ble_eq_true rfl⟩, (htx _ kw_3_73), (htx _ kw_3_74)⟩ ⟨xPre_blind, va_recv hK hP (ci := 2) rfl (q0 := 0) rfl, (fun U hU hW => ⟨rfl, xPre_of hZ hS hFc hPc hDc hK U hU hW⟩)⟩ rfl rfl hl.1 rfl (lv_room (Nat.le_of_ble_eq_true rfl)) dA_apply_3 ⟨Nat.le_of_ble_eq_true rfl, Nat.le_of_ble_eq_true rfl⟩) hS (fun q _ h => hFc q h) hFc (fun r1 u9 t H1 locs ht hvm hr9 hB hz1 hk1 hS => ?_)
  obtain ⟨hP1, hK1, hD1⟩ := hB
  rw [ht] at hP1
  obtain ⟨hP, hD⟩ := xjoin (W := [(a0, .inr (2, [.ref a1, .int 1, v3])), (a1, .inl (cT 2, 4096, .inr (.inl f4)))]) hP hD [0, 1] [] 0 rfl rfl (by decide) (by decide) hk1 hFc hP1 hD1
  generalize H1 = H at hP hS ⊢
  rw [hr9]
  refine W.eq (g2 := F0 m 6 ls [.int 0]) rfl ?_
  refine lv_if_eq (tgt := 34) hx hb dA_apply_6 (by decide) (fun _ => ?_) (fun h => ((by revert h; decide : False)).elim)
  refine lv_iload_n hx hb dA_apply_34 rfl (lv_at hl 0 rfl) ?_
  refine lv_tableIn (off := 36) (tgt := 71) hx hb dA_apply_35 (by decide) (by decide) (by decide) (by decide) ?_
  refine lv_aload_n hx hb dA_apply_71 rfl (lv_at hl 1 rfl) ?_
  refine lv_aload_n hx hb dA_apply_72 rfl (lv_at hl 2 rfl) ?_
  refine lv_aload_n hx hb dA_apply_73 rfl (lv_at hl 3 rfl) ?_
  obtain ⟨hPc, hDc, hFc⟩ := xcut (wc := [(a0, .inr (2, [.ref a1, .int 1, v3])), (a1, .inl (cT 2, 4096, .inr (.inl f4)))]) hP hD hS hA [0, 1] rfl rfl (by decide)
  refine va_calli (va_runS (As := [.ref a0, .ref a0, .ref b2]) (rest := []) ⟨hx, hb, hml, hown, htx⟩ (cA_minus_0 l hl9 D cT aK aV H.size a0 a1 b2 v3 f4 (by first | rfl | exact h5)) ⟨callB_of 3 htx (xw_goodC kw_3_155) rfl rfl rfl (htx _ kw_1_21) (htx _ kw_3_153) ⟨by decide, by decide, by decide +kernel⟩ ⟨Nat.le_of_ble_eq_true rfl, Nat.le_of_ble_eq_true rfl⟩, htx _ kw_3_154⟩ ⟨xPre_blind, (fun U hU hW => ⟨rfl, xPre_of hZ hS hFc hPc hDc hK U hU hW⟩)⟩ rfl rfl hl.1 rfl (lv_room (Nat.le_of_ble_eq_true rfl)) dA_apply_74 ⟨Nat.le_of_ble_eq_true rfl, Nat.le_of_ble_eq_true rfl⟩) hS (fun q _ h => hFc q h) hFc (fun r2 u9 t H1 locs ht hvm hr9 hB hz1 hk1 hS => ?_)
  obtain ⟨hP1, hK1, hD1⟩ := hB
  rw [ht] at hP1
  obtain ⟨hP, hD⟩ := xjoin (W := [(a0, .inr (2, [.ref a1, .int 1, v3])), (a1, .inl (cT 2, 4096, .inr (.inl f4)))]) hP hD [0, 1] [] 0 rfl rfl (by decide) (by decide) hk1 hFc hP1 hD1
  generalize H1 = H at hP hS ⊢
  rw [hr9]
  refine W.eq (g2 := F0 m 77 ls [.int 1]) rfl ?_
  obtain ⟨hP9, hD9⟩ := xsub (wc := [(a0, .inr (2, [.ref a1, .int 1, v3])), (a1, .inl (cT 2, 4096, .inr (.inl f4)))]) hP hD [0, 1] rfl rfl (by decide)
  refine W.widen (k := 0) (n := 0) (Nat.le_of_ble_eq_true rfl) (Nat.le_of_ble_eq_true rfl) ?_
  exact W.iret (v := 1) hx hb hr (fun t ht hW => ⟨⟨1, (), rfl, rfl, by rw [ht]; exact hP9, va_K.moved hW.alike hK, hD9⟩, hS.F ht⟩) hS.2.2 dA_apply_77
set_option maxHeartbeats 400000000 in
set_option maxRecDepth 100000 in
theorem cB_demandDone_1 (l : Launch) (hl9 : l.stackTraces = false) (D : va_G) (cT : Nat → ClassId) (aK aV : Nat → Nat) (sz : Nat) (a0 : Nat) (v1 : Value) (v2 : Value) (v3 : Value) (v4 : Value) (v5 : Value) (v6 : Value) (v7 : Value) (v8 : Value) : xMetX l yB_demandDone wyB_demandDone 6 1 6 100 D cT aK aV sz [.ref a0, .int 1] [(a0, .inr (0, [v1, v2, v3, v4, v5, v6, v7, v8]))] "java/lang/ArithmeticException" (fun A t => xB D xcl cT A [(a0, .inr (0, [v1, v2, v3, v4, v5, v6, v7, .int 1]))] t) := by
  refine vx_ofW (cc := prog_1_method_17_code) (maxL := 2) (ret := none) (by decide) rfl ?_
  intro p e s m args below meth c s₁ B hml hne hv
  obtain ⟨rfl, hsz, hZ, hP, hK, hD0⟩ := hv
  have hx := B.exec
  have hb := B.bytes
  have hr := B.returns
  have hts := atoms_spec (ws := wyB_demandDone) B.pre
  have htx := fun w h => hts w (List.mem_cons_of_mem _ h)
  have hown : s.vm.findClass "ValueBench" = some m.cls := findClass_of_methodNamed B.named
  have hlocks := B.notSynchronized
  subst hsz
  have hD := hD0.self (sz := s.heap.size)
  generalize hAe : va_A [(a0, .inr (0, [v1, v2, v3, v4, v5, v6, v7, v8]))] s.heap.size = A at hD hZ ⊢
  have hA : ∀ q : Nat, s.heap.size ≤ q → A q := fun q h => by rw [← hAe]; exact Or.inr h
  have hS : va_S A s.heap s.heap [] := va_S.rf
  have hP : va_P D xcl [(a0, .inr (0, [v1, v2, v3, v4, v5, v6, v7, v8]))] s.heap := hP
  have hl := lv_entry ([.ref a0, .int 1]) (n := 2) (Nat.le_of_ble_eq_true rfl)
  rw [lg_entry_eq]
  generalize (lg_sl ([.ref a0, .int 1]) ++ List.replicate (2 - (lg_sl ([.ref a0, .int 1])).length) Slot.unset).toArray = ls at hl ⊢
  have hl : lv_has ls 2 [(0, .ref a0), (1, .int 1)] := hl
  refine lv_iload_n hx hb dB_demandDone_0 rfl (lv_at hl 1 rfl) ?_
  refine lv_if_ne (tgt := 5) hx hb dB_demandDone_1 (by decide) (fun _ => ?_) (fun h => ((by revert h; decide : False)).elim)
  refine lv_aload_n hx hb dB_demandDone_5 rfl (lv_at hl 0 rfl) ?_
  refine lv_iload_n hx hb dB_demandDone_6 rfl (lv_at hl 1 rfl) ?_
  refine va_put (D := D) (ci := 0) (v := .int 1) (ty := .int) (C := "ValueBench") (T := TB) (N := 8) hx hb htx inB tyB tyB_ok nmB hown hK hP hD hS 0 rfl rfl 7 (by decide) (htx _ kw_1_102) (fun _ h9 => h9) rfl (by decide +kernel) rfl rfl (Nat.le_of_ble_eq_true rfl) dB_demandDone_7 (fun H locs hP hD hS => ?_)
  obtain ⟨hP, hD⟩ : xPD D xcl A [(a0, .inr (0, [v1, v2, v3, v4, v5, v6, v7, .int 1]))] H := ⟨hP, hD⟩
  refine lv_iload_n hx hb dB_demandDone_10 rfl (lv_at hl 1 rfl) ?_
  refine lv_tableIn (off := 29) (tgt := 40) hx hb dB_demandDone_11 (by decide) (by decide) (by decide) (by decide) ?_
  obtain ⟨hP9, hD9⟩ := xsub (wc := [(a0, .inr (0, [v1, v2, v3, v4, v5, v6, v7, .int 1]))]) hP hD [0] rfl rfl (by decide)
  exact vx_throwS (own := "ValueBench") (cls := "java/lang/ArithmeticException") (text := "type") (sa := aK 4) (names := ["java/lang/RuntimeException", "java/lang/Exception"]) hx hb hl9 hown (by decide +kernel) (by decide +kernel) (htx _ kw_3_223) (htx _ kw_1_20) (hZ.2.2.2.2.2.2.2.2.1 ("ValueBench", 156, "type", 4) (List.mem_of_getElem? (i := 4) rfl)) (vx_hat (B := [.castable "java/lang/ArithmeticException" "java/lang/ArithmeticException", .declares ⟨"java/lang/RuntimeException", "<init>", "(Ljava/lang/String;)V"⟩, .declares ⟨"java/lang/Exception", "<init>", "(Ljava/lang/String;)V"⟩, .declares ⟨"java/lang/Throwable", "<init>", "(Ljava/lang/String;)V"⟩]) (fun w h => htx w (xat_B_154_158 w h)) xat_B_154_158_b (vx_c ((hZ.2.2.2.2.2.1 "java/lang/ArithmeticException" (List.mem_of_getElem? (i := 3) rfl)).use rfl) (vx_c ((hZ.2.2.2.2.2.2.1 ⟨"java/lang/RuntimeException", "<init>", "(Ljava/lang/String;)V"⟩ (List.mem_of_getElem? (i := 3) rfl)).use rfl) (vx_c ((hZ.2.2.2.2.2.2.1 ⟨"java/lang/Exception", "<init>", "(Ljava/lang/String;)V"⟩ (List.mem_of_getElem? (i := 4) rfl)).use rfl) (vx_c ((hZ.2.2.2.2.2.2.1 ⟨"java/lang/Throwable", "<init>", "(Ljava/lang/String;)V"⟩ (List.mem_of_getElem? (i := 5) rfl)).use rfl) vx_n))))) xat_B_154_158_g hZ.2.2.2.1 hZ.2.2.2.2.1 hS (hl.1.trans hml.symm) dB_demandDone_40 dB_demandDone_43 dB_demandDone_44 dB_demandDone_46 dB_demandDone_49 (fun x h => (hne x h).elim) (by decide) (Nat.le_of_ble_eq_true rfl) (Nat.le_of_ble_eq_true rfl) (Nat.le_of_ble_eq_true rfl) hlocks (fun t ha hz hk => ⟨(), trivial, ⟨rfl, xx_keepP hP9 hk, va_K.moved ha hK, hD9⟩, xx_grown hS hz hk⟩) hS.2.2 (Nat.le_of_ble_eq_true rfl) (Nat.le_of_ble_eq_true rfl)
set_option maxHeartbeats 400000000 in
set_option maxRecDepth 100000 in
theorem cB_binary_10 (l : Launch) (hl9 : l.stackTraces = false) (D : va_G) (cT : Nat → ClassId) (aK aV : Nat → Nat) (sz : Nat) (a0 : Nat) (a1 : Nat) (a2 : Nat) (a3 : Nat) (a4 : Nat) (x5 : Int32) (x10 : Int32) (x15 : Int32) (v20 : Value) (v21 : Value) (v22 : Value) (v23 : Value) (v24 : Value) (v25 : Value) (v26 : Value) (v27 : Value) (v28 : Value) (f29 : Nat → Option Nat) (v32 : Value) (f33 : Nat → Int64) (h6 : ¬ x5 < 0) (h7 : ¬ 7 < x5) (h8 : x5 ≤ 7) (h9 : vp_in x5 8) (h11 : ¬ x10 < 0) (h12 : ¬ 7 < x10) (h13 : x10 ≤ 7) (h14 : vp_in x10 8) (h16 : ¬ x15 < 0) (h17 : ¬ 7 < x15) (h18 : x15 ≤ 7) (h19 : vp_in x15 8) (h30 : f29 x10.toNatClampNeg = some a3) (h31 : f29 x15.toNatClampNeg = some a3) (h34 : f33 0 = 0) : xMetX l yB_binary wyB_binary 7 1 6 121 D cT aK aV sz [.ref a0, .int x5, .int 1, .int x10, .int x15] [(a0, .inr (0, [v20, v21, v22, .ref a2, v23, .ref a1, v24, v25])), (a1, .inr (2, [v26, v27, v28])), (a2, .inl (cT 3, 8, .inr (.inr (.inr (.inr f29))))), (a3, .inr (2, [.ref a4, .int 1, v32])), (a4, .inl (cT 2, 4096, .inr (.inl f33)))] "java/lang/ArithmeticException" (fun A t => xB D xcl cT A [(a0, .inr (0, [v20, v21, v22, .ref a2, v23, .ref a1, v24, .int 1])), (a1, .inr (2, [v26, .int 0, .int 0])), (a2, .inl (cT 3, 8, .inr (.inr (.inr (.inr f29))))), (a3, .inr (2, [.ref a4, .int 1, v32])), (a4, .inl (cT 2, 4096, .inr (.inl f33)))] t) := by
  refine vx_ofW (cc := prog_1_method_6_code) (maxL := 5) (ret := none) (by decide) rfl ?_
  intro p e s m args below meth c s₁ B hml hne hv
  obtain ⟨rfl, hsz, hZ, hP, hK, hD0⟩ := hv
  have hx := B.exec
  have hb := B.bytes
  have hr := B.returns
  have hts := atoms_spec (ws := wyB_binary) B.pre
  have htx := fun w h => hts w (List.mem_cons_of_mem _ h)
  have hown : s.vm.findClass "ValueBench" = some m.cls := findClass_of_methodNamed B.named
  have hlocks := B.notSynchronized
  subst hsz
  have hD := hD0.self (sz := s.heap.size)
  generalize hAe : va_A [(a0, .inr (0, [v20, v21, v22, .ref a2, v23, .ref a1, v24, v25])), (a1, .inr (2, [v26, v27, v28])), (a2, .inl (cT 3, 8, .inr (.inr (.inr (.inr f29))))), (a3, .inr (2, [.ref a4, .int 1, v32])), (a4, .inl (cT 2, 4096, .inr (.inl f33)))] s.heap.size = A at hD hZ ⊢
  have hA : ∀ q : Nat, s.heap.size ≤ q → A q := fun q h => by rw [← hAe]; exact Or.inr h
  have hS : va_S A s.heap s.heap [] := va_S.rf
  have hP : va_P D xcl [(a0, .inr (0, [v20, v21, v22, .ref a2, v23, .ref a1, v24, v25])), (a1, .inr (2, [v26, v27, v28])), (a2, .inl (cT 3, 8, .inr (.inr (.inr (.inr f29))))), (a3, .inr (2, [.ref a4, .int 1, v32])), (a4, .inl (cT 2, 4096, .inr (.inl f33)))] s.heap := hP
  have hl := lv_entry ([.ref a0, .int x5, .int 1, .int x10, .int x15]) (n := 5) (Nat.le_of_ble_eq_true rfl)
  rw [lg_entry_eq]
  generalize (lg_sl ([.ref a0, .int x5, .int 1, .int x10, .int x15]) ++ List.replicate (5 - (lg_sl ([.ref a0, .int x5, .int 1, .int x10, .int x15])).length) Slot.unset).toArray = ls at hl ⊢
  have hl : lv_has ls 5 [(0, .ref a0), (1, .int x5), (2, .int 1), (3, .int x10), (4, .int x15)] := hl
  refine lv_iload_n hx hb dB_binary_0 rfl (lv_at hl 1 rfl) ?_
  obtain ⟨hPc, hDc, hFc⟩ := xcut (wc := []) hP hD hS hA [] rfl rfl (by decide)
  refine va_calli (va_runS (As := [.int x5]) (rest := []) ⟨hx, hb, hml, hown, htx⟩ (cB_isRegister_2 l hl9 D cT aK aV s.heap.size x5 h6 h7 h8 h9) ⟨callB_of 1 htx (xw_goodC kw_2_18) rfl rfl rfl (htx _ kw_1_1) (htx _ kw_2_16) ⟨by decide, by decide, by decide +kernel⟩ ⟨Nat.le_of_ble_eq_true rfl, Nat.le_of_ble_eq_true rfl⟩, htx _ kw_2_17⟩ ⟨xPre_blind, (fun U hU hW => ⟨rfl, xPre_of hZ hS hFc hPc hDc hK U hU hW⟩)⟩ rfl rfl hl.1 rfl (lv_room (Nat.le_of_ble_eq_true rfl)) dB_binary_1 ⟨Nat.le_of_ble_eq_true rfl, Nat.le_of_ble_eq_true rfl⟩) hS (fun q _ h => hFc q h) hFc (fun r1 u9 t H1 locs ht hvm hr9 hB hz1 hk1 hS => ?_)
  obtain ⟨hP1, hK1, hD1⟩ := hB
  rw [ht] at hP1
  obtain ⟨hP, hD⟩ := xjoin (W := [(a0, .inr (0, [v20, v21, v22, .ref a2, v23, .ref a1, v24, v25])), (a1, .inr (2, [v26, v27, v28])), (a2, .inl (cT 3, 8, .inr (.inr (.inr (.inr f29))))), (a3, .inr (2, [.ref a4, .int 1, v32])), (a4, .inl (cT 2, 4096, .inr (.inl f33)))]) hP hD [] [0, 1, 2, 3, 4] 5 rfl rfl (by decide) (by decide) hk1 hFc hP1 hD1
  generalize H1 = H at hP hS ⊢
  rw [hr9]
  refine W.eq (g2 := F0 m 4 ls [.int 1]) rfl ?_
  refine lv_if_eq (tgt := 34) hx hb dB_binary_4 (by decide) (fun h => ((by revert h; decide : False)).elim) (fun _ => ?_)
  refine lv_iload_n hx hb dB_binary_7 rfl (lv_at hl 2 rfl) ?_
  refine lv_iconst (v := 4) hx hb dB_binary_8 (by decide) ?_
  obtain ⟨hPc, hDc, hFc⟩ := xcut (wc := []) hP hD hS hA [] rfl rfl (by decide)
  refine va_calli (va_runS (As := [.int 1, .int 4]) (rest := []) ⟨hx, hb, hml, hown, htx⟩ (cB_isWithin_8 l hl9 D cT aK aV H.size) ⟨callB_of 2 htx (xw_goodC kw_1_218) rfl rfl rfl (htx _ kw_1_1) (htx _ kw_1_216) ⟨by decide, by decide, by decide +kernel⟩ ⟨Nat.le_of_ble_eq_true rfl, Nat.le_of_ble_eq_true rfl⟩, htx _ kw_1_217⟩ ⟨xPre_blind, (fun U hU hW => ⟨rfl, xPre_of hZ hS hFc hPc hDc hK U hU hW⟩)⟩ rfl rfl hl.1 rfl (lv_room (Nat.le_of_ble_eq_true rfl)) dB_binary_9 ⟨Nat.le_of_ble_eq_true rfl, Nat.le_of_ble_eq_true rfl⟩) hS (fun q _ h => hFc q h) hFc (fun r2 u9 t H1 locs ht hvm hr9 hB hz1 hk1 hS => ?_)
  obtain ⟨hP1, hK1, hD1⟩ := hB
  rw [ht] at hP1
  obtain ⟨hP, hD⟩ := xjoin (W := [(a0, .inr (0, [v20, v21, v22, .ref a2, v23, .ref a1, v24, v25])), (a1, .inr (2, [v26, v27, v28])), (a2, .inl (cT 3, 8, .inr (.inr (.inr (.inr f29))))), (a3, .inr (2, [.ref a4, .int 1, v32])), (a4, .inl (cT 2, 4096, .inr (.inl f33)))]) hP hD [] [0, 1, 2, 3, 4] 5 rfl rfl (by decide) (by decide) hk1 hFc hP1 hD1
  generalize H1 = H at hP hS ⊢
  rw [hr9]
  refine W.eq (g2 := F0 m 12 ls [.int 1]) rfl ?_
  refine lv_if_eq (tgt := 34) hx hb dB_binary_12 (by decide) (fun h => ((by revert h; decide : False)).elim) (fun _ => ?_)
  refine lv_iload_n hx hb dB_binary_15 rfl (lv_at hl 3 rfl) ?_
  obtain ⟨hPc, hDc, hFc⟩ := xcut (wc := []) hP hD hS hA [] rfl rfl (by decide)
  refine va_calli (va_runS (As := [.int x10]) (rest := []) ⟨hx, hb, hml, hown, htx⟩ (cB_isRegister_2 l hl9 D cT aK aV H.size x10 h11 h12 h13 h14) ⟨callB_of 1 htx (xw_goodC kw_2_18) rfl rfl rfl (htx _ kw_1_1) (htx _ kw_2_16) ⟨by decide, by decide, by decide +kernel⟩ ⟨Nat.le_of_ble_eq_true rfl, Nat.le_of_ble_eq_true rfl⟩, htx _ kw_2_17⟩ ⟨xPre_blind, (fun U hU hW => ⟨rfl, xPre_of hZ hS hFc hPc hDc hK U hU hW⟩)⟩ rfl rfl hl.1 rfl (lv_room (Nat.le_of_ble_eq_true rfl)) dB_binary_16 ⟨Nat.le_of_ble_eq_true rfl, Nat.le_of_ble_eq_true rfl⟩) hS (fun q _ h => hFc q h) hFc (fun r3 u9 t H1 locs ht hvm hr9 hB hz1 hk1 hS => ?_)
  obtain ⟨hP1, hK1, hD1⟩ := hB
  rw [ht] at hP1
  obtain ⟨hP, hD⟩ := xjoin (W := [(a0, .inr (0, [v20, v21, v22, .ref a2, v23, .ref a1, v24, v25])), (a1, .inr (2, [v26, v27, v28])), (a2, .inl (cT 3, 8, .inr (.inr (.inr (.inr f29))))), (a3, .inr (2, [.ref a4, .int 1, v32])), (a4, .inl (cT 2, 4096, .inr (.inl f33)))]) hP hD [] [0, 1, 2, 3, 4] 5 rfl rfl (by decide) (by decide) hk1 hFc hP1 hD1
  generalize H1 = H at hP hS ⊢
  rw [hr9]
  refine W.eq (g2 := F0 m 19 ls [.int 1]) rfl ?_
  refine lv_if_eq (tgt := 34) hx hb dB_binary_19 (by decide) (fun h => ((by revert h; decide : False)).elim) (fun _ => ?_)
  refine lv_iload hx hb dB_binary_22 (lv_at hl 4 rfl) ?_
  obtain ⟨hPc, hDc, hFc⟩ := xcut (wc := []) hP hD hS hA [] rfl rfl (by decide)
  refine va_calli (va_runS (As := [.int x15]) (rest := []) ⟨hx, hb, hml, hown, htx⟩ (cB_isRegister_2 l hl9 D cT aK aV H.size x15 h16 h17 h18 h19) ⟨callB_of 1 htx (xw_goodC kw_2_18) rfl rfl rfl (htx _ kw_1_1) (htx _ kw_2_16) ⟨by decide, by decide, by decide +kernel⟩ ⟨Nat.le_of_ble_eq_true rfl, Nat.le_of_ble_eq_true rfl⟩, htx _ kw_2_17⟩ ⟨xPre_blind, (fun U hU hW => ⟨rfl, xPre_of hZ hS hFc hPc hDc hK U hU hW⟩)⟩ rfl rfl hl.1 rfl (lv_room (Nat.le_of_ble_eq_true rfl)) dB_binary_24 ⟨Nat.le_of_ble_eq_true rfl, Nat.le_of_ble_eq_true rfl⟩) hS (fun q _ h => hFc q h) hFc (fun r4 u9 t H1 locs ht hvm hr9 hB hz1 hk1 hS => ?_)
  obtain ⟨hP1, hK1, hD1⟩ := hB
  rw [ht] at hP1
  obtain ⟨hP, hD⟩ := xjoin (W := [(a0, .inr (0, [v20, v21, v22, .ref a2, v23, .ref a1, v24, v25])), (a1, .inr (2, [v26, v27, v28])), (a2, .inl (cT 3, 8, .inr (.inr (.inr (.inr f29))))), (a3, .inr (2, [.ref a4, .int 1, v32])), (a4, .inl (cT 2, 4096, .inr (.inl f33)))]) hP hD [] [0, 1, 2, 3, 4] 5 rfl rfl (by decide) (by decide) hk1 hFc hP1 hD1
  generalize H1 = H at hP hS ⊢
  rw [hr9]
  refine W.eq (g2 := F0 m 27 ls [.int 1]) rfl ?_
  refine lv_if_eq (tgt := 34) hx hb dB_binary_27 (by decide) (fun h => ((by revert h; decide : False)).elim) (fun _ => ?_)
  refine lv_iconst (v := 1) hx hb dB_binary_30 (by decide) ?_
  refine lv_goto (tgt := 35) hx hb dB_binary_31 (by decide) ?_
  obtain ⟨hPc, hDc, hFc⟩ := xcut (wc := []) hP hD hS hA [] rfl rfl (by decide)
  refine va_callv (va_runS (As := [.int 1]) (rest := []) ⟨hx, hb, hml, hown, htx⟩ (cB_demand_1 l hl9 D cT aK aV H.size) ⟨callB_of 1 htx (xw_goodC kw_1_221) rfl rfl rfl (htx _ kw_1_1) (htx _ kw_1_219) ⟨by decide, by decide, by decide +kernel⟩ ⟨Nat.le_of_ble_eq_true rfl, Nat.le_of_ble_eq_true rfl⟩, htx _ kw_1_220⟩ ⟨xPre_blind, (fun U hU hW => ⟨rfl, xPre_of hZ hS hFc hPc hDc hK U hU hW⟩)⟩ rfl rfl hl.1 rfl (lv_room (Nat.le_of_ble_eq_true rfl)) dB_binary_35 ⟨Nat.le_of_ble_eq_true rfl, Nat.le_of_ble_eq_true rfl⟩) hS (fun q _ h => hFc q h) hFc (fun u9 t H1 locs ht hvm hr9 hB hz1 hk1 hS => ?_)
  obtain ⟨hP1, hK1, hD1⟩ := hB
  rw [ht] at hP1
  obtain ⟨hP, hD⟩ := xjoin (W := [(a0, .inr (0, [v20, v21, v22, .ref a2, v23, .ref a1, v24, v25])), (a1, .inr (2, [v26, v27, v28])), (a2, .inl (cT 3, 8, .inr (.inr (.inr (.inr f29))))), (a3, .inr (2, [.ref a4, .int 1, v32])), (a4, .inl (cT 2, 4096, .inr (.inl f33)))]) hP hD [] [0, 1, 2, 3, 4] 5 rfl rfl (by decide) (by decide) hk1 hFc hP1 hD1
  generalize H1 = H at hP hS ⊢
  refine lv_aload_n hx hb dB_binary_38 rfl (lv_at hl 0 rfl) ?_
  refine va_get (D := D) (ci := 0) (v := .ref a1) (C := "ValueBench") (T := TB) (N := 8) hx hb htx inB hown hK hP 0 rfl rfl 5 (by decide) (htx _ kw_1_100) (fun _ h9 => h9) rfl dB_binary_39 ?_
  obtain ⟨hPc, hDc, hFc⟩ := xcut (wc := [(a1, .inr (2, [v26, v27, v28]))]) hP hD hS hA [1] rfl rfl (by decide)
  refine va_callv (va_runV (C := "ValueBench$Row") (As := []) (rest := []) ⟨hx, hb, hml, hown, htx⟩ (cR_clear_0 l hl9 D cT aK aV H.size a1 v26 v27 v28) ⟨callB_of 0 htx (xw_goodC kw_2_22) rfl rfl rfl (htx _ kw_1_4) (htx _ kw_2_19) ⟨by decide, by decide, by decide +kernel⟩ ⟨Nat.le_of_ble_eq_true rfl, Nat.le_of_ble_eq_true rfl⟩, (htx _ kw_2_20), (htx _ kw_2_21)⟩ ⟨xPre_blind, va_recv hK hP (ci := 2) rfl (q0 := 1) rfl, (fun U hU hW => ⟨rfl, xPre_of hZ hS hFc hPc hDc hK U hU hW⟩)⟩ rfl rfl hl.1 rfl (lv_room (Nat.le_of_ble_eq_true rfl)) dB_binary_42 ⟨Nat.le_of_ble_eq_true rfl, Nat.le_of_ble_eq_true rfl⟩) hS (fun q _ h => hFc q h) hFc (fun u9 t H1 locs ht hvm hr9 hB hz1 hk1 hS => ?_)
  obtain ⟨hP1, hK1, hD1⟩ := hB
  rw [ht] at hP1
  obtain ⟨hP, hD⟩ := xjoin (W := [(a0, .inr (0, [v20, v21, v22, .ref a2, v23, .ref a1, v24, v25])), (a2, .inl (cT 3, 8, .inr (.inr (.inr (.inr f29))))), (a3, .inr (2, [.ref a4, .int 1, v32])), (a4, .inl (cT 2, 4096, .inr (.inl f33))), (a1, .inr (2, [v26, .int 0, .int 0]))]) hP hD [1] [0, 2, 3, 4] 4 rfl rfl (by decide) (by decide) hk1 hFc hP1 hD1
  generalize H1 = H at hP hS ⊢
  refine lv_aload_n hx hb dB_binary_45 rfl (lv_at hl 0 rfl) ?_
  refine lv_iload_n hx hb dB_binary_46 rfl (lv_at hl 2 rfl) ?_
  refine lv_aload_n hx hb dB_binary_47 rfl (lv_at hl 0 rfl) ?_
  refine va_get (D := D) (ci := 0) (v := .ref a2) (C := "ValueBench") (T := TB) (N := 8) hx hb htx inB hown hK hP 0 rfl rfl 3 (by decide) (htx _ kw_1_98) (fun _ h9 => h9) rfl dB_binary_48 ?_
  refine lv_iload_n hx hb dB_binary_51 rfl (lv_at hl 3 rfl) ?_
  refine va_aldq hx hb hK hP 1 3 rfl rfl h14 dB_binary_52 ?_
  refine W.eq (g2 := F0 m 53 ls [va_rf (f29 x10.toNatClampNeg), .int 1, .ref a0]) rfl ?_
  rw [h30]
  refine W.eq (g2 := F0 m 53 ls [.ref a3, .int 1, .ref a0]) rfl ?_
  refine lv_aload_n hx hb dB_binary_53 rfl (lv_at hl 0 rfl) ?_
  refine va_get (D := D) (ci := 0) (v := .ref a2) (C := "ValueBench") (T := TB) (N := 8) hx hb htx inB hown hK hP 0 rfl rfl 3 (by decide) (htx _ kw_1_98) (fun _ h9 => h9) rfl dB_binary_54 ?_
  refine lv_iload hx hb dB_binary_57 (lv_at hl 4 rfl) ?_
  refine va_aldq hx hb hK hP 1 3 rfl rfl h19 dB_binary_59 ?_
  refine W.eq (g2 := F0 m 60 ls [va_rf (f29 x15.toNatClampNeg), .ref a3, .int 1, .ref a0]) rfl ?_
  rw [h31]
  refine W.eq (g2 := F0 m 60 ls [.ref a3, .ref a3, .int 1, .ref a0]) rfl ?_
  refine lv_aload_n hx hb dB_binary_60 rfl (lv_at hl 0 rfl) ?_
  refine va_get (D := D) (ci := 0) (v := .ref a1) (C := "ValueBench") (T := TB) (N := 8) hx hb htx inB hown hK hP 0 rfl rfl 5 (by decide) (htx _ kw_1_100) (fun _ h9 => h9) rfl dB_binary_61 ?_
  obtain ⟨hPc, hDc, hFc⟩ := xcut (wc := [(a3, .inr (2, [.ref a4, .int 1, v32])), (a4, .inl (cT 2, 4096, .inr (.inl f33)))]) hP hD hS hA [2, 3] rfl rfl (by decide)
  refine va_calli (va_runS (As := [.int 1, .ref a3, .ref a3, .ref a1]) (rest := [.ref a0]) ⟨hx, hb, hml, hown, htx⟩ (cA_apply_2 l hl9 D cT aK aV H.size a3 a4 a1 v32 f33 (by first | rfl | exact h30 | exact h31 | exact h34)) ⟨callB_of 4 htx (xw_goodC kw_3_105) rfl rfl rfl (htx _ kw_1_21) (htx _ kw_3_103) ⟨by decide, by decide, by decide +kernel⟩ ⟨Nat.le_of_ble_eq_true rfl, Nat.le_of_ble_eq_true rfl⟩, htx _ kw_3_104⟩ ⟨xPre_blind, (fun U hU hW => ⟨rfl, xPre_of hZ hS hFc hPc hDc hK U hU hW⟩)⟩ rfl rfl hl.1 rfl (lv_room (Nat.le_of_ble_eq_true rfl)) dB_binary_64 ⟨Nat.le_of_ble_eq_true rfl, Nat.le_of_ble_eq_true rfl⟩) hS (fun q _ h => hFc q h) hFc (fun r5 u9 t H1 locs ht hvm hr9 hB hz1 hk1 hS => ?_)
  obtain ⟨hP1, hK1, hD1⟩ := hB
  rw [ht] at hP1
  obtain ⟨hP, hD⟩ := xjoin (W := [(a0, .inr (0, [v20, v21, v22, .ref a2, v23, .ref a1, v24, v25])), (a2, .inl (cT 3, 8, .inr (.inr (.inr (.inr f29))))), (a1, .inr (2, [v26, .int 0, .int 0])), (a3, .inr (2, [.ref a4, .int 1, v32])), (a4, .inl (cT 2, 4096, .inr (.inl f33)))]) hP hD [2, 3] [0, 1, 4] 3 rfl rfl (by decide) (by decide) hk1 hFc hP1 hD1
  generalize H1 = H at hP hS ⊢
  rw [hr9]
  refine W.eq (g2 := F0 m 67 ls [.int 1, .ref a0]) rfl ?_
  obtain ⟨hPc, hDc, hFc⟩ := xcut (wc := [(a0, .inr (0, [v20, v21, v22, .ref a2, v23, .ref a1, v24, v25]))]) hP hD hS hA [0] rfl rfl (by decide)
  refine xx_thr (vx_runV (C := "ValueBench") (As := [.int 1]) (rest := []) ⟨hx, hb, hml, hown, htx⟩ (cB_demandDone_1 l hl9 D cT aK aV H.size a0 v20 v21 v22 (.ref a2) v23 (.ref a1) v24 v25) ⟨callB_of 1 htx (xw_goodC kw_3_222) rfl rfl rfl (htx _ kw_1_1) (htx _ kw_3_219) ⟨by decide, by decide, by decide +kernel⟩ ⟨Nat.le_of_ble_eq_true rfl, Nat.le_of_ble_eq_true rfl⟩, (htx _ kw_3_221), (htx _ kp_B_demandDone)⟩ ⟨xPre_blind, va_recv hK hP (ci := 0) rfl (q0 := 0) rfl, (fun U hU hW => ⟨rfl, xPre_of hZ hS hFc hPc hDc hK U hU hW⟩)⟩ rfl rfl hl.1 rfl (lv_room (Nat.le_of_ble_eq_true rfl)) dB_binary_67 ⟨Nat.le_of_ble_eq_true rfl, Nat.le_of_ble_eq_true rfl⟩) hS hFc (fun q _ h => hFc q h) (fun E ce q9 u9 t H1 locs ht hvm _ hB hz1 hk1 hS hce hcv hcl => ?_)
  obtain ⟨rfl, hP1, hK1, hD1⟩ := hB
  rw [ht] at hP1
  obtain ⟨hP, hD⟩ := xjoin (W := [(a2, .inl (cT 3, 8, .inr (.inr (.inr (.inr f29))))), (a1, .inr (2, [v26, .int 0, .int 0])), (a3, .inr (2, [.ref a4, .int 1, v32])), (a4, .inl (cT 2, 4096, .inr (.inl f33))), (a0, .inr (0, [v20, v21, v22, .ref a2, v23, .ref a1, v24, .int 1]))]) hP hD [0] [1, 2, 3, 4] 4 rfl rfl (by decide) (by decide) hk1 hFc hP1 hD1
  generalize H1 = H at hP hS hce ⊢
  obtain ⟨hP9, hD9⟩ := xsub (wc := [(a0, .inr (0, [v20, v21, v22, .ref a2, v23, .ref a1, v24, .int 1])), (a1, .inr (2, [v26, .int 0, .int 0])), (a2, .inl (cT 3, 8, .inr (.inr (.inr (.inr f29))))), (a3, .inr (2, [.ref a4, .int 1, v32])), (a4, .inl (cT 2, 4096, .inr (.inl f33)))]) hP hD [4, 1, 0, 2, 3] rfl rfl (by decide)
  exact vx_out (E := "java/lang/ArithmeticException") (fun x h => (hne x h).elim) hlocks hce hcv hcl (fun t ht ha => ⟨(), trivial, ⟨rfl, by rw [ht]; exact hP9, va_K.moved ha hK, hD9⟩, hS.F ht⟩) hS.2.2 (Nat.le_of_ble_eq_true rfl) (Nat.le_of_ble_eq_true rfl)
set_option maxHeartbeats 400000000 in
set_option maxRecDepth 100000 in
theorem cL_binary_10 (l : Launch) (hl9 : l.stackTraces = false) (D : va_G) (cT : Nat → ClassId) (aK aV : Nat → Nat) (sz : Nat) (a0 : Nat) (a1 : Nat) (a2 : Nat) (a3 : Nat) (a4 : Nat) (x5 : Int32) (x10 : Int32) (x15 : Int32) (v20 : Value) (v21 : Value) (v22 : Value) (v23 : Value) (v24 : Value) (v25 : Value) (v26 : Value) (v27 : Value) (v28 : Value) (f29 : Nat → Option Nat) (v32 : Value) (f33 : Nat → Int64) (h6 : ¬ x5 < 0) (h7 : ¬ 7 < x5) (h8 : x5 ≤ 7) (h9 : vp_in x5 8) (h11 : ¬ x10 < 0) (h12 : ¬ 7 < x10) (h13 : x10 ≤ 7) (h14 : vp_in x10 8) (h16 : ¬ x15 < 0) (h17 : ¬ 7 < x15) (h18 : x15 ≤ 7) (h19 : vp_in x15 8) (h30 : f29 x10.toNatClampNeg = some a3) (h31 : f29 x15.toNatClampNeg = some a3) (h34 : f33 0 = 0) : xMet l yL_binary wyL_binary 8 1 6 145 D cT aK aV sz [.ref a0, .int x5, .int 1, .int x10, .int x15] [(a0, .inr (0, [v20, v21, v22, .ref a2, v23, .ref a1, v24, v25])), (a1, .inr (2, [v26, v27, v28])), (a2, .inl (cT 3, 8, .inr (.inr (.inr (.inr f29))))), (a3, .inr (2, [.ref a4, .int 1, v32])), (a4, .inl (cT 2, 4096, .inr (.inl f33)))] (fun A => va_Qi (fun (r : Int32) (_ : Unit) => r = 2) (fun _ t => xB D xcl cT A [(a0, .inr (0, [v20, v21, v22, .ref a2, v23, .ref a1, v24, .int 1])), (a1, .inr (2, [v26, .int 0, .int 0])), (a2, .inl (cT 3, 8, .inr (.inr (.inr (.inr f29))))), (a3, .inr (2, [.ref a4, .int 1, v32])), (a4, .inl (cT 2, 4096, .inr (.inl f33)))] t) A) := by
  refine va_MetW (cc := method_7_code) (maxL := 6) (ret := (some .int)) (hh := [(0, 9, 12, 19), (0, 9, 16, 33), (0, 9, 20, 13)]) (by decide) rfl ?_
  intro p e s m args below meth c s₁ B hml hv
  obtain ⟨rfl, hsz, hZ, hP, hK, hD0⟩ := hv
  have hx := B.exec
  have hb := B.bytes
  have hr := B.returns
  have hts := atoms_spec (ws := wyL_binary) B.pre
  have htx := fun w h => hts w (List.mem_cons_of_mem _ h)
  have hown : s.vm.findClass "ValueBenchLaw" = some m.cls := findClass_of_methodNamed B.named
  have hlocks := B.notSynchronized
  subst hsz
  have hD := hD0.self (sz := s.heap.size)
  generalize hAe : va_A [(a0, .inr (0, [v20, v21, v22, .ref a2, v23, .ref a1, v24, v25])), (a1, .inr (2, [v26, v27, v28])), (a2, .inl (cT 3, 8, .inr (.inr (.inr (.inr f29))))), (a3, .inr (2, [.ref a4, .int 1, v32])), (a4, .inl (cT 2, 4096, .inr (.inl f33)))] s.heap.size = A at hD hZ ⊢
  have hA : ∀ q : Nat, s.heap.size ≤ q → A q := fun q h => by rw [← hAe]; exact Or.inr h
  have hS : va_S A s.heap s.heap [] := va_S.rf
  have hP : va_P D xcl [(a0, .inr (0, [v20, v21, v22, .ref a2, v23, .ref a1, v24, v25])), (a1, .inr (2, [v26, v27, v28])), (a2, .inl (cT 3, 8, .inr (.inr (.inr (.inr f29))))), (a3, .inr (2, [.ref a4, .int 1, v32])), (a4, .inl (cT 2, 4096, .inr (.inl f33)))] s.heap := hP
  have hl := lv_entry ([.ref a0, .int x5, .int 1, .int x10, .int x15]) (n := 6) (Nat.le_of_ble_eq_true rfl)
  rw [lg_entry_eq]
  generalize (lg_sl ([.ref a0, .int x5, .int 1, .int x10, .int x15]) ++ List.replicate (6 - (lg_sl ([.ref a0, .int x5, .int 1, .int x10, .int x15])).length) Slot.unset).toArray = ls at hl ⊢
  have hl : lv_has ls 6 [(0, .ref a0), (1, .int x5), (2, .int 1), (3, .int x10), (4, .int x15)] := hl
  have htab := vx_table (x := yL_binary) B (hts _ List.mem_cons_self)
  refine lv_aload_n hx hb dL_binary_0 rfl (lv_at hl 0 rfl) ?_
  refine lv_iload_n hx hb dL_binary_1 rfl (lv_at hl 1 rfl) ?_
  refine lv_iload_n hx hb dL_binary_2 rfl (lv_at hl 2 rfl) ?_
  refine lv_iload_n hx hb dL_binary_3 rfl (lv_at hl 3 rfl) ?_
  refine lv_iload hx hb dL_binary_4 (lv_at hl 4 rfl) ?_
  obtain ⟨hPc, hDc, hFc⟩ := xcut (wc := [(a0, .inr (0, [v20, v21, v22, .ref a2, v23, .ref a1, v24, v25])), (a1, .inr (2, [v26, v27, v28])), (a2, .inl (cT 3, 8, .inr (.inr (.inr (.inr f29))))), (a3, .inr (2, [.ref a4, .int 1, v32])), (a4, .inl (cT 2, 4096, .inr (.inl f33)))]) hP hD hS hA [0, 1, 2, 3, 4] rfl rfl (by decide)
  refine xx_thr (vx_runV (C := "ValueBench") (As := [.int x5, .int 1, .int x10, .int x15]) (rest := []) ⟨hx, hb, hml, hown, htx⟩ (cB_binary_10 l hl9 D cT aK aV s.heap.size a0 a1 a2 a3 a4 x5 x10 x15 v20 v21 v22 v23 v24 v25 v26 v27 v28 f29 v32 f33 h6 h7 h8 h9 h11 h12 h13 h14 h16 h17 h18 h19 (by first | rfl | exact h30 | exact h31 | exact h34) (by first | rfl | exact h30 | exact h31 | exact h34) (by first | rfl | exact h30 | exact h31 | exact h34)) ⟨callB_of 4 htx (xw_goodC kw_3_102) rfl rfl rfl (htx _ kw_1_1) (htx _ kw_3_99) ⟨by decide, by decide, by decide +kernel⟩ ⟨Nat.le_of_ble_eq_true rfl, Nat.le_of_ble_eq_true rfl⟩, (htx _ kw_3_100), (htx _ kw_3_101)⟩ ⟨xPre_blind, va_recv hK hP (ci := 0) rfl (q0 := 0) rfl, (fun U hU hW => ⟨rfl, xPre_of hZ hS hFc hPc hDc hK U hU hW⟩)⟩ rfl rfl hl.1 rfl (lv_room (Nat.le_of_ble_eq_true rfl)) dL_binary_6 ⟨Nat.le_of_ble_eq_true rfl, Nat.le_of_ble_eq_true rfl⟩) hS hFc (fun q _ h => hFc q h) (fun E ce q9 u9 t H1 locs ht hvm _ hB hz1 hk1 hS hce hcv hcl => ?_)
  obtain ⟨rfl, hP1, hK1, hD1⟩ := hB
  rw [ht] at hP1
  obtain ⟨hP, hD⟩ := xjoin (W := [(a0, .inr (0, [v20, v21, v22, .ref a2, v23, .ref a1, v24, .int 1])), (a1, .inr (2, [v26, .int 0, .int 0])), (a2, .inl (cT 3, 8, .inr (.inr (.inr (.inr f29))))), (a3, .inr (2, [.ref a4, .int 1, v32])), (a4, .inl (cT 2, 4096, .inr (.inl f33)))]) hP hD [0, 1, 2, 3, 4] [] 0 rfl rfl (by decide) (by decide) hk1 hFc hP1 hD1
  generalize H1 = H at hP hS hce ⊢
  refine vx_catch (own := "ValueBenchLaw") (name := "java/lang/ArithmeticException") (E := "java/lang/ArithmeticException") hown [⟨0, 9, 12, 19⟩] ⟨0, 9, 16, 33⟩ [⟨0, 9, 20, 13⟩] (by rw [htab]; rfl) (by intro z hz; rcases List.mem_cons.mp hz with rfl | hz; (exact Or.inr ⟨by decide, "java/lang/IllegalArgumentException", htx _ kw_1_211, hZ.2.2.2.2.2.2.2.1 ("java/lang/ArithmeticException", "java/lang/IllegalArgumentException") (List.mem_of_getElem? (i := 10) rfl)⟩); cases hz) (by decide) (by decide) (htx _ kw_3_98) ((hZ.2.2.2.2.2.1 "java/lang/ArithmeticException" (List.mem_of_getElem? (i := 3) rfl)).use rfl) hce hcv hcl ?_
  refine lv_astore (lv' := [(5, .ref q9), (0, .ref a0), (1, .int x5), (2, .int 1), (3, .int x10), (4, .int x15)]) hx hb dL_binary_16 hl (by decide) rfl (fun ls hl => ?_)
  refine lv_iconst (v := 2) hx hb dL_binary_18 (by decide) ?_
  obtain ⟨hP9, hD9⟩ := xsub (wc := [(a0, .inr (0, [v20, v21, v22, .ref a2, v23, .ref a1, v24, .int 1])), (a1, .inr (2, [v26, .int 0, .int 0])), (a2, .inl (cT 3, 8, .inr (.inr (.inr (.inr f29))))), (a3, .inr (2, [.ref a4, .int 1, v32])), (a4, .inl (cT 2, 4096, .inr (.inl f33)))]) hP hD [0, 1, 2, 3, 4] rfl rfl (by decide)
  refine W.widen (k := 1) (n := 6) (Nat.le_of_ble_eq_true rfl) (Nat.le_of_ble_eq_true rfl) ?_
  exact W.iret (v := 2) hx hb hr (fun t ht hW => ⟨⟨2, (), rfl, rfl, by rw [ht]; exact hP9, va_K.moved hW.alike hK, hD9⟩, hS.F ht⟩) hS.2.2 dL_binary_19
set_option maxHeartbeats 400000000 in
set_option maxRecDepth 100000 in
theorem cM_fresh_2 (l : Launch) (hl9 : l.stackTraces = false) (D : va_G) (cT : Nat → ClassId) (aK aV : Nat → Nat) (sz : Nat) (a0 : Nat) (a1 : Nat) (x2 : Int32) (v3 : Value) (v4 : Value) (v5 : Value) (v6 : Value) (v7 : Value) (v8 : Value) (v9 : Value) (v10 : Value) (v11 : Value) (v12 : Value) (v13 : Value) (v14 : Value) (v15 : Value) (v16 : Value) (v17 : Value) (v18 : Value) (v19 : Value) (v20 : Value) (v21 : Value) (v22 : Value) (v23 : Value) (v24 : Value) (v25 : Value) (v26 : Value) (v27 : Value) (v28 : Value) (v29 : Value) (v30 : Value) (v31 : Value) (v32 : Value) (f33 : Nat → Option Nat) (h34 : f33 1 = none) : xMet l yM_fresh wyM_fresh 2 1 6 32 D cT aK aV sz [.ref a0, .int x2] [(a0, .inr (5, [v3, .ref a1, .int 1, v4, v5, v6, v7, v8, v9, v10, v11, v12, v13, v14, v15, v16, v17, v18, v19, v20, v21, v22, v23, v24, v25, v26, v27, v28, v29, v30, v31, v32])), (a1, .inl (cT 4, 1024, .inr (.inr (.inr (.inr f33)))))] (fun A => va_Qr (fun _ : Unit => True) (fun _ q1 t => xB D xcl cT A [(a0, .inr (5, [v3, .ref a1, .int 2, v4, v5, v6, v7, v8, v9, v10, v11, v12, v13, v14, v15, v16, v17, v18, v19, v20, v21, v22, v23, v24, v25, v26, v27, v28, v29, v30, v31, v32])), (a1, .inl (cT 4, 1024, .inr (.inr (.inr (.inr (va_up f33 1 (some q1))))))), (q1, .inr (6, [.int x2, .long 0, .int 0, .int 0, .int 0, .int 1]))] t) A) := by
  refine Met.ofW (cc := prog_13_method_6_code) (maxL := 4) (ret := (some (.object "ValueBenchModel$V"))) (by decide) rfl ?_
  intro p e s m args below meth c s₁ B hml hv
  obtain ⟨rfl, hsz, hZ, hP, hK, hD0⟩ := hv
  have hx := B.exec
  have hb := B.bytes
  have hr := B.returns
  have hts := atoms_spec (ws := wyM_fresh) B.pre
  have htx := fun w h => hts w (List.mem_cons_of_mem _ h)
  have hown : s.vm.findClass "ValueBenchModel" = some m.cls := findClass_of_methodNamed B.named
  have hlocks := B.notSynchronized
  subst hsz
  have hD := hD0.self (sz := s.heap.size)
  generalize hAe : va_A [(a0, .inr (5, [v3, .ref a1, .int 1, v4, v5, v6, v7, v8, v9, v10, v11, v12, v13, v14, v15, v16, v17, v18, v19, v20, v21, v22, v23, v24, v25, v26, v27, v28, v29, v30, v31, v32])), (a1, .inl (cT 4, 1024, .inr (.inr (.inr (.inr f33)))))] s.heap.size = A at hD hZ ⊢
  have hA : ∀ q : Nat, s.heap.size ≤ q → A q := fun q h => by rw [← hAe]; exact Or.inr h
  have hS : va_S A s.heap s.heap [] := va_S.rf
  have hP : va_P D xcl [(a0, .inr (5, [v3, .ref a1, .int 1, v4, v5, v6, v7, v8, v9, v10, v11, v12, v13, v14, v15, v16, v17, v18, v19, v20, v21, v22, v23, v24, v25, v26, v27, v28, v29, v30, v31, v32])), (a1, .inl (cT 4, 1024, .inr (.inr (.inr (.inr f33)))))] s.heap := hP
  have hl := lv_entry ([.ref a0, .int x2]) (n := 4) (Nat.le_of_ble_eq_true rfl)
  rw [lg_entry_eq]
  generalize (lg_sl ([.ref a0, .int x2]) ++ List.replicate (4 - (lg_sl ([.ref a0, .int x2])).length) Slot.unset).toArray = ls at hl ⊢
  have hl : lv_has ls 4 [(0, .ref a0), (1, .int x2)] := hl
  refine lv_aload_n hx hb dM_fresh_0 rfl (lv_at hl 0 rfl) ?_
  refine va_get (D := D) (ci := 5) (v := .int 1) (C := "ValueBenchModel") (T := TM) (N := 32) hx hb htx inM hown hK hP 0 rfl rfl 2 (by decide) (htx _ kw_5_89) (fun _ h9 => h9) rfl dM_fresh_1 ?_
  refine lv_aload_n hx hb dM_fresh_4 rfl (lv_at hl 0 rfl) ?_
  refine va_get (D := D) (ci := 5) (v := .ref a1) (C := "ValueBenchModel") (T := TM) (N := 32) hx hb htx inM hown hK hP 0 rfl rfl 1 (by decide) (htx _ kw_5_88) (fun _ h9 => h9) rfl dM_fresh_5 ?_
  refine va_alen (v := 1024) hx hb hK hP 1 4 rfl rfl rfl dM_fresh_8 ?_
  refine lv_icmp_ne (tgt := 52) hx hb dM_fresh_9 (by decide) (fun _ => ?_) (fun h => ((by revert h; decide : False)).elim)
  refine lv_aload_n hx hb dM_fresh_52 rfl (lv_at hl 0 rfl) ?_
  refine va_get (D := D) (ci := 5) (v := .ref a1) (C := "ValueBenchModel") (T := TM) (N := 32) hx hb htx inM hown hK hP 0 rfl rfl 1 (by decide) (htx _ kw_5_88) (fun _ h9 => h9) rfl dM_fresh_53 ?_
  refine lv_aload_n hx hb dM_fresh_56 rfl (lv_at hl 0 rfl) ?_
  refine va_get (D := D) (ci := 5) (v := .int 1) (C := "ValueBenchModel") (T := TM) (N := 32) hx hb htx inM hown hK hP 0 rfl rfl 2 (by decide) (htx _ kw_5_89) (fun _ h9 => h9) rfl dM_fresh_57 ?_
  refine va_aldq hx hb hK hP 1 4 rfl rfl (show ¬ ((1 : Int32) < 0 ∨ 1024 ≤ (1 : Int32).toNatClampNeg) by decide) dM_fresh_60 ?_
  refine W.eq (g2 := F0 m 61 ls [va_rf (f33 1)]) rfl ?_
  rw [h34]
  refine W.eq (g2 := F0 m 61 ls [.null]) rfl ?_
  refine lv_ifnonnullN hx hb dM_fresh_61 ?_
  refine lv_aload_n hx hb dM_fresh_64 rfl (lv_at hl 0 rfl) ?_
  refine va_get (D := D) (ci := 5) (v := .ref a1) (C := "ValueBenchModel") (T := TM) (N := 32) hx hb htx inM hown hK hP 0 rfl rfl 1 (by decide) (htx _ kw_5_88) (fun _ h9 => h9) rfl dM_fresh_65 ?_
  refine lv_aload_n hx hb dM_fresh_68 rfl (lv_at hl 0 rfl) ?_
  refine va_get (D := D) (ci := 5) (v := .int 1) (C := "ValueBenchModel") (T := TM) (N := 32) hx hb htx inM hown hK hP 0 rfl rfl 2 (by decide) (htx _ kw_5_89) (fun _ h9 => h9) rfl dM_fresh_69 ?_
  refine va_new (ci := 6) (fs := [.int 0, .long 0, .int 0, .int 0, .int 0, .int 0]) (C := "ValueBenchModel$V") (T := TV) (N := 6) hx hb htx inV tyV tyV_ok hown (htx _ kw_5_80) (htx _ kw_6_17) (htx _ kw_1_19) hK hP hD hS hA rfl (by decide +kernel) (Nat.le_of_ble_eq_true rfl) (Nat.le_of_ble_eq_true rfl) dM_fresh_72 (fun q1 H hP hD hS => ?_)
  obtain ⟨hP, hD⟩ : xPD D xcl A [(a0, .inr (5, [v3, .ref a1, .int 1, v4, v5, v6, v7, v8, v9, v10, v11, v12, v13, v14, v15, v16, v17, v18, v19, v20, v21, v22, v23, v24, v25, v26, v27, v28, v29, v30, v31, v32])), (a1, .inl (cT 4, 1024, .inr (.inr (.inr (.inr f33))))), (q1, .inr (6, [.int 0, .long 0, .int 0, .int 0, .int 0, .int 0]))] H := ⟨hP, hD⟩
  refine lv_dup hx hb dM_fresh_75 rfl ?_
  obtain ⟨hPc, hDc, hFc⟩ := xcut (wc := []) hP hD hS hA [] rfl rfl (by decide)
  refine va_callv (va_runIN (As := []) (rest := [.ref q1, .int 1, .ref a1]) ⟨hx, hb, hml, hown, htx⟩ (cV_init_0 l hl9 D cT aK aV H.size q1) ⟨va_cnB (host := "ValueBenchModel") 0 htx (xw_goodC kw_6_20) rfl rfl rfl (hZ.2.1 ("ValueBenchModel", 92, yV_init) (List.mem_of_getElem? (i := 3) rfl)) (htx _ kw_1_19) ⟨by decide, by decide, by decide +kernel⟩ ⟨Nat.le_of_ble_eq_true rfl, Nat.le_of_ble_eq_true rfl⟩, rfl, (htx _ kw_6_19)⟩ ⟨xPre_blind, (fun U hU hW => ⟨rfl, xPre_of hZ hS hFc hPc hDc hK U hU hW⟩)⟩ rfl rfl hl.1 rfl (lv_room (Nat.le_of_ble_eq_true rfl)) dM_fresh_76 ⟨Nat.le_of_ble_eq_true rfl, Nat.le_of_ble_eq_true rfl⟩) hS (fun q _ h => hFc q h) hFc (fun u9 t H1 locs ht hvm hr9 hB hz1 hk1 hS => ?_)
  obtain ⟨hP1, hK1, hD1⟩ := hB
  rw [ht] at hP1
  obtain ⟨hP, hD⟩ := xjoin (W := [(a0, .inr (5, [v3, .ref a1, .int 1, v4, v5, v6, v7, v8, v9, v10, v11, v12, v13, v14, v15, v16, v17, v18, v19, v20, v21, v22, v23, v24, v25, v26, v27, v28, v29, v30, v31, v32])), (a1, .inl (cT 4, 1024, .inr (.inr (.inr (.inr f33))))), (q1, .inr (6, [.int 0, .long 0, .int 0, .int 0, .int 0, .int 0]))]) hP hD [] [0, 1, 2] 3 rfl rfl (by decide) (by decide) hk1 hFc hP1 hD1
  generalize H1 = H at hP hS ⊢
  refine va_astq (r := ("ValueBenchModel$V", TV, 6)) hx hb hK hP hD hS 1 4 2 6 rfl rfl rfl rfl (show ¬ ((1 : Int32) < 0 ∨ 1024 ≤ (1 : Int32).toNatClampNeg) by decide) dM_fresh_79 (fun H locs hP hD hS => ?_)
  obtain ⟨hP, hD⟩ : xPD D xcl A [(a0, .inr (5, [v3, .ref a1, .int 1, v4, v5, v6, v7, v8, v9, v10, v11, v12, v13, v14, v15, v16, v17, v18, v19, v20, v21, v22, v23, v24, v25, v26, v27, v28, v29, v30, v31, v32])), (a1, .inl (cT 4, 1024, .inr (.inr (.inr (.inr (va_up f33 1 (some q1))))))), (q1, .inr (6, [.int 0, .long 0, .int 0, .int 0, .int 0, .int 0]))] H := ⟨hP, hD⟩
  refine lv_aload_n hx hb dM_fresh_80 rfl (lv_at hl 0 rfl) ?_
  refine va_get (D := D) (ci := 5) (v := .ref a1) (C := "ValueBenchModel") (T := TM) (N := 32) hx hb htx inM hown hK hP 0 rfl rfl 1 (by decide) (htx _ kw_5_88) (fun _ h9 => h9) rfl dM_fresh_81 ?_
  refine lv_aload_n hx hb dM_fresh_84 rfl (lv_at hl 0 rfl) ?_
  refine va_get (D := D) (ci := 5) (v := .int 1) (C := "ValueBenchModel") (T := TM) (N := 32) hx hb htx inM hown hK hP 0 rfl rfl 2 (by decide) (htx _ kw_5_89) (fun _ h9 => h9) rfl dM_fresh_85 ?_
  refine va_aldq hx hb hK hP 1 4 rfl rfl (show ¬ ((1 : Int32) < 0 ∨ 1024 ≤ (1 : Int32).toNatClampNeg) by decide) dM_fresh_88 ?_
  refine W.eq (g2 := F0 m 89 ls [.ref q1]) rfl ?_
  refine lv_astore_n (lv' := [(2, .ref q1), (0, .ref a0), (1, .int x2)]) hx hb dM_fresh_89 rfl hl (by decide) rfl (fun ls hl => ?_)
  refine lv_aload_n hx hb dM_fresh_90 rfl (lv_at hl 1 rfl) ?_
  refine lv_dup hx hb dM_fresh_91 rfl ?_
  refine va_get (D := D) (ci := 5) (v := .int 1) (C := "ValueBenchModel") (T := TM) (N := 32) hx hb htx inM hown hK hP 0 rfl rfl 2 (by decide) (htx _ kw_5_89) (fun _ h9 => h9) rfl dM_fresh_92 ?_
  refine lv_iconst (v := 1) hx hb dM_fresh_95 (by decide) ?_
  refine lv_iadd hx hb dM_fresh_96 ?_
  refine W.eq (g2 := F0 m 97 ls [.int 2, .ref a0]) rfl ?_
  refine va_put (D := D) (ci := 5) (v := .int 2) (ty := .int) (C := "ValueBenchModel") (T := TM) (N := 32) hx hb htx inM tyM tyM_ok nmM hown hK hP hD hS 0 rfl rfl 2 (by decide) (htx _ kw_5_89) (fun _ h9 => h9) rfl (by decide +kernel) rfl rfl (Nat.le_of_ble_eq_true rfl) dM_fresh_97 (fun H locs hP hD hS => ?_)
  obtain ⟨hP, hD⟩ : xPD D xcl A [(a0, .inr (5, [v3, .ref a1, .int 2, v4, v5, v6, v7, v8, v9, v10, v11, v12, v13, v14, v15, v16, v17, v18, v19, v20, v21, v22, v23, v24, v25, v26, v27, v28, v29, v30, v31, v32])), (a1, .inl (cT 4, 1024, .inr (.inr (.inr (.inr (va_up f33 1 (some q1))))))), (q1, .inr (6, [.int 0, .long 0, .int 0, .int 0, .int 0, .int 0]))] H := ⟨hP, hD⟩
  refine lv_aload_n hx hb dM_fresh_100 rfl (lv_at hl 0 rfl) ?_
  refine lv_iload_n hx hb dM_fresh_101 rfl (lv_at hl 2 rfl) ?_
  refine va_putN (D := D) (ci := 6) (v := .int x2) (ty := .int) (C := "ValueBenchModel$V") (T := TV) (N := 6) hx hb htx inV tyV tyV_ok nmV hown hK hP hD hS 2 rfl rfl 0 (by decide) ((hZ.1 (93, "kind", "I") (List.mem_of_getElem? (i := 0) rfl)).use rfl) (fun _ h9 => h9) rfl (by decide +kernel) rfl rfl (Nat.le_of_ble_eq_true rfl) dM_fresh_102 (fun H locs hP hD hS => ?_)
  obtain ⟨hP, hD⟩ : xPD D xcl A [(a0, .inr (5, [v3, .ref a1, .int 2, v4, v5, v6, v7, v8, v9, v10, v11, v12, v13, v14, v15, v16, v17, v18, v19, v20, v21, v22, v23, v24, v25, v26, v27, v28, v29, v30, v31, v32])), (a1, .inl (cT 4, 1024, .inr (.inr (.inr (.inr (va_up f33 1 (some q1))))))), (q1, .inr (6, [.int x2, .long 0, .int 0, .int 0, .int 0, .int 0]))] H := ⟨hP, hD⟩
  refine lv_aload_n hx hb dM_fresh_105 rfl (lv_at hl 0 rfl) ?_
  refine lv_lconst (v := 0) hx hb dM_fresh_106 (by decide) ?_
  refine va_putN (D := D) (ci := 6) (v := .long 0) (ty := .long) (C := "ValueBenchModel$V") (T := TV) (N := 6) hx hb htx inV tyV tyV_ok nmV hown hK hP hD hS 2 rfl rfl 1 (by decide) ((hZ.1 (96, "n", "J") (List.mem_of_getElem? (i := 1) rfl)).use rfl) (fun _ h9 => h9) rfl (by decide +kernel) rfl rfl (Nat.le_of_ble_eq_true rfl) dM_fresh_107 (fun H locs hP hD hS => ?_)
  obtain ⟨hP, hD⟩ : xPD D xcl A [(a0, .inr (5, [v3, .ref a1, .int 2, v4, v5, v6, v7, v8, v9, v10, v11, v12, v13, v14, v15, v16, v17, v18, v19, v20, v21, v22, v23, v24, v25, v26, v27, v28, v29, v30, v31, v32])), (a1, .inl (cT 4, 1024, .inr (.inr (.inr (.inr (va_up f33 1 (some q1))))))), (q1, .inr (6, [.int x2, .long 0, .int 0, .int 0, .int 0, .int 0]))] H := ⟨hP, hD⟩
  refine lv_aload_n hx hb dM_fresh_110 rfl (lv_at hl 0 rfl) ?_
  refine lv_iconst (v := 0) hx hb dM_fresh_111 (by decide) ?_
  refine va_putN (D := D) (ci := 6) (v := .int 0) (ty := .int) (C := "ValueBenchModel$V") (T := TV) (N := 6) hx hb htx inV tyV tyV_ok nmV hown hK hP hD hS 2 rfl rfl 2 (by decide) ((hZ.1 (100, "off", "I") (List.mem_of_getElem? (i := 2) rfl)).use rfl) (fun _ h9 => h9) rfl (by decide +kernel) rfl rfl (Nat.le_of_ble_eq_true rfl) dM_fresh_112 (fun H locs hP hD hS => ?_)
  obtain ⟨hP, hD⟩ : xPD D xcl A [(a0, .inr (5, [v3, .ref a1, .int 2, v4, v5, v6, v7, v8, v9, v10, v11, v12, v13, v14, v15, v16, v17, v18, v19, v20, v21, v22, v23, v24, v25, v26, v27, v28, v29, v30, v31, v32])), (a1, .inl (cT 4, 1024, .inr (.inr (.inr (.inr (va_up f33 1 (some q1))))))), (q1, .inr (6, [.int x2, .long 0, .int 0, .int 0, .int 0, .int 0]))] H := ⟨hP, hD⟩
  refine lv_aload_n hx hb dM_fresh_115 rfl (lv_at hl 0 rfl) ?_
  refine lv_iconst (v := 0) hx hb dM_fresh_116 (by decide) ?_
  refine va_putN (D := D) (ci := 6) (v := .int 0) (ty := .int) (C := "ValueBenchModel$V") (T := TV) (N := 6) hx hb htx inV tyV tyV_ok nmV hown hK hP hD hS 2 rfl rfl 3 (by decide) ((hZ.1 (103, "count", "I") (List.mem_of_getElem? (i := 3) rfl)).use rfl) (fun _ h9 => h9) rfl (by decide +kernel) rfl rfl (Nat.le_of_ble_eq_true rfl) dM_fresh_117 (fun H locs hP hD hS => ?_)
  obtain ⟨hP, hD⟩ : xPD D xcl A [(a0, .inr (5, [v3, .ref a1, .int 2, v4, v5, v6, v7, v8, v9, v10, v11, v12, v13, v14, v15, v16, v17, v18, v19, v20, v21, v22, v23, v24, v25, v26, v27, v28, v29, v30, v31, v32])), (a1, .inl (cT 4, 1024, .inr (.inr (.inr (.inr (va_up f33 1 (some q1))))))), (q1, .inr (6, [.int x2, .long 0, .int 0, .int 0, .int 0, .int 0]))] H := ⟨hP, hD⟩
  refine lv_aload_n hx hb dM_fresh_120 rfl (lv_at hl 0 rfl) ?_
  refine lv_iconst (v := 0) hx hb dM_fresh_121 (by decide) ?_
  refine va_putN (D := D) (ci := 6) (v := .int 0) (ty := .int) (C := "ValueBenchModel$V") (T := TV) (N := 6) hx hb htx inV tyV tyV_ok nmV hown hK hP hD hS 2 rfl rfl 4 (by decide) ((hZ.1 (106, "depth", "I") (List.mem_of_getElem? (i := 4) rfl)).use rfl) (fun _ h9 => h9) rfl (by decide +kernel) rfl rfl (Nat.le_of_ble_eq_true rfl) dM_fresh_122 (fun H locs hP hD hS => ?_)
  obtain ⟨hP, hD⟩ : xPD D xcl A [(a0, .inr (5, [v3, .ref a1, .int 2, v4, v5, v6, v7, v8, v9, v10, v11, v12, v13, v14, v15, v16, v17, v18, v19, v20, v21, v22, v23, v24, v25, v26, v27, v28, v29, v30, v31, v32])), (a1, .inl (cT 4, 1024, .inr (.inr (.inr (.inr (va_up f33 1 (some q1))))))), (q1, .inr (6, [.int x2, .long 0, .int 0, .int 0, .int 0, .int 0]))] H := ⟨hP, hD⟩
  refine lv_aload_n hx hb dM_fresh_125 rfl (lv_at hl 0 rfl) ?_
  refine lv_iconst (v := 1) hx hb dM_fresh_126 (by decide) ?_
  refine va_putN (D := D) (ci := 6) (v := .int 1) (ty := .int) (C := "ValueBenchModel$V") (T := TV) (N := 6) hx hb htx inV tyV tyV_ok nmV hown hK hP hD hS 2 rfl rfl 5 (by decide) ((hZ.1 (109, "weight", "I") (List.mem_of_getElem? (i := 5) rfl)).use rfl) (fun _ h9 => h9) rfl (by decide +kernel) rfl rfl (Nat.le_of_ble_eq_true rfl) dM_fresh_127 (fun H locs hP hD hS => ?_)
  obtain ⟨hP, hD⟩ : xPD D xcl A [(a0, .inr (5, [v3, .ref a1, .int 2, v4, v5, v6, v7, v8, v9, v10, v11, v12, v13, v14, v15, v16, v17, v18, v19, v20, v21, v22, v23, v24, v25, v26, v27, v28, v29, v30, v31, v32])), (a1, .inl (cT 4, 1024, .inr (.inr (.inr (.inr (va_up f33 1 (some q1))))))), (q1, .inr (6, [.int x2, .long 0, .int 0, .int 0, .int 0, .int 1]))] H := ⟨hP, hD⟩
  refine lv_aload_n hx hb dM_fresh_130 rfl (lv_at hl 0 rfl) ?_
  obtain ⟨hP9, hD9⟩ := xsub (wc := [(a0, .inr (5, [v3, .ref a1, .int 2, v4, v5, v6, v7, v8, v9, v10, v11, v12, v13, v14, v15, v16, v17, v18, v19, v20, v21, v22, v23, v24, v25, v26, v27, v28, v29, v30, v31, v32])), (a1, .inl (cT 4, 1024, .inr (.inr (.inr (.inr (va_up f33 1 (some q1))))))), (q1, .inr (6, [.int x2, .long 0, .int 0, .int 0, .int 0, .int 1]))]) hP hD [0, 1, 2] rfl rfl (by decide)
  refine W.widen (k := 1) (n := 6) (Nat.le_of_ble_eq_true rfl) (Nat.le_of_ble_eq_true rfl) ?_
  exact W.aret hx hb hr (Or.inl ⟨_, rfl⟩) (Or.inr ⟨_, rfl⟩) (fun t ht hW => ⟨⟨(), q1, rfl, trivial, by rw [ht]; exact hP9, va_K.moved hW.alike hK, hD9⟩, hS.F ht⟩) hS.2.2 dM_fresh_131
set_option maxHeartbeats 400000000 in
set_option maxRecDepth 100000 in
theorem cM_says_2 (l : Launch) (hl9 : l.stackTraces = false) (D : va_G) (cT : Nat → ClassId) (aK aV : Nat → Nat) (sz : Nat) (a0 : Nat) (a1 : Nat) (a2 : Nat) (x3 : Int32) (v4 : Value) (v5 : Value) (v6 : Value) (v7 : Value) (v8 : Value) (v9 : Value) (v10 : Value) (v11 : Value) (v12 : Value) (v13 : Value) (v14 : Value) (v15 : Value) (v16 : Value) (v17 : Value) (v18 : Value) (v19 : Value) (v20 : Value) (v21 : Value) (v22 : Value) (v23 : Value) (v24 : Value) (v25 : Value) (v26 : Value) (v27 : Value) (v28 : Value) (v29 : Value) (v30 : Value) (f31 : Nat → Int32) (f36 : Nat → Option Nat) (h32 : f31 0 = 110) (h33 : f31 1 = 117) (h34 : f31 2 = 108) (h35 : f31 3 = 108) (h37 : f36 1 = none) : xMet l yM_says wyM_says 4 1 6 85 D cT aK aV sz [.ref a0, .ref (aK 10), .int x3] [(a0, .inr (5, [v4, .ref a2, .int 1, v5, v6, v7, v8, v9, v10, v11, v12, v13, v14, v15, v16, .ref a1, .int 0, .int 4, v17, v18, v19, v20, v21, v22, v23, v24, v25, v26, v27, v28, v29, v30])), (a1, .inl (cT 0, 4096, .inl f31)), (a2, .inl (cT 4, 1024, .inr (.inr (.inr (.inr f36)))))] (fun A => va_Qr (fun _ : Unit => True) (fun _ r14 t => xB D xcl cT A [(a0, .inr (5, [v4, .ref a2, .int 2, v5, v6, v7, v8, v9, v10, v11, v12, v13, v14, v15, v16, .ref a1, .int 4, .int 4, v17, v18, v19, v20, v21, v22, v23, v24, v25, v26, v27, v28, v29, v30])), (a1, .inl (cT 0, 4096, .inl f31)), (a2, .inl (cT 4, 1024, .inr (.inr (.inr (.inr (va_up f36 1 (some r14))))))), (r14, .inr (6, [.int x3, .long 0, .int 0, .int 0, .int 0, .int 1]))] t) A) := by
  refine Met.ofW (cc := prog_13_method_33_code) (maxL := 4) (ret := (some (.object "ValueBenchModel$V"))) (by decide) rfl ?_
  intro p e s m args below meth c s₁ B hml hv
  obtain ⟨rfl, hsz, hZ, hP, hK, hD0⟩ := hv
  have hx := B.exec
  have hb := B.bytes
  have hr := B.returns
  have hts := atoms_spec (ws := wyM_says) B.pre
  have htx := fun w h => hts w (List.mem_cons_of_mem _ h)
  have hown : s.vm.findClass "ValueBenchModel" = some m.cls := findClass_of_methodNamed B.named
  have hlocks := B.notSynchronized
  subst hsz
  have hD := hD0.self (sz := s.heap.size)
  generalize hAe : va_A [(a0, .inr (5, [v4, .ref a2, .int 1, v5, v6, v7, v8, v9, v10, v11, v12, v13, v14, v15, v16, .ref a1, .int 0, .int 4, v17, v18, v19, v20, v21, v22, v23, v24, v25, v26, v27, v28, v29, v30])), (a1, .inl (cT 0, 4096, .inl f31)), (a2, .inl (cT 4, 1024, .inr (.inr (.inr (.inr f36)))))] s.heap.size = A at hD hZ ⊢
  have hA : ∀ q : Nat, s.heap.size ≤ q → A q := fun q h => by rw [← hAe]; exact Or.inr h
  have hS : va_S A s.heap s.heap [] := va_S.rf
  have hP : va_P D xcl [(a0, .inr (5, [v4, .ref a2, .int 1, v5, v6, v7, v8, v9, v10, v11, v12, v13, v14, v15, v16, .ref a1, .int 0, .int 4, v17, v18, v19, v20, v21, v22, v23, v24, v25, v26, v27, v28, v29, v30])), (a1, .inl (cT 0, 4096, .inl f31)), (a2, .inl (cT 4, 1024, .inr (.inr (.inr (.inr f36)))))] s.heap := hP
  have hl := lv_entry ([.ref a0, .ref (aK 10), .int x3]) (n := 4) (Nat.le_of_ble_eq_true rfl)
  rw [lg_entry_eq]
  generalize (lg_sl ([.ref a0, .ref (aK 10), .int x3]) ++ List.replicate (4 - (lg_sl ([.ref a0, .ref (aK 10), .int x3])).length) Slot.unset).toArray = ls at hl ⊢
  have hl : lv_has ls 4 [(0, .ref a0), (1, .ref (aK 10)), (2, .int x3)] := hl
  refine lv_iconst (v := 0) hx hb dM_says_0 (by decide) ?_
  refine lv_istore_n (lv' := [(3, .int 0), (0, .ref a0), (1, .ref (aK 10)), (2, .int x3)]) hx hb dM_says_1 rfl hl (by decide) rfl (fun ls hl => ?_)
  refine lv_iload_n hx hb dM_says_2 rfl (lv_at hl 0 rfl) ?_
  refine lv_aload_n hx hb dM_says_3 rfl (lv_at hl 2 rfl) ?_
  obtain ⟨hPc, hDc, hFc⟩ := xcut (wc := []) hP hD hS hA [] rfl rfl (by decide)
  refine va_calli (va_runV (C := "java/lang/String") (As := []) (rest := [.int 0]) ⟨hx, hb, hml, hown, htx⟩ (cJS_length_0 l hl9 D cT aK aV s.heap.size) ⟨callB_of 0 htx (xw_goodC kw_2_70) rfl rfl rfl (htx _ kw_1_6) (htx _ kw_5_238) ⟨by decide, by decide, by decide +kernel⟩ ⟨Nat.le_of_ble_eq_true rfl, Nat.le_of_ble_eq_true rfl⟩, (htx _ kw_2_68), (htx _ kw_2_69)⟩ ⟨xPre_blind, vk_recv hZ.2.2.2.2.2.2.2.2.2.1 (i := 10) (by decide) hS, (fun U hU hW => ⟨rfl, xPre_of hZ hS hFc hPc hDc hK U hU hW⟩)⟩ rfl rfl hl.1 rfl (lv_room (Nat.le_of_ble_eq_true rfl)) dM_says_4 ⟨Nat.le_of_ble_eq_true rfl, Nat.le_of_ble_eq_true rfl⟩) hS (fun q _ h => hFc q h) hFc (fun r1 u9 t H1 locs ht hvm hr9 hB hz1 hk1 hS => ?_)
  obtain ⟨hP1, hK1, hD1⟩ := hB
  rw [ht] at hP1
  obtain ⟨hP, hD⟩ := xjoin (W := [(a0, .inr (5, [v4, .ref a2, .int 1, v5, v6, v7, v8, v9, v10, v11, v12, v13, v14, v15, v16, .ref a1, .int 0, .int 4, v17, v18, v19, v20, v21, v22, v23, v24, v25, v26, v27, v28, v29, v30])), (a1, .inl (cT 0, 4096, .inl f31)), (a2, .inl (cT 4, 1024, .inr (.inr (.inr (.inr f36)))))]) hP hD [] [0, 1, 2] 3 rfl rfl (by decide) (by decide) hk1 hFc hP1 hD1
  generalize H1 = H at hP hS ⊢
  rw [hr9]
  refine W.eq (g2 := F0 m 7 ls [.int 4, .int 0]) rfl ?_
  refine lv_icmp_ge (tgt := 46) hx hb dM_says_7 (by decide) (fun h => ((by revert h; decide : False)).elim) (fun _ => ?_)
  refine lv_aload_n hx hb dM_says_10 rfl (lv_at hl 1 rfl) ?_
  obtain ⟨hPc, hDc, hFc⟩ := xcut (wc := [(a0, .inr (5, [v4, .ref a2, .int 1, v5, v6, v7, v8, v9, v10, v11, v12, v13, v14, v15, v16, .ref a1, .int 0, .int 4, v17, v18, v19, v20, v21, v22, v23, v24, v25, v26, v27, v28, v29, v30])), (a1, .inl (cT 0, 4096, .inl f31))]) hP hD hS hA [0, 1] rfl rfl (by decide)
  refine va_calli (va_runV (C := "ValueBenchModel") (As := []) (rest := []) ⟨hx, hb, hml, hown, htx⟩ (cM_peek_1 l hl9 D cT aK aV H.size a0 a1 v4 (.ref a2) (.int 1) v5 v6 v7 v8 v9 v10 v11 v12 v13 v14 v15 v16 v17 v18 v19 v20 v21 v22 v23 v24 v25 v26 v27 v28 v29 v30 f31 (by first | rfl | exact h32 | exact h33 | exact h34 | exact h35 | exact h37)) ⟨callB_of 0 htx (xw_goodC kw_5_233) rfl rfl rfl (htx _ kw_1_5) (htx _ kw_5_230) ⟨by decide, by decide, by decide +kernel⟩ ⟨Nat.le_of_ble_eq_true rfl, Nat.le_of_ble_eq_true rfl⟩, (htx _ kw_5_232), (htx _ kp_M_peek)⟩ ⟨xPre_blind, va_recv hK hP (ci := 5) rfl (q0 := 0) rfl, (fun U hU hW => ⟨rfl, xPre_of hZ hS hFc hPc hDc hK U hU hW⟩)⟩ rfl rfl hl.1 rfl (lv_room (Nat.le_of_ble_eq_true rfl)) dM_says_11 ⟨Nat.le_of_ble_eq_true rfl, Nat.le_of_ble_eq_true rfl⟩) hS (fun q _ h => hFc q h) hFc (fun r2 u9 t H1 locs ht hvm hr9 hB hz1 hk1 hS => ?_)
  obtain ⟨hP1, hK1, hD1⟩ := hB
  rw [ht] at hP1
  obtain ⟨hP, hD⟩ := xjoin (W := [(a2, .inl (cT 4, 1024, .inr (.inr (.inr (.inr f36))))), (a0, .inr (5, [v4, .ref a2, .int 1, v5, v6, v7, v8, v9, v10, v11, v12, v13, v14, v15, v16, .ref a1, .int 0, .int 4, v17, v18, v19, v20, v21, v22, v23, v24, v25, v26, v27, v28, v29, v30])), (a1, .inl (cT 0, 4096, .inl f31))]) hP hD [0, 1] [2] 1 rfl rfl (by decide) (by decide) hk1 hFc hP1 hD1
  generalize H1 = H at hP hS ⊢
  rw [hr9]
  refine W.eq (g2 := F0 m 14 ls [.int 110]) rfl ?_
  refine lv_aload_n hx hb dM_says_14 rfl (lv_at hl 2 rfl) ?_
  refine lv_iload_n hx hb dM_says_15 rfl (lv_at hl 0 rfl) ?_
  obtain ⟨hPc, hDc, hFc⟩ := xcut (wc := []) hP hD hS hA [] rfl rfl (by decide)
  refine va_calli (va_runV (C := "java/lang/String") (As := [.int 0]) (rest := [.int 110]) ⟨hx, hb, hml, hown, htx⟩ (cJS_charAt_0 l hl9 D cT aK aV H.size) ⟨callB_of 1 htx (xw_goodC kw_2_80) rfl rfl rfl (htx _ kw_1_6) (htx _ kw_5_86) ⟨by decide, by decide, by decide +kernel⟩ ⟨Nat.le_of_ble_eq_true rfl, Nat.le_of_ble_eq_true rfl⟩, (htx _ kw_2_78), (htx _ kw_2_79)⟩ ⟨xPre_blind, vk_recv hZ.2.2.2.2.2.2.2.2.2.1 (i := 10) (by decide) hS, (fun U hU hW => ⟨rfl, xPre_of hZ hS hFc hPc hDc hK U hU hW⟩)⟩ rfl rfl hl.1 rfl (lv_room (Nat.le_of_ble_eq_true rfl)) dM_says_16 ⟨Nat.le_of_ble_eq_true rfl, Nat.le_of_ble_eq_true rfl⟩) hS (fun q _ h => hFc q h) hFc (fun r3 u9 t H1 locs ht hvm hr9 hB hz1 hk1 hS => ?_)
  obtain ⟨hP1, hK1, hD1⟩ := hB
  rw [ht] at hP1
  obtain ⟨hP, hD⟩ := xjoin (W := [(a2, .inl (cT 4, 1024, .inr (.inr (.inr (.inr f36))))), (a0, .inr (5, [v4, .ref a2, .int 1, v5, v6, v7, v8, v9, v10, v11, v12, v13, v14, v15, v16, .ref a1, .int 0, .int 4, v17, v18, v19, v20, v21, v22, v23, v24, v25, v26, v27, v28, v29, v30])), (a1, .inl (cT 0, 4096, .inl f31))]) hP hD [] [0, 1, 2] 3 rfl rfl (by decide) (by decide) hk1 hFc hP1 hD1
  generalize H1 = H at hP hS ⊢
  rw [hr9]
  refine W.eq (g2 := F0 m 19 ls [.int 110, .int 110]) rfl ?_
  refine lv_icmp_eq (tgt := 30) hx hb dM_says_19 (by decide) (fun _ => ?_) (fun h => ((by revert h; decide : False)).elim)
  refine lv_aload_n hx hb dM_says_30 rfl (lv_at hl 1 rfl) ?_
  refine lv_dup hx hb dM_says_31 rfl ?_
  refine va_get (D := D) (ci := 5) (v := .int 0) (C := "ValueBenchModel") (T := TM) (N := 32) hx hb htx inM hown hK hP 1 rfl rfl 16 (by decide) (htx _ kw_5_103) (fun _ h9 => h9) rfl dM_says_32 ?_
  refine lv_iconst (v := 1) hx hb dM_says_35 (by decide) ?_
  refine lv_iadd hx hb dM_says_36 ?_
  refine W.eq (g2 := F0 m 37 ls [.int 1, .ref a0]) rfl ?_
  refine va_put (D := D) (ci := 5) (v := .int 1) (ty := .int) (C := "ValueBenchModel") (T := TM) (N := 32) hx hb htx inM tyM tyM_ok nmM hown hK hP hD hS 1 rfl rfl 16 (by decide) (htx _ kw_5_103) (fun _ h9 => h9) rfl (by decide +kernel) rfl rfl (Nat.le_of_ble_eq_true rfl) dM_says_37 (fun H locs hP hD hS => ?_)
  obtain ⟨hP, hD⟩ : xPD D xcl A [(a2, .inl (cT 4, 1024, .inr (.inr (.inr (.inr f36))))), (a0, .inr (5, [v4, .ref a2, .int 1, v5, v6, v7, v8, v9, v10, v11, v12, v13, v14, v15, v16, .ref a1, .int 1, .int 4, v17, v18, v19, v20, v21, v22, v23, v24, v25, v26, v27, v28, v29, v30])), (a1, .inl (cT 0, 4096, .inl f31))] H := ⟨hP, hD⟩
  refine lv_iinc (v := 1) (lv' := [(3, .int 1), (0, .ref a0), (1, .ref (aK 10)), (2, .int x3)]) hx hb dM_says_40 hl (k := 0) rfl (by decide) (by decide) rfl (fun ls hl => ?_)
  refine lv_goto (tgt := 2) hx hb dM_says_43 (by decide) ?_
  refine lv_iload_n hx hb dM_says_2 rfl (lv_at hl 0 rfl) ?_
  refine lv_aload_n hx hb dM_says_3 rfl (lv_at hl 2 rfl) ?_
  obtain ⟨hPc, hDc, hFc⟩ := xcut (wc := []) hP hD hS hA [] rfl rfl (by decide)
  refine va_calli (va_runV (C := "java/lang/String") (As := []) (rest := [.int 1]) ⟨hx, hb, hml, hown, htx⟩ (cJS_length_0 l hl9 D cT aK aV H.size) ⟨callB_of 0 htx (xw_goodC kw_2_70) rfl rfl rfl (htx _ kw_1_6) (htx _ kw_5_238) ⟨by decide, by decide, by decide +kernel⟩ ⟨Nat.le_of_ble_eq_true rfl, Nat.le_of_ble_eq_true rfl⟩, (htx _ kw_2_68), (htx _ kw_2_69)⟩ ⟨xPre_blind, vk_recv hZ.2.2.2.2.2.2.2.2.2.1 (i := 10) (by decide) hS, (fun U hU hW => ⟨rfl, xPre_of hZ hS hFc hPc hDc hK U hU hW⟩)⟩ rfl rfl hl.1 rfl (lv_room (Nat.le_of_ble_eq_true rfl)) dM_says_4 ⟨Nat.le_of_ble_eq_true rfl, Nat.le_of_ble_eq_true rfl⟩) hS (fun q _ h => hFc q h) hFc (fun r4 u9 t H1 locs ht hvm hr9 hB hz1 hk1 hS => ?_)
  obtain ⟨hP1, hK1, hD1⟩ := hB
  rw [ht] at hP1
  obtain ⟨hP, hD⟩ := xjoin (W := [(a2, .inl (cT 4, 1024, .inr (.inr (.inr (.inr f36))))), (a0, .inr (5, [v4, .ref a2, .int 1, v5, v6, v7, v8, v9, v10, v11, v12, v13, v14, v15, v16, .ref a1, .int 1, .int 4, v17, v18, v19, v20, v21, v22, v23, v24, v25, v26, v27, v28, v29, v30])), (a1, .inl (cT 0, 4096, .inl f31))]) hP hD [] [0, 1, 2] 3 rfl rfl (by decide) (by decide) hk1 hFc hP1 hD1
  generalize H1 = H at hP hS ⊢
  rw [hr9]
  refine W.eq (g2 := F0 m 7 ls [.int 4, .int 1]) rfl ?_
  refine lv_icmp_ge (tgt := 46) hx hb dM_says_7 (by decide) (fun h => ((by revert h; decide : False)).elim) (fun _ => ?_)
  refine lv_aload_n hx hb dM_says_10 rfl (lv_at hl 1 rfl) ?_
  obtain ⟨hPc, hDc, hFc⟩ := xcut (wc := [(a0, .inr (5, [v4, .ref a2, .int 1, v5, v6, v7, v8, v9, v10, v11, v12, v13, v14, v15, v16, .ref a1, .int 1, .int 4, v17, v18, v19, v20, v21, v22, v23, v24, v25, v26, v27, v28, v29, v30])), (a1, .inl (cT 0, 4096, .inl f31))]) hP hD hS hA [1, 2] rfl rfl (by decide)
  refine va_calli (va_runV (C := "ValueBenchModel") (As := []) (rest := []) ⟨hx, hb, hml, hown, htx⟩ (cM_peek_2 l hl9 D cT aK aV H.size a0 a1 v4 (.ref a2) (.int 1) v5 v6 v7 v8 v9 v10 v11 v12 v13 v14 v15 v16 v17 v18 v19 v20 v21 v22 v23 v24 v25 v26 v27 v28 v29 v30 f31 (by first | rfl | exact h32 | exact h33 | exact h34 | exact h35 | exact h37)) ⟨callB_of 0 htx (xw_goodC kw_5_233) rfl rfl rfl (htx _ kw_1_5) (htx _ kw_5_230) ⟨by decide, by decide, by decide +kernel⟩ ⟨Nat.le_of_ble_eq_true rfl, Nat.le_of_ble_eq_true rfl⟩, (htx _ kw_5_232), (htx _ kp_M_peek)⟩ ⟨xPre_blind, va_recv hK hP (ci := 5) rfl (q0 := 1) rfl, (fun U hU hW => ⟨rfl, xPre_of hZ hS hFc hPc hDc hK U hU hW⟩)⟩ rfl rfl hl.1 rfl (lv_room (Nat.le_of_ble_eq_true rfl)) dM_says_11 ⟨Nat.le_of_ble_eq_true rfl, Nat.le_of_ble_eq_true rfl⟩) hS (fun q _ h => hFc q h) hFc (fun r5 u9 t H1 locs ht hvm hr9 hB hz1 hk1 hS => ?_)
  obtain ⟨hP1, hK1, hD1⟩ := hB
  rw [ht] at hP1
  obtain ⟨hP, hD⟩ := xjoin (W := [(a2, .inl (cT 4, 1024, .inr (.inr (.inr (.inr f36))))), (a0, .inr (5, [v4, .ref a2, .int 1, v5, v6, v7, v8, v9, v10, v11, v12, v13, v14, v15, v16, .ref a1, .int 1, .int 4, v17, v18, v19, v20, v21, v22, v23, v24, v25, v26, v27, v28, v29, v30])), (a1, .inl (cT 0, 4096, .inl f31))]) hP hD [1, 2] [0] 1 rfl rfl (by decide) (by decide) hk1 hFc hP1 hD1
  generalize H1 = H at hP hS ⊢
  rw [hr9]
  refine W.eq (g2 := F0 m 14 ls [.int 117]) rfl ?_
  refine lv_aload_n hx hb dM_says_14 rfl (lv_at hl 2 rfl) ?_
  refine lv_iload_n hx hb dM_says_15 rfl (lv_at hl 0 rfl) ?_
  obtain ⟨hPc, hDc, hFc⟩ := xcut (wc := []) hP hD hS hA [] rfl rfl (by decide)
  refine va_calli (va_runV (C := "java/lang/String") (As := [.int 1]) (rest := [.int 117]) ⟨hx, hb, hml, hown, htx⟩ (cJS_charAt_1 l hl9 D cT aK aV H.size) ⟨callB_of 1 htx (xw_goodC kw_2_80) rfl rfl rfl (htx _ kw_1_6) (htx _ kw_5_86) ⟨by decide, by decide, by decide +kernel⟩ ⟨Nat.le_of_ble_eq_true rfl, Nat.le_of_ble_eq_true rfl⟩, (htx _ kw_2_78), (htx _ kw_2_79)⟩ ⟨xPre_blind, vk_recv hZ.2.2.2.2.2.2.2.2.2.1 (i := 10) (by decide) hS, (fun U hU hW => ⟨rfl, xPre_of hZ hS hFc hPc hDc hK U hU hW⟩)⟩ rfl rfl hl.1 rfl (lv_room (Nat.le_of_ble_eq_true rfl)) dM_says_16 ⟨Nat.le_of_ble_eq_true rfl, Nat.le_of_ble_eq_true rfl⟩) hS (fun q _ h => hFc q h) hFc (fun r6 u9 t H1 locs ht hvm hr9 hB hz1 hk1 hS => ?_)
  obtain ⟨hP1, hK1, hD1⟩ := hB
  rw [ht] at hP1
  obtain ⟨hP, hD⟩ := xjoin (W := [(a2, .inl (cT 4, 1024, .inr (.inr (.inr (.inr f36))))), (a0, .inr (5, [v4, .ref a2, .int 1, v5, v6, v7, v8, v9, v10, v11, v12, v13, v14, v15, v16, .ref a1, .int 1, .int 4, v17, v18, v19, v20, v21, v22, v23, v24, v25, v26, v27, v28, v29, v30])), (a1, .inl (cT 0, 4096, .inl f31))]) hP hD [] [0, 1, 2] 3 rfl rfl (by decide) (by decide) hk1 hFc hP1 hD1
  generalize H1 = H at hP hS ⊢
  rw [hr9]
  refine W.eq (g2 := F0 m 19 ls [.int 117, .int 117]) rfl ?_
  refine lv_icmp_eq (tgt := 30) hx hb dM_says_19 (by decide) (fun _ => ?_) (fun h => ((by revert h; decide : False)).elim)
  refine lv_aload_n hx hb dM_says_30 rfl (lv_at hl 1 rfl) ?_
  refine lv_dup hx hb dM_says_31 rfl ?_
  refine va_get (D := D) (ci := 5) (v := .int 1) (C := "ValueBenchModel") (T := TM) (N := 32) hx hb htx inM hown hK hP 1 rfl rfl 16 (by decide) (htx _ kw_5_103) (fun _ h9 => h9) rfl dM_says_32 ?_
  refine lv_iconst (v := 1) hx hb dM_says_35 (by decide) ?_
  refine lv_iadd hx hb dM_says_36 ?_
  refine W.eq (g2 := F0 m 37 ls [.int 2, .ref a0]) rfl ?_
  refine va_put (D := D) (ci := 5) (v := .int 2) (ty := .int) (C := "ValueBenchModel") (T := TM) (N := 32) hx hb htx inM tyM tyM_ok nmM hown hK hP hD hS 1 rfl rfl 16 (by decide) (htx _ kw_5_103) (fun _ h9 => h9) rfl (by decide +kernel) rfl rfl (Nat.le_of_ble_eq_true rfl) dM_says_37 (fun H locs hP hD hS => ?_)
  obtain ⟨hP, hD⟩ : xPD D xcl A [(a2, .inl (cT 4, 1024, .inr (.inr (.inr (.inr f36))))), (a0, .inr (5, [v4, .ref a2, .int 1, v5, v6, v7, v8, v9, v10, v11, v12, v13, v14, v15, v16, .ref a1, .int 2, .int 4, v17, v18, v19, v20, v21, v22, v23, v24, v25, v26, v27, v28, v29, v30])), (a1, .inl (cT 0, 4096, .inl f31))] H := ⟨hP, hD⟩
  refine lv_iinc (v := 2) (lv' := [(3, .int 2), (0, .ref a0), (1, .ref (aK 10)), (2, .int x3)]) hx hb dM_says_40 hl (k := 0) rfl (by decide) (by decide) rfl (fun ls hl => ?_)
  refine lv_goto (tgt := 2) hx hb dM_says_43 (by decide) ?_
  refine lv_iload_n hx hb dM_says_2 rfl (lv_at hl 0 rfl) ?_
  refine lv_aload_n hx hb dM_says_3 rfl (lv_at hl 2 rfl) ?_
  obtain ⟨hPc, hDc, hFc⟩ := xcut (wc := []) hP hD hS hA [] rfl rfl (by decide)
  refine va_calli (va_runV (C := "java/lang/String") (As := []) (rest := [.int 2]) ⟨hx, hb, hml, hown, htx⟩ (cJS_length_0 l hl9 D cT aK aV H.size) ⟨callB_of 0 htx (xw_goodC kw_2_70) rfl rfl rfl (htx _ kw_1_6) (htx _ kw_5_238) ⟨by decide, by decide, by decide +kernel⟩ ⟨Nat.le_of_ble_eq_true rfl, Nat.le_of_ble_eq_true rfl⟩, (htx _ kw_2_68), (htx _ kw_2_69)⟩ ⟨xPre_blind, vk_recv hZ.2.2.2.2.2.2.2.2.2.1 (i := 10) (by decide) hS, (fun U hU hW => ⟨rfl, xPre_of hZ hS hFc hPc hDc hK U hU hW⟩)⟩ rfl rfl hl.1 rfl (lv_room (Nat.le_of_ble_eq_true rfl)) dM_says_4 ⟨Nat.le_of_ble_eq_true rfl, Nat.le_of_ble_eq_true rfl⟩) hS (fun q _ h => hFc q h) hFc (fun r7 u9 t H1 locs ht hvm hr9 hB hz1 hk1 hS => ?_)
  obtain ⟨hP1, hK1, hD1⟩ := hB
  rw [ht] at hP1
  obtain ⟨hP, hD⟩ := xjoin (W := [(a2, .inl (cT 4, 1024, .inr (.inr (.inr (.inr f36))))), (a0, .inr (5, [v4, .ref a2, .int 1, v5, v6, v7, v8, v9, v10, v11, v12, v13, v14, v15, v16, .ref a1, .int 2, .int 4, v17, v18, v19, v20, v21, v22, v23, v24, v25, v26, v27, v28, v29, v30])), (a1, .inl (cT 0, 4096, .inl f31))]) hP hD [] [0, 1, 2] 3 rfl rfl (by decide) (by decide) hk1 hFc hP1 hD1
  generalize H1 = H at hP hS ⊢
  rw [hr9]
  refine W.eq (g2 := F0 m 7 ls [.int 4, .int 2]) rfl ?_
  refine lv_icmp_ge (tgt := 46) hx hb dM_says_7 (by decide) (fun h => ((by revert h; decide : False)).elim) (fun _ => ?_)
  refine lv_aload_n hx hb dM_says_10 rfl (lv_at hl 1 rfl) ?_
  obtain ⟨hPc, hDc, hFc⟩ := xcut (wc := [(a0, .inr (5, [v4, .ref a2, .int 1, v5, v6, v7, v8, v9, v10, v11, v12, v13, v14, v15, v16, .ref a1, .int 2, .int 4, v17, v18, v19, v20, v21, v22, v23, v24, v25, v26, v27, v28, v29, v30])), (a1, .inl (cT 0, 4096, .inl f31))]) hP hD hS hA [1, 2] rfl rfl (by decide)
  refine va_calli (va_runV (C := "ValueBenchModel") (As := []) (rest := []) ⟨hx, hb, hml, hown, htx⟩ (cM_peek_3 l hl9 D cT aK aV H.size a0 a1 v4 (.ref a2) (.int 1) v5 v6 v7 v8 v9 v10 v11 v12 v13 v14 v15 v16 v17 v18 v19 v20 v21 v22 v23 v24 v25 v26 v27 v28 v29 v30 f31 (by first | rfl | exact h32 | exact h33 | exact h34 | exact h35 | exact h37)) ⟨callB_of 0 htx (xw_goodC kw_5_233) rfl rfl rfl (htx _ kw_1_5) (htx _ kw_5_230) ⟨by decide, by decide, by decide +kernel⟩ ⟨Nat.le_of_ble_eq_true rfl, Nat.le_of_ble_eq_true rfl⟩, (htx _ kw_5_232), (htx _ kp_M_peek)⟩ ⟨xPre_blind, va_recv hK hP (ci := 5) rfl (q0 := 1) rfl, (fun U hU hW => ⟨rfl, xPre_of hZ hS hFc hPc hDc hK U hU hW⟩)⟩ rfl rfl hl.1 rfl (lv_room (Nat.le_of_ble_eq_true rfl)) dM_says_11 ⟨Nat.le_of_ble_eq_true rfl, Nat.le_of_ble_eq_true rfl⟩) hS (fun q _ h => hFc q h) hFc (fun r8 u9 t H1 locs ht hvm hr9 hB hz1 hk1 hS => ?_)
  obtain ⟨hP1, hK1, hD1⟩ := hB
  rw [ht] at hP1
  obtain ⟨hP, hD⟩ := xjoin (W := [(a2, .inl (cT 4, 1024, .inr (.inr (.inr (.inr f36))))), (a0, .inr (5, [v4, .ref a2, .int 1, v5, v6, v7, v8, v9, v10, v11, v12, v13, v14, v15, v16, .ref a1, .int 2, .int 4, v17, v18, v19, v20, v21, v22, v23, v24, v25, v26, v27, v28, v29, v30])), (a1, .inl (cT 0, 4096, .inl f31))]) hP hD [1, 2] [0] 1 rfl rfl (by decide) (by decide) hk1 hFc hP1 hD1
  generalize H1 = H at hP hS ⊢
  rw [hr9]
  refine W.eq (g2 := F0 m 14 ls [.int 108]) rfl ?_
  refine lv_aload_n hx hb dM_says_14 rfl (lv_at hl 2 rfl) ?_
  refine lv_iload_n hx hb dM_says_15 rfl (lv_at hl 0 rfl) ?_
  obtain ⟨hPc, hDc, hFc⟩ := xcut (wc := []) hP hD hS hA [] rfl rfl (by decide)
  refine va_calli (va_runV (C := "java/lang/String") (As := [.int 2]) (rest := [.int 108]) ⟨hx, hb, hml, hown, htx⟩ (cJS_charAt_2 l hl9 D cT aK aV H.size) ⟨callB_of 1 htx (xw_goodC kw_2_80) rfl rfl rfl (htx _ kw_1_6) (htx _ kw_5_86) ⟨by decide, by decide, by decide +kernel⟩ ⟨Nat.le_of_ble_eq_true rfl, Nat.le_of_ble_eq_true rfl⟩, (htx _ kw_2_78), (htx _ kw_2_79)⟩ ⟨xPre_blind, vk_recv hZ.2.2.2.2.2.2.2.2.2.1 (i := 10) (by decide) hS, (fun U hU hW => ⟨rfl, xPre_of hZ hS hFc hPc hDc hK U hU hW⟩)⟩ rfl rfl hl.1 rfl (lv_room (Nat.le_of_ble_eq_true rfl)) dM_says_16 ⟨Nat.le_of_ble_eq_true rfl, Nat.le_of_ble_eq_true rfl⟩) hS (fun q _ h => hFc q h) hFc (fun r9 u9 t H1 locs ht hvm hr9 hB hz1 hk1 hS => ?_)
  obtain ⟨hP1, hK1, hD1⟩ := hB
  rw [ht] at hP1
  obtain ⟨hP, hD⟩ := xjoin (W := [(a2, .inl (cT 4, 1024, .inr (.inr (.inr (.inr f36))))), (a0, .inr (5, [v4, .ref a2, .int 1, v5, v6, v7, v8, v9, v10, v11, v12, v13, v14, v15, v16, .ref a1, .int 2, .int 4, v17, v18, v19, v20, v21, v22, v23, v24, v25, v26, v27, v28, v29, v30])), (a1, .inl (cT 0, 4096, .inl f31))]) hP hD [] [0, 1, 2] 3 rfl rfl (by decide) (by decide) hk1 hFc hP1 hD1
  generalize H1 = H at hP hS ⊢
  rw [hr9]
  refine W.eq (g2 := F0 m 19 ls [.int 108, .int 108]) rfl ?_
  refine lv_icmp_eq (tgt := 30) hx hb dM_says_19 (by decide) (fun _ => ?_) (fun h => ((by revert h; decide : False)).elim)
  refine lv_aload_n hx hb dM_says_30 rfl (lv_at hl 1 rfl) ?_
  refine lv_dup hx hb dM_says_31 rfl ?_
  refine va_get (D := D) (ci := 5) (v := .int 2) (C := "ValueBenchModel") (T := TM) (N := 32) hx hb htx inM hown hK hP 1 rfl rfl 16 (by decide) (htx _ kw_5_103) (fun _ h9 => h9) rfl dM_says_32 ?_
  refine lv_iconst (v := 1) hx hb dM_says_35 (by decide) ?_
  refine lv_iadd hx hb dM_says_36 ?_
  refine W.eq (g2 := F0 m 37 ls [.int 3, .ref a0]) rfl ?_
  refine va_put (D := D) (ci := 5) (v := .int 3) (ty := .int) (C := "ValueBenchModel") (T := TM) (N := 32) hx hb htx inM tyM tyM_ok nmM hown hK hP hD hS 1 rfl rfl 16 (by decide) (htx _ kw_5_103) (fun _ h9 => h9) rfl (by decide +kernel) rfl rfl (Nat.le_of_ble_eq_true rfl) dM_says_37 (fun H locs hP hD hS => ?_)
  obtain ⟨hP, hD⟩ : xPD D xcl A [(a2, .inl (cT 4, 1024, .inr (.inr (.inr (.inr f36))))), (a0, .inr (5, [v4, .ref a2, .int 1, v5, v6, v7, v8, v9, v10, v11, v12, v13, v14, v15, v16, .ref a1, .int 3, .int 4, v17, v18, v19, v20, v21, v22, v23, v24, v25, v26, v27, v28, v29, v30])), (a1, .inl (cT 0, 4096, .inl f31))] H := ⟨hP, hD⟩
  refine lv_iinc (v := 3) (lv' := [(3, .int 3), (0, .ref a0), (1, .ref (aK 10)), (2, .int x3)]) hx hb dM_says_40 hl (k := 0) rfl (by decide) (by decide) rfl (fun ls hl => ?_)
  refine lv_goto (tgt := 2) hx hb dM_says_43 (by decide) ?_
  refine lv_iload_n hx hb dM_says_2 rfl (lv_at hl 0 rfl) ?_
  refine lv_aload_n hx hb dM_says_3 rfl (lv_at hl 2 rfl) ?_
  obtain ⟨hPc, hDc, hFc⟩ := xcut (wc := []) hP hD hS hA [] rfl rfl (by decide)
  refine va_calli (va_runV (C := "java/lang/String") (As := []) (rest := [.int 3]) ⟨hx, hb, hml, hown, htx⟩ (cJS_length_0 l hl9 D cT aK aV H.size) ⟨callB_of 0 htx (xw_goodC kw_2_70) rfl rfl rfl (htx _ kw_1_6) (htx _ kw_5_238) ⟨by decide, by decide, by decide +kernel⟩ ⟨Nat.le_of_ble_eq_true rfl, Nat.le_of_ble_eq_true rfl⟩, (htx _ kw_2_68), (htx _ kw_2_69)⟩ ⟨xPre_blind, vk_recv hZ.2.2.2.2.2.2.2.2.2.1 (i := 10) (by decide) hS, (fun U hU hW => ⟨rfl, xPre_of hZ hS hFc hPc hDc hK U hU hW⟩)⟩ rfl rfl hl.1 rfl (lv_room (Nat.le_of_ble_eq_true rfl)) dM_says_4 ⟨Nat.le_of_ble_eq_true rfl, Nat.le_of_ble_eq_true rfl⟩) hS (fun q _ h => hFc q h) hFc (fun r10 u9 t H1 locs ht hvm hr9 hB hz1 hk1 hS => ?_)
  obtain ⟨hP1, hK1, hD1⟩ := hB
  rw [ht] at hP1
  obtain ⟨hP, hD⟩ := xjoin (W := [(a2, .inl (cT 4, 1024, .inr (.inr (.inr (.inr f36))))), (a0, .inr (5, [v4, .ref a2, .int 1, v5, v6, v7, v8, v9, v10, v11, v12, v13, v14, v15, v16, .ref a1, .int 3, .int 4, v17, v18, v19, v20, v21, v22, v23, v24, v25, v26, v27, v28, v29, v30])), (a1, .inl (cT 0, 4096, .inl f31))]) hP hD [] [0, 1, 2] 3 rfl rfl (by decide) (by decide) hk1 hFc hP1 hD1
  generalize H1 = H at hP hS ⊢
  rw [hr9]
  refine W.eq (g2 := F0 m 7 ls [.int 4, .int 3]) rfl ?_
  refine lv_icmp_ge (tgt := 46) hx hb dM_says_7 (by decide) (fun h => ((by revert h; decide : False)).elim) (fun _ => ?_)
  refine lv_aload_n hx hb dM_says_10 rfl (lv_at hl 1 rfl) ?_
  obtain ⟨hPc, hDc, hFc⟩ := xcut (wc := [(a0, .inr (5, [v4, .ref a2, .int 1, v5, v6, v7, v8, v9, v10, v11, v12, v13, v14, v15, v16, .ref a1, .int 3, .int 4, v17, v18, v19, v20, v21, v22, v23, v24, v25, v26, v27, v28, v29, v30])), (a1, .inl (cT 0, 4096, .inl f31))]) hP hD hS hA [1, 2] rfl rfl (by decide)
  refine va_calli (va_runV (C := "ValueBenchModel") (As := []) (rest := []) ⟨hx, hb, hml, hown, htx⟩ (cM_peek_4 l hl9 D cT aK aV H.size a0 a1 v4 (.ref a2) (.int 1) v5 v6 v7 v8 v9 v10 v11 v12 v13 v14 v15 v16 v17 v18 v19 v20 v21 v22 v23 v24 v25 v26 v27 v28 v29 v30 f31 (by first | rfl | exact h32 | exact h33 | exact h34 | exact h35 | exact h37)) ⟨callB_of 0 htx (xw_goodC kw_5_233) rfl rfl rfl (htx _ kw_1_5) (htx _ kw_5_230) ⟨by decide, by decide, by decide +kernel⟩ ⟨Nat.le_of_ble_eq_true rfl, Nat.le_of_ble_eq_true rfl⟩, (htx _ kw_5_232), (htx _ kp_M_peek)⟩ ⟨xPre_blind, va_recv hK hP (ci := 5) rfl (q0 := 1) rfl, (fun U hU hW => ⟨rfl, xPre_of hZ hS hFc hPc hDc hK U hU hW⟩)⟩ rfl rfl hl.1 rfl (lv_room (Nat.le_of_ble_eq_true rfl)) dM_says_11 ⟨Nat.le_of_ble_eq_true rfl, Nat.le_of_ble_eq_true rfl⟩) hS (fun q _ h => hFc q h) hFc (fun r11 u9 t H1 locs ht hvm hr9 hB hz1 hk1 hS => ?_)
  obtain ⟨hP1, hK1, hD1⟩ := hB
  rw [ht] at hP1
  obtain ⟨hP, hD⟩ := xjoin (W := [(a2, .inl (cT 4, 1024, .inr (.inr (.inr (.inr f36))))), (a0, .inr (5, [v4, .ref a2, .int 1, v5, v6, v7, v8, v9, v10, v11, v12, v13, v14, v15, v16, .ref a1, .int 3, .int 4, v17, v18, v19, v20, v21, v22, v23, v24, v25, v26, v27, v28, v29, v30])), (a1, .inl (cT 0, 4096, .inl f31))]) hP hD [1, 2] [0] 1 rfl rfl (by decide) (by decide) hk1 hFc hP1 hD1
  generalize H1 = H at hP hS ⊢
  rw [hr9]
  refine W.eq (g2 := F0 m 14 ls [.int 108]) rfl ?_
  refine lv_aload_n hx hb dM_says_14 rfl (lv_at hl 2 rfl) ?_
  refine lv_iload_n hx hb dM_says_15 rfl (lv_at hl 0 rfl) ?_
  obtain ⟨hPc, hDc, hFc⟩ := xcut (wc := []) hP hD hS hA [] rfl rfl (by decide)
  refine va_calli (va_runV (C := "java/lang/String") (As := [.int 3]) (rest := [.int 108]) ⟨hx, hb, hml, hown, htx⟩ (cJS_charAt_3 l hl9 D cT aK aV H.size) ⟨callB_of 1 htx (xw_goodC kw_2_80) rfl rfl rfl (htx _ kw_1_6) (htx _ kw_5_86) ⟨by decide, by decide, by decide +kernel⟩ ⟨Nat.le_of_ble_eq_true rfl, Nat.le_of_ble_eq_true rfl⟩, (htx _ kw_2_78), (htx _ kw_2_79)⟩ ⟨xPre_blind, vk_recv hZ.2.2.2.2.2.2.2.2.2.1 (i := 10) (by decide) hS, (fun U hU hW => ⟨rfl, xPre_of hZ hS hFc hPc hDc hK U hU hW⟩)⟩ rfl rfl hl.1 rfl (lv_room (Nat.le_of_ble_eq_true rfl)) dM_says_16 ⟨Nat.le_of_ble_eq_true rfl, Nat.le_of_ble_eq_true rfl⟩) hS (fun q _ h => hFc q h) hFc (fun r12 u9 t H1 locs ht hvm hr9 hB hz1 hk1 hS => ?_)
  obtain ⟨hP1, hK1, hD1⟩ := hB
  rw [ht] at hP1
  obtain ⟨hP, hD⟩ := xjoin (W := [(a2, .inl (cT 4, 1024, .inr (.inr (.inr (.inr f36))))), (a0, .inr (5, [v4, .ref a2, .int 1, v5, v6, v7, v8, v9, v10, v11, v12, v13, v14, v15, v16, .ref a1, .int 3, .int 4, v17, v18, v19, v20, v21, v22, v23, v24, v25, v26, v27, v28, v29, v30])), (a1, .inl (cT 0, 4096, .inl f31))]) hP hD [] [0, 1, 2] 3 rfl rfl (by decide) (by decide) hk1 hFc hP1 hD1
  generalize H1 = H at hP hS ⊢
  rw [hr9]
  refine W.eq (g2 := F0 m 19 ls [.int 108, .int 108]) rfl ?_
  refine lv_icmp_eq (tgt := 30) hx hb dM_says_19 (by decide) (fun _ => ?_) (fun h => ((by revert h; decide : False)).elim)
  refine lv_aload_n hx hb dM_says_30 rfl (lv_at hl 1 rfl) ?_
  refine lv_dup hx hb dM_says_31 rfl ?_
  refine va_get (D := D) (ci := 5) (v := .int 3) (C := "ValueBenchModel") (T := TM) (N := 32) hx hb htx inM hown hK hP 1 rfl rfl 16 (by decide) (htx _ kw_5_103) (fun _ h9 => h9) rfl dM_says_32 ?_
  refine lv_iconst (v := 1) hx hb dM_says_35 (by decide) ?_
  refine lv_iadd hx hb dM_says_36 ?_
  refine W.eq (g2 := F0 m 37 ls [.int 4, .ref a0]) rfl ?_
  refine va_put (D := D) (ci := 5) (v := .int 4) (ty := .int) (C := "ValueBenchModel") (T := TM) (N := 32) hx hb htx inM tyM tyM_ok nmM hown hK hP hD hS 1 rfl rfl 16 (by decide) (htx _ kw_5_103) (fun _ h9 => h9) rfl (by decide +kernel) rfl rfl (Nat.le_of_ble_eq_true rfl) dM_says_37 (fun H locs hP hD hS => ?_)
  obtain ⟨hP, hD⟩ : xPD D xcl A [(a2, .inl (cT 4, 1024, .inr (.inr (.inr (.inr f36))))), (a0, .inr (5, [v4, .ref a2, .int 1, v5, v6, v7, v8, v9, v10, v11, v12, v13, v14, v15, v16, .ref a1, .int 4, .int 4, v17, v18, v19, v20, v21, v22, v23, v24, v25, v26, v27, v28, v29, v30])), (a1, .inl (cT 0, 4096, .inl f31))] H := ⟨hP, hD⟩
  refine lv_iinc (v := 4) (lv' := [(3, .int 4), (0, .ref a0), (1, .ref (aK 10)), (2, .int x3)]) hx hb dM_says_40 hl (k := 0) rfl (by decide) (by decide) rfl (fun ls hl => ?_)
  refine lv_goto (tgt := 2) hx hb dM_says_43 (by decide) ?_
  refine lv_iload_n hx hb dM_says_2 rfl (lv_at hl 0 rfl) ?_
  refine lv_aload_n hx hb dM_says_3 rfl (lv_at hl 2 rfl) ?_
  obtain ⟨hPc, hDc, hFc⟩ := xcut (wc := []) hP hD hS hA [] rfl rfl (by decide)
  refine va_calli (va_runV (C := "java/lang/String") (As := []) (rest := [.int 4]) ⟨hx, hb, hml, hown, htx⟩ (cJS_length_0 l hl9 D cT aK aV H.size) ⟨callB_of 0 htx (xw_goodC kw_2_70) rfl rfl rfl (htx _ kw_1_6) (htx _ kw_5_238) ⟨by decide, by decide, by decide +kernel⟩ ⟨Nat.le_of_ble_eq_true rfl, Nat.le_of_ble_eq_true rfl⟩, (htx _ kw_2_68), (htx _ kw_2_69)⟩ ⟨xPre_blind, vk_recv hZ.2.2.2.2.2.2.2.2.2.1 (i := 10) (by decide) hS, (fun U hU hW => ⟨rfl, xPre_of hZ hS hFc hPc hDc hK U hU hW⟩)⟩ rfl rfl hl.1 rfl (lv_room (Nat.le_of_ble_eq_true rfl)) dM_says_4 ⟨Nat.le_of_ble_eq_true rfl, Nat.le_of_ble_eq_true rfl⟩) hS (fun q _ h => hFc q h) hFc (fun r13 u9 t H1 locs ht hvm hr9 hB hz1 hk1 hS => ?_)
  obtain ⟨hP1, hK1, hD1⟩ := hB
  rw [ht] at hP1
  obtain ⟨hP, hD⟩ := xjoin (W := [(a2, .inl (cT 4, 1024, .inr (.inr (.inr (.inr f36))))), (a0, .inr (5, [v4, .ref a2, .int 1, v5, v6, v7, v8, v9, v10, v11, v12, v13, v14, v15, v16, .ref a1, .int 4, .int 4, v17, v18, v19, v20, v21, v22, v23, v24, v25, v26, v27, v28, v29, v30])), (a1, .inl (cT 0, 4096, .inl f31))]) hP hD [] [0, 1, 2] 3 rfl rfl (by decide) (by decide) hk1 hFc hP1 hD1
  generalize H1 = H at hP hS ⊢
  rw [hr9]
  refine W.eq (g2 := F0 m 7 ls [.int 4, .int 4]) rfl ?_
  refine lv_icmp_ge (tgt := 46) hx hb dM_says_7 (by decide) (fun _ => ?_) (fun h => ((by revert h; decide : False)).elim)
  refine lv_aload_n hx hb dM_says_46 rfl (lv_at hl 1 rfl) ?_
  refine lv_iload_n hx hb dM_says_47 rfl (lv_at hl 3 rfl) ?_
  obtain ⟨hPc, hDc, hFc⟩ := xcut (wc := [(a0, .inr (5, [v4, .ref a2, .int 1, v5, v6, v7, v8, v9, v10, v11, v12, v13, v14, v15, v16, .ref a1, .int 4, .int 4, v17, v18, v19, v20, v21, v22, v23, v24, v25, v26, v27, v28, v29, v30])), (a2, .inl (cT 4, 1024, .inr (.inr (.inr (.inr f36)))))]) hP hD hS hA [1, 0] rfl rfl (by decide)
  refine va_callr (va_runV (C := "ValueBenchModel") (As := [.int x3]) (rest := []) ⟨hx, hb, hml, hown, htx⟩ (cM_fresh_2 l hl9 D cT aK aV H.size a0 a2 x3 v4 v5 v6 v7 v8 v9 v10 v11 v12 v13 v14 v15 v16 (.ref a1) (.int 4) (.int 4) v17 v18 v19 v20 v21 v22 v23 v24 v25 v26 v27 v28 v29 v30 f36 (by first | rfl | exact h32 | exact h33 | exact h34 | exact h35 | exact h37)) ⟨callB_of 1 htx (xw_goodC kw_6_16) rfl rfl rfl (htx _ kw_1_5) (htx _ kw_6_13) ⟨by decide, by decide, by decide +kernel⟩ ⟨Nat.le_of_ble_eq_true rfl, Nat.le_of_ble_eq_true rfl⟩, (htx _ kw_6_15), (htx _ kp_M_fresh)⟩ ⟨xPre_blind, va_recv hK hP (ci := 5) rfl (q0 := 1) rfl, (fun U hU hW => ⟨rfl, xPre_of hZ hS hFc hPc hDc hK U hU hW⟩)⟩ rfl rfl hl.1 rfl (lv_room (Nat.le_of_ble_eq_true rfl)) dM_says_48 ⟨Nat.le_of_ble_eq_true rfl, Nat.le_of_ble_eq_true rfl⟩) hS (fun q _ h => hFc q h) hFc (fun u9 r14 t H1 locs ht hvm hr9 hB hz1 hk1 hS => ?_)
  obtain ⟨hP1, hK1, hD1⟩ := hB
  rw [ht] at hP1
  obtain ⟨hP, hD⟩ := xjoin (W := [(a1, .inl (cT 0, 4096, .inl f31)), (a0, .inr (5, [v4, .ref a2, .int 2, v5, v6, v7, v8, v9, v10, v11, v12, v13, v14, v15, v16, .ref a1, .int 4, .int 4, v17, v18, v19, v20, v21, v22, v23, v24, v25, v26, v27, v28, v29, v30])), (a2, .inl (cT 4, 1024, .inr (.inr (.inr (.inr (va_up f36 1 (some r14))))))), (r14, .inr (6, [.int x3, .long 0, .int 0, .int 0, .int 0, .int 1]))]) hP hD [1, 0] [2] 1 rfl rfl (by decide) (by decide) hk1 hFc hP1 hD1
  generalize H1 = H at hP hS ⊢
  refine W.eq (g2 := F0 m 51 ls [.ref r14]) rfl ?_
  obtain ⟨hP9, hD9⟩ := xsub (wc := [(a0, .inr (5, [v4, .ref a2, .int 2, v5, v6, v7, v8, v9, v10, v11, v12, v13, v14, v15, v16, .ref a1, .int 4, .int 4, v17, v18, v19, v20, v21, v22, v23, v24, v25, v26, v27, v28, v29, v30])), (a1, .inl (cT 0, 4096, .inl f31)), (a2, .inl (cT 4, 1024, .inr (.inr (.inr (.inr (va_up f36 1 (some r14))))))), (r14, .inr (6, [.int x3, .long 0, .int 0, .int 0, .int 0, .int 1]))]) hP hD [1, 0, 2, 3] rfl rfl (by decide)
  refine W.widen (k := 1) (n := 6) (Nat.le_of_ble_eq_true rfl) (Nat.le_of_ble_eq_true rfl) ?_
  exact W.aret hx hb hr (Or.inl ⟨_, rfl⟩) (Or.inr ⟨_, rfl⟩) (fun t ht hW => ⟨⟨(), r14, rfl, trivial, by rw [ht]; exact hP9, va_K.moved hW.alike hK, hD9⟩, hS.F ht⟩) hS.2.2 dM_says_51
