set_option maxHeartbeats 4000000 in
set_option maxRecDepth 100000 in
theorem cM_init_0 (l : Launch) (hl9 : l.stackTraces = false) (D : va_G) (cT : Nat → ClassId) (aK aV : Nat → Nat) (sz : Nat) (a0 : Nat) (v1 : Value) (v2 : Value) (v3 : Value) (v4 : Value) (v5 : Value) (v6 : Value) (v7 : Value) (v8 : Value) (v9 : Value) (v10 : Value) (v11 : Value) (v12 : Value) (v13 : Value) (v14 : Value) (v15 : Value) (v16 : Value) (v17 : Value) (v18 : Value) (v19 : Value) (v20 : Value) (v21 : Value) (v22 : Value) (v23 : Value) (v24 : Value) (v25 : Value) (v26 : Value) (v27 : Value) (v28 : Value) (v29 : Value) (v30 : Value) (v31 : Value) (v32 : Value) : xMet l yM_init wyM_init 4 21 49808 85 D cT aK aV sz [.ref a0] [(a0, .inr (5, [v1, v2, v3, v4, v5, v6, v7, v8, v9, v10, v11, v12, v13, v14, v15, v16, v17, v18, v19, v20, v21, v22, v23, v24, v25, v26, v27, v28, v29, v30, v31, v32]))] (fun A => va_Qv (fun _ : Unit => True) (fun _ t => ∃ (q1 : Nat) (q2 : Nat) (q3 : Nat) (q4 : Nat) (q5 : Nat) (q6 : Nat) (q7 : Nat) (q8 : Nat) (q9 : Nat) (q10 : Nat) (q11 : Nat) (q12 : Nat) (q13 : Nat) (q14 : Nat) (q15 : Nat) (q16 : Nat) (q17 : Nat) (q18 : Nat) (q19 : Nat) (q20 : Nat) (q21 : Nat), xB D xcl cT A [(a0, .inr (5, [v1, .ref q1, v3, .ref q2, v5, .ref q3, .ref q4, v8, v9, v10, .ref q5, .ref q6, v13, .ref q7, .ref q8, v16, v17, v18, v19, .int 40, .int (-1), .ref q9, v23, .int 1000000000, .ref q10, .ref q19, .ref q20, v28, .ref q21, v30, v31, .int (-1)])), (q1, .inl (cT 4, 1024, .inr (.inr (.inr (.inr (fun _ => none)))))), (q2, .inl (cT 0, 4096, .inl (fun _ => 0))), (q3, .inl (cT 4, 1024, .inr (.inr (.inr (.inr (fun _ => none)))))), (q4, .inl (cT 4, 1024, .inr (.inr (.inr (.inr (fun _ => none)))))), (q5, .inl (cT 4, 256, .inr (.inr (.inr (.inr (fun _ => none)))))), (q6, .inl (cT 4, 256, .inr (.inr (.inr (.inr (fun _ => none)))))), (q7, .inl (cT 1, 64, .inl (fun _ => 0))), (q8, .inl (cT 1, 64, .inl (fun _ => 0))), (q9, .inl (cT 0, 1024, .inl (fun _ => 0))), (q10, .inl (cT 5, 8, .inr (.inr (.inr (.inr (x8 q11 q12 q13 q14 q15 q16 q17 q18)))))), (q11, .inl (cT 0, 4096, .inl (upd (upd (upd (upd (fun _ => 0) 0 110) 1 117) 2 108) 3 108))), (q12, .inl (cT 0, 4096, .inl (upd (upd (upd (upd (fun _ => 0) 0 110) 1 117) 2 108) 3 108))), (q13, .inl (cT 0, 4096, .inl (upd (upd (upd (upd (fun _ => 0) 0 110) 1 117) 2 108) 3 108))), (q14, .inl (cT 0, 4096, .inl (upd (upd (upd (upd (fun _ => 0) 0 110) 1 117) 2 108) 3 108))), (q15, .inl (cT 0, 4096, .inl (upd (upd (upd (upd (fun _ => 0) 0 110) 1 117) 2 108) 3 108))), (q16, .inl (cT 0, 4096, .inl (upd (upd (upd (upd (fun _ => 0) 0 110) 1 117) 2 108) 3 108))), (q17, .inl (cT 0, 4096, .inl (upd (upd (upd (upd (fun _ => 0) 0 110) 1 117) 2 108) 3 108))), (q18, .inl (cT 0, 4096, .inl (upd (upd (upd (upd (fun _ => 0) 0 110) 1 117) 2 108) 3 108))), (q19, .inl (cT 1, 8, .inl (upd (upd (upd (upd (upd (upd (upd (upd (fun _ => 0) 0 4) 1 4) 2 4) 3 4) 4 4) 5 4) 6 4) 7 4))), (q20, .inl (cT 0, 4096, .inl (fun _ => 0))), (q21, .inl (cT 0, 4096, .inl (fun _ => 0)))] t) A) := by
  refine Met.ofW (cc := prog_13_method_1_code) (maxL := 3) (ret := none) (by decide) rfl ?_
  intro p e s m args below meth c s₁ B hml hv
  obtain ⟨rfl, hsz, hZ, hP, hK, hD0⟩ := hv
  have hx := B.exec
  have hb := B.bytes
  have hr := B.returns
  have hts := atoms_spec (ws := wyM_init) B.pre
  have htx := fun w h => hts w (List.mem_cons_of_mem _ h)
  have hown : s.vm.findClass "ValueBenchModel" = some m.cls := findClass_of_methodNamed B.named
  have hlocks := B.notSynchronized
  have hin : meth.name = "<init>" := (name_of_methodNamed B.named B.method).1
  subst hsz
  have hD := hD0.self (sz := s.heap.size)
  generalize hAe : va_A [(a0, .inr (5, [v1, v2, v3, v4, v5, v6, v7, v8, v9, v10, v11, v12, v13, v14, v15, v16, v17, v18, v19, v20, v21, v22, v23, v24, v25, v26, v27, v28, v29, v30, v31, v32]))] s.heap.size = A at hD hZ ⊢
  have hA : ∀ q : Nat, s.heap.size ≤ q → A q := fun q h => by rw [← hAe]; exact Or.inr h
  have hS : va_S A s.heap s.heap [] := va_S.rf
  have hP : va_P D xcl [(a0, .inr (5, [v1, v2, v3, v4, v5, v6, v7, v8, v9, v10, v11, v12, v13, v14, v15, v16, v17, v18, v19, v20, v21, v22, v23, v24, v25, v26, v27, v28, v29, v30, v31, v32]))] s.heap := hP
  have hl := lv_entry ([.ref a0]) (n := 3) (Nat.le_of_ble_eq_true rfl)
  rw [lg_entry_eq]
  generalize (lg_sl ([.ref a0]) ++ List.replicate (3 - (lg_sl ([.ref a0])).length) Slot.unset).toArray = ls at hl ⊢
  have hl : lv_has ls 3 [(0, .ref a0)] := hl
  refine lv_aload_n hx hb dM_init_0 rfl (lv_at hl 0 rfl) ?_
  refine W.objInit hx hb hown (htx _ kw_5_79) (htx _ kw_1_35) (htx _ kw_1_36) rfl (by rw [hml]; exact hl.1) rfl dM_init_1 (Nat.le_of_ble_eq_true rfl) (Nat.le_of_ble_eq_true rfl) ?_
  refine W.eq (g2 := F0 m 4 ls []) rfl ?_
  refine lv_aload_n hx hb dM_init_4 rfl (lv_at hl 0 rfl) ?_
  refine lv_sipush (v := 1024) hx hb dM_init_5 (by decide) ?_
  refine va_newq (C := "ValueBenchModel$V") (N' := 1024) (n := 1024) hx hb hown (htx _ kw_5_80) hZ.2.2.1.2 hK hP hD hS hA (by decide) (by decide) (by decide) (Nat.le_of_ble_eq_true rfl) (Nat.le_of_ble_eq_true rfl) dM_init_8 (fun q1 cA9 H hK9 hP hD hS => ?_)
  obtain rfl := xk_eq hK9 4 rfl
  obtain ⟨hP, hD⟩ : xPD D xcl A [(a0, .inr (5, [v1, v2, v3, v4, v5, v6, v7, v8, v9, v10, v11, v12, v13, v14, v15, v16, v17, v18, v19, v20, v21, v22, v23, v24, v25, v26, v27, v28, v29, v30, v31, v32])), (q1, .inl (cT 4, 1024, .inr (.inr (.inr (.inr (fun _ => none))))))] H := ⟨hP, hD⟩
  refine va_put (D := D) (ci := 5) (v := .ref q1) (ty := (.array (.object "ValueBenchModel$V"))) (C := "ValueBenchModel") (T := TM) (N := 32) hx hb htx inM tyM tyM_ok nmM hown hK hP hD hS 0 rfl rfl 1 (by decide) (htx _ kw_5_88) (fun _ h9 => h9) rfl (by decide +kernel) rfl rfl (Nat.le_of_ble_eq_true rfl) dM_init_11 (fun H locs hP hD hS => ?_)
  obtain ⟨hP, hD⟩ : xPD D xcl A [(a0, .inr (5, [v1, .ref q1, v3, v4, v5, v6, v7, v8, v9, v10, v11, v12, v13, v14, v15, v16, v17, v18, v19, v20, v21, v22, v23, v24, v25, v26, v27, v28, v29, v30, v31, v32])), (q1, .inl (cT 4, 1024, .inr (.inr (.inr (.inr (fun _ => none))))))] H := ⟨hP, hD⟩
  refine lv_aload_n hx hb dM_init_14 rfl (lv_at hl 0 rfl) ?_
  refine lv_sipush (v := 4096) hx hb dM_init_15 (by decide) ?_
  refine va_newa (atype := .byte) (N' := 4096) (a0 := (4096, .inl (fun _ => 0))) (ty := .byte) (n := 4096) hx hb (htx _ kw_1_53) rfl hK hP hD hS hA (fun _ => rfl) (by decide) (by decide) (by decide) (Nat.le_of_ble_eq_true rfl) (Nat.le_of_ble_eq_true rfl) dM_init_18 (fun q2 cA9 H hK9 hP hD hS => ?_)
  obtain rfl := xk_eq hK9 0 rfl
  obtain ⟨hP, hD⟩ : xPD D xcl A [(a0, .inr (5, [v1, .ref q1, v3, v4, v5, v6, v7, v8, v9, v10, v11, v12, v13, v14, v15, v16, v17, v18, v19, v20, v21, v22, v23, v24, v25, v26, v27, v28, v29, v30, v31, v32])), (q1, .inl (cT 4, 1024, .inr (.inr (.inr (.inr (fun _ => none)))))), (q2, .inl (cT 0, 4096, .inl (fun _ => 0)))] H := ⟨hP, hD⟩
  refine va_put (D := D) (ci := 5) (v := .ref q2) (ty := (.array .byte)) (C := "ValueBenchModel") (T := TM) (N := 32) hx hb htx inM tyM tyM_ok nmM hown hK hP hD hS 0 rfl rfl 3 (by decide) (htx _ kw_5_90) (fun _ h9 => h9) rfl (by decide +kernel) rfl rfl (Nat.le_of_ble_eq_true rfl) dM_init_20 (fun H locs hP hD hS => ?_)
  obtain ⟨hP, hD⟩ : xPD D xcl A [(a0, .inr (5, [v1, .ref q1, v3, .ref q2, v5, v6, v7, v8, v9, v10, v11, v12, v13, v14, v15, v16, v17, v18, v19, v20, v21, v22, v23, v24, v25, v26, v27, v28, v29, v30, v31, v32])), (q1, .inl (cT 4, 1024, .inr (.inr (.inr (.inr (fun _ => none)))))), (q2, .inl (cT 0, 4096, .inl (fun _ => 0)))] H := ⟨hP, hD⟩
  refine lv_aload_n hx hb dM_init_23 rfl (lv_at hl 0 rfl) ?_
  refine lv_sipush (v := 1024) hx hb dM_init_24 (by decide) ?_
  refine va_newq (C := "ValueBenchModel$V") (N' := 1024) (n := 1024) hx hb hown (htx _ kw_5_80) hZ.2.2.1.2 hK hP hD hS hA (by decide) (by decide) (by decide) (Nat.le_of_ble_eq_true rfl) (Nat.le_of_ble_eq_true rfl) dM_init_27 (fun q3 cA9 H hK9 hP hD hS => ?_)
  obtain rfl := xk_eq hK9 4 rfl
  obtain ⟨hP, hD⟩ : xPD D xcl A [(a0, .inr (5, [v1, .ref q1, v3, .ref q2, v5, v6, v7, v8, v9, v10, v11, v12, v13, v14, v15, v16, v17, v18, v19, v20, v21, v22, v23, v24, v25, v26, v27, v28, v29, v30, v31, v32])), (q1, .inl (cT 4, 1024, .inr (.inr (.inr (.inr (fun _ => none)))))), (q2, .inl (cT 0, 4096, .inl (fun _ => 0))), (q3, .inl (cT 4, 1024, .inr (.inr (.inr (.inr (fun _ => none))))))] H := ⟨hP, hD⟩
  refine va_put (D := D) (ci := 5) (v := .ref q3) (ty := (.array (.object "ValueBenchModel$V"))) (C := "ValueBenchModel") (T := TM) (N := 32) hx hb htx inM tyM tyM_ok nmM hown hK hP hD hS 0 rfl rfl 5 (by decide) (htx _ kw_5_92) (fun _ h9 => h9) rfl (by decide +kernel) rfl rfl (Nat.le_of_ble_eq_true rfl) dM_init_30 (fun H locs hP hD hS => ?_)
  obtain ⟨hP, hD⟩ : xPD D xcl A [(a0, .inr (5, [v1, .ref q1, v3, .ref q2, v5, .ref q3, v7, v8, v9, v10, v11, v12, v13, v14, v15, v16, v17, v18, v19, v20, v21, v22, v23, v24, v25, v26, v27, v28, v29, v30, v31, v32])), (q1, .inl (cT 4, 1024, .inr (.inr (.inr (.inr (fun _ => none)))))), (q2, .inl (cT 0, 4096, .inl (fun _ => 0))), (q3, .inl (cT 4, 1024, .inr (.inr (.inr (.inr (fun _ => none))))))] H := ⟨hP, hD⟩
  refine lv_aload_n hx hb dM_init_33 rfl (lv_at hl 0 rfl) ?_
  refine lv_sipush (v := 1024) hx hb dM_init_34 (by decide) ?_
  refine va_newq (C := "ValueBenchModel$V") (N' := 1024) (n := 1024) hx hb hown (htx _ kw_5_80) hZ.2.2.1.2 hK hP hD hS hA (by decide) (by decide) (by decide) (Nat.le_of_ble_eq_true rfl) (Nat.le_of_ble_eq_true rfl) dM_init_37 (fun q4 cA9 H hK9 hP hD hS => ?_)
  obtain rfl := xk_eq hK9 4 rfl
  obtain ⟨hP, hD⟩ : xPD D xcl A [(a0, .inr (5, [v1, .ref q1, v3, .ref q2, v5, .ref q3, v7, v8, v9, v10, v11, v12, v13, v14, v15, v16, v17, v18, v19, v20, v21, v22, v23, v24, v25, v26, v27, v28, v29, v30, v31, v32])), (q1, .inl (cT 4, 1024, .inr (.inr (.inr (.inr (fun _ => none)))))), (q2, .inl (cT 0, 4096, .inl (fun _ => 0))), (q3, .inl (cT 4, 1024, .inr (.inr (.inr (.inr (fun _ => none)))))), (q4, .inl (cT 4, 1024, .inr (.inr (.inr (.inr (fun _ => none))))))] H := ⟨hP, hD⟩
  refine va_put (D := D) (ci := 5) (v := .ref q4) (ty := (.array (.object "ValueBenchModel$V"))) (C := "ValueBenchModel") (T := TM) (N := 32) hx hb htx inM tyM tyM_ok nmM hown hK hP hD hS 0 rfl rfl 6 (by decide) (htx _ kw_5_93) (fun _ h9 => h9) rfl (by decide +kernel) rfl rfl (Nat.le_of_ble_eq_true rfl) dM_init_40 (fun H locs hP hD hS => ?_)
  obtain ⟨hP, hD⟩ : xPD D xcl A [(a0, .inr (5, [v1, .ref q1, v3, .ref q2, v5, .ref q3, .ref q4, v8, v9, v10, v11, v12, v13, v14, v15, v16, v17, v18, v19, v20, v21, v22, v23, v24, v25, v26, v27, v28, v29, v30, v31, v32])), (q1, .inl (cT 4, 1024, .inr (.inr (.inr (.inr (fun _ => none)))))), (q2, .inl (cT 0, 4096, .inl (fun _ => 0))), (q3, .inl (cT 4, 1024, .inr (.inr (.inr (.inr (fun _ => none)))))), (q4, .inl (cT 4, 1024, .inr (.inr (.inr (.inr (fun _ => none))))))] H := ⟨hP, hD⟩
  refine lv_aload_n hx hb dM_init_43 rfl (lv_at hl 0 rfl) ?_
  refine lv_sipush (v := 256) hx hb dM_init_44 (by decide) ?_
  refine va_newq (C := "ValueBenchModel$V") (N' := 256) (n := 256) hx hb hown (htx _ kw_5_80) hZ.2.2.1.2 hK hP hD hS hA (by decide) (by decide) (by decide) (Nat.le_of_ble_eq_true rfl) (Nat.le_of_ble_eq_true rfl) dM_init_47 (fun q5 cA9 H hK9 hP hD hS => ?_)
  obtain rfl := xk_eq hK9 4 rfl
  obtain ⟨hP, hD⟩ : xPD D xcl A [(a0, .inr (5, [v1, .ref q1, v3, .ref q2, v5, .ref q3, .ref q4, v8, v9, v10, v11, v12, v13, v14, v15, v16, v17, v18, v19, v20, v21, v22, v23, v24, v25, v26, v27, v28, v29, v30, v31, v32])), (q1, .inl (cT 4, 1024, .inr (.inr (.inr (.inr (fun _ => none)))))), (q2, .inl (cT 0, 4096, .inl (fun _ => 0))), (q3, .inl (cT 4, 1024, .inr (.inr (.inr (.inr (fun _ => none)))))), (q4, .inl (cT 4, 1024, .inr (.inr (.inr (.inr (fun _ => none)))))), (q5, .inl (cT 4, 256, .inr (.inr (.inr (.inr (fun _ => none))))))] H := ⟨hP, hD⟩
  refine va_put (D := D) (ci := 5) (v := .ref q5) (ty := (.array (.object "ValueBenchModel$V"))) (C := "ValueBenchModel") (T := TM) (N := 32) hx hb htx inM tyM tyM_ok nmM hown hK hP hD hS 0 rfl rfl 10 (by decide) (htx _ kw_5_97) (fun _ h9 => h9) rfl (by decide +kernel) rfl rfl (Nat.le_of_ble_eq_true rfl) dM_init_50 (fun H locs hP hD hS => ?_)
  obtain ⟨hP, hD⟩ : xPD D xcl A [(a0, .inr (5, [v1, .ref q1, v3, .ref q2, v5, .ref q3, .ref q4, v8, v9, v10, .ref q5, v12, v13, v14, v15, v16, v17, v18, v19, v20, v21, v22, v23, v24, v25, v26, v27, v28, v29, v30, v31, v32])), (q1, .inl (cT 4, 1024, .inr (.inr (.inr (.inr (fun _ => none)))))), (q2, .inl (cT 0, 4096, .inl (fun _ => 0))), (q3, .inl (cT 4, 1024, .inr (.inr (.inr (.inr (fun _ => none)))))), (q4, .inl (cT 4, 1024, .inr (.inr (.inr (.inr (fun _ => none)))))), (q5, .inl (cT 4, 256, .inr (.inr (.inr (.inr (fun _ => none))))))] H := ⟨hP, hD⟩
  refine lv_aload_n hx hb dM_init_53 rfl (lv_at hl 0 rfl) ?_
  refine lv_sipush (v := 256) hx hb dM_init_54 (by decide) ?_
  refine va_newq (C := "ValueBenchModel$V") (N' := 256) (n := 256) hx hb hown (htx _ kw_5_80) hZ.2.2.1.2 hK hP hD hS hA (by decide) (by decide) (by decide) (Nat.le_of_ble_eq_true rfl) (Nat.le_of_ble_eq_true rfl) dM_init_57 (fun q6 cA9 H hK9 hP hD hS => ?_)
  obtain rfl := xk_eq hK9 4 rfl
  obtain ⟨hP, hD⟩ : xPD D xcl A [(a0, .inr (5, [v1, .ref q1, v3, .ref q2, v5, .ref q3, .ref q4, v8, v9, v10, .ref q5, v12, v13, v14, v15, v16, v17, v18, v19, v20, v21, v22, v23, v24, v25, v26, v27, v28, v29, v30, v31, v32])), (q1, .inl (cT 4, 1024, .inr (.inr (.inr (.inr (fun _ => none)))))), (q2, .inl (cT 0, 4096, .inl (fun _ => 0))), (q3, .inl (cT 4, 1024, .inr (.inr (.inr (.inr (fun _ => none)))))), (q4, .inl (cT 4, 1024, .inr (.inr (.inr (.inr (fun _ => none)))))), (q5, .inl (cT 4, 256, .inr (.inr (.inr (.inr (fun _ => none)))))), (q6, .inl (cT 4, 256, .inr (.inr (.inr (.inr (fun _ => none))))))] H := ⟨hP, hD⟩
  refine va_put (D := D) (ci := 5) (v := .ref q6) (ty := (.array (.object "ValueBenchModel$V"))) (C := "ValueBenchModel") (T := TM) (N := 32) hx hb htx inM tyM tyM_ok nmM hown hK hP hD hS 0 rfl rfl 11 (by decide) (htx _ kw_5_98) (fun _ h9 => h9) rfl (by decide +kernel) rfl rfl (Nat.le_of_ble_eq_true rfl) dM_init_60 (fun H locs hP hD hS => ?_)
  obtain ⟨hP, hD⟩ : xPD D xcl A [(a0, .inr (5, [v1, .ref q1, v3, .ref q2, v5, .ref q3, .ref q4, v8, v9, v10, .ref q5, .ref q6, v13, v14, v15, v16, v17, v18, v19, v20, v21, v22, v23, v24, v25, v26, v27, v28, v29, v30, v31, v32])), (q1, .inl (cT 4, 1024, .inr (.inr (.inr (.inr (fun _ => none)))))), (q2, .inl (cT 0, 4096, .inl (fun _ => 0))), (q3, .inl (cT 4, 1024, .inr (.inr (.inr (.inr (fun _ => none)))))), (q4, .inl (cT 4, 1024, .inr (.inr (.inr (.inr (fun _ => none)))))), (q5, .inl (cT 4, 256, .inr (.inr (.inr (.inr (fun _ => none)))))), (q6, .inl (cT 4, 256, .inr (.inr (.inr (.inr (fun _ => none))))))] H := ⟨hP, hD⟩
  refine lv_aload_n hx hb dM_init_63 rfl (lv_at hl 0 rfl) ?_
  refine lv_bipush (v := 64) hx hb dM_init_64 (by decide) ?_
  refine va_newa (atype := .int) (N' := 64) (a0 := (64, .inl (fun _ => 0))) (ty := .int) (n := 64) hx hb (htx _ kw_1_78) rfl hK hP hD hS hA (fun _ => rfl) (by decide) (by decide) (by decide) (Nat.le_of_ble_eq_true rfl) (Nat.le_of_ble_eq_true rfl) dM_init_66 (fun q7 cA9 H hK9 hP hD hS => ?_)
  obtain rfl := xk_eq hK9 1 rfl
  obtain ⟨hP, hD⟩ : xPD D xcl A [(a0, .inr (5, [v1, .ref q1, v3, .ref q2, v5, .ref q3, .ref q4, v8, v9, v10, .ref q5, .ref q6, v13, v14, v15, v16, v17, v18, v19, v20, v21, v22, v23, v24, v25, v26, v27, v28, v29, v30, v31, v32])), (q1, .inl (cT 4, 1024, .inr (.inr (.inr (.inr (fun _ => none)))))), (q2, .inl (cT 0, 4096, .inl (fun _ => 0))), (q3, .inl (cT 4, 1024, .inr (.inr (.inr (.inr (fun _ => none)))))), (q4, .inl (cT 4, 1024, .inr (.inr (.inr (.inr (fun _ => none)))))), (q5, .inl (cT 4, 256, .inr (.inr (.inr (.inr (fun _ => none)))))), (q6, .inl (cT 4, 256, .inr (.inr (.inr (.inr (fun _ => none)))))), (q7, .inl (cT 1, 64, .inl (fun _ => 0)))] H := ⟨hP, hD⟩
  refine va_put (D := D) (ci := 5) (v := .ref q7) (ty := (.array .int)) (C := "ValueBenchModel") (T := TM) (N := 32) hx hb htx inM tyM tyM_ok nmM hown hK hP hD hS 0 rfl rfl 13 (by decide) (htx _ kw_5_100) (fun _ h9 => h9) rfl (by decide +kernel) rfl rfl (Nat.le_of_ble_eq_true rfl) dM_init_68 (fun H locs hP hD hS => ?_)
  obtain ⟨hP, hD⟩ : xPD D xcl A [(a0, .inr (5, [v1, .ref q1, v3, .ref q2, v5, .ref q3, .ref q4, v8, v9, v10, .ref q5, .ref q6, v13, .ref q7, v15, v16, v17, v18, v19, v20, v21, v22, v23, v24, v25, v26, v27, v28, v29, v30, v31, v32])), (q1, .inl (cT 4, 1024, .inr (.inr (.inr (.inr (fun _ => none)))))), (q2, .inl (cT 0, 4096, .inl (fun _ => 0))), (q3, .inl (cT 4, 1024, .inr (.inr (.inr (.inr (fun _ => none)))))), (q4, .inl (cT 4, 1024, .inr (.inr (.inr (.inr (fun _ => none)))))), (q5, .inl (cT 4, 256, .inr (.inr (.inr (.inr (fun _ => none)))))), (q6, .inl (cT 4, 256, .inr (.inr (.inr (.inr (fun _ => none)))))), (q7, .inl (cT 1, 64, .inl (fun _ => 0)))] H := ⟨hP, hD⟩
  refine lv_aload_n hx hb dM_init_71 rfl (lv_at hl 0 rfl) ?_
  refine lv_bipush (v := 64) hx hb dM_init_72 (by decide) ?_
  refine va_newa (atype := .int) (N' := 64) (a0 := (64, .inl (fun _ => 0))) (ty := .int) (n := 64) hx hb (htx _ kw_1_78) rfl hK hP hD hS hA (fun _ => rfl) (by decide) (by decide) (by decide) (Nat.le_of_ble_eq_true rfl) (Nat.le_of_ble_eq_true rfl) dM_init_74 (fun q8 cA9 H hK9 hP hD hS => ?_)
  obtain rfl := xk_eq hK9 1 rfl
  obtain ⟨hP, hD⟩ : xPD D xcl A [(a0, .inr (5, [v1, .ref q1, v3, .ref q2, v5, .ref q3, .ref q4, v8, v9, v10, .ref q5, .ref q6, v13, .ref q7, v15, v16, v17, v18, v19, v20, v21, v22, v23, v24, v25, v26, v27, v28, v29, v30, v31, v32])), (q1, .inl (cT 4, 1024, .inr (.inr (.inr (.inr (fun _ => none)))))), (q2, .inl (cT 0, 4096, .inl (fun _ => 0))), (q3, .inl (cT 4, 1024, .inr (.inr (.inr (.inr (fun _ => none)))))), (q4, .inl (cT 4, 1024, .inr (.inr (.inr (.inr (fun _ => none)))))), (q5, .inl (cT 4, 256, .inr (.inr (.inr (.inr (fun _ => none)))))), (q6, .inl (cT 4, 256, .inr (.inr (.inr (.inr (fun _ => none)))))), (q7, .inl (cT 1, 64, .inl (fun _ => 0))), (q8, .inl (cT 1, 64, .inl (fun _ => 0)))] H := ⟨hP, hD⟩
  refine va_put (D := D) (ci := 5) (v := .ref q8) (ty := (.array .int)) (C := "ValueBenchModel") (T := TM) (N := 32) hx hb htx inM tyM tyM_ok nmM hown hK hP hD hS 0 rfl rfl 14 (by decide) (htx _ kw_5_101) (fun _ h9 => h9) rfl (by decide +kernel) rfl rfl (Nat.le_of_ble_eq_true rfl) dM_init_76 (fun H locs hP hD hS => ?_)
  obtain ⟨hP, hD⟩ : xPD D xcl A [(a0, .inr (5, [v1, .ref q1, v3, .ref q2, v5, .ref q3, .ref q4, v8, v9, v10, .ref q5, .ref q6, v13, .ref q7, .ref q8, v16, v17, v18, v19, v20, v21, v22, v23, v24, v25, v26, v27, v28, v29, v30, v31, v32])), (q1, .inl (cT 4, 1024, .inr (.inr (.inr (.inr (fun _ => none)))))), (q2, .inl (cT 0, 4096, .inl (fun _ => 0))), (q3, .inl (cT 4, 1024, .inr (.inr (.inr (.inr (fun _ => none)))))), (q4, .inl (cT 4, 1024, .inr (.inr (.inr (.inr (fun _ => none)))))), (q5, .inl (cT 4, 256, .inr (.inr (.inr (.inr (fun _ => none)))))), (q6, .inl (cT 4, 256, .inr (.inr (.inr (.inr (fun _ => none)))))), (q7, .inl (cT 1, 64, .inl (fun _ => 0))), (q8, .inl (cT 1, 64, .inl (fun _ => 0)))] H := ⟨hP, hD⟩
  refine lv_aload_n hx hb dM_init_79 rfl (lv_at hl 0 rfl) ?_
  refine lv_bipush (v := 40) hx hb dM_init_80 (by decide) ?_
  refine va_put (D := D) (ci := 5) (v := .int 40) (ty := .int) (C := "ValueBenchModel") (T := TM) (N := 32) hx hb htx inM tyM tyM_ok nmM hown hK hP hD hS 0 rfl rfl 19 (by decide) (htx _ kw_5_106) (fun _ h9 => h9) rfl (by decide +kernel) rfl rfl (Nat.le_of_ble_eq_true rfl) dM_init_82 (fun H locs hP hD hS => ?_)
  obtain ⟨hP, hD⟩ : xPD D xcl A [(a0, .inr (5, [v1, .ref q1, v3, .ref q2, v5, .ref q3, .ref q4, v8, v9, v10, .ref q5, .ref q6, v13, .ref q7, .ref q8, v16, v17, v18, v19, .int 40, v21, v22, v23, v24, v25, v26, v27, v28, v29, v30, v31, v32])), (q1, .inl (cT 4, 1024, .inr (.inr (.inr (.inr (fun _ => none)))))), (q2, .inl (cT 0, 4096, .inl (fun _ => 0))), (q3, .inl (cT 4, 1024, .inr (.inr (.inr (.inr (fun _ => none)))))), (q4, .inl (cT 4, 1024, .inr (.inr (.inr (.inr (fun _ => none)))))), (q5, .inl (cT 4, 256, .inr (.inr (.inr (.inr (fun _ => none)))))), (q6, .inl (cT 4, 256, .inr (.inr (.inr (.inr (fun _ => none)))))), (q7, .inl (cT 1, 64, .inl (fun _ => 0))), (q8, .inl (cT 1, 64, .inl (fun _ => 0)))] H := ⟨hP, hD⟩
  refine lv_aload_n hx hb dM_init_85 rfl (lv_at hl 0 rfl) ?_
  refine lv_iconst (v := (-1)) hx hb dM_init_86 (by decide) ?_
  refine va_put (D := D) (ci := 5) (v := .int (-1)) (ty := .int) (C := "ValueBenchModel") (T := TM) (N := 32) hx hb htx inM tyM tyM_ok nmM hown hK hP hD hS 0 rfl rfl 20 (by decide) (htx _ kw_5_107) (fun _ h9 => h9) rfl (by decide +kernel) rfl rfl (Nat.le_of_ble_eq_true rfl) dM_init_87 (fun H locs hP hD hS => ?_)
  obtain ⟨hP, hD⟩ : xPD D xcl A [(a0, .inr (5, [v1, .ref q1, v3, .ref q2, v5, .ref q3, .ref q4, v8, v9, v10, .ref q5, .ref q6, v13, .ref q7, .ref q8, v16, v17, v18, v19, .int 40, .int (-1), v22, v23, v24, v25, v26, v27, v28, v29, v30, v31, v32])), (q1, .inl (cT 4, 1024, .inr (.inr (.inr (.inr (fun _ => none)))))), (q2, .inl (cT 0, 4096, .inl (fun _ => 0))), (q3, .inl (cT 4, 1024, .inr (.inr (.inr (.inr (fun _ => none)))))), (q4, .inl (cT 4, 1024, .inr (.inr (.inr (.inr (fun _ => none)))))), (q5, .inl (cT 4, 256, .inr (.inr (.inr (.inr (fun _ => none)))))), (q6, .inl (cT 4, 256, .inr (.inr (.inr (.inr (fun _ => none)))))), (q7, .inl (cT 1, 64, .inl (fun _ => 0))), (q8, .inl (cT 1, 64, .inl (fun _ => 0)))] H := ⟨hP, hD⟩
  refine lv_aload_n hx hb dM_init_90 rfl (lv_at hl 0 rfl) ?_
  refine lv_sipush (v := 1024) hx hb dM_init_91 (by decide) ?_
  refine va_newa (atype := .byte) (N' := 1024) (a0 := (1024, .inl (fun _ => 0))) (ty := .byte) (n := 1024) hx hb (htx _ kw_1_53) rfl hK hP hD hS hA (fun _ => rfl) (by decide) (by decide) (by decide) (Nat.le_of_ble_eq_true rfl) (Nat.le_of_ble_eq_true rfl) dM_init_94 (fun q9 cA9 H hK9 hP hD hS => ?_)
  obtain rfl := xk_eq hK9 0 rfl
  obtain ⟨hP, hD⟩ : xPD D xcl A [(a0, .inr (5, [v1, .ref q1, v3, .ref q2, v5, .ref q3, .ref q4, v8, v9, v10, .ref q5, .ref q6, v13, .ref q7, .ref q8, v16, v17, v18, v19, .int 40, .int (-1), v22, v23, v24, v25, v26, v27, v28, v29, v30, v31, v32])), (q1, .inl (cT 4, 1024, .inr (.inr (.inr (.inr (fun _ => none)))))), (q2, .inl (cT 0, 4096, .inl (fun _ => 0))), (q3, .inl (cT 4, 1024, .inr (.inr (.inr (.inr (fun _ => none)))))), (q4, .inl (cT 4, 1024, .inr (.inr (.inr (.inr (fun _ => none)))))), (q5, .inl (cT 4, 256, .inr (.inr (.inr (.inr (fun _ => none)))))), (q6, .inl (cT 4, 256, .inr (.inr (.inr (.inr (fun _ => none)))))), (q7, .inl (cT 1, 64, .inl (fun _ => 0))), (q8, .inl (cT 1, 64, .inl (fun _ => 0))), (q9, .inl (cT 0, 1024, .inl (fun _ => 0)))] H := ⟨hP, hD⟩
  refine va_put (D := D) (ci := 5) (v := .ref q9) (ty := (.array .byte)) (C := "ValueBenchModel") (T := TM) (N := 32) hx hb htx inM tyM tyM_ok nmM hown hK hP hD hS 0 rfl rfl 21 (by decide) (htx _ kw_5_108) (fun _ h9 => h9) rfl (by decide +kernel) rfl rfl (Nat.le_of_ble_eq_true rfl) dM_init_96 (fun H locs hP hD hS => ?_)
  obtain ⟨hP, hD⟩ : xPD D xcl A [(a0, .inr (5, [v1, .ref q1, v3, .ref q2, v5, .ref q3, .ref q4, v8, v9, v10, .ref q5, .ref q6, v13, .ref q7, .ref q8, v16, v17, v18, v19, .int 40, .int (-1), .ref q9, v23, v24, v25, v26, v27, v28, v29, v30, v31, v32])), (q1, .inl (cT 4, 1024, .inr (.inr (.inr (.inr (fun _ => none)))))), (q2, .inl (cT 0, 4096, .inl (fun _ => 0))), (q3, .inl (cT 4, 1024, .inr (.inr (.inr (.inr (fun _ => none)))))), (q4, .inl (cT 4, 1024, .inr (.inr (.inr (.inr (fun _ => none)))))), (q5, .inl (cT 4, 256, .inr (.inr (.inr (.inr (fun _ => none)))))), (q6, .inl (cT 4, 256, .inr (.inr (.inr (.inr (fun _ => none)))))), (q7, .inl (cT 1, 64, .inl (fun _ => 0))), (q8, .inl (cT 1, 64, .inl (fun _ => 0))), (q9, .inl (cT 0, 1024, .inl (fun _ => 0)))] H := ⟨hP, hD⟩
  refine lv_aload_n hx hb dM_init_99 rfl (lv_at hl 0 rfl) ?_
  refine lv_ldc hx hb hown (htx _ kw_5_82) dM_init_100 ?_
  refine va_put (D := D) (ci := 5) (v := .int 1000000000) (ty := .int) (C := "ValueBenchModel") (T := TM) (N := 32) hx hb htx inM tyM tyM_ok nmM hown hK hP hD hS 0 rfl rfl 23 (by decide) (htx _ kw_5_110) (fun _ h9 => h9) rfl (by decide +kernel) rfl rfl (Nat.le_of_ble_eq_true rfl) dM_init_102 (fun H locs hP hD hS => ?_)
  obtain ⟨hP, hD⟩ : xPD D xcl A [(a0, .inr (5, [v1, .ref q1, v3, .ref q2, v5, .ref q3, .ref q4, v8, v9, v10, .ref q5, .ref q6, v13, .ref q7, .ref q8, v16, v17, v18, v19, .int 40, .int (-1), .ref q9, v23, .int 1000000000, v25, v26, v27, v28, v29, v30, v31, v32])), (q1, .inl (cT 4, 1024, .inr (.inr (.inr (.inr (fun _ => none)))))), (q2, .inl (cT 0, 4096, .inl (fun _ => 0))), (q3, .inl (cT 4, 1024, .inr (.inr (.inr (.inr (fun _ => none)))))), (q4, .inl (cT 4, 1024, .inr (.inr (.inr (.inr (fun _ => none)))))), (q5, .inl (cT 4, 256, .inr (.inr (.inr (.inr (fun _ => none)))))), (q6, .inl (cT 4, 256, .inr (.inr (.inr (.inr (fun _ => none)))))), (q7, .inl (cT 1, 64, .inl (fun _ => 0))), (q8, .inl (cT 1, 64, .inl (fun _ => 0))), (q9, .inl (cT 0, 1024, .inl (fun _ => 0)))] H := ⟨hP, hD⟩
  refine lv_aload_n hx hb dM_init_105 rfl (lv_at hl 0 rfl) ?_
  refine lv_bipush (v := 8) hx hb dM_init_106 (by decide) ?_
  refine lv_sipush (v := 4096) hx hb dM_init_108 (by decide) ?_
  refine xx_mna hx hb hown (htx _ kw_5_83) ((hZ.2.2.2.2.2.2.2.2.2.2.2.2 : (Cond.arrayOver (.array .byte)).before #[] s = true)) (htx _ kw_1_53) hK hP hD hS hA 5 0 rfl rfl (Nat.le_of_ble_eq_true rfl) (Nat.le_of_ble_eq_true rfl) dM_init_111 (fun q10 q11 q12 q13 q14 q15 q16 q17 q18 H hP hD hS => ?_)
  obtain ⟨hP, hD⟩ : xPD D xcl A [(a0, .inr (5, [v1, .ref q1, v3, .ref q2, v5, .ref q3, .ref q4, v8, v9, v10, .ref q5, .ref q6, v13, .ref q7, .ref q8, v16, v17, v18, v19, .int 40, .int (-1), .ref q9, v23, .int 1000000000, v25, v26, v27, v28, v29, v30, v31, v32])), (q1, .inl (cT 4, 1024, .inr (.inr (.inr (.inr (fun _ => none)))))), (q2, .inl (cT 0, 4096, .inl (fun _ => 0))), (q3, .inl (cT 4, 1024, .inr (.inr (.inr (.inr (fun _ => none)))))), (q4, .inl (cT 4, 1024, .inr (.inr (.inr (.inr (fun _ => none)))))), (q5, .inl (cT 4, 256, .inr (.inr (.inr (.inr (fun _ => none)))))), (q6, .inl (cT 4, 256, .inr (.inr (.inr (.inr (fun _ => none)))))), (q7, .inl (cT 1, 64, .inl (fun _ => 0))), (q8, .inl (cT 1, 64, .inl (fun _ => 0))), (q9, .inl (cT 0, 1024, .inl (fun _ => 0))), (q10, .inl (cT 5, 8, .inr (.inr (.inr (.inr (x8 q11 q12 q13 q14 q15 q16 q17 q18)))))), (q11, .inl (cT 0, 4096, .inl (fun _ => 0))), (q12, .inl (cT 0, 4096, .inl (fun _ => 0))), (q13, .inl (cT 0, 4096, .inl (fun _ => 0))), (q14, .inl (cT 0, 4096, .inl (fun _ => 0))), (q15, .inl (cT 0, 4096, .inl (fun _ => 0))), (q16, .inl (cT 0, 4096, .inl (fun _ => 0))), (q17, .inl (cT 0, 4096, .inl (fun _ => 0))), (q18, .inl (cT 0, 4096, .inl (fun _ => 0)))] H := ⟨hP, hD⟩
  refine va_putF (D := D) (ci := 5) (v := .ref q10) (ty := (.array (.array .byte))) (C := "ValueBenchModel") (T := TM) (N := 32) hx hb htx inM tyM tyM_ok nmM hown hK hP hD hS 0 rfl rfl 24 (by decide) (htx _ kw_5_111) (fun _ h9 => h9) rfl hin rfl (by decide +kernel) rfl rfl (Nat.le_of_ble_eq_true rfl) dM_init_115 (fun H locs hP hD hS => ?_)
  obtain ⟨hP, hD⟩ : xPD D xcl A [(a0, .inr (5, [v1, .ref q1, v3, .ref q2, v5, .ref q3, .ref q4, v8, v9, v10, .ref q5, .ref q6, v13, .ref q7, .ref q8, v16, v17, v18, v19, .int 40, .int (-1), .ref q9, v23, .int 1000000000, .ref q10, v26, v27, v28, v29, v30, v31, v32])), (q1, .inl (cT 4, 1024, .inr (.inr (.inr (.inr (fun _ => none)))))), (q2, .inl (cT 0, 4096, .inl (fun _ => 0))), (q3, .inl (cT 4, 1024, .inr (.inr (.inr (.inr (fun _ => none)))))), (q4, .inl (cT 4, 1024, .inr (.inr (.inr (.inr (fun _ => none)))))), (q5, .inl (cT 4, 256, .inr (.inr (.inr (.inr (fun _ => none)))))), (q6, .inl (cT 4, 256, .inr (.inr (.inr (.inr (fun _ => none)))))), (q7, .inl (cT 1, 64, .inl (fun _ => 0))), (q8, .inl (cT 1, 64, .inl (fun _ => 0))), (q9, .inl (cT 0, 1024, .inl (fun _ => 0))), (q10, .inl (cT 5, 8, .inr (.inr (.inr (.inr (x8 q11 q12 q13 q14 q15 q16 q17 q18)))))), (q11, .inl (cT 0, 4096, .inl (fun _ => 0))), (q12, .inl (cT 0, 4096, .inl (fun _ => 0))), (q13, .inl (cT 0, 4096, .inl (fun _ => 0))), (q14, .inl (cT 0, 4096, .inl (fun _ => 0))), (q15, .inl (cT 0, 4096, .inl (fun _ => 0))), (q16, .inl (cT 0, 4096, .inl (fun _ => 0))), (q17, .inl (cT 0, 4096, .inl (fun _ => 0))), (q18, .inl (cT 0, 4096, .inl (fun _ => 0)))] H := ⟨hP, hD⟩
  refine lv_aload_n hx hb dM_init_118 rfl (lv_at hl 0 rfl) ?_
  refine lv_bipush (v := 8) hx hb dM_init_119 (by decide) ?_
  refine va_newa (atype := .int) (N' := 8) (a0 := (8, .inl (fun _ => 0))) (ty := .int) (n := 8) hx hb (htx _ kw_1_78) rfl hK hP hD hS hA (fun _ => rfl) (by decide) (by decide) (by decide) (Nat.le_of_ble_eq_true rfl) (Nat.le_of_ble_eq_true rfl) dM_init_121 (fun q19 cA9 H hK9 hP hD hS => ?_)
  obtain rfl := xk_eq hK9 1 rfl
  obtain ⟨hP, hD⟩ : xPD D xcl A [(a0, .inr (5, [v1, .ref q1, v3, .ref q2, v5, .ref q3, .ref q4, v8, v9, v10, .ref q5, .ref q6, v13, .ref q7, .ref q8, v16, v17, v18, v19, .int 40, .int (-1), .ref q9, v23, .int 1000000000, .ref q10, v26, v27, v28, v29, v30, v31, v32])), (q1, .inl (cT 4, 1024, .inr (.inr (.inr (.inr (fun _ => none)))))), (q2, .inl (cT 0, 4096, .inl (fun _ => 0))), (q3, .inl (cT 4, 1024, .inr (.inr (.inr (.inr (fun _ => none)))))), (q4, .inl (cT 4, 1024, .inr (.inr (.inr (.inr (fun _ => none)))))), (q5, .inl (cT 4, 256, .inr (.inr (.inr (.inr (fun _ => none)))))), (q6, .inl (cT 4, 256, .inr (.inr (.inr (.inr (fun _ => none)))))), (q7, .inl (cT 1, 64, .inl (fun _ => 0))), (q8, .inl (cT 1, 64, .inl (fun _ => 0))), (q9, .inl (cT 0, 1024, .inl (fun _ => 0))), (q10, .inl (cT 5, 8, .inr (.inr (.inr (.inr (x8 q11 q12 q13 q14 q15 q16 q17 q18)))))), (q11, .inl (cT 0, 4096, .inl (fun _ => 0))), (q12, .inl (cT 0, 4096, .inl (fun _ => 0))), (q13, .inl (cT 0, 4096, .inl (fun _ => 0))), (q14, .inl (cT 0, 4096, .inl (fun _ => 0))), (q15, .inl (cT 0, 4096, .inl (fun _ => 0))), (q16, .inl (cT 0, 4096, .inl (fun _ => 0))), (q17, .inl (cT 0, 4096, .inl (fun _ => 0))), (q18, .inl (cT 0, 4096, .inl (fun _ => 0))), (q19, .inl (cT 1, 8, .inl (fun _ => 0)))] H := ⟨hP, hD⟩
  refine va_putF (D := D) (ci := 5) (v := .ref q19) (ty := (.array .int)) (C := "ValueBenchModel") (T := TM) (N := 32) hx hb htx inM tyM tyM_ok nmM hown hK hP hD hS 0 rfl rfl 25 (by decide) (htx _ kw_5_112) (fun _ h9 => h9) rfl hin rfl (by decide +kernel) rfl rfl (Nat.le_of_ble_eq_true rfl) dM_init_123 (fun H locs hP hD hS => ?_)
  obtain ⟨hP, hD⟩ : xPD D xcl A [(a0, .inr (5, [v1, .ref q1, v3, .ref q2, v5, .ref q3, .ref q4, v8, v9, v10, .ref q5, .ref q6, v13, .ref q7, .ref q8, v16, v17, v18, v19, .int 40, .int (-1), .ref q9, v23, .int 1000000000, .ref q10, .ref q19, v27, v28, v29, v30, v31, v32])), (q1, .inl (cT 4, 1024, .inr (.inr (.inr (.inr (fun _ => none)))))), (q2, .inl (cT 0, 4096, .inl (fun _ => 0))), (q3, .inl (cT 4, 1024, .inr (.inr (.inr (.inr (fun _ => none)))))), (q4, .inl (cT 4, 1024, .inr (.inr (.inr (.inr (fun _ => none)))))), (q5, .inl (cT 4, 256, .inr (.inr (.inr (.inr (fun _ => none)))))), (q6, .inl (cT 4, 256, .inr (.inr (.inr (.inr (fun _ => none)))))), (q7, .inl (cT 1, 64, .inl (fun _ => 0))), (q8, .inl (cT 1, 64, .inl (fun _ => 0))), (q9, .inl (cT 0, 1024, .inl (fun _ => 0))), (q10, .inl (cT 5, 8, .inr (.inr (.inr (.inr (x8 q11 q12 q13 q14 q15 q16 q17 q18)))))), (q11, .inl (cT 0, 4096, .inl (fun _ => 0))), (q12, .inl (cT 0, 4096, .inl (fun _ => 0))), (q13, .inl (cT 0, 4096, .inl (fun _ => 0))), (q14, .inl (cT 0, 4096, .inl (fun _ => 0))), (q15, .inl (cT 0, 4096, .inl (fun _ => 0))), (q16, .inl (cT 0, 4096, .inl (fun _ => 0))), (q17, .inl (cT 0, 4096, .inl (fun _ => 0))), (q18, .inl (cT 0, 4096, .inl (fun _ => 0))), (q19, .inl (cT 1, 8, .inl (fun _ => 0)))] H := ⟨hP, hD⟩
  refine lv_aload_n hx hb dM_init_126 rfl (lv_at hl 0 rfl) ?_
  refine lv_sipush (v := 4096) hx hb dM_init_127 (by decide) ?_
  refine va_newa (atype := .byte) (N' := 4096) (a0 := (4096, .inl (fun _ => 0))) (ty := .byte) (n := 4096) hx hb (htx _ kw_1_53) rfl hK hP hD hS hA (fun _ => rfl) (by decide) (by decide) (by decide) (Nat.le_of_ble_eq_true rfl) (Nat.le_of_ble_eq_true rfl) dM_init_130 (fun q20 cA9 H hK9 hP hD hS => ?_)
  obtain rfl := xk_eq hK9 0 rfl
  obtain ⟨hP, hD⟩ : xPD D xcl A [(a0, .inr (5, [v1, .ref q1, v3, .ref q2, v5, .ref q3, .ref q4, v8, v9, v10, .ref q5, .ref q6, v13, .ref q7, .ref q8, v16, v17, v18, v19, .int 40, .int (-1), .ref q9, v23, .int 1000000000, .ref q10, .ref q19, v27, v28, v29, v30, v31, v32])), (q1, .inl (cT 4, 1024, .inr (.inr (.inr (.inr (fun _ => none)))))), (q2, .inl (cT 0, 4096, .inl (fun _ => 0))), (q3, .inl (cT 4, 1024, .inr (.inr (.inr (.inr (fun _ => none)))))), (q4, .inl (cT 4, 1024, .inr (.inr (.inr (.inr (fun _ => none)))))), (q5, .inl (cT 4, 256, .inr (.inr (.inr (.inr (fun _ => none)))))), (q6, .inl (cT 4, 256, .inr (.inr (.inr (.inr (fun _ => none)))))), (q7, .inl (cT 1, 64, .inl (fun _ => 0))), (q8, .inl (cT 1, 64, .inl (fun _ => 0))), (q9, .inl (cT 0, 1024, .inl (fun _ => 0))), (q10, .inl (cT 5, 8, .inr (.inr (.inr (.inr (x8 q11 q12 q13 q14 q15 q16 q17 q18)))))), (q11, .inl (cT 0, 4096, .inl (fun _ => 0))), (q12, .inl (cT 0, 4096, .inl (fun _ => 0))), (q13, .inl (cT 0, 4096, .inl (fun _ => 0))), (q14, .inl (cT 0, 4096, .inl (fun _ => 0))), (q15, .inl (cT 0, 4096, .inl (fun _ => 0))), (q16, .inl (cT 0, 4096, .inl (fun _ => 0))), (q17, .inl (cT 0, 4096, .inl (fun _ => 0))), (q18, .inl (cT 0, 4096, .inl (fun _ => 0))), (q19, .inl (cT 1, 8, .inl (fun _ => 0))), (q20, .inl (cT 0, 4096, .inl (fun _ => 0)))] H := ⟨hP, hD⟩
  refine va_putF (D := D) (ci := 5) (v := .ref q20) (ty := (.array .byte)) (C := "ValueBenchModel") (T := TM) (N := 32) hx hb htx inM tyM tyM_ok nmM hown hK hP hD hS 0 rfl rfl 26 (by decide) (htx _ kw_5_113) (fun _ h9 => h9) rfl hin rfl (by decide +kernel) rfl rfl (Nat.le_of_ble_eq_true rfl) dM_init_132 (fun H locs hP hD hS => ?_)
  obtain ⟨hP, hD⟩ : xPD D xcl A [(a0, .inr (5, [v1, .ref q1, v3, .ref q2, v5, .ref q3, .ref q4, v8, v9, v10, .ref q5, .ref q6, v13, .ref q7, .ref q8, v16, v17, v18, v19, .int 40, .int (-1), .ref q9, v23, .int 1000000000, .ref q10, .ref q19, .ref q20, v28, v29, v30, v31, v32])), (q1, .inl (cT 4, 1024, .inr (.inr (.inr (.inr (fun _ => none)))))), (q2, .inl (cT 0, 4096, .inl (fun _ => 0))), (q3, .inl (cT 4, 1024, .inr (.inr (.inr (.inr (fun _ => none)))))), (q4, .inl (cT 4, 1024, .inr (.inr (.inr (.inr (fun _ => none)))))), (q5, .inl (cT 4, 256, .inr (.inr (.inr (.inr (fun _ => none)))))), (q6, .inl (cT 4, 256, .inr (.inr (.inr (.inr (fun _ => none)))))), (q7, .inl (cT 1, 64, .inl (fun _ => 0))), (q8, .inl (cT 1, 64, .inl (fun _ => 0))), (q9, .inl (cT 0, 1024, .inl (fun _ => 0))), (q10, .inl (cT 5, 8, .inr (.inr (.inr (.inr (x8 q11 q12 q13 q14 q15 q16 q17 q18)))))), (q11, .inl (cT 0, 4096, .inl (fun _ => 0))), (q12, .inl (cT 0, 4096, .inl (fun _ => 0))), (q13, .inl (cT 0, 4096, .inl (fun _ => 0))), (q14, .inl (cT 0, 4096, .inl (fun _ => 0))), (q15, .inl (cT 0, 4096, .inl (fun _ => 0))), (q16, .inl (cT 0, 4096, .inl (fun _ => 0))), (q17, .inl (cT 0, 4096, .inl (fun _ => 0))), (q18, .inl (cT 0, 4096, .inl (fun _ => 0))), (q19, .inl (cT 1, 8, .inl (fun _ => 0))), (q20, .inl (cT 0, 4096, .inl (fun _ => 0)))] H := ⟨hP, hD⟩
  refine lv_aload_n hx hb dM_init_135 rfl (lv_at hl 0 rfl) ?_
  refine lv_sipush (v := 4096) hx hb dM_init_136 (by decide) ?_
  refine va_newa (atype := .byte) (N' := 4096) (a0 := (4096, .inl (fun _ => 0))) (ty := .byte) (n := 4096) hx hb (htx _ kw_1_53) rfl hK hP hD hS hA (fun _ => rfl) (by decide) (by decide) (by decide) (Nat.le_of_ble_eq_true rfl) (Nat.le_of_ble_eq_true rfl) dM_init_139 (fun q21 cA9 H hK9 hP hD hS => ?_)
  obtain rfl := xk_eq hK9 0 rfl
  obtain ⟨hP, hD⟩ : xPD D xcl A [(a0, .inr (5, [v1, .ref q1, v3, .ref q2, v5, .ref q3, .ref q4, v8, v9, v10, .ref q5, .ref q6, v13, .ref q7, .ref q8, v16, v17, v18, v19, .int 40, .int (-1), .ref q9, v23, .int 1000000000, .ref q10, .ref q19, .ref q20, v28, v29, v30, v31, v32])), (q1, .inl (cT 4, 1024, .inr (.inr (.inr (.inr (fun _ => none)))))), (q2, .inl (cT 0, 4096, .inl (fun _ => 0))), (q3, .inl (cT 4, 1024, .inr (.inr (.inr (.inr (fun _ => none)))))), (q4, .inl (cT 4, 1024, .inr (.inr (.inr (.inr (fun _ => none)))))), (q5, .inl (cT 4, 256, .inr (.inr (.inr (.inr (fun _ => none)))))), (q6, .inl (cT 4, 256, .inr (.inr (.inr (.inr (fun _ => none)))))), (q7, .inl (cT 1, 64, .inl (fun _ => 0))), (q8, .inl (cT 1, 64, .inl (fun _ => 0))), (q9, .inl (cT 0, 1024, .inl (fun _ => 0))), (q10, .inl (cT 5, 8, .inr (.inr (.inr (.inr (x8 q11 q12 q13 q14 q15 q16 q17 q18)))))), (q11, .inl (cT 0, 4096, .inl (fun _ => 0))), (q12, .inl (cT 0, 4096, .inl (fun _ => 0))), (q13, .inl (cT 0, 4096, .inl (fun _ => 0))), (q14, .inl (cT 0, 4096, .inl (fun _ => 0))), (q15, .inl (cT 0, 4096, .inl (fun _ => 0))), (q16, .inl (cT 0, 4096, .inl (fun _ => 0))), (q17, .inl (cT 0, 4096, .inl (fun _ => 0))), (q18, .inl (cT 0, 4096, .inl (fun _ => 0))), (q19, .inl (cT 1, 8, .inl (fun _ => 0))), (q20, .inl (cT 0, 4096, .inl (fun _ => 0))), (q21, .inl (cT 0, 4096, .inl (fun _ => 0)))] H := ⟨hP, hD⟩
  refine va_putF (D := D) (ci := 5) (v := .ref q21) (ty := (.array .byte)) (C := "ValueBenchModel") (T := TM) (N := 32) hx hb htx inM tyM tyM_ok nmM hown hK hP hD hS 0 rfl rfl 28 (by decide) (htx _ kw_5_115) (fun _ h9 => h9) rfl hin rfl (by decide +kernel) rfl rfl (Nat.le_of_ble_eq_true rfl) dM_init_141 (fun H locs hP hD hS => ?_)
  obtain ⟨hP, hD⟩ : xPD D xcl A [(a0, .inr (5, [v1, .ref q1, v3, .ref q2, v5, .ref q3, .ref q4, v8, v9, v10, .ref q5, .ref q6, v13, .ref q7, .ref q8, v16, v17, v18, v19, .int 40, .int (-1), .ref q9, v23, .int 1000000000, .ref q10, .ref q19, .ref q20, v28, .ref q21, v30, v31, v32])), (q1, .inl (cT 4, 1024, .inr (.inr (.inr (.inr (fun _ => none)))))), (q2, .inl (cT 0, 4096, .inl (fun _ => 0))), (q3, .inl (cT 4, 1024, .inr (.inr (.inr (.inr (fun _ => none)))))), (q4, .inl (cT 4, 1024, .inr (.inr (.inr (.inr (fun _ => none)))))), (q5, .inl (cT 4, 256, .inr (.inr (.inr (.inr (fun _ => none)))))), (q6, .inl (cT 4, 256, .inr (.inr (.inr (.inr (fun _ => none)))))), (q7, .inl (cT 1, 64, .inl (fun _ => 0))), (q8, .inl (cT 1, 64, .inl (fun _ => 0))), (q9, .inl (cT 0, 1024, .inl (fun _ => 0))), (q10, .inl (cT 5, 8, .inr (.inr (.inr (.inr (x8 q11 q12 q13 q14 q15 q16 q17 q18)))))), (q11, .inl (cT 0, 4096, .inl (fun _ => 0))), (q12, .inl (cT 0, 4096, .inl (fun _ => 0))), (q13, .inl (cT 0, 4096, .inl (fun _ => 0))), (q14, .inl (cT 0, 4096, .inl (fun _ => 0))), (q15, .inl (cT 0, 4096, .inl (fun _ => 0))), (q16, .inl (cT 0, 4096, .inl (fun _ => 0))), (q17, .inl (cT 0, 4096, .inl (fun _ => 0))), (q18, .inl (cT 0, 4096, .inl (fun _ => 0))), (q19, .inl (cT 1, 8, .inl (fun _ => 0))), (q20, .inl (cT 0, 4096, .inl (fun _ => 0))), (q21, .inl (cT 0, 4096, .inl (fun _ => 0)))] H := ⟨hP, hD⟩
  refine lv_aload_n hx hb dM_init_144 rfl (lv_at hl 0 rfl) ?_
  refine lv_iconst (v := (-1)) hx hb dM_init_145 (by decide) ?_
  refine va_put (D := D) (ci := 5) (v := .int (-1)) (ty := .int) (C := "ValueBenchModel") (T := TM) (N := 32) hx hb htx inM tyM tyM_ok nmM hown hK hP hD hS 0 rfl rfl 31 (by decide) (htx _ kw_5_118) (fun _ h9 => h9) rfl (by decide +kernel) rfl rfl (Nat.le_of_ble_eq_true rfl) dM_init_146 (fun H locs hP hD hS => ?_)
  obtain ⟨hP, hD⟩ : xPD D xcl A [(a0, .inr (5, [v1, .ref q1, v3, .ref q2, v5, .ref q3, .ref q4, v8, v9, v10, .ref q5, .ref q6, v13, .ref q7, .ref q8, v16, v17, v18, v19, .int 40, .int (-1), .ref q9, v23, .int 1000000000, .ref q10, .ref q19, .ref q20, v28, .ref q21, v30, v31, .int (-1)])), (q1, .inl (cT 4, 1024, .inr (.inr (.inr (.inr (fun _ => none)))))), (q2, .inl (cT 0, 4096, .inl (fun _ => 0))), (q3, .inl (cT 4, 1024, .inr (.inr (.inr (.inr (fun _ => none)))))), (q4, .inl (cT 4, 1024, .inr (.inr (.inr (.inr (fun _ => none)))))), (q5, .inl (cT 4, 256, .inr (.inr (.inr (.inr (fun _ => none)))))), (q6, .inl (cT 4, 256, .inr (.inr (.inr (.inr (fun _ => none)))))), (q7, .inl (cT 1, 64, .inl (fun _ => 0))), (q8, .inl (cT 1, 64, .inl (fun _ => 0))), (q9, .inl (cT 0, 1024, .inl (fun _ => 0))), (q10, .inl (cT 5, 8, .inr (.inr (.inr (.inr (x8 q11 q12 q13 q14 q15 q16 q17 q18)))))), (q11, .inl (cT 0, 4096, .inl (fun _ => 0))), (q12, .inl (cT 0, 4096, .inl (fun _ => 0))), (q13, .inl (cT 0, 4096, .inl (fun _ => 0))), (q14, .inl (cT 0, 4096, .inl (fun _ => 0))), (q15, .inl (cT 0, 4096, .inl (fun _ => 0))), (q16, .inl (cT 0, 4096, .inl (fun _ => 0))), (q17, .inl (cT 0, 4096, .inl (fun _ => 0))), (q18, .inl (cT 0, 4096, .inl (fun _ => 0))), (q19, .inl (cT 1, 8, .inl (fun _ => 0))), (q20, .inl (cT 0, 4096, .inl (fun _ => 0))), (q21, .inl (cT 0, 4096, .inl (fun _ => 0)))] H := ⟨hP, hD⟩
  refine lv_iconst (v := 0) hx hb dM_init_149 (by decide) ?_
  refine lv_istore_n (lv' := [(1, .int 0), (0, .ref a0)]) hx hb dM_init_150 rfl hl (by decide) rfl (fun ls hl => ?_)
  refine lv_iload_n hx hb dM_init_151 rfl (lv_at hl 0 rfl) ?_
  refine lv_bipush (v := 8) hx hb dM_init_152 (by decide) ?_
  refine lv_icmp_ge (tgt := 198) hx hb dM_init_154 (by decide) (fun h => ((by revert h; decide : False)).elim) (fun _ => ?_)
  refine lv_iconst (v := 0) hx hb dM_init_157 (by decide) ?_
  refine lv_istore_n (lv' := [(2, .int 0), (1, .int 0), (0, .ref a0)]) hx hb dM_init_158 rfl hl (by decide) rfl (fun ls hl => ?_)
  refine lv_iload_n hx hb dM_init_159 rfl (lv_at hl 0 rfl) ?_
  refine lv_iconst (v := 4) hx hb dM_init_160 (by decide) ?_
  refine lv_icmp_ge (tgt := 185) hx hb dM_init_161 (by decide) (fun h => ((by revert h; decide : False)).elim) (fun _ => ?_)
  refine lv_aload_n hx hb dM_init_164 rfl (lv_at hl 2 rfl) ?_
  refine va_get (D := D) (ci := 5) (v := .ref q10) (C := "ValueBenchModel") (T := TM) (N := 32) hx hb htx inM hown hK hP 0 rfl rfl 24 (by decide) (htx _ kw_5_111) (fun _ h9 => h9) rfl dM_init_165 ?_
  refine lv_iload_n hx hb dM_init_168 rfl (lv_at hl 1 rfl) ?_
  refine xx_aldA hx hb hK hP 10 5 rfl rfl (show ¬ ((0 : Int32) < 0 ∨ 8 ≤ (0 : Int32).toNatClampNeg) by decide) dM_init_169 ?_
  refine W.eq (g2 := F0 m 170 ls [.ref q11]) rfl ?_
  refine lv_iload_n hx hb dM_init_170 rfl (lv_at hl 0 rfl) ?_
  refine va_ldcS (q := aK 10) hx hb hown (hZ.2.2.2.2.2.2.2.2.1 _ (List.mem_of_getElem? (i := 17) rfl)) dM_init_171 ?_
  refine lv_iload_n hx hb dM_init_173 rfl (lv_at hl 0 rfl) ?_
  obtain ⟨hPc, hDc, hFc⟩ := xcut (wc := []) hP hD hS hA [] rfl rfl (by decide)
  refine va_calli (va_runV (C := "java/lang/String") (As := [.int 0]) (rest := [.int 0, .ref q11]) ⟨hx, hb, hml, hown, htx⟩ (cJS_charAt_0 l hl9 D cT aK aV H.size) ⟨callB_of 1 htx (xw_goodC kw_2_80) rfl rfl rfl (htx _ kw_1_6) (htx _ kw_5_86) ⟨by decide, by decide, by decide +kernel⟩ ⟨Nat.le_of_ble_eq_true rfl, Nat.le_of_ble_eq_true rfl⟩, (htx _ kw_2_78), (htx _ kw_2_79)⟩ ⟨xPre_blind, vk_recv hZ.2.2.2.2.2.2.2.2.2.1 (i := 10) (by decide) hS, (fun U hU hW => ⟨rfl, xPre_of hZ hS hFc hPc hDc hK U hU hW⟩)⟩ rfl rfl hl.1 rfl (lv_room (Nat.le_of_ble_eq_true rfl)) dM_init_174 ⟨Nat.le_of_ble_eq_true rfl, Nat.le_of_ble_eq_true rfl⟩) hS (fun q _ h => hFc q h) hFc (fun r22 u9 t H1 locs ht hvm hr9 hB hz1 hk1 hS => ?_)
  obtain ⟨hP1, hK1, hD1⟩ := hB
  rw [ht] at hP1
  obtain ⟨hP, hD⟩ := xjoin (W := [(a0, .inr (5, [v1, .ref q1, v3, .ref q2, v5, .ref q3, .ref q4, v8, v9, v10, .ref q5, .ref q6, v13, .ref q7, .ref q8, v16, v17, v18, v19, .int 40, .int (-1), .ref q9, v23, .int 1000000000, .ref q10, .ref q19, .ref q20, v28, .ref q21, v30, v31, .int (-1)])), (q1, .inl (cT 4, 1024, .inr (.inr (.inr (.inr (fun _ => none)))))), (q2, .inl (cT 0, 4096, .inl (fun _ => 0))), (q3, .inl (cT 4, 1024, .inr (.inr (.inr (.inr (fun _ => none)))))), (q4, .inl (cT 4, 1024, .inr (.inr (.inr (.inr (fun _ => none)))))), (q5, .inl (cT 4, 256, .inr (.inr (.inr (.inr (fun _ => none)))))), (q6, .inl (cT 4, 256, .inr (.inr (.inr (.inr (fun _ => none)))))), (q7, .inl (cT 1, 64, .inl (fun _ => 0))), (q8, .inl (cT 1, 64, .inl (fun _ => 0))), (q9, .inl (cT 0, 1024, .inl (fun _ => 0))), (q10, .inl (cT 5, 8, .inr (.inr (.inr (.inr (x8 q11 q12 q13 q14 q15 q16 q17 q18)))))), (q11, .inl (cT 0, 4096, .inl (fun _ => 0))), (q12, .inl (cT 0, 4096, .inl (fun _ => 0))), (q13, .inl (cT 0, 4096, .inl (fun _ => 0))), (q14, .inl (cT 0, 4096, .inl (fun _ => 0))), (q15, .inl (cT 0, 4096, .inl (fun _ => 0))), (q16, .inl (cT 0, 4096, .inl (fun _ => 0))), (q17, .inl (cT 0, 4096, .inl (fun _ => 0))), (q18, .inl (cT 0, 4096, .inl (fun _ => 0))), (q19, .inl (cT 1, 8, .inl (fun _ => 0))), (q20, .inl (cT 0, 4096, .inl (fun _ => 0))), (q21, .inl (cT 0, 4096, .inl (fun _ => 0)))]) hP hD [] [0, 1, 2, 3, 4, 5, 6, 7, 8, 9, 10, 11, 12, 13, 14, 15, 16, 17, 18, 19, 20, 21] 22 rfl rfl (by decide) (by decide) hk1 hFc hP1 hD1
  generalize H1 = H at hP hS ⊢
  rw [hr9]
  refine W.eq (g2 := F0 m 177 ls [.int 110, .int 0, .ref q11]) rfl ?_
  refine lv_i2b hx hb dM_init_177 rfl ?_
  refine W.eq (g2 := F0 m 178 ls [.int 110, .int 0, .ref q11]) rfl ?_
  refine va_bast hx hb hK hP hD hS 11 0 rfl rfl (show ¬ ((0 : Int32) < 0 ∨ 4096 ≤ (0 : Int32).toNatClampNeg) by decide) dM_init_178 (fun H locs hP hD hS => ?_)
  obtain ⟨hP, hD⟩ : xPD D xcl A [(a0, .inr (5, [v1, .ref q1, v3, .ref q2, v5, .ref q3, .ref q4, v8, v9, v10, .ref q5, .ref q6, v13, .ref q7, .ref q8, v16, v17, v18, v19, .int 40, .int (-1), .ref q9, v23, .int 1000000000, .ref q10, .ref q19, .ref q20, v28, .ref q21, v30, v31, .int (-1)])), (q1, .inl (cT 4, 1024, .inr (.inr (.inr (.inr (fun _ => none)))))), (q2, .inl (cT 0, 4096, .inl (fun _ => 0))), (q3, .inl (cT 4, 1024, .inr (.inr (.inr (.inr (fun _ => none)))))), (q4, .inl (cT 4, 1024, .inr (.inr (.inr (.inr (fun _ => none)))))), (q5, .inl (cT 4, 256, .inr (.inr (.inr (.inr (fun _ => none)))))), (q6, .inl (cT 4, 256, .inr (.inr (.inr (.inr (fun _ => none)))))), (q7, .inl (cT 1, 64, .inl (fun _ => 0))), (q8, .inl (cT 1, 64, .inl (fun _ => 0))), (q9, .inl (cT 0, 1024, .inl (fun _ => 0))), (q10, .inl (cT 5, 8, .inr (.inr (.inr (.inr (x8 q11 q12 q13 q14 q15 q16 q17 q18)))))), (q11, .inl (cT 0, 4096, .inl (upd (fun _ => 0) 0 110))), (q12, .inl (cT 0, 4096, .inl (fun _ => 0))), (q13, .inl (cT 0, 4096, .inl (fun _ => 0))), (q14, .inl (cT 0, 4096, .inl (fun _ => 0))), (q15, .inl (cT 0, 4096, .inl (fun _ => 0))), (q16, .inl (cT 0, 4096, .inl (fun _ => 0))), (q17, .inl (cT 0, 4096, .inl (fun _ => 0))), (q18, .inl (cT 0, 4096, .inl (fun _ => 0))), (q19, .inl (cT 1, 8, .inl (fun _ => 0))), (q20, .inl (cT 0, 4096, .inl (fun _ => 0))), (q21, .inl (cT 0, 4096, .inl (fun _ => 0)))] H := ⟨hP, hD⟩
  refine lv_iinc (v := 1) (lv' := [(2, .int 1), (1, .int 0), (0, .ref a0)]) hx hb dM_init_179 hl (k := 0) rfl (by decide) (by decide) rfl (fun ls hl => ?_)
  refine lv_goto (tgt := 159) hx hb dM_init_182 (by decide) ?_
  refine lv_iload_n hx hb dM_init_159 rfl (lv_at hl 0 rfl) ?_
  refine lv_iconst (v := 4) hx hb dM_init_160 (by decide) ?_
  refine lv_icmp_ge (tgt := 185) hx hb dM_init_161 (by decide) (fun h => ((by revert h; decide : False)).elim) (fun _ => ?_)
  refine lv_aload_n hx hb dM_init_164 rfl (lv_at hl 2 rfl) ?_
  refine va_get (D := D) (ci := 5) (v := .ref q10) (C := "ValueBenchModel") (T := TM) (N := 32) hx hb htx inM hown hK hP 0 rfl rfl 24 (by decide) (htx _ kw_5_111) (fun _ h9 => h9) rfl dM_init_165 ?_
  refine lv_iload_n hx hb dM_init_168 rfl (lv_at hl 1 rfl) ?_
  refine xx_aldA hx hb hK hP 10 5 rfl rfl (show ¬ ((0 : Int32) < 0 ∨ 8 ≤ (0 : Int32).toNatClampNeg) by decide) dM_init_169 ?_
  refine W.eq (g2 := F0 m 170 ls [.ref q11]) rfl ?_
  refine lv_iload_n hx hb dM_init_170 rfl (lv_at hl 0 rfl) ?_
  refine va_ldcS (q := aK 10) hx hb hown (hZ.2.2.2.2.2.2.2.2.1 _ (List.mem_of_getElem? (i := 17) rfl)) dM_init_171 ?_
  refine lv_iload_n hx hb dM_init_173 rfl (lv_at hl 0 rfl) ?_
  obtain ⟨hPc, hDc, hFc⟩ := xcut (wc := []) hP hD hS hA [] rfl rfl (by decide)
  refine va_calli (va_runV (C := "java/lang/String") (As := [.int 1]) (rest := [.int 1, .ref q11]) ⟨hx, hb, hml, hown, htx⟩ (cJS_charAt_1 l hl9 D cT aK aV H.size) ⟨callB_of 1 htx (xw_goodC kw_2_80) rfl rfl rfl (htx _ kw_1_6) (htx _ kw_5_86) ⟨by decide, by decide, by decide +kernel⟩ ⟨Nat.le_of_ble_eq_true rfl, Nat.le_of_ble_eq_true rfl⟩, (htx _ kw_2_78), (htx _ kw_2_79)⟩ ⟨xPre_blind, vk_recv hZ.2.2.2.2.2.2.2.2.2.1 (i := 10) (by decide) hS, (fun U hU hW => ⟨rfl, xPre_of hZ hS hFc hPc hDc hK U hU hW⟩)⟩ rfl rfl hl.1 rfl (lv_room (Nat.le_of_ble_eq_true rfl)) dM_init_174 ⟨Nat.le_of_ble_eq_true rfl, Nat.le_of_ble_eq_true rfl⟩) hS (fun q _ h => hFc q h) hFc (fun r23 u9 t H1 locs ht hvm hr9 hB hz1 hk1 hS => ?_)
  obtain ⟨hP1, hK1, hD1⟩ := hB
  rw [ht] at hP1
  obtain ⟨hP, hD⟩ := xjoin (W := [(a0, .inr (5, [v1, .ref q1, v3, .ref q2, v5, .ref q3, .ref q4, v8, v9, v10, .ref q5, .ref q6, v13, .ref q7, .ref q8, v16, v17, v18, v19, .int 40, .int (-1), .ref q9, v23, .int 1000000000, .ref q10, .ref q19, .ref q20, v28, .ref q21, v30, v31, .int (-1)])), (q1, .inl (cT 4, 1024, .inr (.inr (.inr (.inr (fun _ => none)))))), (q2, .inl (cT 0, 4096, .inl (fun _ => 0))), (q3, .inl (cT 4, 1024, .inr (.inr (.inr (.inr (fun _ => none)))))), (q4, .inl (cT 4, 1024, .inr (.inr (.inr (.inr (fun _ => none)))))), (q5, .inl (cT 4, 256, .inr (.inr (.inr (.inr (fun _ => none)))))), (q6, .inl (cT 4, 256, .inr (.inr (.inr (.inr (fun _ => none)))))), (q7, .inl (cT 1, 64, .inl (fun _ => 0))), (q8, .inl (cT 1, 64, .inl (fun _ => 0))), (q9, .inl (cT 0, 1024, .inl (fun _ => 0))), (q10, .inl (cT 5, 8, .inr (.inr (.inr (.inr (x8 q11 q12 q13 q14 q15 q16 q17 q18)))))), (q11, .inl (cT 0, 4096, .inl (upd (fun _ => 0) 0 110))), (q12, .inl (cT 0, 4096, .inl (fun _ => 0))), (q13, .inl (cT 0, 4096, .inl (fun _ => 0))), (q14, .inl (cT 0, 4096, .inl (fun _ => 0))), (q15, .inl (cT 0, 4096, .inl (fun _ => 0))), (q16, .inl (cT 0, 4096, .inl (fun _ => 0))), (q17, .inl (cT 0, 4096, .inl (fun _ => 0))), (q18, .inl (cT 0, 4096, .inl (fun _ => 0))), (q19, .inl (cT 1, 8, .inl (fun _ => 0))), (q20, .inl (cT 0, 4096, .inl (fun _ => 0))), (q21, .inl (cT 0, 4096, .inl (fun _ => 0)))]) hP hD [] [0, 1, 2, 3, 4, 5, 6, 7, 8, 9, 10, 11, 12, 13, 14, 15, 16, 17, 18, 19, 20, 21] 22 rfl rfl (by decide) (by decide) hk1 hFc hP1 hD1
  generalize H1 = H at hP hS ⊢
  rw [hr9]
  refine W.eq (g2 := F0 m 177 ls [.int 117, .int 1, .ref q11]) rfl ?_
  refine lv_i2b hx hb dM_init_177 rfl ?_
  refine W.eq (g2 := F0 m 178 ls [.int 117, .int 1, .ref q11]) rfl ?_
  refine va_bast hx hb hK hP hD hS 11 0 rfl rfl (show ¬ ((1 : Int32) < 0 ∨ 4096 ≤ (1 : Int32).toNatClampNeg) by decide) dM_init_178 (fun H locs hP hD hS => ?_)
  obtain ⟨hP, hD⟩ : xPD D xcl A [(a0, .inr (5, [v1, .ref q1, v3, .ref q2, v5, .ref q3, .ref q4, v8, v9, v10, .ref q5, .ref q6, v13, .ref q7, .ref q8, v16, v17, v18, v19, .int 40, .int (-1), .ref q9, v23, .int 1000000000, .ref q10, .ref q19, .ref q20, v28, .ref q21, v30, v31, .int (-1)])), (q1, .inl (cT 4, 1024, .inr (.inr (.inr (.inr (fun _ => none)))))), (q2, .inl (cT 0, 4096, .inl (fun _ => 0))), (q3, .inl (cT 4, 1024, .inr (.inr (.inr (.inr (fun _ => none)))))), (q4, .inl (cT 4, 1024, .inr (.inr (.inr (.inr (fun _ => none)))))), (q5, .inl (cT 4, 256, .inr (.inr (.inr (.inr (fun _ => none)))))), (q6, .inl (cT 4, 256, .inr (.inr (.inr (.inr (fun _ => none)))))), (q7, .inl (cT 1, 64, .inl (fun _ => 0))), (q8, .inl (cT 1, 64, .inl (fun _ => 0))), (q9, .inl (cT 0, 1024, .inl (fun _ => 0))), (q10, .inl (cT 5, 8, .inr (.inr (.inr (.inr (x8 q11 q12 q13 q14 q15 q16 q17 q18)))))), (q11, .inl (cT 0, 4096, .inl (upd (upd (fun _ => 0) 0 110) 1 117))), (q12, .inl (cT 0, 4096, .inl (fun _ => 0))), (q13, .inl (cT 0, 4096, .inl (fun _ => 0))), (q14, .inl (cT 0, 4096, .inl (fun _ => 0))), (q15, .inl (cT 0, 4096, .inl (fun _ => 0))), (q16, .inl (cT 0, 4096, .inl (fun _ => 0))), (q17, .inl (cT 0, 4096, .inl (fun _ => 0))), (q18, .inl (cT 0, 4096, .inl (fun _ => 0))), (q19, .inl (cT 1, 8, .inl (fun _ => 0))), (q20, .inl (cT 0, 4096, .inl (fun _ => 0))), (q21, .inl (cT 0, 4096, .inl (fun _ => 0)))] H := ⟨hP, hD⟩
  refine lv_iinc (v := 2) (lv' := [(2, .int 2), (1, .int 0), (0, .ref a0)]) hx hb dM_init_179 hl (k := 0) rfl (by decide) (by decide) rfl (fun ls hl => ?_)
  refine lv_goto (tgt := 159) hx hb dM_init_182 (by decide) ?_
  refine lv_iload_n hx hb dM_init_159 rfl (lv_at hl 0 rfl) ?_
  refine lv_iconst (v := 4) hx hb dM_init_160 (by decide) ?_
  refine lv_icmp_ge (tgt := 185) hx hb dM_init_161 (by decide) (fun h => ((by revert h; decide : False)).elim) (fun _ => ?_)
  refine lv_aload_n hx hb dM_init_164 rfl (lv_at hl 2 rfl) ?_
  refine va_get (D := D) (ci := 5) (v := .ref q10) (C := "ValueBenchModel") (T := TM) (N := 32) hx hb htx inM hown hK hP 0 rfl rfl 24 (by decide) (htx _ kw_5_111) (fun _ h9 => h9) rfl dM_init_165 ?_
  refine lv_iload_n hx hb dM_init_168 rfl (lv_at hl 1 rfl) ?_
  refine xx_aldA hx hb hK hP 10 5 rfl rfl (show ¬ ((0 : Int32) < 0 ∨ 8 ≤ (0 : Int32).toNatClampNeg) by decide) dM_init_169 ?_
  refine W.eq (g2 := F0 m 170 ls [.ref q11]) rfl ?_
  refine lv_iload_n hx hb dM_init_170 rfl (lv_at hl 0 rfl) ?_
  refine va_ldcS (q := aK 10) hx hb hown (hZ.2.2.2.2.2.2.2.2.1 _ (List.mem_of_getElem? (i := 17) rfl)) dM_init_171 ?_
  refine lv_iload_n hx hb dM_init_173 rfl (lv_at hl 0 rfl) ?_
  obtain ⟨hPc, hDc, hFc⟩ := xcut (wc := []) hP hD hS hA [] rfl rfl (by decide)
  refine va_calli (va_runV (C := "java/lang/String") (As := [.int 2]) (rest := [.int 2, .ref q11]) ⟨hx, hb, hml, hown, htx⟩ (cJS_charAt_2 l hl9 D cT aK aV H.size) ⟨callB_of 1 htx (xw_goodC kw_2_80) rfl rfl rfl (htx _ kw_1_6) (htx _ kw_5_86) ⟨by decide, by decide, by decide +kernel⟩ ⟨Nat.le_of_ble_eq_true rfl, Nat.le_of_ble_eq_true rfl⟩, (htx _ kw_2_78), (htx _ kw_2_79)⟩ ⟨xPre_blind, vk_recv hZ.2.2.2.2.2.2.2.2.2.1 (i := 10) (by decide) hS, (fun U hU hW => ⟨rfl, xPre_of hZ hS hFc hPc hDc hK U hU hW⟩)⟩ rfl rfl hl.1 rfl (lv_room (Nat.le_of_ble_eq_true rfl)) dM_init_174 ⟨Nat.le_of_ble_eq_true rfl, Nat.le_of_ble_eq_true rfl⟩) hS (fun q _ h => hFc q h) hFc (fun r24 u9 t H1 locs ht hvm hr9 hB hz1 hk1 hS => ?_)
  obtain ⟨hP1, hK1, hD1⟩ := hB
  rw [ht] at hP1
  obtain ⟨hP, hD⟩ := xjoin (W := [(a0, .inr (5, [v1, .ref q1, v3, .ref q2, v5, .ref q3, .ref q4, v8, v9, v10, .ref q5, .ref q6, v13, .ref q7, .ref q8, v16, v17, v18, v19, .int 40, .int (-1), .ref q9, v23, .int 1000000000, .ref q10, .ref q19, .ref q20, v28, .ref q21, v30, v31, .int (-1)])), (q1, .inl (cT 4, 1024, .inr (.inr (.inr (.inr (fun _ => none)))))), (q2, .inl (cT 0, 4096, .inl (fun _ => 0))), (q3, .inl (cT 4, 1024, .inr (.inr (.inr (.inr (fun _ => none)))))), (q4, .inl (cT 4, 1024, .inr (.inr (.inr (.inr (fun _ => none)))))), (q5, .inl (cT 4, 256, .inr (.inr (.inr (.inr (fun _ => none)))))), (q6, .inl (cT 4, 256, .inr (.inr (.inr (.inr (fun _ => none)))))), (q7, .inl (cT 1, 64, .inl (fun _ => 0))), (q8, .inl (cT 1, 64, .inl (fun _ => 0))), (q9, .inl (cT 0, 1024, .inl (fun _ => 0))), (q10, .inl (cT 5, 8, .inr (.inr (.inr (.inr (x8 q11 q12 q13 q14 q15 q16 q17 q18)))))), (q11, .inl (cT 0, 4096, .inl (upd (upd (fun _ => 0) 0 110) 1 117))), (q12, .inl (cT 0, 4096, .inl (fun _ => 0))), (q13, .inl (cT 0, 4096, .inl (fun _ => 0))), (q14, .inl (cT 0, 4096, .inl (fun _ => 0))), (q15, .inl (cT 0, 4096, .inl (fun _ => 0))), (q16, .inl (cT 0, 4096, .inl (fun _ => 0))), (q17, .inl (cT 0, 4096, .inl (fun _ => 0))), (q18, .inl (cT 0, 4096, .inl (fun _ => 0))), (q19, .inl (cT 1, 8, .inl (fun _ => 0))), (q20, .inl (cT 0, 4096, .inl (fun _ => 0))), (q21, .inl (cT 0, 4096, .inl (fun _ => 0)))]) hP hD [] [0, 1, 2, 3, 4, 5, 6, 7, 8, 9, 10, 11, 12, 13, 14, 15, 16, 17, 18, 19, 20, 21] 22 rfl rfl (by decide) (by decide) hk1 hFc hP1 hD1
  generalize H1 = H at hP hS ⊢
  rw [hr9]
  refine W.eq (g2 := F0 m 177 ls [.int 108, .int 2, .ref q11]) rfl ?_
  refine lv_i2b hx hb dM_init_177 rfl ?_
  refine W.eq (g2 := F0 m 178 ls [.int 108, .int 2, .ref q11]) rfl ?_
  refine va_bast hx hb hK hP hD hS 11 0 rfl rfl (show ¬ ((2 : Int32) < 0 ∨ 4096 ≤ (2 : Int32).toNatClampNeg) by decide) dM_init_178 (fun H locs hP hD hS => ?_)
  obtain ⟨hP, hD⟩ : xPD D xcl A [(a0, .inr (5, [v1, .ref q1, v3, .ref q2, v5, .ref q3, .ref q4, v8, v9, v10, .ref q5, .ref q6, v13, .ref q7, .ref q8, v16, v17, v18, v19, .int 40, .int (-1), .ref q9, v23, .int 1000000000, .ref q10, .ref q19, .ref q20, v28, .ref q21, v30, v31, .int (-1)])), (q1, .inl (cT 4, 1024, .inr (.inr (.inr (.inr (fun _ => none)))))), (q2, .inl (cT 0, 4096, .inl (fun _ => 0))), (q3, .inl (cT 4, 1024, .inr (.inr (.inr (.inr (fun _ => none)))))), (q4, .inl (cT 4, 1024, .inr (.inr (.inr (.inr (fun _ => none)))))), (q5, .inl (cT 4, 256, .inr (.inr (.inr (.inr (fun _ => none)))))), (q6, .inl (cT 4, 256, .inr (.inr (.inr (.inr (fun _ => none)))))), (q7, .inl (cT 1, 64, .inl (fun _ => 0))), (q8, .inl (cT 1, 64, .inl (fun _ => 0))), (q9, .inl (cT 0, 1024, .inl (fun _ => 0))), (q10, .inl (cT 5, 8, .inr (.inr (.inr (.inr (x8 q11 q12 q13 q14 q15 q16 q17 q18)))))), (q11, .inl (cT 0, 4096, .inl (upd (upd (upd (fun _ => 0) 0 110) 1 117) 2 108))), (q12, .inl (cT 0, 4096, .inl (fun _ => 0))), (q13, .inl (cT 0, 4096, .inl (fun _ => 0))), (q14, .inl (cT 0, 4096, .inl (fun _ => 0))), (q15, .inl (cT 0, 4096, .inl (fun _ => 0))), (q16, .inl (cT 0, 4096, .inl (fun _ => 0))), (q17, .inl (cT 0, 4096, .inl (fun _ => 0))), (q18, .inl (cT 0, 4096, .inl (fun _ => 0))), (q19, .inl (cT 1, 8, .inl (fun _ => 0))), (q20, .inl (cT 0, 4096, .inl (fun _ => 0))), (q21, .inl (cT 0, 4096, .inl (fun _ => 0)))] H := ⟨hP, hD⟩
  refine lv_iinc (v := 3) (lv' := [(2, .int 3), (1, .int 0), (0, .ref a0)]) hx hb dM_init_179 hl (k := 0) rfl (by decide) (by decide) rfl (fun ls hl => ?_)
  refine lv_goto (tgt := 159) hx hb dM_init_182 (by decide) ?_
  refine lv_iload_n hx hb dM_init_159 rfl (lv_at hl 0 rfl) ?_
  refine lv_iconst (v := 4) hx hb dM_init_160 (by decide) ?_
  refine lv_icmp_ge (tgt := 185) hx hb dM_init_161 (by decide) (fun h => ((by revert h; decide : False)).elim) (fun _ => ?_)
  refine lv_aload_n hx hb dM_init_164 rfl (lv_at hl 2 rfl) ?_
  refine va_get (D := D) (ci := 5) (v := .ref q10) (C := "ValueBenchModel") (T := TM) (N := 32) hx hb htx inM hown hK hP 0 rfl rfl 24 (by decide) (htx _ kw_5_111) (fun _ h9 => h9) rfl dM_init_165 ?_
  refine lv_iload_n hx hb dM_init_168 rfl (lv_at hl 1 rfl) ?_
  refine xx_aldA hx hb hK hP 10 5 rfl rfl (show ¬ ((0 : Int32) < 0 ∨ 8 ≤ (0 : Int32).toNatClampNeg) by decide) dM_init_169 ?_
  refine W.eq (g2 := F0 m 170 ls [.ref q11]) rfl ?_
  refine lv_iload_n hx hb dM_init_170 rfl (lv_at hl 0 rfl) ?_
  refine va_ldcS (q := aK 10) hx hb hown (hZ.2.2.2.2.2.2.2.2.1 _ (List.mem_of_getElem? (i := 17) rfl)) dM_init_171 ?_
  refine lv_iload_n hx hb dM_init_173 rfl (lv_at hl 0 rfl) ?_
  obtain ⟨hPc, hDc, hFc⟩ := xcut (wc := []) hP hD hS hA [] rfl rfl (by decide)
  refine va_calli (va_runV (C := "java/lang/String") (As := [.int 3]) (rest := [.int 3, .ref q11]) ⟨hx, hb, hml, hown, htx⟩ (cJS_charAt_3 l hl9 D cT aK aV H.size) ⟨callB_of 1 htx (xw_goodC kw_2_80) rfl rfl rfl (htx _ kw_1_6) (htx _ kw_5_86) ⟨by decide, by decide, by decide +kernel⟩ ⟨Nat.le_of_ble_eq_true rfl, Nat.le_of_ble_eq_true rfl⟩, (htx _ kw_2_78), (htx _ kw_2_79)⟩ ⟨xPre_blind, vk_recv hZ.2.2.2.2.2.2.2.2.2.1 (i := 10) (by decide) hS, (fun U hU hW => ⟨rfl, xPre_of hZ hS hFc hPc hDc hK U hU hW⟩)⟩ rfl rfl hl.1 rfl (lv_room (Nat.le_of_ble_eq_true rfl)) dM_init_174 ⟨Nat.le_of_ble_eq_true rfl, Nat.le_of_ble_eq_true rfl⟩) hS (fun q _ h => hFc q h) hFc (fun r25 u9 t H1 locs ht hvm hr9 hB hz1 hk1 hS => ?_)
  obtain ⟨hP1, hK1, hD1⟩ := hB
  rw [ht] at hP1
  obtain ⟨hP, hD⟩ := xjoin (W := [(a0, .inr (5, [v1, .ref q1, v3, .ref q2, v5, .ref q3, .ref q4, v8, v9, v10, .ref q5, .ref q6, v13, .ref q7, .ref q8, v16, v17, v18, v19, .int 40, .int (-1), .ref q9, v23, .int 1000000000, .ref q10, .ref q19, .ref q20, v28, .ref q21, v30, v31, .int (-1)])), (q1, .inl (cT 4, 1024, .inr (.inr (.inr (.inr (fun _ => none)))))), (q2, .inl (cT 0, 4096, .inl (fun _ => 0))), (q3, .inl (cT 4, 1024, .inr (.inr (.inr (.inr (fun _ => none)))))), (q4, .inl (cT 4, 1024, .inr (.inr (.inr (.inr (fun _ => none)))))), (q5, .inl (cT 4, 256, .inr (.inr (.inr (.inr (fun _ => none)))))), (q6, .inl (cT 4, 256, .inr (.inr (.inr (.inr (fun _ => none)))))), (q7, .inl (cT 1, 64, .inl (fun _ => 0))), (q8, .inl (cT 1, 64, .inl (fun _ => 0))), (q9, .inl (cT 0, 1024, .inl (fun _ => 0))), (q10, .inl (cT 5, 8, .inr (.inr (.inr (.inr (x8 q11 q12 q13 q14 q15 q16 q17 q18)))))), (q11, .inl (cT 0, 4096, .inl (upd (upd (upd (fun _ => 0) 0 110) 1 117) 2 108))), (q12, .inl (cT 0, 4096, .inl (fun _ => 0))), (q13, .inl (cT 0, 4096, .inl (fun _ => 0))), (q14, .inl (cT 0, 4096, .inl (fun _ => 0))), (q15, .inl (cT 0, 4096, .inl (fun _ => 0))), (q16, .inl (cT 0, 4096, .inl (fun _ => 0))), (q17, .inl (cT 0, 4096, .inl (fun _ => 0))), (q18, .inl (cT 0, 4096, .inl (fun _ => 0))), (q19, .inl (cT 1, 8, .inl (fun _ => 0))), (q20, .inl (cT 0, 4096, .inl (fun _ => 0))), (q21, .inl (cT 0, 4096, .inl (fun _ => 0)))]) hP hD [] [0, 1, 2, 3, 4, 5, 6, 7, 8, 9, 10, 11, 12, 13, 14, 15, 16, 17, 18, 19, 20, 21] 22 rfl rfl (by decide) (by decide) hk1 hFc hP1 hD1
  generalize H1 = H at hP hS ⊢
  rw [hr9]
  refine W.eq (g2 := F0 m 177 ls [.int 108, .int 3, .ref q11]) rfl ?_
  refine lv_i2b hx hb dM_init_177 rfl ?_
  refine W.eq (g2 := F0 m 178 ls [.int 108, .int 3, .ref q11]) rfl ?_
  refine va_bast hx hb hK hP hD hS 11 0 rfl rfl (show ¬ ((3 : Int32) < 0 ∨ 4096 ≤ (3 : Int32).toNatClampNeg) by decide) dM_init_178 (fun H locs hP hD hS => ?_)
  obtain ⟨hP, hD⟩ : xPD D xcl A [(a0, .inr (5, [v1, .ref q1, v3, .ref q2, v5, .ref q3, .ref q4, v8, v9, v10, .ref q5, .ref q6, v13, .ref q7, .ref q8, v16, v17, v18, v19, .int 40, .int (-1), .ref q9, v23, .int 1000000000, .ref q10, .ref q19, .ref q20, v28, .ref q21, v30, v31, .int (-1)])), (q1, .inl (cT 4, 1024, .inr (.inr (.inr (.inr (fun _ => none)))))), (q2, .inl (cT 0, 4096, .inl (fun _ => 0))), (q3, .inl (cT 4, 1024, .inr (.inr (.inr (.inr (fun _ => none)))))), (q4, .inl (cT 4, 1024, .inr (.inr (.inr (.inr (fun _ => none)))))), (q5, .inl (cT 4, 256, .inr (.inr (.inr (.inr (fun _ => none)))))), (q6, .inl (cT 4, 256, .inr (.inr (.inr (.inr (fun _ => none)))))), (q7, .inl (cT 1, 64, .inl (fun _ => 0))), (q8, .inl (cT 1, 64, .inl (fun _ => 0))), (q9, .inl (cT 0, 1024, .inl (fun _ => 0))), (q10, .inl (cT 5, 8, .inr (.inr (.inr (.inr (x8 q11 q12 q13 q14 q15 q16 q17 q18)))))), (q11, .inl (cT 0, 4096, .inl (upd (upd (upd (upd (fun _ => 0) 0 110) 1 117) 2 108) 3 108))), (q12, .inl (cT 0, 4096, .inl (fun _ => 0))), (q13, .inl (cT 0, 4096, .inl (fun _ => 0))), (q14, .inl (cT 0, 4096, .inl (fun _ => 0))), (q15, .inl (cT 0, 4096, .inl (fun _ => 0))), (q16, .inl (cT 0, 4096, .inl (fun _ => 0))), (q17, .inl (cT 0, 4096, .inl (fun _ => 0))), (q18, .inl (cT 0, 4096, .inl (fun _ => 0))), (q19, .inl (cT 1, 8, .inl (fun _ => 0))), (q20, .inl (cT 0, 4096, .inl (fun _ => 0))), (q21, .inl (cT 0, 4096, .inl (fun _ => 0)))] H := ⟨hP, hD⟩
  refine lv_iinc (v := 4) (lv' := [(2, .int 4), (1, .int 0), (0, .ref a0)]) hx hb dM_init_179 hl (k := 0) rfl (by decide) (by decide) rfl (fun ls hl => ?_)
  refine lv_goto (tgt := 159) hx hb dM_init_182 (by decide) ?_
  refine lv_iload_n hx hb dM_init_159 rfl (lv_at hl 0 rfl) ?_
  refine lv_iconst (v := 4) hx hb dM_init_160 (by decide) ?_
  refine lv_icmp_ge (tgt := 185) hx hb dM_init_161 (by decide) (fun _ => ?_) (fun h => ((by revert h; decide : False)).elim)
  refine lv_aload_n hx hb dM_init_185 rfl (lv_at hl 2 rfl) ?_
  refine va_get (D := D) (ci := 5) (v := .ref q19) (C := "ValueBenchModel") (T := TM) (N := 32) hx hb htx inM hown hK hP 0 rfl rfl 25 (by decide) (htx _ kw_5_112) (fun _ h9 => h9) rfl dM_init_186 ?_
  refine lv_iload_n hx hb dM_init_189 rfl (lv_at hl 1 rfl) ?_
  refine lv_iconst (v := 4) hx hb dM_init_190 (by decide) ?_
  refine va_iast hx hb hK hP hD hS 19 1 rfl rfl (show ¬ ((0 : Int32) < 0 ∨ 8 ≤ (0 : Int32).toNatClampNeg) by decide) dM_init_191 (fun H locs hP hD hS => ?_)
  obtain ⟨hP, hD⟩ : xPD D xcl A [(a0, .inr (5, [v1, .ref q1, v3, .ref q2, v5, .ref q3, .ref q4, v8, v9, v10, .ref q5, .ref q6, v13, .ref q7, .ref q8, v16, v17, v18, v19, .int 40, .int (-1), .ref q9, v23, .int 1000000000, .ref q10, .ref q19, .ref q20, v28, .ref q21, v30, v31, .int (-1)])), (q1, .inl (cT 4, 1024, .inr (.inr (.inr (.inr (fun _ => none)))))), (q2, .inl (cT 0, 4096, .inl (fun _ => 0))), (q3, .inl (cT 4, 1024, .inr (.inr (.inr (.inr (fun _ => none)))))), (q4, .inl (cT 4, 1024, .inr (.inr (.inr (.inr (fun _ => none)))))), (q5, .inl (cT 4, 256, .inr (.inr (.inr (.inr (fun _ => none)))))), (q6, .inl (cT 4, 256, .inr (.inr (.inr (.inr (fun _ => none)))))), (q7, .inl (cT 1, 64, .inl (fun _ => 0))), (q8, .inl (cT 1, 64, .inl (fun _ => 0))), (q9, .inl (cT 0, 1024, .inl (fun _ => 0))), (q10, .inl (cT 5, 8, .inr (.inr (.inr (.inr (x8 q11 q12 q13 q14 q15 q16 q17 q18)))))), (q11, .inl (cT 0, 4096, .inl (upd (upd (upd (upd (fun _ => 0) 0 110) 1 117) 2 108) 3 108))), (q12, .inl (cT 0, 4096, .inl (fun _ => 0))), (q13, .inl (cT 0, 4096, .inl (fun _ => 0))), (q14, .inl (cT 0, 4096, .inl (fun _ => 0))), (q15, .inl (cT 0, 4096, .inl (fun _ => 0))), (q16, .inl (cT 0, 4096, .inl (fun _ => 0))), (q17, .inl (cT 0, 4096, .inl (fun _ => 0))), (q18, .inl (cT 0, 4096, .inl (fun _ => 0))), (q19, .inl (cT 1, 8, .inl (upd (fun _ => 0) 0 4))), (q20, .inl (cT 0, 4096, .inl (fun _ => 0))), (q21, .inl (cT 0, 4096, .inl (fun _ => 0)))] H := ⟨hP, hD⟩
  refine lv_iinc (v := 1) (lv' := [(1, .int 1), (2, .int 4), (0, .ref a0)]) hx hb dM_init_192 hl (k := 1) rfl (by decide) (by decide) rfl (fun ls hl => ?_)
  refine lv_goto (tgt := 151) hx hb dM_init_195 (by decide) ?_
  refine lv_iload_n hx hb dM_init_151 rfl (lv_at hl 0 rfl) ?_
  refine lv_bipush (v := 8) hx hb dM_init_152 (by decide) ?_
  refine lv_icmp_ge (tgt := 198) hx hb dM_init_154 (by decide) (fun h => ((by revert h; decide : False)).elim) (fun _ => ?_)
  refine lv_iconst (v := 0) hx hb dM_init_157 (by decide) ?_
  refine lv_istore_n (lv' := [(2, .int 0), (1, .int 1), (0, .ref a0)]) hx hb dM_init_158 rfl hl (by decide) rfl (fun ls hl => ?_)
  refine lv_iload_n hx hb dM_init_159 rfl (lv_at hl 0 rfl) ?_
  refine lv_iconst (v := 4) hx hb dM_init_160 (by decide) ?_
  refine lv_icmp_ge (tgt := 185) hx hb dM_init_161 (by decide) (fun h => ((by revert h; decide : False)).elim) (fun _ => ?_)
  refine lv_aload_n hx hb dM_init_164 rfl (lv_at hl 2 rfl) ?_
  refine va_get (D := D) (ci := 5) (v := .ref q10) (C := "ValueBenchModel") (T := TM) (N := 32) hx hb htx inM hown hK hP 0 rfl rfl 24 (by decide) (htx _ kw_5_111) (fun _ h9 => h9) rfl dM_init_165 ?_
  refine lv_iload_n hx hb dM_init_168 rfl (lv_at hl 1 rfl) ?_
  refine xx_aldA hx hb hK hP 10 5 rfl rfl (show ¬ ((1 : Int32) < 0 ∨ 8 ≤ (1 : Int32).toNatClampNeg) by decide) dM_init_169 ?_
  refine W.eq (g2 := F0 m 170 ls [.ref q12]) rfl ?_
  refine lv_iload_n hx hb dM_init_170 rfl (lv_at hl 0 rfl) ?_
  refine va_ldcS (q := aK 10) hx hb hown (hZ.2.2.2.2.2.2.2.2.1 _ (List.mem_of_getElem? (i := 17) rfl)) dM_init_171 ?_
  refine lv_iload_n hx hb dM_init_173 rfl (lv_at hl 0 rfl) ?_
  obtain ⟨hPc, hDc, hFc⟩ := xcut (wc := []) hP hD hS hA [] rfl rfl (by decide)
  refine va_calli (va_runV (C := "java/lang/String") (As := [.int 0]) (rest := [.int 0, .ref q12]) ⟨hx, hb, hml, hown, htx⟩ (cJS_charAt_0 l hl9 D cT aK aV H.size) ⟨callB_of 1 htx (xw_goodC kw_2_80) rfl rfl rfl (htx _ kw_1_6) (htx _ kw_5_86) ⟨by decide, by decide, by decide +kernel⟩ ⟨Nat.le_of_ble_eq_true rfl, Nat.le_of_ble_eq_true rfl⟩, (htx _ kw_2_78), (htx _ kw_2_79)⟩ ⟨xPre_blind, vk_recv hZ.2.2.2.2.2.2.2.2.2.1 (i := 10) (by decide) hS, (fun U hU hW => ⟨rfl, xPre_of hZ hS hFc hPc hDc hK U hU hW⟩)⟩ rfl rfl hl.1 rfl (lv_room (Nat.le_of_ble_eq_true rfl)) dM_init_174 ⟨Nat.le_of_ble_eq_true rfl, Nat.le_of_ble_eq_true rfl⟩) hS (fun q _ h => hFc q h) hFc (fun r26 u9 t H1 locs ht hvm hr9 hB hz1 hk1 hS => ?_)
  obtain ⟨hP1, hK1, hD1⟩ := hB
  rw [ht] at hP1
  obtain ⟨hP, hD⟩ := xjoin (W := [(a0, .inr (5, [v1, .ref q1, v3, .ref q2, v5, .ref q3, .ref q4, v8, v9, v10, .ref q5, .ref q6, v13, .ref q7, .ref q8, v16, v17, v18, v19, .int 40, .int (-1), .ref q9, v23, .int 1000000000, .ref q10, .ref q19, .ref q20, v28, .ref q21, v30, v31, .int (-1)])), (q1, .inl (cT 4, 1024, .inr (.inr (.inr (.inr (fun _ => none)))))), (q2, .inl (cT 0, 4096, .inl (fun _ => 0))), (q3, .inl (cT 4, 1024, .inr (.inr (.inr (.inr (fun _ => none)))))), (q4, .inl (cT 4, 1024, .inr (.inr (.inr (.inr (fun _ => none)))))), (q5, .inl (cT 4, 256, .inr (.inr (.inr (.inr (fun _ => none)))))), (q6, .inl (cT 4, 256, .inr (.inr (.inr (.inr (fun _ => none)))))), (q7, .inl (cT 1, 64, .inl (fun _ => 0))), (q8, .inl (cT 1, 64, .inl (fun _ => 0))), (q9, .inl (cT 0, 1024, .inl (fun _ => 0))), (q10, .inl (cT 5, 8, .inr (.inr (.inr (.inr (x8 q11 q12 q13 q14 q15 q16 q17 q18)))))), (q11, .inl (cT 0, 4096, .inl (upd (upd (upd (upd (fun _ => 0) 0 110) 1 117) 2 108) 3 108))), (q12, .inl (cT 0, 4096, .inl (fun _ => 0))), (q13, .inl (cT 0, 4096, .inl (fun _ => 0))), (q14, .inl (cT 0, 4096, .inl (fun _ => 0))), (q15, .inl (cT 0, 4096, .inl (fun _ => 0))), (q16, .inl (cT 0, 4096, .inl (fun _ => 0))), (q17, .inl (cT 0, 4096, .inl (fun _ => 0))), (q18, .inl (cT 0, 4096, .inl (fun _ => 0))), (q19, .inl (cT 1, 8, .inl (upd (fun _ => 0) 0 4))), (q20, .inl (cT 0, 4096, .inl (fun _ => 0))), (q21, .inl (cT 0, 4096, .inl (fun _ => 0)))]) hP hD [] [0, 1, 2, 3, 4, 5, 6, 7, 8, 9, 10, 11, 12, 13, 14, 15, 16, 17, 18, 19, 20, 21] 22 rfl rfl (by decide) (by decide) hk1 hFc hP1 hD1
  generalize H1 = H at hP hS ⊢
  rw [hr9]
  refine W.eq (g2 := F0 m 177 ls [.int 110, .int 0, .ref q12]) rfl ?_
  refine lv_i2b hx hb dM_init_177 rfl ?_
  refine W.eq (g2 := F0 m 178 ls [.int 110, .int 0, .ref q12]) rfl ?_
  refine va_bast hx hb hK hP hD hS 12 0 rfl rfl (show ¬ ((0 : Int32) < 0 ∨ 4096 ≤ (0 : Int32).toNatClampNeg) by decide) dM_init_178 (fun H locs hP hD hS => ?_)
  obtain ⟨hP, hD⟩ : xPD D xcl A [(a0, .inr (5, [v1, .ref q1, v3, .ref q2, v5, .ref q3, .ref q4, v8, v9, v10, .ref q5, .ref q6, v13, .ref q7, .ref q8, v16, v17, v18, v19, .int 40, .int (-1), .ref q9, v23, .int 1000000000, .ref q10, .ref q19, .ref q20, v28, .ref q21, v30, v31, .int (-1)])), (q1, .inl (cT 4, 1024, .inr (.inr (.inr (.inr (fun _ => none)))))), (q2, .inl (cT 0, 4096, .inl (fun _ => 0))), (q3, .inl (cT 4, 1024, .inr (.inr (.inr (.inr (fun _ => none)))))), (q4, .inl (cT 4, 1024, .inr (.inr (.inr (.inr (fun _ => none)))))), (q5, .inl (cT 4, 256, .inr (.inr (.inr (.inr (fun _ => none)))))), (q6, .inl (cT 4, 256, .inr (.inr (.inr (.inr (fun _ => none)))))), (q7, .inl (cT 1, 64, .inl (fun _ => 0))), (q8, .inl (cT 1, 64, .inl (fun _ => 0))), (q9, .inl (cT 0, 1024, .inl (fun _ => 0))), (q10, .inl (cT 5, 8, .inr (.inr (.inr (.inr (x8 q11 q12 q13 q14 q15 q16 q17 q18)))))), (q11, .inl (cT 0, 4096, .inl (upd (upd (upd (upd (fun _ => 0) 0 110) 1 117) 2 108) 3 108))), (q12, .inl (cT 0, 4096, .inl (upd (fun _ => 0) 0 110))), (q13, .inl (cT 0, 4096, .inl (fun _ => 0))), (q14, .inl (cT 0, 4096, .inl (fun _ => 0))), (q15, .inl (cT 0, 4096, .inl (fun _ => 0))), (q16, .inl (cT 0, 4096, .inl (fun _ => 0))), (q17, .inl (cT 0, 4096, .inl (fun _ => 0))), (q18, .inl (cT 0, 4096, .inl (fun _ => 0))), (q19, .inl (cT 1, 8, .inl (upd (fun _ => 0) 0 4))), (q20, .inl (cT 0, 4096, .inl (fun _ => 0))), (q21, .inl (cT 0, 4096, .inl (fun _ => 0)))] H := ⟨hP, hD⟩
  refine lv_iinc (v := 1) (lv' := [(2, .int 1), (1, .int 1), (0, .ref a0)]) hx hb dM_init_179 hl (k := 0) rfl (by decide) (by decide) rfl (fun ls hl => ?_)
  refine lv_goto (tgt := 159) hx hb dM_init_182 (by decide) ?_
  refine lv_iload_n hx hb dM_init_159 rfl (lv_at hl 0 rfl) ?_
  refine lv_iconst (v := 4) hx hb dM_init_160 (by decide) ?_
  refine lv_icmp_ge (tgt := 185) hx hb dM_init_161 (by decide) (fun h => ((by revert h; decide : False)).elim) (fun _ => ?_)
  refine lv_aload_n hx hb dM_init_164 rfl (lv_at hl 2 rfl) ?_
  refine va_get (D := D) (ci := 5) (v := .ref q10) (C := "ValueBenchModel") (T := TM) (N := 32) hx hb htx inM hown hK hP 0 rfl rfl 24 (by decide) (htx _ kw_5_111) (fun _ h9 => h9) rfl dM_init_165 ?_
  refine lv_iload_n hx hb dM_init_168 rfl (lv_at hl 1 rfl) ?_
  refine xx_aldA hx hb hK hP 10 5 rfl rfl (show ¬ ((1 : Int32) < 0 ∨ 8 ≤ (1 : Int32).toNatClampNeg) by decide) dM_init_169 ?_
  refine W.eq (g2 := F0 m 170 ls [.ref q12]) rfl ?_
  refine lv_iload_n hx hb dM_init_170 rfl (lv_at hl 0 rfl) ?_
  refine va_ldcS (q := aK 10) hx hb hown (hZ.2.2.2.2.2.2.2.2.1 _ (List.mem_of_getElem? (i := 17) rfl)) dM_init_171 ?_
  refine lv_iload_n hx hb dM_init_173 rfl (lv_at hl 0 rfl) ?_
  obtain ⟨hPc, hDc, hFc⟩ := xcut (wc := []) hP hD hS hA [] rfl rfl (by decide)
  refine va_calli (va_runV (C := "java/lang/String") (As := [.int 1]) (rest := [.int 1, .ref q12]) ⟨hx, hb, hml, hown, htx⟩ (cJS_charAt_1 l hl9 D cT aK aV H.size) ⟨callB_of 1 htx (xw_goodC kw_2_80) rfl rfl rfl (htx _ kw_1_6) (htx _ kw_5_86) ⟨by decide, by decide, by decide +kernel⟩ ⟨Nat.le_of_ble_eq_true rfl, Nat.le_of_ble_eq_true rfl⟩, (htx _ kw_2_78), (htx _ kw_2_79)⟩ ⟨xPre_blind, vk_recv hZ.2.2.2.2.2.2.2.2.2.1 (i := 10) (by decide) hS, (fun U hU hW => ⟨rfl, xPre_of hZ hS hFc hPc hDc hK U hU hW⟩)⟩ rfl rfl hl.1 rfl (lv_room (Nat.le_of_ble_eq_true rfl)) dM_init_174 ⟨Nat.le_of_ble_eq_true rfl, Nat.le_of_ble_eq_true rfl⟩) hS (fun q _ h => hFc q h) hFc (fun r27 u9 t H1 locs ht hvm hr9 hB hz1 hk1 hS => ?_)
  obtain ⟨hP1, hK1, hD1⟩ := hB
  rw [ht] at hP1
  obtain ⟨hP, hD⟩ := xjoin (W := [(a0, .inr (5, [v1, .ref q1, v3, .ref q2, v5, .ref q3, .ref q4, v8, v9, v10, .ref q5, .ref q6, v13, .ref q7, .ref q8, v16, v17, v18, v19, .int 40, .int (-1), .ref q9, v23, .int 1000000000, .ref q10, .ref q19, .ref q20, v28, .ref q21, v30, v31, .int (-1)])), (q1, .inl (cT 4, 1024, .inr (.inr (.inr (.inr (fun _ => none)))))), (q2, .inl (cT 0, 4096, .inl (fun _ => 0))), (q3, .inl (cT 4, 1024, .inr (.inr (.inr (.inr (fun _ => none)))))), (q4, .inl (cT 4, 1024, .inr (.inr (.inr (.inr (fun _ => none)))))), (q5, .inl (cT 4, 256, .inr (.inr (.inr (.inr (fun _ => none)))))), (q6, .inl (cT 4, 256, .inr (.inr (.inr (.inr (fun _ => none)))))), (q7, .inl (cT 1, 64, .inl (fun _ => 0))), (q8, .inl (cT 1, 64, .inl (fun _ => 0))), (q9, .inl (cT 0, 1024, .inl (fun _ => 0))), (q10, .inl (cT 5, 8, .inr (.inr (.inr (.inr (x8 q11 q12 q13 q14 q15 q16 q17 q18)))))), (q11, .inl (cT 0, 4096, .inl (upd (upd (upd (upd (fun _ => 0) 0 110) 1 117) 2 108) 3 108))), (q12, .inl (cT 0, 4096, .inl (upd (fun _ => 0) 0 110))), (q13, .inl (cT 0, 4096, .inl (fun _ => 0))), (q14, .inl (cT 0, 4096, .inl (fun _ => 0))), (q15, .inl (cT 0, 4096, .inl (fun _ => 0))), (q16, .inl (cT 0, 4096, .inl (fun _ => 0))), (q17, .inl (cT 0, 4096, .inl (fun _ => 0))), (q18, .inl (cT 0, 4096, .inl (fun _ => 0))), (q19, .inl (cT 1, 8, .inl (upd (fun _ => 0) 0 4))), (q20, .inl (cT 0, 4096, .inl (fun _ => 0))), (q21, .inl (cT 0, 4096, .inl (fun _ => 0)))]) hP hD [] [0, 1, 2, 3, 4, 5, 6, 7, 8, 9, 10, 11, 12, 13, 14, 15, 16, 17, 18, 19, 20, 21] 22 rfl rfl (by decide) (by decide) hk1 hFc hP1 hD1
  generalize H1 = H at hP hS ⊢
  rw [hr9]
  refine W.eq (g2 := F0 m 177 ls [.int 117, .int 1, .ref q12]) rfl ?_
  refine lv_i2b hx hb dM_init_177 rfl ?_
  refine W.eq (g2 := F0 m 178 ls [.int 117, .int 1, .ref q12]) rfl ?_
  refine va_bast hx hb hK hP hD hS 12 0 rfl rfl (show ¬ ((1 : Int32) < 0 ∨ 4096 ≤ (1 : Int32).toNatClampNeg) by decide) dM_init_178 (fun H locs hP hD hS => ?_)
  obtain ⟨hP, hD⟩ : xPD D xcl A [(a0, .inr (5, [v1, .ref q1, v3, .ref q2, v5, .ref q3, .ref q4, v8, v9, v10, .ref q5, .ref q6, v13, .ref q7, .ref q8, v16, v17, v18, v19, .int 40, .int (-1), .ref q9, v23, .int 1000000000, .ref q10, .ref q19, .ref q20, v28, .ref q21, v30, v31, .int (-1)])), (q1, .inl (cT 4, 1024, .inr (.inr (.inr (.inr (fun _ => none)))))), (q2, .inl (cT 0, 4096, .inl (fun _ => 0))), (q3, .inl (cT 4, 1024, .inr (.inr (.inr (.inr (fun _ => none)))))), (q4, .inl (cT 4, 1024, .inr (.inr (.inr (.inr (fun _ => none)))))), (q5, .inl (cT 4, 256, .inr (.inr (.inr (.inr (fun _ => none)))))), (q6, .inl (cT 4, 256, .inr (.inr (.inr (.inr (fun _ => none)))))), (q7, .inl (cT 1, 64, .inl (fun _ => 0))), (q8, .inl (cT 1, 64, .inl (fun _ => 0))), (q9, .inl (cT 0, 1024, .inl (fun _ => 0))), (q10, .inl (cT 5, 8, .inr (.inr (.inr (.inr (x8 q11 q12 q13 q14 q15 q16 q17 q18)))))), (q11, .inl (cT 0, 4096, .inl (upd (upd (upd (upd (fun _ => 0) 0 110) 1 117) 2 108) 3 108))), (q12, .inl (cT 0, 4096, .inl (upd (upd (fun _ => 0) 0 110) 1 117))), (q13, .inl (cT 0, 4096, .inl (fun _ => 0))), (q14, .inl (cT 0, 4096, .inl (fun _ => 0))), (q15, .inl (cT 0, 4096, .inl (fun _ => 0))), (q16, .inl (cT 0, 4096, .inl (fun _ => 0))), (q17, .inl (cT 0, 4096, .inl (fun _ => 0))), (q18, .inl (cT 0, 4096, .inl (fun _ => 0))), (q19, .inl (cT 1, 8, .inl (upd (fun _ => 0) 0 4))), (q20, .inl (cT 0, 4096, .inl (fun _ => 0))), (q21, .inl (cT 0, 4096, .inl (fun _ => 0)))] H := ⟨hP, hD⟩
  refine lv_iinc (v := 2) (lv' := [(2, .int 2), (1, .int 1), (0, .ref a0)]) hx hb dM_init_179 hl (k := 0) rfl (by decide) (by decide) rfl (fun ls hl => ?_)
  refine lv_goto (tgt := 159) hx hb dM_init_182 (by decide) ?_
  refine lv_iload_n hx hb dM_init_159 rfl (lv_at hl 0 rfl) ?_
  refine lv_iconst (v := 4) hx hb dM_init_160 (by decide) ?_
  refine lv_icmp_ge (tgt := 185) hx hb dM_init_161 (by decide) (fun h => ((by revert h; decide : False)).elim) (fun _ => ?_)
  refine lv_aload_n hx hb dM_init_164 rfl (lv_at hl 2 rfl) ?_
  refine va_get (D := D) (ci := 5) (v := .ref q10) (C := "ValueBenchModel") (T := TM) (N := 32) hx hb htx inM hown hK hP 0 rfl rfl 24 (by decide) (htx _ kw_5_111) (fun _ h9 => h9) rfl dM_init_165 ?_
  refine lv_iload_n hx hb dM_init_168 rfl (lv_at hl 1 rfl) ?_
  refine xx_aldA hx hb hK hP 10 5 rfl rfl (show ¬ ((1 : Int32) < 0 ∨ 8 ≤ (1 : Int32).toNatClampNeg) by decide) dM_init_169 ?_
  refine W.eq (g2 := F0 m 170 ls [.ref q12]) rfl ?_
  refine lv_iload_n hx hb dM_init_170 rfl (lv_at hl 0 rfl) ?_
  refine va_ldcS (q := aK 10) hx hb hown (hZ.2.2.2.2.2.2.2.2.1 _ (List.mem_of_getElem? (i := 17) rfl)) dM_init_171 ?_
  refine lv_iload_n hx hb dM_init_173 rfl (lv_at hl 0 rfl) ?_
  obtain ⟨hPc, hDc, hFc⟩ := xcut (wc := []) hP hD hS hA [] rfl rfl (by decide)
  refine va_calli (va_runV (C := "java/lang/String") (As := [.int 2]) (rest := [.int 2, .ref q12]) ⟨hx, hb, hml, hown, htx⟩ (cJS_charAt_2 l hl9 D cT aK aV H.size) ⟨callB_of 1 htx (xw_goodC kw_2_80) rfl rfl rfl (htx _ kw_1_6) (htx _ kw_5_86) ⟨by decide, by decide, by decide +kernel⟩ ⟨Nat.le_of_ble_eq_true rfl, Nat.le_of_ble_eq_true rfl⟩, (htx _ kw_2_78), (htx _ kw_2_79)⟩ ⟨xPre_blind, vk_recv hZ.2.2.2.2.2.2.2.2.2.1 (i := 10) (by decide) hS, (fun U hU hW => ⟨rfl, xPre_of hZ hS hFc hPc hDc hK U hU hW⟩)⟩ rfl rfl hl.1 rfl (lv_room (Nat.le_of_ble_eq_true rfl)) dM_init_174 ⟨Nat.le_of_ble_eq_true rfl, Nat.le_of_ble_eq_true rfl⟩) hS (fun q _ h => hFc q h) hFc (fun r28 u9 t H1 locs ht hvm hr9 hB hz1 hk1 hS => ?_)
  obtain ⟨hP1, hK1, hD1⟩ := hB
  rw [ht] at hP1
  obtain ⟨hP, hD⟩ := xjoin (W := [(a0, .inr (5, [v1, .ref q1, v3, .ref q2, v5, .ref q3, .ref q4, v8, v9, v10, .ref q5, .ref q6, v13, .ref q7, .ref q8, v16, v17, v18, v19, .int 40, .int (-1), .ref q9, v23, .int 1000000000, .ref q10, .ref q19, .ref q20, v28, .ref q21, v30, v31, .int (-1)])), (q1, .inl (cT 4, 1024, .inr (.inr (.inr (.inr (fun _ => none)))))), (q2, .inl (cT 0, 4096, .inl (fun _ => 0))), (q3, .inl (cT 4, 1024, .inr (.inr (.inr (.inr (fun _ => none)))))), (q4, .inl (cT 4, 1024, .inr (.inr (.inr (.inr (fun _ => none)))))), (q5, .inl (cT 4, 256, .inr (.inr (.inr (.inr (fun _ => none)))))), (q6, .inl (cT 4, 256, .inr (.inr (.inr (.inr (fun _ => none)))))), (q7, .inl (cT 1, 64, .inl (fun _ => 0))), (q8, .inl (cT 1, 64, .inl (fun _ => 0))), (q9, .inl (cT 0, 1024, .inl (fun _ => 0))), (q10, .inl (cT 5, 8, .inr (.inr (.inr (.inr (x8 q11 q12 q13 q14 q15 q16 q17 q18)))))), (q11, .inl (cT 0, 4096, .inl (upd (upd (upd (upd (fun _ => 0) 0 110) 1 117) 2 108) 3 108))), (q12, .inl (cT 0, 4096, .inl (upd (upd (fun _ => 0) 0 110) 1 117))), (q13, .inl (cT 0, 4096, .inl (fun _ => 0))), (q14, .inl (cT 0, 4096, .inl (fun _ => 0))), (q15, .inl (cT 0, 4096, .inl (fun _ => 0))), (q16, .inl (cT 0, 4096, .inl (fun _ => 0))), (q17, .inl (cT 0, 4096, .inl (fun _ => 0))), (q18, .inl (cT 0, 4096, .inl (fun _ => 0))), (q19, .inl (cT 1, 8, .inl (upd (fun _ => 0) 0 4))), (q20, .inl (cT 0, 4096, .inl (fun _ => 0))), (q21, .inl (cT 0, 4096, .inl (fun _ => 0)))]) hP hD [] [0, 1, 2, 3, 4, 5, 6, 7, 8, 9, 10, 11, 12, 13, 14, 15, 16, 17, 18, 19, 20, 21] 22 rfl rfl (by decide) (by decide) hk1 hFc hP1 hD1
  generalize H1 = H at hP hS ⊢
  rw [hr9]
  refine W.eq (g2 := F0 m 177 ls [.int 108, .int 2, .ref q12]) rfl ?_
  refine lv_i2b hx hb dM_init_177 rfl ?_
  refine W.eq (g2 := F0 m 178 ls [.int 108, .int 2, .ref q12]) rfl ?_
  refine va_bast hx hb hK hP hD hS 12 0 rfl rfl (show ¬ ((2 : Int32) < 0 ∨ 4096 ≤ (2 : Int32).toNatClampNeg) by decide) dM_init_178 (fun H locs hP hD hS => ?_)
  obtain ⟨hP, hD⟩ : xPD D xcl A [(a0, .inr (5, [v1, .ref q1, v3, .ref q2, v5, .ref q3, .ref q4, v8, v9, v10, .ref q5, .ref q6, v13, .ref q7, .ref q8, v16, v17, v18, v19, .int 40, .int (-1), .ref q9, v23, .int 1000000000, .ref q10, .ref q19, .ref q20, v28, .ref q21, v30, v31, .int (-1)])), (q1, .inl (cT 4, 1024, .inr (.inr (.inr (.inr (fun _ => none)))))), (q2, .inl (cT 0, 4096, .inl (fun _ => 0))), (q3, .inl (cT 4, 1024, .inr (.inr (.inr (.inr (fun _ => none)))))), (q4, .inl (cT 4, 1024, .inr (.inr (.inr (.inr (fun _ => none)))))), (q5, .inl (cT 4, 256, .inr (.inr (.inr (.inr (fun _ => none)))))), (q6, .inl (cT 4, 256, .inr (.inr (.inr (.inr (fun _ => none)))))), (q7, .inl (cT 1, 64, .inl (fun _ => 0))), (q8, .inl (cT 1, 64, .inl (fun _ => 0))), (q9, .inl (cT 0, 1024, .inl (fun _ => 0))), (q10, .inl (cT 5, 8, .inr (.inr (.inr (.inr (x8 q11 q12 q13 q14 q15 q16 q17 q18)))))), (q11, .inl (cT 0, 4096, .inl (upd (upd (upd (upd (fun _ => 0) 0 110) 1 117) 2 108) 3 108))), (q12, .inl (cT 0, 4096, .inl (upd (upd (upd (fun _ => 0) 0 110) 1 117) 2 108))), (q13, .inl (cT 0, 4096, .inl (fun _ => 0))), (q14, .inl (cT 0, 4096, .inl (fun _ => 0))), (q15, .inl (cT 0, 4096, .inl (fun _ => 0))), (q16, .inl (cT 0, 4096, .inl (fun _ => 0))), (q17, .inl (cT 0, 4096, .inl (fun _ => 0))), (q18, .inl (cT 0, 4096, .inl (fun _ => 0))), (q19, .inl (cT 1, 8, .inl (upd (fun _ => 0) 0 4))), (q20, .inl (cT 0, 4096, .inl (fun _ => 0))), (q21, .inl (cT 0, 4096, .inl (fun _ => 0)))] H := ⟨hP, hD⟩
  refine lv_iinc (v := 3) (lv' := [(2, .int 3), (1, .int 1), (0, .ref a0)]) hx hb dM_init_179 hl (k := 0) rfl (by decide) (by decide) rfl (fun ls hl => ?_)
  refine lv_goto (tgt := 159) hx hb dM_init_182 (by decide) ?_
  refine lv_iload_n hx hb dM_init_159 rfl (lv_at hl 0 rfl) ?_
  refine lv_iconst (v := 4) hx hb dM_init_160 (by decide) ?_
  refine lv_icmp_ge (tgt := 185) hx hb dM_init_161 (by decide) (fun h => ((by revert h; decide : False)).elim) (fun _ => ?_)
  refine lv_aload_n hx hb dM_init_164 rfl (lv_at hl 2 rfl) ?_
  refine va_get (D := D) (ci := 5) (v := .ref q10) (C := "ValueBenchModel") (T := TM) (N := 32) hx hb htx inM hown hK hP 0 rfl rfl 24 (by decide) (htx _ kw_5_111) (fun _ h9 => h9) rfl dM_init_165 ?_
  refine lv_iload_n hx hb dM_init_168 rfl (lv_at hl 1 rfl) ?_
  refine xx_aldA hx hb hK hP 10 5 rfl rfl (show ¬ ((1 : Int32) < 0 ∨ 8 ≤ (1 : Int32).toNatClampNeg) by decide) dM_init_169 ?_
  refine W.eq (g2 := F0 m 170 ls [.ref q12]) rfl ?_
  refine lv_iload_n hx hb dM_init_170 rfl (lv_at hl 0 rfl) ?_
  refine va_ldcS (q := aK 10) hx hb hown (hZ.2.2.2.2.2.2.2.2.1 _ (List.mem_of_getElem? (i := 17) rfl)) dM_init_171 ?_
  refine lv_iload_n hx hb dM_init_173 rfl (lv_at hl 0 rfl) ?_
  obtain ⟨hPc, hDc, hFc⟩ := xcut (wc := []) hP hD hS hA [] rfl rfl (by decide)
  refine va_calli (va_runV (C := "java/lang/String") (As := [.int 3]) (rest := [.int 3, .ref q12]) ⟨hx, hb, hml, hown, htx⟩ (cJS_charAt_3 l hl9 D cT aK aV H.size) ⟨callB_of 1 htx (xw_goodC kw_2_80) rfl rfl rfl (htx _ kw_1_6) (htx _ kw_5_86) ⟨by decide, by decide, by decide +kernel⟩ ⟨Nat.le_of_ble_eq_true rfl, Nat.le_of_ble_eq_true rfl⟩, (htx _ kw_2_78), (htx _ kw_2_79)⟩ ⟨xPre_blind, vk_recv hZ.2.2.2.2.2.2.2.2.2.1 (i := 10) (by decide) hS, (fun U hU hW => ⟨rfl, xPre_of hZ hS hFc hPc hDc hK U hU hW⟩)⟩ rfl rfl hl.1 rfl (lv_room (Nat.le_of_ble_eq_true rfl)) dM_init_174 ⟨Nat.le_of_ble_eq_true rfl, Nat.le_of_ble_eq_true rfl⟩) hS (fun q _ h => hFc q h) hFc (fun r29 u9 t H1 locs ht hvm hr9 hB hz1 hk1 hS => ?_)
  obtain ⟨hP1, hK1, hD1⟩ := hB
  rw [ht] at hP1
  obtain ⟨hP, hD⟩ := xjoin (W := [(a0, .inr (5, [v1, .ref q1, v3, .ref q2, v5, .ref q3, .ref q4, v8, v9, v10, .ref q5, .ref q6, v13, .ref q7, .ref q8, v16, v17, v18, v19, .int 40, .int (-1), .ref q9, v23, .int 1000000000, .ref q10, .ref q19, .ref q20, v28, .ref q21, v30, v31, .int (-1)])), (q1, .inl (cT 4, 1024, .inr (.inr (.inr (.inr (fun _ => none)))))), (q2, .inl (cT 0, 4096, .inl (fun _ => 0))), (q3, .inl (cT 4, 1024, .inr (.inr (.inr (.inr (fun _ => none)))))), (q4, .inl (cT 4, 1024, .inr (.inr (.inr (.inr (fun _ => none)))))), (q5, .inl (cT 4, 256, .inr (.inr (.inr (.inr (fun _ => none)))))), (q6, .inl (cT 4, 256, .inr (.inr (.inr (.inr (fun _ => none)))))), (q7, .inl (cT 1, 64, .inl (fun _ => 0))), (q8, .inl (cT 1, 64, .inl (fun _ => 0))), (q9, .inl (cT 0, 1024, .inl (fun _ => 0))), (q10, .inl (cT 5, 8, .inr (.inr (.inr (.inr (x8 q11 q12 q13 q14 q15 q16 q17 q18)))))), (q11, .inl (cT 0, 4096, .inl (upd (upd (upd (upd (fun _ => 0) 0 110) 1 117) 2 108) 3 108))), (q12, .inl (cT 0, 4096, .inl (upd (upd (upd (fun _ => 0) 0 110) 1 117) 2 108))), (q13, .inl (cT 0, 4096, .inl (fun _ => 0))), (q14, .inl (cT 0, 4096, .inl (fun _ => 0))), (q15, .inl (cT 0, 4096, .inl (fun _ => 0))), (q16, .inl (cT 0, 4096, .inl (fun _ => 0))), (q17, .inl (cT 0, 4096, .inl (fun _ => 0))), (q18, .inl (cT 0, 4096, .inl (fun _ => 0))), (q19, .inl (cT 1, 8, .inl (upd (fun _ => 0) 0 4))), (q20, .inl (cT 0, 4096, .inl (fun _ => 0))), (q21, .inl (cT 0, 4096, .inl (fun _ => 0)))]) hP hD [] [0, 1, 2, 3, 4, 5, 6, 7, 8, 9, 10, 11, 12, 13, 14, 15, 16, 17, 18, 19, 20, 21] 22 rfl rfl (by decide) (by decide) hk1 hFc hP1 hD1
  generalize H1 = H at hP hS ⊢
  rw [hr9]
  refine W.eq (g2 := F0 m 177 ls [.int 108, .int 3, .ref q12]) rfl ?_
  refine lv_i2b hx hb dM_init_177 rfl ?_
  refine W.eq (g2 := F0 m 178 ls [.int 108, .int 3, .ref q12]) rfl ?_
  refine va_bast hx hb hK hP hD hS 12 0 rfl rfl (show ¬ ((3 : Int32) < 0 ∨ 4096 ≤ (3 : Int32).toNatClampNeg) by decide) dM_init_178 (fun H locs hP hD hS => ?_)
  obtain ⟨hP, hD⟩ : xPD D xcl A [(a0, .inr (5, [v1, .ref q1, v3, .ref q2, v5, .ref q3, .ref q4, v8, v9, v10, .ref q5, .ref q6, v13, .ref q7, .ref q8, v16, v17, v18, v19, .int 40, .int (-1), .ref q9, v23, .int 1000000000, .ref q10, .ref q19, .ref q20, v28, .ref q21, v30, v31, .int (-1)])), (q1, .inl (cT 4, 1024, .inr (.inr (.inr (.inr (fun _ => none)))))), (q2, .inl (cT 0, 4096, .inl (fun _ => 0))), (q3, .inl (cT 4, 1024, .inr (.inr (.inr (.inr (fun _ => none)))))), (q4, .inl (cT 4, 1024, .inr (.inr (.inr (.inr (fun _ => none)))))), (q5, .inl (cT 4, 256, .inr (.inr (.inr (.inr (fun _ => none)))))), (q6, .inl (cT 4, 256, .inr (.inr (.inr (.inr (fun _ => none)))))), (q7, .inl (cT 1, 64, .inl (fun _ => 0))), (q8, .inl (cT 1, 64, .inl (fun _ => 0))), (q9, .inl (cT 0, 1024, .inl (fun _ => 0))), (q10, .inl (cT 5, 8, .inr (.inr (.inr (.inr (x8 q11 q12 q13 q14 q15 q16 q17 q18)))))), (q11, .inl (cT 0, 4096, .inl (upd (upd (upd (upd (fun _ => 0) 0 110) 1 117) 2 108) 3 108))), (q12, .inl (cT 0, 4096, .inl (upd (upd (upd (upd (fun _ => 0) 0 110) 1 117) 2 108) 3 108))), (q13, .inl (cT 0, 4096, .inl (fun _ => 0))), (q14, .inl (cT 0, 4096, .inl (fun _ => 0))), (q15, .inl (cT 0, 4096, .inl (fun _ => 0))), (q16, .inl (cT 0, 4096, .inl (fun _ => 0))), (q17, .inl (cT 0, 4096, .inl (fun _ => 0))), (q18, .inl (cT 0, 4096, .inl (fun _ => 0))), (q19, .inl (cT 1, 8, .inl (upd (fun _ => 0) 0 4))), (q20, .inl (cT 0, 4096, .inl (fun _ => 0))), (q21, .inl (cT 0, 4096, .inl (fun _ => 0)))] H := ⟨hP, hD⟩
  refine lv_iinc (v := 4) (lv' := [(2, .int 4), (1, .int 1), (0, .ref a0)]) hx hb dM_init_179 hl (k := 0) rfl (by decide) (by decide) rfl (fun ls hl => ?_)
  refine lv_goto (tgt := 159) hx hb dM_init_182 (by decide) ?_
  refine lv_iload_n hx hb dM_init_159 rfl (lv_at hl 0 rfl) ?_
  refine lv_iconst (v := 4) hx hb dM_init_160 (by decide) ?_
  refine lv_icmp_ge (tgt := 185) hx hb dM_init_161 (by decide) (fun _ => ?_) (fun h => ((by revert h; decide : False)).elim)
  refine lv_aload_n hx hb dM_init_185 rfl (lv_at hl 2 rfl) ?_
  refine va_get (D := D) (ci := 5) (v := .ref q19) (C := "ValueBenchModel") (T := TM) (N := 32) hx hb htx inM hown hK hP 0 rfl rfl 25 (by decide) (htx _ kw_5_112) (fun _ h9 => h9) rfl dM_init_186 ?_
  refine lv_iload_n hx hb dM_init_189 rfl (lv_at hl 1 rfl) ?_
  refine lv_iconst (v := 4) hx hb dM_init_190 (by decide) ?_
  refine va_iast hx hb hK hP hD hS 19 1 rfl rfl (show ¬ ((1 : Int32) < 0 ∨ 8 ≤ (1 : Int32).toNatClampNeg) by decide) dM_init_191 (fun H locs hP hD hS => ?_)
  obtain ⟨hP, hD⟩ : xPD D xcl A [(a0, .inr (5, [v1, .ref q1, v3, .ref q2, v5, .ref q3, .ref q4, v8, v9, v10, .ref q5, .ref q6, v13, .ref q7, .ref q8, v16, v17, v18, v19, .int 40, .int (-1), .ref q9, v23, .int 1000000000, .ref q10, .ref q19, .ref q20, v28, .ref q21, v30, v31, .int (-1)])), (q1, .inl (cT 4, 1024, .inr (.inr (.inr (.inr (fun _ => none)))))), (q2, .inl (cT 0, 4096, .inl (fun _ => 0))), (q3, .inl (cT 4, 1024, .inr (.inr (.inr (.inr (fun _ => none)))))), (q4, .inl (cT 4, 1024, .inr (.inr (.inr (.inr (fun _ => none)))))), (q5, .inl (cT 4, 256, .inr (.inr (.inr (.inr (fun _ => none)))))), (q6, .inl (cT 4, 256, .inr (.inr (.inr (.inr (fun _ => none)))))), (q7, .inl (cT 1, 64, .inl (fun _ => 0))), (q8, .inl (cT 1, 64, .inl (fun _ => 0))), (q9, .inl (cT 0, 1024, .inl (fun _ => 0))), (q10, .inl (cT 5, 8, .inr (.inr (.inr (.inr (x8 q11 q12 q13 q14 q15 q16 q17 q18)))))), (q11, .inl (cT 0, 4096, .inl (upd (upd (upd (upd (fun _ => 0) 0 110) 1 117) 2 108) 3 108))), (q12, .inl (cT 0, 4096, .inl (upd (upd (upd (upd (fun _ => 0) 0 110) 1 117) 2 108) 3 108))), (q13, .inl (cT 0, 4096, .inl (fun _ => 0))), (q14, .inl (cT 0, 4096, .inl (fun _ => 0))), (q15, .inl (cT 0, 4096, .inl (fun _ => 0))), (q16, .inl (cT 0, 4096, .inl (fun _ => 0))), (q17, .inl (cT 0, 4096, .inl (fun _ => 0))), (q18, .inl (cT 0, 4096, .inl (fun _ => 0))), (q19, .inl (cT 1, 8, .inl (upd (upd (fun _ => 0) 0 4) 1 4))), (q20, .inl (cT 0, 4096, .inl (fun _ => 0))), (q21, .inl (cT 0, 4096, .inl (fun _ => 0)))] H := ⟨hP, hD⟩
  refine lv_iinc (v := 2) (lv' := [(1, .int 2), (2, .int 4), (0, .ref a0)]) hx hb dM_init_192 hl (k := 1) rfl (by decide) (by decide) rfl (fun ls hl => ?_)
  refine lv_goto (tgt := 151) hx hb dM_init_195 (by decide) ?_
  refine lv_iload_n hx hb dM_init_151 rfl (lv_at hl 0 rfl) ?_
  refine lv_bipush (v := 8) hx hb dM_init_152 (by decide) ?_
  refine lv_icmp_ge (tgt := 198) hx hb dM_init_154 (by decide) (fun h => ((by revert h; decide : False)).elim) (fun _ => ?_)
  refine lv_iconst (v := 0) hx hb dM_init_157 (by decide) ?_
  refine lv_istore_n (lv' := [(2, .int 0), (1, .int 2), (0, .ref a0)]) hx hb dM_init_158 rfl hl (by decide) rfl (fun ls hl => ?_)
  refine lv_iload_n hx hb dM_init_159 rfl (lv_at hl 0 rfl) ?_
  refine lv_iconst (v := 4) hx hb dM_init_160 (by decide) ?_
  refine lv_icmp_ge (tgt := 185) hx hb dM_init_161 (by decide) (fun h => ((by revert h; decide : False)).elim) (fun _ => ?_)
  refine lv_aload_n hx hb dM_init_164 rfl (lv_at hl 2 rfl) ?_
  refine va_get (D := D) (ci := 5) (v := .ref q10) (C := "ValueBenchModel") (T := TM) (N := 32) hx hb htx inM hown hK hP 0 rfl rfl 24 (by decide) (htx _ kw_5_111) (fun _ h9 => h9) rfl dM_init_165 ?_
  refine lv_iload_n hx hb dM_init_168 rfl (lv_at hl 1 rfl) ?_
  refine xx_aldA hx hb hK hP 10 5 rfl rfl (show ¬ ((2 : Int32) < 0 ∨ 8 ≤ (2 : Int32).toNatClampNeg) by decide) dM_init_169 ?_
  refine W.eq (g2 := F0 m 170 ls [.ref q13]) rfl ?_
  refine lv_iload_n hx hb dM_init_170 rfl (lv_at hl 0 rfl) ?_
  refine va_ldcS (q := aK 10) hx hb hown (hZ.2.2.2.2.2.2.2.2.1 _ (List.mem_of_getElem? (i := 17) rfl)) dM_init_171 ?_
  refine lv_iload_n hx hb dM_init_173 rfl (lv_at hl 0 rfl) ?_
  obtain ⟨hPc, hDc, hFc⟩ := xcut (wc := []) hP hD hS hA [] rfl rfl (by decide)
  refine va_calli (va_runV (C := "java/lang/String") (As := [.int 0]) (rest := [.int 0, .ref q13]) ⟨hx, hb, hml, hown, htx⟩ (cJS_charAt_0 l hl9 D cT aK aV H.size) ⟨callB_of 1 htx (xw_goodC kw_2_80) rfl rfl rfl (htx _ kw_1_6) (htx _ kw_5_86) ⟨by decide, by decide, by decide +kernel⟩ ⟨Nat.le_of_ble_eq_true rfl, Nat.le_of_ble_eq_true rfl⟩, (htx _ kw_2_78), (htx _ kw_2_79)⟩ ⟨xPre_blind, vk_recv hZ.2.2.2.2.2.2.2.2.2.1 (i := 10) (by decide) hS, (fun U hU hW => ⟨rfl, xPre_of hZ hS hFc hPc hDc hK U hU hW⟩)⟩ rfl rfl hl.1 rfl (lv_room (Nat.le_of_ble_eq_true rfl)) dM_init_174 ⟨Nat.le_of_ble_eq_true rfl, Nat.le_of_ble_eq_true rfl⟩) hS (fun q _ h => hFc q h) hFc (fun r30 u9 t H1 locs ht hvm hr9 hB hz1 hk1 hS => ?_)
  obtain ⟨hP1, hK1, hD1⟩ := hB
  rw [ht] at hP1
  obtain ⟨hP, hD⟩ := xjoin (W := [(a0, .inr (5, [v1, .ref q1, v3, .ref q2, v5, .ref q3, .ref q4, v8, v9, v10, .ref q5, .ref q6, v13, .ref q7, .ref q8, v16, v17, v18, v19, .int 40, .int (-1), .ref q9, v23, .int 1000000000, .ref q10, .ref q19, .ref q20, v28, .ref q21, v30, v31, .int (-1)])), (q1, .inl (cT 4, 1024, .inr (.inr (.inr (.inr (fun _ => none)))))), (q2, .inl (cT 0, 4096, .inl (fun _ => 0))), (q3, .inl (cT 4, 1024, .inr (.inr (.inr (.inr (fun _ => none)))))), (q4, .inl (cT 4, 1024, .inr (.inr (.inr (.inr (fun _ => none)))))), (q5, .inl (cT 4, 256, .inr (.inr (.inr (.inr (fun _ => none)))))), (q6, .inl (cT 4, 256, .inr (.inr (.inr (.inr (fun _ => none)))))), (q7, .inl (cT 1, 64, .inl (fun _ => 0))), (q8, .inl (cT 1, 64, .inl (fun _ => 0))), (q9, .inl (cT 0, 1024, .inl (fun _ => 0))), (q10, .inl (cT 5, 8, .inr (.inr (.inr (.inr (x8 q11 q12 q13 q14 q15 q16 q17 q18)))))), (q11, .inl (cT 0, 4096, .inl (upd (upd (upd (upd (fun _ => 0) 0 110) 1 117) 2 108) 3 108))), (q12, .inl (cT 0, 4096, .inl (upd (upd (upd (upd (fun _ => 0) 0 110) 1 117) 2 108) 3 108))), (q13, .inl (cT 0, 4096, .inl (fun _ => 0))), (q14, .inl (cT 0, 4096, .inl (fun _ => 0))), (q15, .inl (cT 0, 4096, .inl (fun _ => 0))), (q16, .inl (cT 0, 4096, .inl (fun _ => 0))), (q17, .inl (cT 0, 4096, .inl (fun _ => 0))), (q18, .inl (cT 0, 4096, .inl (fun _ => 0))), (q19, .inl (cT 1, 8, .inl (upd (upd (fun _ => 0) 0 4) 1 4))), (q20, .inl (cT 0, 4096, .inl (fun _ => 0))), (q21, .inl (cT 0, 4096, .inl (fun _ => 0)))]) hP hD [] [0, 1, 2, 3, 4, 5, 6, 7, 8, 9, 10, 11, 12, 13, 14, 15, 16, 17, 18, 19, 20, 21] 22 rfl rfl (by decide) (by decide) hk1 hFc hP1 hD1
  generalize H1 = H at hP hS ⊢
  rw [hr9]
  refine W.eq (g2 := F0 m 177 ls [.int 110, .int 0, .ref q13]) rfl ?_
  refine lv_i2b hx hb dM_init_177 rfl ?_
  refine W.eq (g2 := F0 m 178 ls [.int 110, .int 0, .ref q13]) rfl ?_
  refine va_bast hx hb hK hP hD hS 13 0 rfl rfl (show ¬ ((0 : Int32) < 0 ∨ 4096 ≤ (0 : Int32).toNatClampNeg) by decide) dM_init_178 (fun H locs hP hD hS => ?_)
  obtain ⟨hP, hD⟩ : xPD D xcl A [(a0, .inr (5, [v1, .ref q1, v3, .ref q2, v5, .ref q3, .ref q4, v8, v9, v10, .ref q5, .ref q6, v13, .ref q7, .ref q8, v16, v17, v18, v19, .int 40, .int (-1), .ref q9, v23, .int 1000000000, .ref q10, .ref q19, .ref q20, v28, .ref q21, v30, v31, .int (-1)])), (q1, .inl (cT 4, 1024, .inr (.inr (.inr (.inr (fun _ => none)))))), (q2, .inl (cT 0, 4096, .inl (fun _ => 0))), (q3, .inl (cT 4, 1024, .inr (.inr (.inr (.inr (fun _ => none)))))), (q4, .inl (cT 4, 1024, .inr (.inr (.inr (.inr (fun _ => none)))))), (q5, .inl (cT 4, 256, .inr (.inr (.inr (.inr (fun _ => none)))))), (q6, .inl (cT 4, 256, .inr (.inr (.inr (.inr (fun _ => none)))))), (q7, .inl (cT 1, 64, .inl (fun _ => 0))), (q8, .inl (cT 1, 64, .inl (fun _ => 0))), (q9, .inl (cT 0, 1024, .inl (fun _ => 0))), (q10, .inl (cT 5, 8, .inr (.inr (.inr (.inr (x8 q11 q12 q13 q14 q15 q16 q17 q18)))))), (q11, .inl (cT 0, 4096, .inl (upd (upd (upd (upd (fun _ => 0) 0 110) 1 117) 2 108) 3 108))), (q12, .inl (cT 0, 4096, .inl (upd (upd (upd (upd (fun _ => 0) 0 110) 1 117) 2 108) 3 108))), (q13, .inl (cT 0, 4096, .inl (upd (fun _ => 0) 0 110))), (q14, .inl (cT 0, 4096, .inl (fun _ => 0))), (q15, .inl (cT 0, 4096, .inl (fun _ => 0))), (q16, .inl (cT 0, 4096, .inl (fun _ => 0))), (q17, .inl (cT 0, 4096, .inl (fun _ => 0))), (q18, .inl (cT 0, 4096, .inl (fun _ => 0))), (q19, .inl (cT 1, 8, .inl (upd (upd (fun _ => 0) 0 4) 1 4))), (q20, .inl (cT 0, 4096, .inl (fun _ => 0))), (q21, .inl (cT 0, 4096, .inl (fun _ => 0)))] H := ⟨hP, hD⟩
  refine lv_iinc (v := 1) (lv' := [(2, .int 1), (1, .int 2), (0, .ref a0)]) hx hb dM_init_179 hl (k := 0) rfl (by decide) (by decide) rfl (fun ls hl => ?_)
  refine lv_goto (tgt := 159) hx hb dM_init_182 (by decide) ?_
  refine lv_iload_n hx hb dM_init_159 rfl (lv_at hl 0 rfl) ?_
  refine lv_iconst (v := 4) hx hb dM_init_160 (by decide) ?_
  refine lv_icmp_ge (tgt := 185) hx hb dM_init_161 (by decide) (fun h => ((by revert h; decide : False)).elim) (fun _ => ?_)
  refine lv_aload_n hx hb dM_init_164 rfl (lv_at hl 2 rfl) ?_
  refine va_get (D := D) (ci := 5) (v := .ref q10) (C := "ValueBenchModel") (T := TM) (N := 32) hx hb htx inM hown hK hP 0 rfl rfl 24 (by decide) (htx _ kw_5_111) (fun _ h9 => h9) rfl dM_init_165 ?_
  refine lv_iload_n hx hb dM_init_168 rfl (lv_at hl 1 rfl) ?_
  refine xx_aldA hx hb hK hP 10 5 rfl rfl (show ¬ ((2 : Int32) < 0 ∨ 8 ≤ (2 : Int32).toNatClampNeg) by decide) dM_init_169 ?_
  refine W.eq (g2 := F0 m 170 ls [.ref q13]) rfl ?_
  refine lv_iload_n hx hb dM_init_170 rfl (lv_at hl 0 rfl) ?_
  refine va_ldcS (q := aK 10) hx hb hown (hZ.2.2.2.2.2.2.2.2.1 _ (List.mem_of_getElem? (i := 17) rfl)) dM_init_171 ?_
  refine lv_iload_n hx hb dM_init_173 rfl (lv_at hl 0 rfl) ?_
  obtain ⟨hPc, hDc, hFc⟩ := xcut (wc := []) hP hD hS hA [] rfl rfl (by decide)
  refine va_calli (va_runV (C := "java/lang/String") (As := [.int 1]) (rest := [.int 1, .ref q13]) ⟨hx, hb, hml, hown, htx⟩ (cJS_charAt_1 l hl9 D cT aK aV H.size) ⟨callB_of 1 htx (xw_goodC kw_2_80) rfl rfl rfl (htx _ kw_1_6) (htx _ kw_5_86) ⟨by decide, by decide, by decide +kernel⟩ ⟨Nat.le_of_ble_eq_true rfl, Nat.le_of_ble_eq_true rfl⟩, (htx _ kw_2_78), (htx _ kw_2_79)⟩ ⟨xPre_blind, vk_recv hZ.2.2.2.2.2.2.2.2.2.1 (i := 10) (by decide) hS, (fun U hU hW => ⟨rfl, xPre_of hZ hS hFc hPc hDc hK U hU hW⟩)⟩ rfl rfl hl.1 rfl (lv_room (Nat.le_of_ble_eq_true rfl)) dM_init_174 ⟨Nat.le_of_ble_eq_true rfl, Nat.le_of_ble_eq_true rfl⟩) hS (fun q _ h => hFc q h) hFc (fun r31 u9 t H1 locs ht hvm hr9 hB hz1 hk1 hS => ?_)
  obtain ⟨hP1, hK1, hD1⟩ := hB
  rw [ht] at hP1
  obtain ⟨hP, hD⟩ := xjoin (W := [(a0, .inr (5, [v1, .ref q1, v3, .ref q2, v5, .ref q3, .ref q4, v8, v9, v10, .ref q5, .ref q6, v13, .ref q7, .ref q8, v16, v17, v18, v19, .int 40, .int (-1), .ref q9, v23, .int 1000000000, .ref q10, .ref q19, .ref q20, v28, .ref q21, v30, v31, .int (-1)])), (q1, .inl (cT 4, 1024, .inr (.inr (.inr (.inr (fun _ => none)))))), (q2, .inl (cT 0, 4096, .inl (fun _ => 0))), (q3, .inl (cT 4, 1024, .inr (.inr (.inr (.inr (fun _ => none)))))), (q4, .inl (cT 4, 1024, .inr (.inr (.inr (.inr (fun _ => none)))))), (q5, .inl (cT 4, 256, .inr (.inr (.inr (.inr (fun _ => none)))))), (q6, .inl (cT 4, 256, .inr (.inr (.inr (.inr (fun _ => none)))))), (q7, .inl (cT 1, 64, .inl (fun _ => 0))), (q8, .inl (cT 1, 64, .inl (fun _ => 0))), (q9, .inl (cT 0, 1024, .inl (fun _ => 0))), (q10, .inl (cT 5, 8, .inr (.inr (.inr (.inr (x8 q11 q12 q13 q14 q15 q16 q17 q18)))))), (q11, .inl (cT 0, 4096, .inl (upd (upd (upd (upd (fun _ => 0) 0 110) 1 117) 2 108) 3 108))), (q12, .inl (cT 0, 4096, .inl (upd (upd (upd (upd (fun _ => 0) 0 110) 1 117) 2 108) 3 108))), (q13, .inl (cT 0, 4096, .inl (upd (fun _ => 0) 0 110))), (q14, .inl (cT 0, 4096, .inl (fun _ => 0))), (q15, .inl (cT 0, 4096, .inl (fun _ => 0))), (q16, .inl (cT 0, 4096, .inl (fun _ => 0))), (q17, .inl (cT 0, 4096, .inl (fun _ => 0))), (q18, .inl (cT 0, 4096, .inl (fun _ => 0))), (q19, .inl (cT 1, 8, .inl (upd (upd (fun _ => 0) 0 4) 1 4))), (q20, .inl (cT 0, 4096, .inl (fun _ => 0))), (q21, .inl (cT 0, 4096, .inl (fun _ => 0)))]) hP hD [] [0, 1, 2, 3, 4, 5, 6, 7, 8, 9, 10, 11, 12, 13, 14, 15, 16, 17, 18, 19, 20, 21] 22 rfl rfl (by decide) (by decide) hk1 hFc hP1 hD1
  generalize H1 = H at hP hS ⊢
  rw [hr9]
  refine W.eq (g2 := F0 m 177 ls [.int 117, .int 1, .ref q13]) rfl ?_
  refine lv_i2b hx hb dM_init_177 rfl ?_
  refine W.eq (g2 := F0 m 178 ls [.int 117, .int 1, .ref q13]) rfl ?_
  refine va_bast hx hb hK hP hD hS 13 0 rfl rfl (show ¬ ((1 : Int32) < 0 ∨ 4096 ≤ (1 : Int32).toNatClampNeg) by decide) dM_init_178 (fun H locs hP hD hS => ?_)
  obtain ⟨hP, hD⟩ : xPD D xcl A [(a0, .inr (5, [v1, .ref q1, v3, .ref q2, v5, .ref q3, .ref q4, v8, v9, v10, .ref q5, .ref q6, v13, .ref q7, .ref q8, v16, v17, v18, v19, .int 40, .int (-1), .ref q9, v23, .int 1000000000, .ref q10, .ref q19, .ref q20, v28, .ref q21, v30, v31, .int (-1)])), (q1, .inl (cT 4, 1024, .inr (.inr (.inr (.inr (fun _ => none)))))), (q2, .inl (cT 0, 4096, .inl (fun _ => 0))), (q3, .inl (cT 4, 1024, .inr (.inr (.inr (.inr (fun _ => none)))))), (q4, .inl (cT 4, 1024, .inr (.inr (.inr (.inr (fun _ => none)))))), (q5, .inl (cT 4, 256, .inr (.inr (.inr (.inr (fun _ => none)))))), (q6, .inl (cT 4, 256, .inr (.inr (.inr (.inr (fun _ => none)))))), (q7, .inl (cT 1, 64, .inl (fun _ => 0))), (q8, .inl (cT 1, 64, .inl (fun _ => 0))), (q9, .inl (cT 0, 1024, .inl (fun _ => 0))), (q10, .inl (cT 5, 8, .inr (.inr (.inr (.inr (x8 q11 q12 q13 q14 q15 q16 q17 q18)))))), (q11, .inl (cT 0, 4096, .inl (upd (upd (upd (upd (fun _ => 0) 0 110) 1 117) 2 108) 3 108))), (q12, .inl (cT 0, 4096, .inl (upd (upd (upd (upd (fun _ => 0) 0 110) 1 117) 2 108) 3 108))), (q13, .inl (cT 0, 4096, .inl (upd (upd (fun _ => 0) 0 110) 1 117))), (q14, .inl (cT 0, 4096, .inl (fun _ => 0))), (q15, .inl (cT 0, 4096, .inl (fun _ => 0))), (q16, .inl (cT 0, 4096, .inl (fun _ => 0))), (q17, .inl (cT 0, 4096, .inl (fun _ => 0))), (q18, .inl (cT 0, 4096, .inl (fun _ => 0))), (q19, .inl (cT 1, 8, .inl (upd (upd (fun _ => 0) 0 4) 1 4))), (q20, .inl (cT 0, 4096, .inl (fun _ => 0))), (q21, .inl (cT 0, 4096, .inl (fun _ => 0)))] H := ⟨hP, hD⟩
  refine lv_iinc (v := 2) (lv' := [(2, .int 2), (1, .int 2), (0, .ref a0)]) hx hb dM_init_179 hl (k := 0) rfl (by decide) (by decide) rfl (fun ls hl => ?_)
  refine lv_goto (tgt := 159) hx hb dM_init_182 (by decide) ?_
  refine lv_iload_n hx hb dM_init_159 rfl (lv_at hl 0 rfl) ?_
  refine lv_iconst (v := 4) hx hb dM_init_160 (by decide) ?_
  refine lv_icmp_ge (tgt := 185) hx hb dM_init_161 (by decide) (fun h => ((by revert h; decide : False)).elim) (fun _ => ?_)
  refine lv_aload_n hx hb dM_init_164 rfl (lv_at hl 2 rfl) ?_
  refine va_get (D := D) (ci := 5) (v := .ref q10) (C := "ValueBenchModel") (T := TM) (N := 32) hx hb htx inM hown hK hP 0 rfl rfl 24 (by decide) (htx _ kw_5_111) (fun _ h9 => h9) rfl dM_init_165 ?_
  refine lv_iload_n hx hb dM_init_168 rfl (lv_at hl 1 rfl) ?_
  refine xx_aldA hx hb hK hP 10 5 rfl rfl (show ¬ ((2 : Int32) < 0 ∨ 8 ≤ (2 : Int32).toNatClampNeg) by decide) dM_init_169 ?_
  refine W.eq (g2 := F0 m 170 ls [.ref q13]) rfl ?_
  refine lv_iload_n hx hb dM_init_170 rfl (lv_at hl 0 rfl) ?_
  refine va_ldcS (q := aK 10) hx hb hown (hZ.2.2.2.2.2.2.2.2.1 _ (List.mem_of_getElem? (i := 17) rfl)) dM_init_171 ?_
  refine lv_iload_n hx hb dM_init_173 rfl (lv_at hl 0 rfl) ?_
  obtain ⟨hPc, hDc, hFc⟩ := xcut (wc := []) hP hD hS hA [] rfl rfl (by decide)
  refine va_calli (va_runV (C := "java/lang/String") (As := [.int 2]) (rest := [.int 2, .ref q13]) ⟨hx, hb, hml, hown, htx⟩ (cJS_charAt_2 l hl9 D cT aK aV H.size) ⟨callB_of 1 htx (xw_goodC kw_2_80) rfl rfl rfl (htx _ kw_1_6) (htx _ kw_5_86) ⟨by decide, by decide, by decide +kernel⟩ ⟨Nat.le_of_ble_eq_true rfl, Nat.le_of_ble_eq_true rfl⟩, (htx _ kw_2_78), (htx _ kw_2_79)⟩ ⟨xPre_blind, vk_recv hZ.2.2.2.2.2.2.2.2.2.1 (i := 10) (by decide) hS, (fun U hU hW => ⟨rfl, xPre_of hZ hS hFc hPc hDc hK U hU hW⟩)⟩ rfl rfl hl.1 rfl (lv_room (Nat.le_of_ble_eq_true rfl)) dM_init_174 ⟨Nat.le_of_ble_eq_true rfl, Nat.le_of_ble_eq_true rfl⟩) hS (fun q _ h => hFc q h) hFc (fun r32 u9 t H1 locs ht hvm hr9 hB hz1 hk1 hS => ?_)
  obtain ⟨hP1, hK1, hD1⟩ := hB
  rw [ht] at hP1
  obtain ⟨hP, hD⟩ := xjoin (W := [(a0, .inr (5, [v1, .ref q1, v3, .ref q2, v5, .ref q3, .ref q4, v8, v9, v10, .ref q5, .ref q6, v13, .ref q7, .ref q8, v16, v17, v18, v19, .int 40, .int (-1), .ref q9, v23, .int 1000000000, .ref q10, .ref q19, .ref q20, v28, .ref q21, v30, v31, .int (-1)])), (q1, .inl (cT 4, 1024, .inr (.inr (.inr (.inr (fun _ => none)))))), (q2, .inl (cT 0, 4096, .inl (fun _ => 0))), (q3, .inl (cT 4, 1024, .inr (.inr (.inr (.inr (fun _ => none)))))), (q4, .inl (cT 4, 1024, .inr (.inr (.inr (.inr (fun _ => none)))))), (q5, .inl (cT 4, 256, .inr (.inr (.inr (.inr (fun _ => none)))))), (q6, .inl (cT 4, 256, .inr (.inr (.inr (.inr (fun _ => none)))))), (q7, .inl (cT 1, 64, .inl (fun _ => 0))), (q8, .inl (cT 1, 64, .inl (fun _ => 0))), (q9, .inl (cT 0, 1024, .inl (fun _ => 0))), (q10, .inl (cT 5, 8, .inr (.inr (.inr (.inr (x8 q11 q12 q13 q14 q15 q16 q17 q18)))))), (q11, .inl (cT 0, 4096, .inl (upd (upd (upd (upd (fun _ => 0) 0 110) 1 117) 2 108) 3 108))), (q12, .inl (cT 0, 4096, .inl (upd (upd (upd (upd (fun _ => 0) 0 110) 1 117) 2 108) 3 108))), (q13, .inl (cT 0, 4096, .inl (upd (upd (fun _ => 0) 0 110) 1 117))), (q14, .inl (cT 0, 4096, .inl (fun _ => 0))), (q15, .inl (cT 0, 4096, .inl (fun _ => 0))), (q16, .inl (cT 0, 4096, .inl (fun _ => 0))), (q17, .inl (cT 0, 4096, .inl (fun _ => 0))), (q18, .inl (cT 0, 4096, .inl (fun _ => 0))), (q19, .inl (cT 1, 8, .inl (upd (upd (fun _ => 0) 0 4) 1 4))), (q20, .inl (cT 0, 4096, .inl (fun _ => 0))), (q21, .inl (cT 0, 4096, .inl (fun _ => 0)))]) hP hD [] [0, 1, 2, 3, 4, 5, 6, 7, 8, 9, 10, 11, 12, 13, 14, 15, 16, 17, 18, 19, 20, 21] 22 rfl rfl (by decide) (by decide) hk1 hFc hP1 hD1
  generalize H1 = H at hP hS ⊢
  rw [hr9]
  refine W.eq (g2 := F0 m 177 ls [.int 108, .int 2, .ref q13]) rfl ?_
  refine lv_i2b hx hb dM_init_177 rfl ?_
  refine W.eq (g2 := F0 m 178 ls [.int 108, .int 2, .ref q13]) rfl ?_
  refine va_bast hx hb hK hP hD hS 13 0 rfl rfl (show ¬ ((2 : Int32) < 0 ∨ 4096 ≤ (2 : Int32).toNatClampNeg) by decide) dM_init_178 (fun H locs hP hD hS => ?_)
  obtain ⟨hP, hD⟩ : xPD D xcl A [(a0, .inr (5, [v1, .ref q1, v3, .ref q2, v5, .ref q3, .ref q4, v8, v9, v10, .ref q5, .ref q6, v13, .ref q7, .ref q8, v16, v17, v18, v19, .int 40, .int (-1), .ref q9, v23, .int 1000000000, .ref q10, .ref q19, .ref q20, v28, .ref q21, v30, v31, .int (-1)])), (q1, .inl (cT 4, 1024, .inr (.inr (.inr (.inr (fun _ => none)))))), (q2, .inl (cT 0, 4096, .inl (fun _ => 0))), (q3, .inl (cT 4, 1024, .inr (.inr (.inr (.inr (fun _ => none)))))), (q4, .inl (cT 4, 1024, .inr (.inr (.inr (.inr (fun _ => none)))))), (q5, .inl (cT 4, 256, .inr (.inr (.inr (.inr (fun _ => none)))))), (q6, .inl (cT 4, 256, .inr (.inr (.inr (.inr (fun _ => none)))))), (q7, .inl (cT 1, 64, .inl (fun _ => 0))), (q8, .inl (cT 1, 64, .inl (fun _ => 0))), (q9, .inl (cT 0, 1024, .inl (fun _ => 0))), (q10, .inl (cT 5, 8, .inr (.inr (.inr (.inr (x8 q11 q12 q13 q14 q15 q16 q17 q18)))))), (q11, .inl (cT 0, 4096, .inl (upd (upd (upd (upd (fun _ => 0) 0 110) 1 117) 2 108) 3 108))), (q12, .inl (cT 0, 4096, .inl (upd (upd (upd (upd (fun _ => 0) 0 110) 1 117) 2 108) 3 108))), (q13, .inl (cT 0, 4096, .inl (upd (upd (upd (fun _ => 0) 0 110) 1 117) 2 108))), (q14, .inl (cT 0, 4096, .inl (fun _ => 0))), (q15, .inl (cT 0, 4096, .inl (fun _ => 0))), (q16, .inl (cT 0, 4096, .inl (fun _ => 0))), (q17, .inl (cT 0, 4096, .inl (fun _ => 0))), (q18, .inl (cT 0, 4096, .inl (fun _ => 0))), (q19, .inl (cT 1, 8, .inl (upd (upd (fun _ => 0) 0 4) 1 4))), (q20, .inl (cT 0, 4096, .inl (fun _ => 0))), (q21, .inl (cT 0, 4096, .inl (fun _ => 0)))] H := ⟨hP, hD⟩
  refine lv_iinc (v := 3) (lv' := [(2, .int 3), (1, .int 2), (0, .ref a0)]) hx hb dM_init_179 hl (k := 0) rfl (by decide) (by decide) rfl (fun ls hl => ?_)
  refine lv_goto (tgt := 159) hx hb dM_init_182 (by decide) ?_
  refine lv_iload_n hx hb dM_init_159 rfl (lv_at hl 0 rfl) ?_
  refine lv_iconst (v := 4) hx hb dM_init_160 (by decide) ?_
  refine lv_icmp_ge (tgt := 185) hx hb dM_init_161 (by decide) (fun h => ((by revert h; decide : False)).elim) (fun _ => ?_)
  refine lv_aload_n hx hb dM_init_164 rfl (lv_at hl 2 rfl) ?_
  refine va_get (D := D) (ci := 5) (v := .ref q10) (C := "ValueBenchModel") (T := TM) (N := 32) hx hb htx inM hown hK hP 0 rfl rfl 24 (by decide) (htx _ kw_5_111) (fun _ h9 => h9) rfl dM_init_165 ?_
  refine lv_iload_n hx hb dM_init_168 rfl (lv_at hl 1 rfl) ?_
  refine xx_aldA hx hb hK hP 10 5 rfl rfl (show ¬ ((2 : Int32) < 0 ∨ 8 ≤ (2 : Int32).toNatClampNeg) by decide) dM_init_169 ?_
  refine W.eq (g2 := F0 m 170 ls [.ref q13]) rfl ?_
  refine lv_iload_n hx hb dM_init_170 rfl (lv_at hl 0 rfl) ?_
  refine va_ldcS (q := aK 10) hx hb hown (hZ.2.2.2.2.2.2.2.2.1 _ (List.mem_of_getElem? (i := 17) rfl)) dM_init_171 ?_
  refine lv_iload_n hx hb dM_init_173 rfl (lv_at hl 0 rfl) ?_
  obtain ⟨hPc, hDc, hFc⟩ := xcut (wc := []) hP hD hS hA [] rfl rfl (by decide)
  refine va_calli (va_runV (C := "java/lang/String") (As := [.int 3]) (rest := [.int 3, .ref q13]) ⟨hx, hb, hml, hown, htx⟩ (cJS_charAt_3 l hl9 D cT aK aV H.size) ⟨callB_of 1 htx (xw_goodC kw_2_80) rfl rfl rfl (htx _ kw_1_6) (htx _ kw_5_86) ⟨by decide, by decide, by decide +kernel⟩ ⟨Nat.le_of_ble_eq_true rfl, Nat.le_of_ble_eq_true rfl⟩, (htx _ kw_2_78), (htx _ kw_2_79)⟩ ⟨xPre_blind, vk_recv hZ.2.2.2.2.2.2.2.2.2.1 (i := 10) (by decide) hS, (fun U hU hW => ⟨rfl, xPre_of hZ hS hFc hPc hDc hK U hU hW⟩)⟩ rfl rfl hl.1 rfl (lv_room (Nat.le_of_ble_eq_true rfl)) dM_init_174 ⟨Nat.le_of_ble_eq_true rfl, Nat.le_of_ble_eq_true rfl⟩) hS (fun q _ h => hFc q h) hFc (fun r33 u9 t H1 locs ht hvm hr9 hB hz1 hk1 hS => ?_)
  obtain ⟨hP1, hK1, hD1⟩ := hB
  rw [ht] at hP1
  obtain ⟨hP, hD⟩ := xjoin (W := [(a0, .inr (5, [v1, .ref q1, v3, .ref q2, v5, .ref q3, .ref q4, v8, v9, v10, .ref q5, .ref q6, v13, .ref q7, .ref q8, v16, v17, v18, v19, .int 40, .int (-1), .ref q9, v23, .int 1000000000, .ref q10, .ref q19, .ref q20, v28, .ref q21, v30, v31, .int (-1)])), (q1, .inl (cT 4, 1024, .inr (.inr (.inr (.inr (fun _ => none)))))), (q2, .inl (cT 0, 4096, .inl (fun _ => 0))), (q3, .inl (cT 4, 1024, .inr (.inr (.inr (.inr (fun _ => none)))))), (q4, .inl (cT 4, 1024, .inr (.inr (.inr (.inr (fun _ => none)))))), (q5, .inl (cT 4, 256, .inr (.inr (.inr (.inr (fun _ => none)))))), (q6, .inl (cT 4, 256, .inr (.inr (.inr (.inr (fun _ => none)))))), (q7, .inl (cT 1, 64, .inl (fun _ => 0))), (q8, .inl (cT 1, 64, .inl (fun _ => 0))), (q9, .inl (cT 0, 1024, .inl (fun _ => 0))), (q10, .inl (cT 5, 8, .inr (.inr (.inr (.inr (x8 q11 q12 q13 q14 q15 q16 q17 q18)))))), (q11, .inl (cT 0, 4096, .inl (upd (upd (upd (upd (fun _ => 0) 0 110) 1 117) 2 108) 3 108))), (q12, .inl (cT 0, 4096, .inl (upd (upd (upd (upd (fun _ => 0) 0 110) 1 117) 2 108) 3 108))), (q13, .inl (cT 0, 4096, .inl (upd (upd (upd (fun _ => 0) 0 110) 1 117) 2 108))), (q14, .inl (cT 0, 4096, .inl (fun _ => 0))), (q15, .inl (cT 0, 4096, .inl (fun _ => 0))), (q16, .inl (cT 0, 4096, .inl (fun _ => 0))), (q17, .inl (cT 0, 4096, .inl (fun _ => 0))), (q18, .inl (cT 0, 4096, .inl (fun _ => 0))), (q19, .inl (cT 1, 8, .inl (upd (upd (fun _ => 0) 0 4) 1 4))), (q20, .inl (cT 0, 4096, .inl (fun _ => 0))), (q21, .inl (cT 0, 4096, .inl (fun _ => 0)))]) hP hD [] [0, 1, 2, 3, 4, 5, 6, 7, 8, 9, 10, 11, 12, 13, 14, 15, 16, 17, 18, 19, 20, 21] 22 rfl rfl (by decide) (by decide) hk1 hFc hP1 hD1
  generalize H1 = H at hP hS ⊢
  rw [hr9]
  refine W.eq (g2 := F0 m 177 ls [.int 108, .int 3, .ref q13]) rfl ?_
  refine lv_i2b hx hb dM_init_177 rfl ?_
  refine W.eq (g2 := F0 m 178 ls [.int 108, .int 3, .ref q13]) rfl ?_
  refine va_bast hx hb hK hP hD hS 13 0 rfl rfl (show ¬ ((3 : Int32) < 0 ∨ 4096 ≤ (3 : Int32).toNatClampNeg) by decide) dM_init_178 (fun H locs hP hD hS => ?_)
  obtain ⟨hP, hD⟩ : xPD D xcl A [(a0, .inr (5, [v1, .ref q1, v3, .ref q2, v5, .ref q3, .ref q4, v8, v9, v10, .ref q5, .ref q6, v13, .ref q7, .ref q8, v16, v17, v18, v19, .int 40, .int (-1), .ref q9, v23, .int 1000000000, .ref q10, .ref q19, .ref q20, v28, .ref q21, v30, v31, .int (-1)])), (q1, .inl (cT 4, 1024, .inr (.inr (.inr (.inr (fun _ => none)))))), (q2, .inl (cT 0, 4096, .inl (fun _ => 0))), (q3, .inl (cT 4, 1024, .inr (.inr (.inr (.inr (fun _ => none)))))), (q4, .inl (cT 4, 1024, .inr (.inr (.inr (.inr (fun _ => none)))))), (q5, .inl (cT 4, 256, .inr (.inr (.inr (.inr (fun _ => none)))))), (q6, .inl (cT 4, 256, .inr (.inr (.inr (.inr (fun _ => none)))))), (q7, .inl (cT 1, 64, .inl (fun _ => 0))), (q8, .inl (cT 1, 64, .inl (fun _ => 0))), (q9, .inl (cT 0, 1024, .inl (fun _ => 0))), (q10, .inl (cT 5, 8, .inr (.inr (.inr (.inr (x8 q11 q12 q13 q14 q15 q16 q17 q18)))))), (q11, .inl (cT 0, 4096, .inl (upd (upd (upd (upd (fun _ => 0) 0 110) 1 117) 2 108) 3 108))), (q12, .inl (cT 0, 4096, .inl (upd (upd (upd (upd (fun _ => 0) 0 110) 1 117) 2 108) 3 108))), (q13, .inl (cT 0, 4096, .inl (upd (upd (upd (upd (fun _ => 0) 0 110) 1 117) 2 108) 3 108))), (q14, .inl (cT 0, 4096, .inl (fun _ => 0))), (q15, .inl (cT 0, 4096, .inl (fun _ => 0))), (q16, .inl (cT 0, 4096, .inl (fun _ => 0))), (q17, .inl (cT 0, 4096, .inl (fun _ => 0))), (q18, .inl (cT 0, 4096, .inl (fun _ => 0))), (q19, .inl (cT 1, 8, .inl (upd (upd (fun _ => 0) 0 4) 1 4))), (q20, .inl (cT 0, 4096, .inl (fun _ => 0))), (q21, .inl (cT 0, 4096, .inl (fun _ => 0)))] H := ⟨hP, hD⟩
  refine lv_iinc (v := 4) (lv' := [(2, .int 4), (1, .int 2), (0, .ref a0)]) hx hb dM_init_179 hl (k := 0) rfl (by decide) (by decide) rfl (fun ls hl => ?_)
  refine lv_goto (tgt := 159) hx hb dM_init_182 (by decide) ?_
  refine lv_iload_n hx hb dM_init_159 rfl (lv_at hl 0 rfl) ?_
  refine lv_iconst (v := 4) hx hb dM_init_160 (by decide) ?_
  refine lv_icmp_ge (tgt := 185) hx hb dM_init_161 (by decide) (fun _ => ?_) (fun h => ((by revert h; decide : False)).elim)
  refine lv_aload_n hx hb dM_init_185 rfl (lv_at hl 2 rfl) ?_
  refine va_get (D := D) (ci := 5) (v := .ref q19) (C := "ValueBenchModel") (T := TM) (N := 32) hx hb htx inM hown hK hP 0 rfl rfl 25 (by decide) (htx _ kw_5_112) (fun _ h9 => h9) rfl dM_init_186 ?_
  refine lv_iload_n hx hb dM_init_189 rfl (lv_at hl 1 rfl) ?_
  refine lv_iconst (v := 4) hx hb dM_init_190 (by decide) ?_
  refine va_iast hx hb hK hP hD hS 19 1 rfl rfl (show ¬ ((2 : Int32) < 0 ∨ 8 ≤ (2 : Int32).toNatClampNeg) by decide) dM_init_191 (fun H locs hP hD hS => ?_)
  obtain ⟨hP, hD⟩ : xPD D xcl A [(a0, .inr (5, [v1, .ref q1, v3, .ref q2, v5, .ref q3, .ref q4, v8, v9, v10, .ref q5, .ref q6, v13, .ref q7, .ref q8, v16, v17, v18, v19, .int 40, .int (-1), .ref q9, v23, .int 1000000000, .ref q10, .ref q19, .ref q20, v28, .ref q21, v30, v31, .int (-1)])), (q1, .inl (cT 4, 1024, .inr (.inr (.inr (.inr (fun _ => none)))))), (q2, .inl (cT 0, 4096, .inl (fun _ => 0))), (q3, .inl (cT 4, 1024, .inr (.inr (.inr (.inr (fun _ => none)))))), (q4, .inl (cT 4, 1024, .inr (.inr (.inr (.inr (fun _ => none)))))), (q5, .inl (cT 4, 256, .inr (.inr (.inr (.inr (fun _ => none)))))), (q6, .inl (cT 4, 256, .inr (.inr (.inr (.inr (fun _ => none)))))), (q7, .inl (cT 1, 64, .inl (fun _ => 0))), (q8, .inl (cT 1, 64, .inl (fun _ => 0))), (q9, .inl (cT 0, 1024, .inl (fun _ => 0))), (q10, .inl (cT 5, 8, .inr (.inr (.inr (.inr (x8 q11 q12 q13 q14 q15 q16 q17 q18)))))), (q11, .inl (cT 0, 4096, .inl (upd (upd (upd (upd (fun _ => 0) 0 110) 1 117) 2 108) 3 108))), (q12, .inl (cT 0, 4096, .inl (upd (upd (upd (upd (fun _ => 0) 0 110) 1 117) 2 108) 3 108))), (q13, .inl (cT 0, 4096, .inl (upd (upd (upd (upd (fun _ => 0) 0 110) 1 117) 2 108) 3 108))), (q14, .inl (cT 0, 4096, .inl (fun _ => 0))), (q15, .inl (cT 0, 4096, .inl (fun _ => 0))), (q16, .inl (cT 0, 4096, .inl (fun _ => 0))), (q17, .inl (cT 0, 4096, .inl (fun _ => 0))), (q18, .inl (cT 0, 4096, .inl (fun _ => 0))), (q19, .inl (cT 1, 8, .inl (upd (upd (upd (fun _ => 0) 0 4) 1 4) 2 4))), (q20, .inl (cT 0, 4096, .inl (fun _ => 0))), (q21, .inl (cT 0, 4096, .inl (fun _ => 0)))] H := ⟨hP, hD⟩
  refine lv_iinc (v := 3) (lv' := [(1, .int 3), (2, .int 4), (0, .ref a0)]) hx hb dM_init_192 hl (k := 1) rfl (by decide) (by decide) rfl (fun ls hl => ?_)
  refine lv_goto (tgt := 151) hx hb dM_init_195 (by decide) ?_
  refine lv_iload_n hx hb dM_init_151 rfl (lv_at hl 0 rfl) ?_
  refine lv_bipush (v := 8) hx hb dM_init_152 (by decide) ?_
  refine lv_icmp_ge (tgt := 198) hx hb dM_init_154 (by decide) (fun h => ((by revert h; decide : False)).elim) (fun _ => ?_)
  refine lv_iconst (v := 0) hx hb dM_init_157 (by decide) ?_
  refine lv_istore_n (lv' := [(2, .int 0), (1, .int 3), (0, .ref a0)]) hx hb dM_init_158 rfl hl (by decide) rfl (fun ls hl => ?_)
  refine lv_iload_n hx hb dM_init_159 rfl (lv_at hl 0 rfl) ?_
  refine lv_iconst (v := 4) hx hb dM_init_160 (by decide) ?_
  refine lv_icmp_ge (tgt := 185) hx hb dM_init_161 (by decide) (fun h => ((by revert h; decide : False)).elim) (fun _ => ?_)
  refine lv_aload_n hx hb dM_init_164 rfl (lv_at hl 2 rfl) ?_
  refine va_get (D := D) (ci := 5) (v := .ref q10) (C := "ValueBenchModel") (T := TM) (N := 32) hx hb htx inM hown hK hP 0 rfl rfl 24 (by decide) (htx _ kw_5_111) (fun _ h9 => h9) rfl dM_init_165 ?_
  refine lv_iload_n hx hb dM_init_168 rfl (lv_at hl 1 rfl) ?_
  refine xx_aldA hx hb hK hP 10 5 rfl rfl (show ¬ ((3 : Int32) < 0 ∨ 8 ≤ (3 : Int32).toNatClampNeg) by decide) dM_init_169 ?_
  refine W.eq (g2 := F0 m 170 ls [.ref q14]) rfl ?_
  refine lv_iload_n hx hb dM_init_170 rfl (lv_at hl 0 rfl) ?_
  refine va_ldcS (q := aK 10) hx hb hown (hZ.2.2.2.2.2.2.2.2.1 _ (List.mem_of_getElem? (i := 17) rfl)) dM_init_171 ?_
  refine lv_iload_n hx hb dM_init_173 rfl (lv_at hl 0 rfl) ?_
  obtain ⟨hPc, hDc, hFc⟩ := xcut (wc := []) hP hD hS hA [] rfl rfl (by decide)
  refine va_calli (va_runV (C := "java/lang/String") (As := [.int 0]) (rest := [.int 0, .ref q14]) ⟨hx, hb, hml, hown, htx⟩ (cJS_charAt_0 l hl9 D cT aK aV H.size) ⟨callB_of 1 htx (xw_goodC kw_2_80) rfl rfl rfl (htx _ kw_1_6) (htx _ kw_5_86) ⟨by decide, by decide, by decide +kernel⟩ ⟨Nat.le_of_ble_eq_true rfl, Nat.le_of_ble_eq_true rfl⟩, (htx _ kw_2_78), (htx _ kw_2_79)⟩ ⟨xPre_blind, vk_recv hZ.2.2.2.2.2.2.2.2.2.1 (i := 10) (by decide) hS, (fun U hU hW => ⟨rfl, xPre_of hZ hS hFc hPc hDc hK U hU hW⟩)⟩ rfl rfl hl.1 rfl (lv_room (Nat.le_of_ble_eq_true rfl)) dM_init_174 ⟨Nat.le_of_ble_eq_true rfl, Nat.le_of_ble_eq_true rfl⟩) hS (fun q _ h => hFc q h) hFc (fun r34 u9 t H1 locs ht hvm hr9 hB hz1 hk1 hS => ?_)
  obtain ⟨hP1, hK1, hD1⟩ := hB
  rw [ht] at hP1
  obtain ⟨hP, hD⟩ := xjoin (W := [(a0, .inr (5, [v1, .ref q1, v3, .ref q2, v5, .ref q3, .ref q4, v8, v9, v10, .ref q5, .ref q6, v13, .ref q7, .ref q8, v16, v17, v18, v19, .int 40, .int (-1), .ref q9, v23, .int 1000000000, .ref q10, .ref q19, .ref q20, v28, .ref q21, v30, v31, .int (-1)])), (q1, .inl (cT 4, 1024, .inr (.inr (.inr (.inr (fun _ => none)))))), (q2, .inl (cT 0, 4096, .inl (fun _ => 0))), (q3, .inl (cT 4, 1024, .inr (.inr (.inr (.inr (fun _ => none)))))), (q4, .inl (cT 4, 1024, .inr (.inr (.inr (.inr (fun _ => none)))))), (q5, .inl (cT 4, 256, .inr (.inr (.inr (.inr (fun _ => none)))))), (q6, .inl (cT 4, 256, .inr (.inr (.inr (.inr (fun _ => none)))))), (q7, .inl (cT 1, 64, .inl (fun _ => 0))), (q8, .inl (cT 1, 64, .inl (fun _ => 0))), (q9, .inl (cT 0, 1024, .inl (fun _ => 0))), (q10, .inl (cT 5, 8, .inr (.inr (.inr (.inr (x8 q11 q12 q13 q14 q15 q16 q17 q18)))))), (q11, .inl (cT 0, 4096, .inl (upd (upd (upd (upd (fun _ => 0) 0 110) 1 117) 2 108) 3 108))), (q12, .inl (cT 0, 4096, .inl (upd (upd (upd (upd (fun _ => 0) 0 110) 1 117) 2 108) 3 108))), (q13, .inl (cT 0, 4096, .inl (upd (upd (upd (upd (fun _ => 0) 0 110) 1 117) 2 108) 3 108))), (q14, .inl (cT 0, 4096, .inl (fun _ => 0))), (q15, .inl (cT 0, 4096, .inl (fun _ => 0))), (q16, .inl (cT 0, 4096, .inl (fun _ => 0))), (q17, .inl (cT 0, 4096, .inl (fun _ => 0))), (q18, .inl (cT 0, 4096, .inl (fun _ => 0))), (q19, .inl (cT 1, 8, .inl (upd (upd (upd (fun _ => 0) 0 4) 1 4) 2 4))), (q20, .inl (cT 0, 4096, .inl (fun _ => 0))), (q21, .inl (cT 0, 4096, .inl (fun _ => 0)))]) hP hD [] [0, 1, 2, 3, 4, 5, 6, 7, 8, 9, 10, 11, 12, 13, 14, 15, 16, 17, 18, 19, 20, 21] 22 rfl rfl (by decide) (by decide) hk1 hFc hP1 hD1
  generalize H1 = H at hP hS ⊢
  rw [hr9]
  refine W.eq (g2 := F0 m 177 ls [.int 110, .int 0, .ref q14]) rfl ?_
  refine lv_i2b hx hb dM_init_177 rfl ?_
  refine W.eq (g2 := F0 m 178 ls [.int 110, .int 0, .ref q14]) rfl ?_
  refine va_bast hx hb hK hP hD hS 14 0 rfl rfl (show ¬ ((0 : Int32) < 0 ∨ 4096 ≤ (0 : Int32).toNatClampNeg) by decide) dM_init_178 (fun H locs hP hD hS => ?_)
  obtain ⟨hP, hD⟩ : xPD D xcl A [(a0, .inr (5, [v1, .ref q1, v3, .ref q2, v5, .ref q3, .ref q4, v8, v9, v10, .ref q5, .ref q6, v13, .ref q7, .ref q8, v16, v17, v18, v19, .int 40, .int (-1), .ref q9, v23, .int 1000000000, .ref q10, .ref q19, .ref q20, v28, .ref q21, v30, v31, .int (-1)])), (q1, .inl (cT 4, 1024, .inr (.inr (.inr (.inr (fun _ => none)))))), (q2, .inl (cT 0, 4096, .inl (fun _ => 0))), (q3, .inl (cT 4, 1024, .inr (.inr (.inr (.inr (fun _ => none)))))), (q4, .inl (cT 4, 1024, .inr (.inr (.inr (.inr (fun _ => none)))))), (q5, .inl (cT 4, 256, .inr (.inr (.inr (.inr (fun _ => none)))))), (q6, .inl (cT 4, 256, .inr (.inr (.inr (.inr (fun _ => none)))))), (q7, .inl (cT 1, 64, .inl (fun _ => 0))), (q8, .inl (cT 1, 64, .inl (fun _ => 0))), (q9, .inl (cT 0, 1024, .inl (fun _ => 0))), (q10, .inl (cT 5, 8, .inr (.inr (.inr (.inr (x8 q11 q12 q13 q14 q15 q16 q17 q18)))))), (q11, .inl (cT 0, 4096, .inl (upd (upd (upd (upd (fun _ => 0) 0 110) 1 117) 2 108) 3 108))), (q12, .inl (cT 0, 4096, .inl (upd (upd (upd (upd (fun _ => 0) 0 110) 1 117) 2 108) 3 108))), (q13, .inl (cT 0, 4096, .inl (upd (upd (upd (upd (fun _ => 0) 0 110) 1 117) 2 108) 3 108))), (q14, .inl (cT 0, 4096, .inl (upd (fun _ => 0) 0 110))), (q15, .inl (cT 0, 4096, .inl (fun _ => 0))), (q16, .inl (cT 0, 4096, .inl (fun _ => 0))), (q17, .inl (cT 0, 4096, .inl (fun _ => 0))), (q18, .inl (cT 0, 4096, .inl (fun _ => 0))), (q19, .inl (cT 1, 8, .inl (upd (upd (upd (fun _ => 0) 0 4) 1 4) 2 4))), (q20, .inl (cT 0, 4096, .inl (fun _ => 0))), (q21, .inl (cT 0, 4096, .inl (fun _ => 0)))] H := ⟨hP, hD⟩
  refine lv_iinc (v := 1) (lv' := [(2, .int 1), (1, .int 3), (0, .ref a0)]) hx hb dM_init_179 hl (k := 0) rfl (by decide) (by decide) rfl (fun ls hl => ?_)
  refine lv_goto (tgt := 159) hx hb dM_init_182 (by decide) ?_
  refine lv_iload_n hx hb dM_init_159 rfl (lv_at hl 0 rfl) ?_
  refine lv_iconst (v := 4) hx hb dM_init_160 (by decide) ?_
  refine lv_icmp_ge (tgt := 185) hx hb dM_init_161 (by decide) (fun h => ((by revert h; decide : False)).elim) (fun _ => ?_)
  refine lv_aload_n hx hb dM_init_164 rfl (lv_at hl 2 rfl) ?_
  refine va_get (D := D) (ci := 5) (v := .ref q10) (C := "ValueBenchModel") (T := TM) (N := 32) hx hb htx inM hown hK hP 0 rfl rfl 24 (by decide) (htx _ kw_5_111) (fun _ h9 => h9) rfl dM_init_165 ?_
  refine lv_iload_n hx hb dM_init_168 rfl (lv_at hl 1 rfl) ?_
  refine xx_aldA hx hb hK hP 10 5 rfl rfl (show ¬ ((3 : Int32) < 0 ∨ 8 ≤ (3 : Int32).toNatClampNeg) by decide) dM_init_169 ?_
  refine W.eq (g2 := F0 m 170 ls [.ref q14]) rfl ?_
  refine lv_iload_n hx hb dM_init_170 rfl (lv_at hl 0 rfl) ?_
  refine va_ldcS (q := aK 10) hx hb hown (hZ.2.2.2.2.2.2.2.2.1 _ (List.mem_of_getElem? (i := 17) rfl)) dM_init_171 ?_
  refine lv_iload_n hx hb dM_init_173 rfl (lv_at hl 0 rfl) ?_
  obtain ⟨hPc, hDc, hFc⟩ := xcut (wc := []) hP hD hS hA [] rfl rfl (by decide)
  refine va_calli (va_runV (C := "java/lang/String") (As := [.int 1]) (rest := [.int 1, .ref q14]) ⟨hx, hb, hml, hown, htx⟩ (cJS_charAt_1 l hl9 D cT aK aV H.size) ⟨callB_of 1 htx (xw_goodC kw_2_80) rfl rfl rfl (htx _ kw_1_6) (htx _ kw_5_86) ⟨by decide, by decide, by decide +kernel⟩ ⟨Nat.le_of_ble_eq_true rfl, Nat.le_of_ble_eq_true rfl⟩, (htx _ kw_2_78), (htx _ kw_2_79)⟩ ⟨xPre_blind, vk_recv hZ.2.2.2.2.2.2.2.2.2.1 (i := 10) (by decide) hS, (fun U hU hW => ⟨rfl, xPre_of hZ hS hFc hPc hDc hK U hU hW⟩)⟩ rfl rfl hl.1 rfl (lv_room (Nat.le_of_ble_eq_true rfl)) dM_init_174 ⟨Nat.le_of_ble_eq_true rfl, Nat.le_of_ble_eq_true rfl⟩) hS (fun q _ h => hFc q h) hFc (fun r35 u9 t H1 locs ht hvm hr9 hB hz1 hk1 hS => ?_)
  obtain ⟨hP1, hK1, hD1⟩ := hB
  rw [ht] at hP1
  obtain ⟨hP, hD⟩ := xjoin (W := [(a0, .inr (5, [v1, .ref q1, v3, .ref q2, v5, .ref q3, .ref q4, v8, v9, v10, .ref q5, .ref q6, v13, .ref q7, .ref q8, v16, v17, v18, v19, .int 40, .int (-1), .ref q9, v23, .int 1000000000, .ref q10, .ref q19, .ref q20, v28, .ref q21, v30, v31, .int (-1)])), (q1, .inl (cT 4, 1024, .inr (.inr (.inr (.inr (fun _ => none)))))), (q2, .inl (cT 0, 4096, .inl (fun _ => 0))), (q3, .inl (cT 4, 1024, .inr (.inr (.inr (.inr (fun _ => none)))))), (q4, .inl (cT 4, 1024, .inr (.inr (.inr (.inr (fun _ => none)))))), (q5, .inl (cT 4, 256, .inr (.inr (.inr (.inr (fun _ => none)))))), (q6, .inl (cT 4, 256, .inr (.inr (.inr (.inr (fun _ => none)))))), (q7, .inl (cT 1, 64, .inl (fun _ => 0))), (q8, .inl (cT 1, 64, .inl (fun _ => 0))), (q9, .inl (cT 0, 1024, .inl (fun _ => 0))), (q10, .inl (cT 5, 8, .inr (.inr (.inr (.inr (x8 q11 q12 q13 q14 q15 q16 q17 q18)))))), (q11, .inl (cT 0, 4096, .inl (upd (upd (upd (upd (fun _ => 0) 0 110) 1 117) 2 108) 3 108))), (q12, .inl (cT 0, 4096, .inl (upd (upd (upd (upd (fun _ => 0) 0 110) 1 117) 2 108) 3 108))), (q13, .inl (cT 0, 4096, .inl (upd (upd (upd (upd (fun _ => 0) 0 110) 1 117) 2 108) 3 108))), (q14, .inl (cT 0, 4096, .inl (upd (fun _ => 0) 0 110))), (q15, .inl (cT 0, 4096, .inl (fun _ => 0))), (q16, .inl (cT 0, 4096, .inl (fun _ => 0))), (q17, .inl (cT 0, 4096, .inl (fun _ => 0))), (q18, .inl (cT 0, 4096, .inl (fun _ => 0))), (q19, .inl (cT 1, 8, .inl (upd (upd (upd (fun _ => 0) 0 4) 1 4) 2 4))), (q20, .inl (cT 0, 4096, .inl (fun _ => 0))), (q21, .inl (cT 0, 4096, .inl (fun _ => 0)))]) hP hD [] [0, 1, 2, 3, 4, 5, 6, 7, 8, 9, 10, 11, 12, 13, 14, 15, 16, 17, 18, 19, 20, 21] 22 rfl rfl (by decide) (by decide) hk1 hFc hP1 hD1
  generalize H1 = H at hP hS ⊢
  rw [hr9]
  refine W.eq (g2 := F0 m 177 ls [.int 117, .int 1, .ref q14]) rfl ?_
  refine lv_i2b hx hb dM_init_177 rfl ?_
  refine W.eq (g2 := F0 m 178 ls [.int 117, .int 1, .ref q14]) rfl ?_
  refine va_bast hx hb hK hP hD hS 14 0 rfl rfl (show ¬ ((1 : Int32) < 0 ∨ 4096 ≤ (1 : Int32).toNatClampNeg) by decide) dM_init_178 (fun H locs hP hD hS => ?_)
  obtain ⟨hP, hD⟩ : xPD D xcl A [(a0, .inr (5, [v1, .ref q1, v3, .ref q2, v5, .ref q3, .ref q4, v8, v9, v10, .ref q5, .ref q6, v13, .ref q7, .ref q8, v16, v17, v18, v19, .int 40, .int (-1), .ref q9, v23, .int 1000000000, .ref q10, .ref q19, .ref q20, v28, .ref q21, v30, v31, .int (-1)])), (q1, .inl (cT 4, 1024, .inr (.inr (.inr (.inr (fun _ => none)))))), (q2, .inl (cT 0, 4096, .inl (fun _ => 0))), (q3, .inl (cT 4, 1024, .inr (.inr (.inr (.inr (fun _ => none)))))), (q4, .inl (cT 4, 1024, .inr (.inr (.inr (.inr (fun _ => none)))))), (q5, .inl (cT 4, 256, .inr (.inr (.inr (.inr (fun _ => none)))))), (q6, .inl (cT 4, 256, .inr (.inr (.inr (.inr (fun _ => none)))))), (q7, .inl (cT 1, 64, .inl (fun _ => 0))), (q8, .inl (cT 1, 64, .inl (fun _ => 0))), (q9, .inl (cT 0, 1024, .inl (fun _ => 0))), (q10, .inl (cT 5, 8, .inr (.inr (.inr (.inr (x8 q11 q12 q13 q14 q15 q16 q17 q18)))))), (q11, .inl (cT 0, 4096, .inl (upd (upd (upd (upd (fun _ => 0) 0 110) 1 117) 2 108) 3 108))), (q12, .inl (cT 0, 4096, .inl (upd (upd (upd (upd (fun _ => 0) 0 110) 1 117) 2 108) 3 108))), (q13, .inl (cT 0, 4096, .inl (upd (upd (upd (upd (fun _ => 0) 0 110) 1 117) 2 108) 3 108))), (q14, .inl (cT 0, 4096, .inl (upd (upd (fun _ => 0) 0 110) 1 117))), (q15, .inl (cT 0, 4096, .inl (fun _ => 0))), (q16, .inl (cT 0, 4096, .inl (fun _ => 0))), (q17, .inl (cT 0, 4096, .inl (fun _ => 0))), (q18, .inl (cT 0, 4096, .inl (fun _ => 0))), (q19, .inl (cT 1, 8, .inl (upd (upd (upd (fun _ => 0) 0 4) 1 4) 2 4))), (q20, .inl (cT 0, 4096, .inl (fun _ => 0))), (q21, .inl (cT 0, 4096, .inl (fun _ => 0)))] H := ⟨hP, hD⟩
  refine lv_iinc (v := 2) (lv' := [(2, .int 2), (1, .int 3), (0, .ref a0)]) hx hb dM_init_179 hl (k := 0) rfl (by decide) (by decide) rfl (fun ls hl => ?_)
  refine lv_goto (tgt := 159) hx hb dM_init_182 (by decide) ?_
  refine lv_iload_n hx hb dM_init_159 rfl (lv_at hl 0 rfl) ?_
  refine lv_iconst (v := 4) hx hb dM_init_160 (by decide) ?_
  refine lv_icmp_ge (tgt := 185) hx hb dM_init_161 (by decide) (fun h => ((by revert h; decide : False)).elim) (fun _ => ?_)
  refine lv_aload_n hx hb dM_init_164 rfl (lv_at hl 2 rfl) ?_
  refine va_get (D := D) (ci := 5) (v := .ref q10) (C := "ValueBenchModel") (T := TM) (N := 32) hx hb htx inM hown hK hP 0 rfl rfl 24 (by decide) (htx _ kw_5_111) (fun _ h9 => h9) rfl dM_init_165 ?_
  refine lv_iload_n hx hb dM_init_168 rfl (lv_at hl 1 rfl) ?_
  refine xx_aldA hx hb hK hP 10 5 rfl rfl (show ¬ ((3 : Int32) < 0 ∨ 8 ≤ (3 : Int32).toNatClampNeg) by decide) dM_init_169 ?_
  refine W.eq (g2 := F0 m 170 ls [.ref q14]) rfl ?_
  refine lv_iload_n hx hb dM_init_170 rfl (lv_at hl 0 rfl) ?_
  refine va_ldcS (q := aK 10) hx hb hown (hZ.2.2.2.2.2.2.2.2.1 _ (List.mem_of_getElem? (i := 17) rfl)) dM_init_171 ?_
  refine lv_iload_n hx hb dM_init_173 rfl (lv_at hl 0 rfl) ?_
  obtain ⟨hPc, hDc, hFc⟩ := xcut (wc := []) hP hD hS hA [] rfl rfl (by decide)
  refine va_calli (va_runV (C := "java/lang/String") (As := [.int 2]) (rest := [.int 2, .ref q14]) ⟨hx, hb, hml, hown, htx⟩ (cJS_charAt_2 l hl9 D cT aK aV H.size) ⟨callB_of 1 htx (xw_goodC kw_2_80) rfl rfl rfl (htx _ kw_1_6) (htx _ kw_5_86) ⟨by decide, by decide, by decide +kernel⟩ ⟨Nat.le_of_ble_eq_true rfl, Nat.le_of_ble_eq_true rfl⟩, (htx _ kw_2_78), (htx _ kw_2_79)⟩ ⟨xPre_blind, vk_recv hZ.2.2.2.2.2.2.2.2.2.1 (i := 10) (by decide) hS, (fun U hU hW => ⟨rfl, xPre_of hZ hS hFc hPc hDc hK U hU hW⟩)⟩ rfl rfl hl.1 rfl (lv_room (Nat.le_of_ble_eq_true rfl)) dM_init_174 ⟨Nat.le_of_ble_eq_true rfl, Nat.le_of_ble_eq_true rfl⟩) hS (fun q _ h => hFc q h) hFc (fun r36 u9 t H1 locs ht hvm hr9 hB hz1 hk1 hS => ?_)
  obtain ⟨hP1, hK1, hD1⟩ := hB
  rw [ht] at hP1
  obtain ⟨hP, hD⟩ := xjoin (W := [(a0, .inr (5, [v1, .ref q1, v3, .ref q2, v5, .ref q3, .ref q4, v8, v9, v10, .ref q5, .ref q6, v13, .ref q7, .ref q8, v16, v17, v18, v19, .int 40, .int (-1), .ref q9, v23, .int 1000000000, .ref q10, .ref q19, .ref q20, v28, .ref q21, v30, v31, .int (-1)])), (q1, .inl (cT 4, 1024, .inr (.inr (.inr (.inr (fun _ => none)))))), (q2, .inl (cT 0, 4096, .inl (fun _ => 0))), (q3, .inl (cT 4, 1024, .inr (.inr (.inr (.inr (fun _ => none)))))), (q4, .inl (cT 4, 1024, .inr (.inr (.inr (.inr (fun _ => none)))))), (q5, .inl (cT 4, 256, .inr (.inr (.inr (.inr (fun _ => none)))))), (q6, .inl (cT 4, 256, .inr (.inr (.inr (.inr (fun _ => none)))))), (q7, .inl (cT 1, 64, .inl (fun _ => 0))), (q8, .inl (cT 1, 64, .inl (fun _ => 0))), (q9, .inl (cT 0, 1024, .inl (fun _ => 0))), (q10, .inl (cT 5, 8, .inr (.inr (.inr (.inr (x8 q11 q12 q13 q14 q15 q16 q17 q18)))))), (q11, .inl (cT 0, 4096, .inl (upd (upd (upd (upd (fun _ => 0) 0 110) 1 117) 2 108) 3 108))), (q12, .inl (cT 0, 4096, .inl (upd (upd (upd (upd (fun _ => 0) 0 110) 1 117) 2 108) 3 108))), (q13, .inl (cT 0, 4096, .inl (upd (upd (upd (upd (fun _ => 0) 0 110) 1 117) 2 108) 3 108))), (q14, .inl (cT 0, 4096, .inl (upd (upd (fun _ => 0) 0 110) 1 117))), (q15, .inl (cT 0, 4096, .inl (fun _ => 0))), (q16, .inl (cT 0, 4096, .inl (fun _ => 0))), (q17, .inl (cT 0, 4096, .inl (fun _ => 0))), (q18, .inl (cT 0, 4096, .inl (fun _ => 0))), (q19, .inl (cT 1, 8, .inl (upd (upd (upd (fun _ => 0) 0 4) 1 4) 2 4))), (q20, .inl (cT 0, 4096, .inl (fun _ => 0))), (q21, .inl (cT 0, 4096, .inl (fun _ => 0)))]) hP hD [] [0, 1, 2, 3, 4, 5, 6, 7, 8, 9, 10, 11, 12, 13, 14, 15, 16, 17, 18, 19, 20, 21] 22 rfl rfl (by decide) (by decide) hk1 hFc hP1 hD1
  generalize H1 = H at hP hS ⊢
  rw [hr9]
  refine W.eq (g2 := F0 m 177 ls [.int 108, .int 2, .ref q14]) rfl ?_
  refine lv_i2b hx hb dM_init_177 rfl ?_
  refine W.eq (g2 := F0 m 178 ls [.int 108, .int 2, .ref q14]) rfl ?_
  refine va_bast hx hb hK hP hD hS 14 0 rfl rfl (show ¬ ((2 : Int32) < 0 ∨ 4096 ≤ (2 : Int32).toNatClampNeg) by decide) dM_init_178 (fun H locs hP hD hS => ?_)
  obtain ⟨hP, hD⟩ : xPD D xcl A [(a0, .inr (5, [v1, .ref q1, v3, .ref q2, v5, .ref q3, .ref q4, v8, v9, v10, .ref q5, .ref q6, v13, .ref q7, .ref q8, v16, v17, v18, v19, .int 40, .int (-1), .ref q9, v23, .int 1000000000, .ref q10, .ref q19, .ref q20, v28, .ref q21, v30, v31, .int (-1)])), (q1, .inl (cT 4, 1024, .inr (.inr (.inr (.inr (fun _ => none)))))), (q2, .inl (cT 0, 4096, .inl (fun _ => 0))), (q3, .inl (cT 4, 1024, .inr (.inr (.inr (.inr (fun _ => none)))))), (q4, .inl (cT 4, 1024, .inr (.inr (.inr (.inr (fun _ => none)))))), (q5, .inl (cT 4, 256, .inr (.inr (.inr (.inr (fun _ => none)))))), (q6, .inl (cT 4, 256, .inr (.inr (.inr (.inr (fun _ => none)))))), (q7, .inl (cT 1, 64, .inl (fun _ => 0))), (q8, .inl (cT 1, 64, .inl (fun _ => 0))), (q9, .inl (cT 0, 1024, .inl (fun _ => 0))), (q10, .inl (cT 5, 8, .inr (.inr (.inr (.inr (x8 q11 q12 q13 q14 q15 q16 q17 q18)))))), (q11, .inl (cT 0, 4096, .inl (upd (upd (upd (upd (fun _ => 0) 0 110) 1 117) 2 108) 3 108))), (q12, .inl (cT 0, 4096, .inl (upd (upd (upd (upd (fun _ => 0) 0 110) 1 117) 2 108) 3 108))), (q13, .inl (cT 0, 4096, .inl (upd (upd (upd (upd (fun _ => 0) 0 110) 1 117) 2 108) 3 108))), (q14, .inl (cT 0, 4096, .inl (upd (upd (upd (fun _ => 0) 0 110) 1 117) 2 108))), (q15, .inl (cT 0, 4096, .inl (fun _ => 0))), (q16, .inl (cT 0, 4096, .inl (fun _ => 0))), (q17, .inl (cT 0, 4096, .inl (fun _ => 0))), (q18, .inl (cT 0, 4096, .inl (fun _ => 0))), (q19, .inl (cT 1, 8, .inl (upd (upd (upd (fun _ => 0) 0 4) 1 4) 2 4))), (q20, .inl (cT 0, 4096, .inl (fun _ => 0))), (q21, .inl (cT 0, 4096, .inl (fun _ => 0)))] H := ⟨hP, hD⟩
  refine lv_iinc (v := 3) (lv' := [(2, .int 3), (1, .int 3), (0, .ref a0)]) hx hb dM_init_179 hl (k := 0) rfl (by decide) (by decide) rfl (fun ls hl => ?_)
  refine lv_goto (tgt := 159) hx hb dM_init_182 (by decide) ?_
  refine lv_iload_n hx hb dM_init_159 rfl (lv_at hl 0 rfl) ?_
  refine lv_iconst (v := 4) hx hb dM_init_160 (by decide) ?_
  refine lv_icmp_ge (tgt := 185) hx hb dM_init_161 (by decide) (fun h => ((by revert h; decide : False)).elim) (fun _ => ?_)
  refine lv_aload_n hx hb dM_init_164 rfl (lv_at hl 2 rfl) ?_
  refine va_get (D := D) (ci := 5) (v := .ref q10) (C := "ValueBenchModel") (T := TM) (N := 32) hx hb htx inM hown hK hP 0 rfl rfl 24 (by decide) (htx _ kw_5_111) (fun _ h9 => h9) rfl dM_init_165 ?_
  refine lv_iload_n hx hb dM_init_168 rfl (lv_at hl 1 rfl) ?_
  refine xx_aldA hx hb hK hP 10 5 rfl rfl (show ¬ ((3 : Int32) < 0 ∨ 8 ≤ (3 : Int32).toNatClampNeg) by decide) dM_init_169 ?_
  refine W.eq (g2 := F0 m 170 ls [.ref q14]) rfl ?_
  refine lv_iload_n hx hb dM_init_170 rfl (lv_at hl 0 rfl) ?_
  refine va_ldcS (q := aK 10) hx hb hown (hZ.2.2.2.2.2.2.2.2.1 _ (List.mem_of_getElem? (i := 17) rfl)) dM_init_171 ?_
  refine lv_iload_n hx hb dM_init_173 rfl (lv_at hl 0 rfl) ?_
  obtain ⟨hPc, hDc, hFc⟩ := xcut (wc := []) hP hD hS hA [] rfl rfl (by decide)
  refine va_calli (va_runV (C := "java/lang/String") (As := [.int 3]) (rest := [.int 3, .ref q14]) ⟨hx, hb, hml, hown, htx⟩ (cJS_charAt_3 l hl9 D cT aK aV H.size) ⟨callB_of 1 htx (xw_goodC kw_2_80) rfl rfl rfl (htx _ kw_1_6) (htx _ kw_5_86) ⟨by decide, by decide, by decide +kernel⟩ ⟨Nat.le_of_ble_eq_true rfl, Nat.le_of_ble_eq_true rfl⟩, (htx _ kw_2_78), (htx _ kw_2_79)⟩ ⟨xPre_blind, vk_recv hZ.2.2.2.2.2.2.2.2.2.1 (i := 10) (by decide) hS, (fun U hU hW => ⟨rfl, xPre_of hZ hS hFc hPc hDc hK U hU hW⟩)⟩ rfl rfl hl.1 rfl (lv_room (Nat.le_of_ble_eq_true rfl)) dM_init_174 ⟨Nat.le_of_ble_eq_true rfl, Nat.le_of_ble_eq_true rfl⟩) hS (fun q _ h => hFc q h) hFc (fun r37 u9 t H1 locs ht hvm hr9 hB hz1 hk1 hS => ?_)
  obtain ⟨hP1, hK1, hD1⟩ := hB
  rw [ht] at hP1
  obtain ⟨hP, hD⟩ := xjoin (W := [(a0, .inr (5, [v1, .ref q1, v3, .ref q2, v5, .ref q3, .ref q4, v8, v9, v10, .ref q5, .ref q6, v13, .ref q7, .ref q8, v16, v17, v18, v19, .int 40, .int (-1), .ref q9, v23, .int 1000000000, .ref q10, .ref q19, .ref q20, v28, .ref q21, v30, v31, .int (-1)])), (q1, .inl (cT 4, 1024, .inr (.inr (.inr (.inr (fun _ => none)))))), (q2, .inl (cT 0, 4096, .inl (fun _ => 0))), (q3, .inl (cT 4, 1024, .inr (.inr (.inr (.inr (fun _ => none)))))), (q4, .inl (cT 4, 1024, .inr (.inr (.inr (.inr (fun _ => none)))))), (q5, .inl (cT 4, 256, .inr (.inr (.inr (.inr (fun _ => none)))))), (q6, .inl (cT 4, 256, .inr (.inr (.inr (.inr (fun _ => none)))))), (q7, .inl (cT 1, 64, .inl (fun _ => 0))), (q8, .inl (cT 1, 64, .inl (fun _ => 0))), (q9, .inl (cT 0, 1024, .inl (fun _ => 0))), (q10, .inl (cT 5, 8, .inr (.inr (.inr (.inr (x8 q11 q12 q13 q14 q15 q16 q17 q18)))))), (q11, .inl (cT 0, 4096, .inl (upd (upd (upd (upd (fun _ => 0) 0 110) 1 117) 2 108) 3 108))), (q12, .inl (cT 0, 4096, .inl (upd (upd (upd (upd (fun _ => 0) 0 110) 1 117) 2 108) 3 108))), (q13, .inl (cT 0, 4096, .inl (upd (upd (upd (upd (fun _ => 0) 0 110) 1 117) 2 108) 3 108))), (q14, .inl (cT 0, 4096, .inl (upd (upd (upd (fun _ => 0) 0 110) 1 117) 2 108))), (q15, .inl (cT 0, 4096, .inl (fun _ => 0))), (q16, .inl (cT 0, 4096, .inl (fun _ => 0))), (q17, .inl (cT 0, 4096, .inl (fun _ => 0))), (q18, .inl (cT 0, 4096, .inl (fun _ => 0))), (q19, .inl (cT 1, 8, .inl (upd (upd (upd (fun _ => 0) 0 4) 1 4) 2 4))), (q20, .inl (cT 0, 4096, .inl (fun _ => 0))), (q21, .inl (cT 0, 4096, .inl (fun _ => 0)))]) hP hD [] [0, 1, 2, 3, 4, 5, 6, 7, 8, 9, 10, 11, 12, 13, 14, 15, 16, 17, 18, 19, 20, 21] 22 rfl rfl (by decide) (by decide) hk1 hFc hP1 hD1
  generalize H1 = H at hP hS ⊢
  rw [hr9]
  refine W.eq (g2 := F0 m 177 ls [.int 108, .int 3, .ref q14]) rfl ?_
  refine lv_i2b hx hb dM_init_177 rfl ?_
  refine W.eq (g2 := F0 m 178 ls [.int 108, .int 3, .ref q14]) rfl ?_
  refine va_bast hx hb hK hP hD hS 14 0 rfl rfl (show ¬ ((3 : Int32) < 0 ∨ 4096 ≤ (3 : Int32).toNatClampNeg) by decide) dM_init_178 (fun H locs hP hD hS => ?_)
  obtain ⟨hP, hD⟩ : xPD D xcl A [(a0, .inr (5, [v1, .ref q1, v3, .ref q2, v5, .ref q3, .ref q4, v8, v9, v10, .ref q5, .ref q6, v13, .ref q7, .ref q8, v16, v17, v18, v19, .int 40, .int (-1), .ref q9, v23, .int 1000000000, .ref q10, .ref q19, .ref q20, v28, .ref q21, v30, v31, .int (-1)])), (q1, .inl (cT 4, 1024, .inr (.inr (.inr (.inr (fun _ => none)))))), (q2, .inl (cT 0, 4096, .inl (fun _ => 0))), (q3, .inl (cT 4, 1024, .inr (.inr (.inr (.inr (fun _ => none)))))), (q4, .inl (cT 4, 1024, .inr (.inr (.inr (.inr (fun _ => none)))))), (q5, .inl (cT 4, 256, .inr (.inr (.inr (.inr (fun _ => none)))))), (q6, .inl (cT 4, 256, .inr (.inr (.inr (.inr (fun _ => none)))))), (q7, .inl (cT 1, 64, .inl (fun _ => 0))), (q8, .inl (cT 1, 64, .inl (fun _ => 0))), (q9, .inl (cT 0, 1024, .inl (fun _ => 0))), (q10, .inl (cT 5, 8, .inr (.inr (.inr (.inr (x8 q11 q12 q13 q14 q15 q16 q17 q18)))))), (q11, .inl (cT 0, 4096, .inl (upd (upd (upd (upd (fun _ => 0) 0 110) 1 117) 2 108) 3 108))), (q12, .inl (cT 0, 4096, .inl (upd (upd (upd (upd (fun _ => 0) 0 110) 1 117) 2 108) 3 108))), (q13, .inl (cT 0, 4096, .inl (upd (upd (upd (upd (fun _ => 0) 0 110) 1 117) 2 108) 3 108))), (q14, .inl (cT 0, 4096, .inl (upd (upd (upd (upd (fun _ => 0) 0 110) 1 117) 2 108) 3 108))), (q15, .inl (cT 0, 4096, .inl (fun _ => 0))), (q16, .inl (cT 0, 4096, .inl (fun _ => 0))), (q17, .inl (cT 0, 4096, .inl (fun _ => 0))), (q18, .inl (cT 0, 4096, .inl (fun _ => 0))), (q19, .inl (cT 1, 8, .inl (upd (upd (upd (fun _ => 0) 0 4) 1 4) 2 4))), (q20, .inl (cT 0, 4096, .inl (fun _ => 0))), (q21, .inl (cT 0, 4096, .inl (fun _ => 0)))] H := ⟨hP, hD⟩
  refine lv_iinc (v := 4) (lv' := [(2, .int 4), (1, .int 3), (0, .ref a0)]) hx hb dM_init_179 hl (k := 0) rfl (by decide) (by decide) rfl (fun ls hl => ?_)
  refine lv_goto (tgt := 159) hx hb dM_init_182 (by decide) ?_
  refine lv_iload_n hx hb dM_init_159 rfl (lv_at hl 0 rfl) ?_
  refine lv_iconst (v := 4) hx hb dM_init_160 (by decide) ?_
  refine lv_icmp_ge (tgt := 185) hx hb dM_init_161 (by decide) (fun _ => ?_) (fun h => ((by revert h; decide : False)).elim)
  refine lv_aload_n hx hb dM_init_185 rfl (lv_at hl 2 rfl) ?_
  refine va_get (D := D) (ci := 5) (v := .ref q19) (C := "ValueBenchModel") (T := TM) (N := 32) hx hb htx inM hown hK hP 0 rfl rfl 25 (by decide) (htx _ kw_5_112) (fun _ h9 => h9) rfl dM_init_186 ?_
  refine lv_iload_n hx hb dM_init_189 rfl (lv_at hl 1 rfl) ?_
  refine lv_iconst (v := 4) hx hb dM_init_190 (by decide) ?_
  refine va_iast hx hb hK hP hD hS 19 1 rfl rfl (show ¬ ((3 : Int32) < 0 ∨ 8 ≤ (3 : Int32).toNatClampNeg) by decide) dM_init_191 (fun H locs hP hD hS => ?_)
  obtain ⟨hP, hD⟩ : xPD D xcl A [(a0, .inr (5, [v1, .ref q1, v3, .ref q2, v5, .ref q3, .ref q4, v8, v9, v10, .ref q5, .ref q6, v13, .ref q7, .ref q8, v16, v17, v18, v19, .int 40, .int (-1), .ref q9, v23, .int 1000000000, .ref q10, .ref q19, .ref q20, v28, .ref q21, v30, v31, .int (-1)])), (q1, .inl (cT 4, 1024, .inr (.inr (.inr (.inr (fun _ => none)))))), (q2, .inl (cT 0, 4096, .inl (fun _ => 0))), (q3, .inl (cT 4, 1024, .inr (.inr (.inr (.inr (fun _ => none)))))), (q4, .inl (cT 4, 1024, .inr (.inr (.inr (.inr (fun _ => none)))))), (q5, .inl (cT 4, 256, .inr (.inr (.inr (.inr (fun _ => none)))))), (q6, .inl (cT 4, 256, .inr (.inr (.inr (.inr (fun _ => none)))))), (q7, .inl (cT 1, 64, .inl (fun _ => 0))), (q8, .inl (cT 1, 64, .inl (fun _ => 0))), (q9, .inl (cT 0, 1024, .inl (fun _ => 0))), (q10, .inl (cT 5, 8, .inr (.inr (.inr (.inr (x8 q11 q12 q13 q14 q15 q16 q17 q18)))))), (q11, .inl (cT 0, 4096, .inl (upd (upd (upd (upd (fun _ => 0) 0 110) 1 117) 2 108) 3 108))), (q12, .inl (cT 0, 4096, .inl (upd (upd (upd (upd (fun _ => 0) 0 110) 1 117) 2 108) 3 108))), (q13, .inl (cT 0, 4096, .inl (upd (upd (upd (upd (fun _ => 0) 0 110) 1 117) 2 108) 3 108))), (q14, .inl (cT 0, 4096, .inl (upd (upd (upd (upd (fun _ => 0) 0 110) 1 117) 2 108) 3 108))), (q15, .inl (cT 0, 4096, .inl (fun _ => 0))), (q16, .inl (cT 0, 4096, .inl (fun _ => 0))), (q17, .inl (cT 0, 4096, .inl (fun _ => 0))), (q18, .inl (cT 0, 4096, .inl (fun _ => 0))), (q19, .inl (cT 1, 8, .inl (upd (upd (upd (upd (fun _ => 0) 0 4) 1 4) 2 4) 3 4))), (q20, .inl (cT 0, 4096, .inl (fun _ => 0))), (q21, .inl (cT 0, 4096, .inl (fun _ => 0)))] H := ⟨hP, hD⟩
  refine lv_iinc (v := 4) (lv' := [(1, .int 4), (2, .int 4), (0, .ref a0)]) hx hb dM_init_192 hl (k := 1) rfl (by decide) (by decide) rfl (fun ls hl => ?_)
  refine lv_goto (tgt := 151) hx hb dM_init_195 (by decide) ?_
  refine lv_iload_n hx hb dM_init_151 rfl (lv_at hl 0 rfl) ?_
  refine lv_bipush (v := 8) hx hb dM_init_152 (by decide) ?_
  refine lv_icmp_ge (tgt := 198) hx hb dM_init_154 (by decide) (fun h => ((by revert h; decide : False)).elim) (fun _ => ?_)
  refine lv_iconst (v := 0) hx hb dM_init_157 (by decide) ?_
  refine lv_istore_n (lv' := [(2, .int 0), (1, .int 4), (0, .ref a0)]) hx hb dM_init_158 rfl hl (by decide) rfl (fun ls hl => ?_)
  refine lv_iload_n hx hb dM_init_159 rfl (lv_at hl 0 rfl) ?_
  refine lv_iconst (v := 4) hx hb dM_init_160 (by decide) ?_
  refine lv_icmp_ge (tgt := 185) hx hb dM_init_161 (by decide) (fun h => ((by revert h; decide : False)).elim) (fun _ => ?_)
  refine lv_aload_n hx hb dM_init_164 rfl (lv_at hl 2 rfl) ?_
  refine va_get (D := D) (ci := 5) (v := .ref q10) (C := "ValueBenchModel") (T := TM) (N := 32) hx hb htx inM hown hK hP 0 rfl rfl 24 (by decide) (htx _ kw_5_111) (fun _ h9 => h9) rfl dM_init_165 ?_
  refine lv_iload_n hx hb dM_init_168 rfl (lv_at hl 1 rfl) ?_
  refine xx_aldA hx hb hK hP 10 5 rfl rfl (show ¬ ((4 : Int32) < 0 ∨ 8 ≤ (4 : Int32).toNatClampNeg) by decide) dM_init_169 ?_
  refine W.eq (g2 := F0 m 170 ls [.ref q15]) rfl ?_
  refine lv_iload_n hx hb dM_init_170 rfl (lv_at hl 0 rfl) ?_
  refine va_ldcS (q := aK 10) hx hb hown (hZ.2.2.2.2.2.2.2.2.1 _ (List.mem_of_getElem? (i := 17) rfl)) dM_init_171 ?_
  refine lv_iload_n hx hb dM_init_173 rfl (lv_at hl 0 rfl) ?_
  obtain ⟨hPc, hDc, hFc⟩ := xcut (wc := []) hP hD hS hA [] rfl rfl (by decide)
  refine va_calli (va_runV (C := "java/lang/String") (As := [.int 0]) (rest := [.int 0, .ref q15]) ⟨hx, hb, hml, hown, htx⟩ (cJS_charAt_0 l hl9 D cT aK aV H.size) ⟨callB_of 1 htx (xw_goodC kw_2_80) rfl rfl rfl (htx _ kw_1_6) (htx _ kw_5_86) ⟨by decide, by decide, by decide +kernel⟩ ⟨Nat.le_of_ble_eq_true rfl, Nat.le_of_ble_eq_true rfl⟩, (htx _ kw_2_78), (htx _ kw_2_79)⟩ ⟨xPre_blind, vk_recv hZ.2.2.2.2.2.2.2.2.2.1 (i := 10) (by decide) hS, (fun U hU hW => ⟨rfl, xPre_of hZ hS hFc hPc hDc hK U hU hW⟩)⟩ rfl rfl hl.1 rfl (lv_room (Nat.le_of_ble_eq_true rfl)) dM_init_174 ⟨Nat.le_of_ble_eq_true rfl, Nat.le_of_ble_eq_true rfl⟩) hS (fun q _ h => hFc q h) hFc (fun r38 u9 t H1 locs ht hvm hr9 hB hz1 hk1 hS => ?_)
  obtain ⟨hP1, hK1, hD1⟩ := hB
  rw [ht] at hP1
  obtain ⟨hP, hD⟩ := xjoin (W := [(a0, .inr (5, [v1, .ref q1, v3, .ref q2, v5, .ref q3, .ref q4, v8, v9, v10, .ref q5, .ref q6, v13, .ref q7, .ref q8, v16, v17, v18, v19, .int 40, .int (-1), .ref q9, v23, .int 1000000000, .ref q10, .ref q19, .ref q20, v28, .ref q21, v30, v31, .int (-1)])), (q1, .inl (cT 4, 1024, .inr (.inr (.inr (.inr (fun _ => none)))))), (q2, .inl (cT 0, 4096, .inl (fun _ => 0))), (q3, .inl (cT 4, 1024, .inr (.inr (.inr (.inr (fun _ => none)))))), (q4, .inl (cT 4, 1024, .inr (.inr (.inr (.inr (fun _ => none)))))), (q5, .inl (cT 4, 256, .inr (.inr (.inr (.inr (fun _ => none)))))), (q6, .inl (cT 4, 256, .inr (.inr (.inr (.inr (fun _ => none)))))), (q7, .inl (cT 1, 64, .inl (fun _ => 0))), (q8, .inl (cT 1, 64, .inl (fun _ => 0))), (q9, .inl (cT 0, 1024, .inl (fun _ => 0))), (q10, .inl (cT 5, 8, .inr (.inr (.inr (.inr (x8 q11 q12 q13 q14 q15 q16 q17 q18)))))), (q11, .inl (cT 0, 4096, .inl (upd (upd (upd (upd (fun _ => 0) 0 110) 1 117) 2 108) 3 108))), (q12, .inl (cT 0, 4096, .inl (upd (upd (upd (upd (fun _ => 0) 0 110) 1 117) 2 108) 3 108))), (q13, .inl (cT 0, 4096, .inl (upd (upd (upd (upd (fun _ => 0) 0 110) 1 117) 2 108) 3 108))), (q14, .inl (cT 0, 4096, .inl (upd (upd (upd (upd (fun _ => 0) 0 110) 1 117) 2 108) 3 108))), (q15, .inl (cT 0, 4096, .inl (fun _ => 0))), (q16, .inl (cT 0, 4096, .inl (fun _ => 0))), (q17, .inl (cT 0, 4096, .inl (fun _ => 0))), (q18, .inl (cT 0, 4096, .inl (fun _ => 0))), (q19, .inl (cT 1, 8, .inl (upd (upd (upd (upd (fun _ => 0) 0 4) 1 4) 2 4) 3 4))), (q20, .inl (cT 0, 4096, .inl (fun _ => 0))), (q21, .inl (cT 0, 4096, .inl (fun _ => 0)))]) hP hD [] [0, 1, 2, 3, 4, 5, 6, 7, 8, 9, 10, 11, 12, 13, 14, 15, 16, 17, 18, 19, 20, 21] 22 rfl rfl (by decide) (by decide) hk1 hFc hP1 hD1
  generalize H1 = H at hP hS ⊢
  rw [hr9]
  refine W.eq (g2 := F0 m 177 ls [.int 110, .int 0, .ref q15]) rfl ?_
  refine lv_i2b hx hb dM_init_177 rfl ?_
  refine W.eq (g2 := F0 m 178 ls [.int 110, .int 0, .ref q15]) rfl ?_
  refine va_bast hx hb hK hP hD hS 15 0 rfl rfl (show ¬ ((0 : Int32) < 0 ∨ 4096 ≤ (0 : Int32).toNatClampNeg) by decide) dM_init_178 (fun H locs hP hD hS => ?_)
  obtain ⟨hP, hD⟩ : xPD D xcl A [(a0, .inr (5, [v1, .ref q1, v3, .ref q2, v5, .ref q3, .ref q4, v8, v9, v10, .ref q5, .ref q6, v13, .ref q7, .ref q8, v16, v17, v18, v19, .int 40, .int (-1), .ref q9, v23, .int 1000000000, .ref q10, .ref q19, .ref q20, v28, .ref q21, v30, v31, .int (-1)])), (q1, .inl (cT 4, 1024, .inr (.inr (.inr (.inr (fun _ => none)))))), (q2, .inl (cT 0, 4096, .inl (fun _ => 0))), (q3, .inl (cT 4, 1024, .inr (.inr (.inr (.inr (fun _ => none)))))), (q4, .inl (cT 4, 1024, .inr (.inr (.inr (.inr (fun _ => none)))))), (q5, .inl (cT 4, 256, .inr (.inr (.inr (.inr (fun _ => none)))))), (q6, .inl (cT 4, 256, .inr (.inr (.inr (.inr (fun _ => none)))))), (q7, .inl (cT 1, 64, .inl (fun _ => 0))), (q8, .inl (cT 1, 64, .inl (fun _ => 0))), (q9, .inl (cT 0, 1024, .inl (fun _ => 0))), (q10, .inl (cT 5, 8, .inr (.inr (.inr (.inr (x8 q11 q12 q13 q14 q15 q16 q17 q18)))))), (q11, .inl (cT 0, 4096, .inl (upd (upd (upd (upd (fun _ => 0) 0 110) 1 117) 2 108) 3 108))), (q12, .inl (cT 0, 4096, .inl (upd (upd (upd (upd (fun _ => 0) 0 110) 1 117) 2 108) 3 108))), (q13, .inl (cT 0, 4096, .inl (upd (upd (upd (upd (fun _ => 0) 0 110) 1 117) 2 108) 3 108))), (q14, .inl (cT 0, 4096, .inl (upd (upd (upd (upd (fun _ => 0) 0 110) 1 117) 2 108) 3 108))), (q15, .inl (cT 0, 4096, .inl (upd (fun _ => 0) 0 110))), (q16, .inl (cT 0, 4096, .inl (fun _ => 0))), (q17, .inl (cT 0, 4096, .inl (fun _ => 0))), (q18, .inl (cT 0, 4096, .inl (fun _ => 0))), (q19, .inl (cT 1, 8, .inl (upd (upd (upd (upd (fun _ => 0) 0 4) 1 4) 2 4) 3 4))), (q20, .inl (cT 0, 4096, .inl (fun _ => 0))), (q21, .inl (cT 0, 4096, .inl (fun _ => 0)))] H := ⟨hP, hD⟩
  refine lv_iinc (v := 1) (lv' := [(2, .int 1), (1, .int 4), (0, .ref a0)]) hx hb dM_init_179 hl (k := 0) rfl (by decide) (by decide) rfl (fun ls hl => ?_)
  refine lv_goto (tgt := 159) hx hb dM_init_182 (by decide) ?_
  refine lv_iload_n hx hb dM_init_159 rfl (lv_at hl 0 rfl) ?_
  refine lv_iconst (v := 4) hx hb dM_init_160 (by decide) ?_
  refine lv_icmp_ge (tgt := 185) hx hb dM_init_161 (by decide) (fun h => ((by revert h; decide : False)).elim) (fun _ => ?_)
  refine lv_aload_n hx hb dM_init_164 rfl (lv_at hl 2 rfl) ?_
  refine va_get (D := D) (ci := 5) (v := .ref q10) (C := "ValueBenchModel") (T := TM) (N := 32) hx hb htx inM hown hK hP 0 rfl rfl 24 (by decide) (htx _ kw_5_111) (fun _ h9 => h9) rfl dM_init_165 ?_
  refine lv_iload_n hx hb dM_init_168 rfl (lv_at hl 1 rfl) ?_
  refine xx_aldA hx hb hK hP 10 5 rfl rfl (show ¬ ((4 : Int32) < 0 ∨ 8 ≤ (4 : Int32).toNatClampNeg) by decide) dM_init_169 ?_
  refine W.eq (g2 := F0 m 170 ls [.ref q15]) rfl ?_
  refine lv_iload_n hx hb dM_init_170 rfl (lv_at hl 0 rfl) ?_
  refine va_ldcS (q := aK 10) hx hb hown (hZ.2.2.2.2.2.2.2.2.1 _ (List.mem_of_getElem? (i := 17) rfl)) dM_init_171 ?_
  refine lv_iload_n hx hb dM_init_173 rfl (lv_at hl 0 rfl) ?_
  obtain ⟨hPc, hDc, hFc⟩ := xcut (wc := []) hP hD hS hA [] rfl rfl (by decide)
  refine va_calli (va_runV (C := "java/lang/String") (As := [.int 1]) (rest := [.int 1, .ref q15]) ⟨hx, hb, hml, hown, htx⟩ (cJS_charAt_1 l hl9 D cT aK aV H.size) ⟨callB_of 1 htx (xw_goodC kw_2_80) rfl rfl rfl (htx _ kw_1_6) (htx _ kw_5_86) ⟨by decide, by decide, by decide +kernel⟩ ⟨Nat.le_of_ble_eq_true rfl, Nat.le_of_ble_eq_true rfl⟩, (htx _ kw_2_78), (htx _ kw_2_79)⟩ ⟨xPre_blind, vk_recv hZ.2.2.2.2.2.2.2.2.2.1 (i := 10) (by decide) hS, (fun U hU hW => ⟨rfl, xPre_of hZ hS hFc hPc hDc hK U hU hW⟩)⟩ rfl rfl hl.1 rfl (lv_room (Nat.le_of_ble_eq_true rfl)) dM_init_174 ⟨Nat.le_of_ble_eq_true rfl, Nat.le_of_ble_eq_true rfl⟩) hS (fun q _ h => hFc q h) hFc (fun r39 u9 t H1 locs ht hvm hr9 hB hz1 hk1 hS => ?_)
  obtain ⟨hP1, hK1, hD1⟩ := hB
  rw [ht] at hP1
  obtain ⟨hP, hD⟩ := xjoin (W := [(a0, .inr (5, [v1, .ref q1, v3, .ref q2, v5, .ref q3, .ref q4, v8, v9, v10, .ref q5, .ref q6, v13, .ref q7, .ref q8, v16, v17, v18, v19, .int 40, .int (-1), .ref q9, v23, .int 1000000000, .ref q10, .ref q19, .ref q20, v28, .ref q21, v30, v31, .int (-1)])), (q1, .inl (cT 4, 1024, .inr (.inr (.inr (.inr (fun _ => none)))))), (q2, .inl (cT 0, 4096, .inl (fun _ => 0))), (q3, .inl (cT 4, 1024, .inr (.inr (.inr (.inr (fun _ => none)))))), (q4, .inl (cT 4, 1024, .inr (.inr (.inr (.inr (fun _ => none)))))), (q5, .inl (cT 4, 256, .inr (.inr (.inr (.inr (fun _ => none)))))), (q6, .inl (cT 4, 256, .inr (.inr (.inr (.inr (fun _ => none)))))), (q7, .inl (cT 1, 64, .inl (fun _ => 0))), (q8, .inl (cT 1, 64, .inl (fun _ => 0))), (q9, .inl (cT 0, 1024, .inl (fun _ => 0))), (q10, .inl (cT 5, 8, .inr (.inr (.inr (.inr (x8 q11 q12 q13 q14 q15 q16 q17 q18)))))), (q11, .inl (cT 0, 4096, .inl (upd (upd (upd (upd (fun _ => 0) 0 110) 1 117) 2 108) 3 108))), (q12, .inl (cT 0, 4096, .inl (upd (upd (upd (upd (fun _ => 0) 0 110) 1 117) 2 108) 3 108))), (q13, .inl (cT 0, 4096, .inl (upd (upd (upd (upd (fun _ => 0) 0 110) 1 117) 2 108) 3 108))), (q14, .inl (cT 0, 4096, .inl (upd (upd (upd (upd (fun _ => 0) 0 110) 1 117) 2 108) 3 108))), (q15, .inl (cT 0, 4096, .inl (upd (fun _ => 0) 0 110))), (q16, .inl (cT 0, 4096, .inl (fun _ => 0))), (q17, .inl (cT 0, 4096, .inl (fun _ => 0))), (q18, .inl (cT 0, 4096, .inl (fun _ => 0))), (q19, .inl (cT 1, 8, .inl (upd (upd (upd (upd (fun _ => 0) 0 4) 1 4) 2 4) 3 4))), (q20, .inl (cT 0, 4096, .inl (fun _ => 0))), (q21, .inl (cT 0, 4096, .inl (fun _ => 0)))]) hP hD [] [0, 1, 2, 3, 4, 5, 6, 7, 8, 9, 10, 11, 12, 13, 14, 15, 16, 17, 18, 19, 20, 21] 22 rfl rfl (by decide) (by decide) hk1 hFc hP1 hD1
  generalize H1 = H at hP hS ⊢
  rw [hr9]
  refine W.eq (g2 := F0 m 177 ls [.int 117, .int 1, .ref q15]) rfl ?_
  refine lv_i2b hx hb dM_init_177 rfl ?_
  refine W.eq (g2 := F0 m 178 ls [.int 117, .int 1, .ref q15]) rfl ?_
  refine va_bast hx hb hK hP hD hS 15 0 rfl rfl (show ¬ ((1 : Int32) < 0 ∨ 4096 ≤ (1 : Int32).toNatClampNeg) by decide) dM_init_178 (fun H locs hP hD hS => ?_)
  obtain ⟨hP, hD⟩ : xPD D xcl A [(a0, .inr (5, [v1, .ref q1, v3, .ref q2, v5, .ref q3, .ref q4, v8, v9, v10, .ref q5, .ref q6, v13, .ref q7, .ref q8, v16, v17, v18, v19, .int 40, .int (-1), .ref q9, v23, .int 1000000000, .ref q10, .ref q19, .ref q20, v28, .ref q21, v30, v31, .int (-1)])), (q1, .inl (cT 4, 1024, .inr (.inr (.inr (.inr (fun _ => none)))))), (q2, .inl (cT 0, 4096, .inl (fun _ => 0))), (q3, .inl (cT 4, 1024, .inr (.inr (.inr (.inr (fun _ => none)))))), (q4, .inl (cT 4, 1024, .inr (.inr (.inr (.inr (fun _ => none)))))), (q5, .inl (cT 4, 256, .inr (.inr (.inr (.inr (fun _ => none)))))), (q6, .inl (cT 4, 256, .inr (.inr (.inr (.inr (fun _ => none)))))), (q7, .inl (cT 1, 64, .inl (fun _ => 0))), (q8, .inl (cT 1, 64, .inl (fun _ => 0))), (q9, .inl (cT 0, 1024, .inl (fun _ => 0))), (q10, .inl (cT 5, 8, .inr (.inr (.inr (.inr (x8 q11 q12 q13 q14 q15 q16 q17 q18)))))), (q11, .inl (cT 0, 4096, .inl (upd (upd (upd (upd (fun _ => 0) 0 110) 1 117) 2 108) 3 108))), (q12, .inl (cT 0, 4096, .inl (upd (upd (upd (upd (fun _ => 0) 0 110) 1 117) 2 108) 3 108))), (q13, .inl (cT 0, 4096, .inl (upd (upd (upd (upd (fun _ => 0) 0 110) 1 117) 2 108) 3 108))), (q14, .inl (cT 0, 4096, .inl (upd (upd (upd (upd (fun _ => 0) 0 110) 1 117) 2 108) 3 108))), (q15, .inl (cT 0, 4096, .inl (upd (upd (fun _ => 0) 0 110) 1 117))), (q16, .inl (cT 0, 4096, .inl (fun _ => 0))), (q17, .inl (cT 0, 4096, .inl (fun _ => 0))), (q18, .inl (cT 0, 4096, .inl (fun _ => 0))), (q19, .inl (cT 1, 8, .inl (upd (upd (upd (upd (fun _ => 0) 0 4) 1 4) 2 4) 3 4))), (q20, .inl (cT 0, 4096, .inl (fun _ => 0))), (q21, .inl (cT 0, 4096, .inl (fun _ => 0)))] H := ⟨hP, hD⟩
  refine lv_iinc (v := 2) (lv' := [(2, .int 2), (1, .int 4), (0, .ref a0)]) hx hb dM_init_179 hl (k := 0) rfl (by decide) (by decide) rfl (fun ls hl => ?_)
  refine lv_goto (tgt := 159) hx hb dM_init_182 (by decide) ?_
  refine lv_iload_n hx hb dM_init_159 rfl (lv_at hl 0 rfl) ?_
  refine lv_iconst (v := 4) hx hb dM_init_160 (by decide) ?_
  refine lv_icmp_ge (tgt := 185) hx hb dM_init_161 (by decide) (fun h => ((by revert h; decide : False)).elim) (fun _ => ?_)
  refine lv_aload_n hx hb dM_init_164 rfl (lv_at hl 2 rfl) ?_
  refine va_get (D := D) (ci := 5) (v := .ref q10) (C := "ValueBenchModel") (T := TM) (N := 32) hx hb htx inM hown hK hP 0 rfl rfl 24 (by decide) (htx _ kw_5_111) (fun _ h9 => h9) rfl dM_init_165 ?_
  refine lv_iload_n hx hb dM_init_168 rfl (lv_at hl 1 rfl) ?_
  refine xx_aldA hx hb hK hP 10 5 rfl rfl (show ¬ ((4 : Int32) < 0 ∨ 8 ≤ (4 : Int32).toNatClampNeg) by decide) dM_init_169 ?_
  refine W.eq (g2 := F0 m 170 ls [.ref q15]) rfl ?_
  refine lv_iload_n hx hb dM_init_170 rfl (lv_at hl 0 rfl) ?_
  refine va_ldcS (q := aK 10) hx hb hown (hZ.2.2.2.2.2.2.2.2.1 _ (List.mem_of_getElem? (i := 17) rfl)) dM_init_171 ?_
  refine lv_iload_n hx hb dM_init_173 rfl (lv_at hl 0 rfl) ?_
  obtain ⟨hPc, hDc, hFc⟩ := xcut (wc := []) hP hD hS hA [] rfl rfl (by decide)
  refine va_calli (va_runV (C := "java/lang/String") (As := [.int 2]) (rest := [.int 2, .ref q15]) ⟨hx, hb, hml, hown, htx⟩ (cJS_charAt_2 l hl9 D cT aK aV H.size) ⟨callB_of 1 htx (xw_goodC kw_2_80) rfl rfl rfl (htx _ kw_1_6) (htx _ kw_5_86) ⟨by decide, by decide, by decide +kernel⟩ ⟨Nat.le_of_ble_eq_true rfl, Nat.le_of_ble_eq_true rfl⟩, (htx _ kw_2_78), (htx _ kw_2_79)⟩ ⟨xPre_blind, vk_recv hZ.2.2.2.2.2.2.2.2.2.1 (i := 10) (by decide) hS, (fun U hU hW => ⟨rfl, xPre_of hZ hS hFc hPc hDc hK U hU hW⟩)⟩ rfl rfl hl.1 rfl (lv_room (Nat.le_of_ble_eq_true rfl)) dM_init_174 ⟨Nat.le_of_ble_eq_true rfl, Nat.le_of_ble_eq_true rfl⟩) hS (fun q _ h => hFc q h) hFc (fun r40 u9 t H1 locs ht hvm hr9 hB hz1 hk1 hS => ?_)
  obtain ⟨hP1, hK1, hD1⟩ := hB
  rw [ht] at hP1
  obtain ⟨hP, hD⟩ := xjoin (W := [(a0, .inr (5, [v1, .ref q1, v3, .ref q2, v5, .ref q3, .ref q4, v8, v9, v10, .ref q5, .ref q6, v13, .ref q7, .ref q8, v16, v17, v18, v19, .int 40, .int (-1), .ref q9, v23, .int 1000000000, .ref q10, .ref q19, .ref q20, v28, .ref q21, v30, v31, .int (-1)])), (q1, .inl (cT 4, 1024, .inr (.inr (.inr (.inr (fun _ => none)))))), (q2, .inl (cT 0, 4096, .inl (fun _ => 0))), (q3, .inl (cT 4, 1024, .inr (.inr (.inr (.inr (fun _ => none)))))), (q4, .inl (cT 4, 1024, .inr (.inr (.inr (.inr (fun _ => none)))))), (q5, .inl (cT 4, 256, .inr (.inr (.inr (.inr (fun _ => none)))))), (q6, .inl (cT 4, 256, .inr (.inr (.inr (.inr (fun _ => none)))))), (q7, .inl (cT 1, 64, .inl (fun _ => 0))), (q8, .inl (cT 1, 64, .inl (fun _ => 0))), (q9, .inl (cT 0, 1024, .inl (fun _ => 0))), (q10, .inl (cT 5, 8, .inr (.inr (.inr (.inr (x8 q11 q12 q13 q14 q15 q16 q17 q18)))))), (q11, .inl (cT 0, 4096, .inl (upd (upd (upd (upd (fun _ => 0) 0 110) 1 117) 2 108) 3 108))), (q12, .inl (cT 0, 4096, .inl (upd (upd (upd (upd (fun _ => 0) 0 110) 1 117) 2 108) 3 108))), (q13, .inl (cT 0, 4096, .inl (upd (upd (upd (upd (fun _ => 0) 0 110) 1 117) 2 108) 3 108))), (q14, .inl (cT 0, 4096, .inl (upd (upd (upd (upd (fun _ => 0) 0 110) 1 117) 2 108) 3 108))), (q15, .inl (cT 0, 4096, .inl (upd (upd (fun _ => 0) 0 110) 1 117))), (q16, .inl (cT 0, 4096, .inl (fun _ => 0))), (q17, .inl (cT 0, 4096, .inl (fun _ => 0))), (q18, .inl (cT 0, 4096, .inl (fun _ => 0))), (q19, .inl (cT 1, 8, .inl (upd (upd (upd (upd (fun _ => 0) 0 4) 1 4) 2 4) 3 4))), (q20, .inl (cT 0, 4096, .inl (fun _ => 0))), (q21, .inl (cT 0, 4096, .inl (fun _ => 0)))]) hP hD [] [0, 1, 2, 3, 4, 5, 6, 7, 8, 9, 10, 11, 12, 13, 14, 15, 16, 17, 18, 19, 20, 21] 22 rfl rfl (by decide) (by decide) hk1 hFc hP1 hD1
  generalize H1 = H at hP hS ⊢
  rw [hr9]
  refine W.eq (g2 := F0 m 177 ls [.int 108, .int 2, .ref q15]) rfl ?_
  refine lv_i2b hx hb dM_init_177 rfl ?_
  refine W.eq (g2 := F0 m 178 ls [.int 108, .int 2, .ref q15]) rfl ?_
  refine va_bast hx hb hK hP hD hS 15 0 rfl rfl (show ¬ ((2 : Int32) < 0 ∨ 4096 ≤ (2 : Int32).toNatClampNeg) by decide) dM_init_178 (fun H locs hP hD hS => ?_)
  obtain ⟨hP, hD⟩ : xPD D xcl A [(a0, .inr (5, [v1, .ref q1, v3, .ref q2, v5, .ref q3, .ref q4, v8, v9, v10, .ref q5, .ref q6, v13, .ref q7, .ref q8, v16, v17, v18, v19, .int 40, .int (-1), .ref q9, v23, .int 1000000000, .ref q10, .ref q19, .ref q20, v28, .ref q21, v30, v31, .int (-1)])), (q1, .inl (cT 4, 1024, .inr (.inr (.inr (.inr (fun _ => none)))))), (q2, .inl (cT 0, 4096, .inl (fun _ => 0))), (q3, .inl (cT 4, 1024, .inr (.inr (.inr (.inr (fun _ => none)))))), (q4, .inl (cT 4, 1024, .inr (.inr (.inr (.inr (fun _ => none)))))), (q5, .inl (cT 4, 256, .inr (.inr (.inr (.inr (fun _ => none)))))), (q6, .inl (cT 4, 256, .inr (.inr (.inr (.inr (fun _ => none)))))), (q7, .inl (cT 1, 64, .inl (fun _ => 0))), (q8, .inl (cT 1, 64, .inl (fun _ => 0))), (q9, .inl (cT 0, 1024, .inl (fun _ => 0))), (q10, .inl (cT 5, 8, .inr (.inr (.inr (.inr (x8 q11 q12 q13 q14 q15 q16 q17 q18)))))), (q11, .inl (cT 0, 4096, .inl (upd (upd (upd (upd (fun _ => 0) 0 110) 1 117) 2 108) 3 108))), (q12, .inl (cT 0, 4096, .inl (upd (upd (upd (upd (fun _ => 0) 0 110) 1 117) 2 108) 3 108))), (q13, .inl (cT 0, 4096, .inl (upd (upd (upd (upd (fun _ => 0) 0 110) 1 117) 2 108) 3 108))), (q14, .inl (cT 0, 4096, .inl (upd (upd (upd (upd (fun _ => 0) 0 110) 1 117) 2 108) 3 108))), (q15, .inl (cT 0, 4096, .inl (upd (upd (upd (fun _ => 0) 0 110) 1 117) 2 108))), (q16, .inl (cT 0, 4096, .inl (fun _ => 0))), (q17, .inl (cT 0, 4096, .inl (fun _ => 0))), (q18, .inl (cT 0, 4096, .inl (fun _ => 0))), (q19, .inl (cT 1, 8, .inl (upd (upd (upd (upd (fun _ => 0) 0 4) 1 4) 2 4) 3 4))), (q20, .inl (cT 0, 4096, .inl (fun _ => 0))), (q21, .inl (cT 0, 4096, .inl (fun _ => 0)))] H := ⟨hP, hD⟩
  refine lv_iinc (v := 3) (lv' := [(2, .int 3), (1, .int 4), (0, .ref a0)]) hx hb dM_init_179 hl (k := 0) rfl (by decide) (by decide) rfl (fun ls hl => ?_)
  refine lv_goto (tgt := 159) hx hb dM_init_182 (by decide) ?_
  refine lv_iload_n hx hb dM_init_159 rfl (lv_at hl 0 rfl) ?_
  refine lv_iconst (v := 4) hx hb dM_init_160 (by decide) ?_
  refine lv_icmp_ge (tgt := 185) hx hb dM_init_161 (by decide) (fun h => ((by revert h; decide : False)).elim) (fun _ => ?_)
  refine lv_aload_n hx hb dM_init_164 rfl (lv_at hl 2 rfl) ?_
  refine va_get (D := D) (ci := 5) (v := .ref q10) (C := "ValueBenchModel") (T := TM) (N := 32) hx hb htx inM hown hK hP 0 rfl rfl 24 (by decide) (htx _ kw_5_111) (fun _ h9 => h9) rfl dM_init_165 ?_
  refine lv_iload_n hx hb dM_init_168 rfl (lv_at hl 1 rfl) ?_
  refine xx_aldA hx hb hK hP 10 5 rfl rfl (show ¬ ((4 : Int32) < 0 ∨ 8 ≤ (4 : Int32).toNatClampNeg) by decide) dM_init_169 ?_
  refine W.eq (g2 := F0 m 170 ls [.ref q15]) rfl ?_
  refine lv_iload_n hx hb dM_init_170 rfl (lv_at hl 0 rfl) ?_
  refine va_ldcS (q := aK 10) hx hb hown (hZ.2.2.2.2.2.2.2.2.1 _ (List.mem_of_getElem? (i := 17) rfl)) dM_init_171 ?_
  refine lv_iload_n hx hb dM_init_173 rfl (lv_at hl 0 rfl) ?_
  obtain ⟨hPc, hDc, hFc⟩ := xcut (wc := []) hP hD hS hA [] rfl rfl (by decide)
  refine va_calli (va_runV (C := "java/lang/String") (As := [.int 3]) (rest := [.int 3, .ref q15]) ⟨hx, hb, hml, hown, htx⟩ (cJS_charAt_3 l hl9 D cT aK aV H.size) ⟨callB_of 1 htx (xw_goodC kw_2_80) rfl rfl rfl (htx _ kw_1_6) (htx _ kw_5_86) ⟨by decide, by decide, by decide +kernel⟩ ⟨Nat.le_of_ble_eq_true rfl, Nat.le_of_ble_eq_true rfl⟩, (htx _ kw_2_78), (htx _ kw_2_79)⟩ ⟨xPre_blind, vk_recv hZ.2.2.2.2.2.2.2.2.2.1 (i := 10) (by decide) hS, (fun U hU hW => ⟨rfl, xPre_of hZ hS hFc hPc hDc hK U hU hW⟩)⟩ rfl rfl hl.1 rfl (lv_room (Nat.le_of_ble_eq_true rfl)) dM_init_174 ⟨Nat.le_of_ble_eq_true rfl, Nat.le_of_ble_eq_true rfl⟩) hS (fun q _ h => hFc q h) hFc (fun r41 u9 t H1 locs ht hvm hr9 hB hz1 hk1 hS => ?_)
  obtain ⟨hP1, hK1, hD1⟩ := hB
  rw [ht] at hP1
  obtain ⟨hP, hD⟩ := xjoin (W := [(a0, .inr (5, [v1, .ref q1, v3, .ref q2, v5, .ref q3, .ref q4, v8, v9, v10, .ref q5, .ref q6, v13, .ref q7, .ref q8, v16, v17, v18, v19, .int 40, .int (-1), .ref q9, v23, .int 1000000000, .ref q10, .ref q19, .ref q20, v28, .ref q21, v30, v31, .int (-1)])), (q1, .inl (cT 4, 1024, .inr (.inr (.inr (.inr (fun _ => none)))))), (q2, .inl (cT 0, 4096, .inl (fun _ => 0))), (q3, .inl (cT 4, 1024, .inr (.inr (.inr (.inr (fun _ => none)))))), (q4, .inl (cT 4, 1024, .inr (.inr (.inr (.inr (fun _ => none)))))), (q5, .inl (cT 4, 256, .inr (.inr (.inr (.inr (fun _ => none)))))), (q6, .inl (cT 4, 256, .inr (.inr (.inr (.inr (fun _ => none)))))), (q7, .inl (cT 1, 64, .inl (fun _ => 0))), (q8, .inl (cT 1, 64, .inl (fun _ => 0))), (q9, .inl (cT 0, 1024, .inl (fun _ => 0))), (q10, .inl (cT 5, 8, .inr (.inr (.inr (.inr (x8 q11 q12 q13 q14 q15 q16 q17 q18)))))), (q11, .inl (cT 0, 4096, .inl (upd (upd (upd (upd (fun _ => 0) 0 110) 1 117) 2 108) 3 108))), (q12, .inl (cT 0, 4096, .inl (upd (upd (upd (upd (fun _ => 0) 0 110) 1 117) 2 108) 3 108))), (q13, .inl (cT 0, 4096, .inl (upd (upd (upd (upd (fun _ => 0) 0 110) 1 117) 2 108) 3 108))), (q14, .inl (cT 0, 4096, .inl (upd (upd (upd (upd (fun _ => 0) 0 110) 1 117) 2 108) 3 108))), (q15, .inl (cT 0, 4096, .inl (upd (upd (upd (fun _ => 0) 0 110) 1 117) 2 108))), (q16, .inl (cT 0, 4096, .inl (fun _ => 0))), (q17, .inl (cT 0, 4096, .inl (fun _ => 0))), (q18, .inl (cT 0, 4096, .inl (fun _ => 0))), (q19, .inl (cT 1, 8, .inl (upd (upd (upd (upd (fun _ => 0) 0 4) 1 4) 2 4) 3 4))), (q20, .inl (cT 0, 4096, .inl (fun _ => 0))), (q21, .inl (cT 0, 4096, .inl (fun _ => 0)))]) hP hD [] [0, 1, 2, 3, 4, 5, 6, 7, 8, 9, 10, 11, 12, 13, 14, 15, 16, 17, 18, 19, 20, 21] 22 rfl rfl (by decide) (by decide) hk1 hFc hP1 hD1
  generalize H1 = H at hP hS ⊢
  rw [hr9]
  refine W.eq (g2 := F0 m 177 ls [.int 108, .int 3, .ref q15]) rfl ?_
  refine lv_i2b hx hb dM_init_177 rfl ?_
  refine W.eq (g2 := F0 m 178 ls [.int 108, .int 3, .ref q15]) rfl ?_
  refine va_bast hx hb hK hP hD hS 15 0 rfl rfl (show ¬ ((3 : Int32) < 0 ∨ 4096 ≤ (3 : Int32).toNatClampNeg) by decide) dM_init_178 (fun H locs hP hD hS => ?_)
  obtain ⟨hP, hD⟩ : xPD D xcl A [(a0, .inr (5, [v1, .ref q1, v3, .ref q2, v5, .ref q3, .ref q4, v8, v9, v10, .ref q5, .ref q6, v13, .ref q7, .ref q8, v16, v17, v18, v19, .int 40, .int (-1), .ref q9, v23, .int 1000000000, .ref q10, .ref q19, .ref q20, v28, .ref q21, v30, v31, .int (-1)])), (q1, .inl (cT 4, 1024, .inr (.inr (.inr (.inr (fun _ => none)))))), (q2, .inl (cT 0, 4096, .inl (fun _ => 0))), (q3, .inl (cT 4, 1024, .inr (.inr (.inr (.inr (fun _ => none)))))), (q4, .inl (cT 4, 1024, .inr (.inr (.inr (.inr (fun _ => none)))))), (q5, .inl (cT 4, 256, .inr (.inr (.inr (.inr (fun _ => none)))))), (q6, .inl (cT 4, 256, .inr (.inr (.inr (.inr (fun _ => none)))))), (q7, .inl (cT 1, 64, .inl (fun _ => 0))), (q8, .inl (cT 1, 64, .inl (fun _ => 0))), (q9, .inl (cT 0, 1024, .inl (fun _ => 0))), (q10, .inl (cT 5, 8, .inr (.inr (.inr (.inr (x8 q11 q12 q13 q14 q15 q16 q17 q18)))))), (q11, .inl (cT 0, 4096, .inl (upd (upd (upd (upd (fun _ => 0) 0 110) 1 117) 2 108) 3 108))), (q12, .inl (cT 0, 4096, .inl (upd (upd (upd (upd (fun _ => 0) 0 110) 1 117) 2 108) 3 108))), (q13, .inl (cT 0, 4096, .inl (upd (upd (upd (upd (fun _ => 0) 0 110) 1 117) 2 108) 3 108))), (q14, .inl (cT 0, 4096, .inl (upd (upd (upd (upd (fun _ => 0) 0 110) 1 117) 2 108) 3 108))), (q15, .inl (cT 0, 4096, .inl (upd (upd (upd (upd (fun _ => 0) 0 110) 1 117) 2 108) 3 108))), (q16, .inl (cT 0, 4096, .inl (fun _ => 0))), (q17, .inl (cT 0, 4096, .inl (fun _ => 0))), (q18, .inl (cT 0, 4096, .inl (fun _ => 0))), (q19, .inl (cT 1, 8, .inl (upd (upd (upd (upd (fun _ => 0) 0 4) 1 4) 2 4) 3 4))), (q20, .inl (cT 0, 4096, .inl (fun _ => 0))), (q21, .inl (cT 0, 4096, .inl (fun _ => 0)))] H := ⟨hP, hD⟩
  refine lv_iinc (v := 4) (lv' := [(2, .int 4), (1, .int 4), (0, .ref a0)]) hx hb dM_init_179 hl (k := 0) rfl (by decide) (by decide) rfl (fun ls hl => ?_)
  refine lv_goto (tgt := 159) hx hb dM_init_182 (by decide) ?_
  refine lv_iload_n hx hb dM_init_159 rfl (lv_at hl 0 rfl) ?_
  refine lv_iconst (v := 4) hx hb dM_init_160 (by decide) ?_
  refine lv_icmp_ge (tgt := 185) hx hb dM_init_161 (by decide) (fun _ => ?_) (fun h => ((by revert h; decide : False)).elim)
  refine lv_aload_n hx hb dM_init_185 rfl (lv_at hl 2 rfl) ?_
  refine va_get (D := D) (ci := 5) (v := .ref q19) (C := "ValueBenchModel") (T := TM) (N := 32) hx hb htx inM hown hK hP 0 rfl rfl 25 (by decide) (htx _ kw_5_112) (fun _ h9 => h9) rfl dM_init_186 ?_
  refine lv_iload_n hx hb dM_init_189 rfl (lv_at hl 1 rfl) ?_
  refine lv_iconst (v := 4) hx hb dM_init_190 (by decide) ?_
  refine va_iast hx hb hK hP hD hS 19 1 rfl rfl (show ¬ ((4 : Int32) < 0 ∨ 8 ≤ (4 : Int32).toNatClampNeg) by decide) dM_init_191 (fun H locs hP hD hS => ?_)
  obtain ⟨hP, hD⟩ : xPD D xcl A [(a0, .inr (5, [v1, .ref q1, v3, .ref q2, v5, .ref q3, .ref q4, v8, v9, v10, .ref q5, .ref q6, v13, .ref q7, .ref q8, v16, v17, v18, v19, .int 40, .int (-1), .ref q9, v23, .int 1000000000, .ref q10, .ref q19, .ref q20, v28, .ref q21, v30, v31, .int (-1)])), (q1, .inl (cT 4, 1024, .inr (.inr (.inr (.inr (fun _ => none)))))), (q2, .inl (cT 0, 4096, .inl (fun _ => 0))), (q3, .inl (cT 4, 1024, .inr (.inr (.inr (.inr (fun _ => none)))))), (q4, .inl (cT 4, 1024, .inr (.inr (.inr (.inr (fun _ => none)))))), (q5, .inl (cT 4, 256, .inr (.inr (.inr (.inr (fun _ => none)))))), (q6, .inl (cT 4, 256, .inr (.inr (.inr (.inr (fun _ => none)))))), (q7, .inl (cT 1, 64, .inl (fun _ => 0))), (q8, .inl (cT 1, 64, .inl (fun _ => 0))), (q9, .inl (cT 0, 1024, .inl (fun _ => 0))), (q10, .inl (cT 5, 8, .inr (.inr (.inr (.inr (x8 q11 q12 q13 q14 q15 q16 q17 q18)))))), (q11, .inl (cT 0, 4096, .inl (upd (upd (upd (upd (fun _ => 0) 0 110) 1 117) 2 108) 3 108))), (q12, .inl (cT 0, 4096, .inl (upd (upd (upd (upd (fun _ => 0) 0 110) 1 117) 2 108) 3 108))), (q13, .inl (cT 0, 4096, .inl (upd (upd (upd (upd (fun _ => 0) 0 110) 1 117) 2 108) 3 108))), (q14, .inl (cT 0, 4096, .inl (upd (upd (upd (upd (fun _ => 0) 0 110) 1 117) 2 108) 3 108))), (q15, .inl (cT 0, 4096, .inl (upd (upd (upd (upd (fun _ => 0) 0 110) 1 117) 2 108) 3 108))), (q16, .inl (cT 0, 4096, .inl (fun _ => 0))), (q17, .inl (cT 0, 4096, .inl (fun _ => 0))), (q18, .inl (cT 0, 4096, .inl (fun _ => 0))), (q19, .inl (cT 1, 8, .inl (upd (upd (upd (upd (upd (fun _ => 0) 0 4) 1 4) 2 4) 3 4) 4 4))), (q20, .inl (cT 0, 4096, .inl (fun _ => 0))), (q21, .inl (cT 0, 4096, .inl (fun _ => 0)))] H := ⟨hP, hD⟩
  refine lv_iinc (v := 5) (lv' := [(1, .int 5), (2, .int 4), (0, .ref a0)]) hx hb dM_init_192 hl (k := 1) rfl (by decide) (by decide) rfl (fun ls hl => ?_)
  refine lv_goto (tgt := 151) hx hb dM_init_195 (by decide) ?_
  refine lv_iload_n hx hb dM_init_151 rfl (lv_at hl 0 rfl) ?_
  refine lv_bipush (v := 8) hx hb dM_init_152 (by decide) ?_
  refine lv_icmp_ge (tgt := 198) hx hb dM_init_154 (by decide) (fun h => ((by revert h; decide : False)).elim) (fun _ => ?_)
  refine lv_iconst (v := 0) hx hb dM_init_157 (by decide) ?_
  refine lv_istore_n (lv' := [(2, .int 0), (1, .int 5), (0, .ref a0)]) hx hb dM_init_158 rfl hl (by decide) rfl (fun ls hl => ?_)
  refine lv_iload_n hx hb dM_init_159 rfl (lv_at hl 0 rfl) ?_
  refine lv_iconst (v := 4) hx hb dM_init_160 (by decide) ?_
  refine lv_icmp_ge (tgt := 185) hx hb dM_init_161 (by decide) (fun h => ((by revert h; decide : False)).elim) (fun _ => ?_)
  refine lv_aload_n hx hb dM_init_164 rfl (lv_at hl 2 rfl) ?_
  refine va_get (D := D) (ci := 5) (v := .ref q10) (C := "ValueBenchModel") (T := TM) (N := 32) hx hb htx inM hown hK hP 0 rfl rfl 24 (by decide) (htx _ kw_5_111) (fun _ h9 => h9) rfl dM_init_165 ?_
  refine lv_iload_n hx hb dM_init_168 rfl (lv_at hl 1 rfl) ?_
  refine xx_aldA hx hb hK hP 10 5 rfl rfl (show ¬ ((5 : Int32) < 0 ∨ 8 ≤ (5 : Int32).toNatClampNeg) by decide) dM_init_169 ?_
  refine W.eq (g2 := F0 m 170 ls [.ref q16]) rfl ?_
  refine lv_iload_n hx hb dM_init_170 rfl (lv_at hl 0 rfl) ?_
  refine va_ldcS (q := aK 10) hx hb hown (hZ.2.2.2.2.2.2.2.2.1 _ (List.mem_of_getElem? (i := 17) rfl)) dM_init_171 ?_
  refine lv_iload_n hx hb dM_init_173 rfl (lv_at hl 0 rfl) ?_
  obtain ⟨hPc, hDc, hFc⟩ := xcut (wc := []) hP hD hS hA [] rfl rfl (by decide)
  refine va_calli (va_runV (C := "java/lang/String") (As := [.int 0]) (rest := [.int 0, .ref q16]) ⟨hx, hb, hml, hown, htx⟩ (cJS_charAt_0 l hl9 D cT aK aV H.size) ⟨callB_of 1 htx (xw_goodC kw_2_80) rfl rfl rfl (htx _ kw_1_6) (htx _ kw_5_86) ⟨by decide, by decide, by decide +kernel⟩ ⟨Nat.le_of_ble_eq_true rfl, Nat.le_of_ble_eq_true rfl⟩, (htx _ kw_2_78), (htx _ kw_2_79)⟩ ⟨xPre_blind, vk_recv hZ.2.2.2.2.2.2.2.2.2.1 (i := 10) (by decide) hS, (fun U hU hW => ⟨rfl, xPre_of hZ hS hFc hPc hDc hK U hU hW⟩)⟩ rfl rfl hl.1 rfl (lv_room (Nat.le_of_ble_eq_true rfl)) dM_init_174 ⟨Nat.le_of_ble_eq_true rfl, Nat.le_of_ble_eq_true rfl⟩) hS (fun q _ h => hFc q h) hFc (fun r42 u9 t H1 locs ht hvm hr9 hB hz1 hk1 hS => ?_)
  obtain ⟨hP1, hK1, hD1⟩ := hB
  rw [ht] at hP1
  obtain ⟨hP, hD⟩ := xjoin (W := [(a0, .inr (5, [v1, .ref q1, v3, .ref q2, v5, .ref q3, .ref q4, v8, v9, v10, .ref q5, .ref q6, v13, .ref q7, .ref q8, v16, v17, v18, v19, .int 40, .int (-1), .ref q9, v23, .int 1000000000, .ref q10, .ref q19, .ref q20, v28, .ref q21, v30, v31, .int (-1)])), (q1, .inl (cT 4, 1024, .inr (.inr (.inr (.inr (fun _ => none)))))), (q2, .inl (cT 0, 4096, .inl (fun _ => 0))), (q3, .inl (cT 4, 1024, .inr (.inr (.inr (.inr (fun _ => none)))))), (q4, .inl (cT 4, 1024, .inr (.inr (.inr (.inr (fun _ => none)))))), (q5, .inl (cT 4, 256, .inr (.inr (.inr (.inr (fun _ => none)))))), (q6, .inl (cT 4, 256, .inr (.inr (.inr (.inr (fun _ => none)))))), (q7, .inl (cT 1, 64, .inl (fun _ => 0))), (q8, .inl (cT 1, 64, .inl (fun _ => 0))), (q9, .inl (cT 0, 1024, .inl (fun _ => 0))), (q10, .inl (cT 5, 8, .inr (.inr (.inr (.inr (x8 q11 q12 q13 q14 q15 q16 q17 q18)))))), (q11, .inl (cT 0, 4096, .inl (upd (upd (upd (upd (fun _ => 0) 0 110) 1 117) 2 108) 3 108))), (q12, .inl (cT 0, 4096, .inl (upd (upd (upd (upd (fun _ => 0) 0 110) 1 117) 2 108) 3 108))), (q13, .inl (cT 0, 4096, .inl (upd (upd (upd (upd (fun _ => 0) 0 110) 1 117) 2 108) 3 108))), (q14, .inl (cT 0, 4096, .inl (upd (upd (upd (upd (fun _ => 0) 0 110) 1 117) 2 108) 3 108))), (q15, .inl (cT 0, 4096, .inl (upd (upd (upd (upd (fun _ => 0) 0 110) 1 117) 2 108) 3 108))), (q16, .inl (cT 0, 4096, .inl (fun _ => 0))), (q17, .inl (cT 0, 4096, .inl (fun _ => 0))), (q18, .inl (cT 0, 4096, .inl (fun _ => 0))), (q19, .inl (cT 1, 8, .inl (upd (upd (upd (upd (upd (fun _ => 0) 0 4) 1 4) 2 4) 3 4) 4 4))), (q20, .inl (cT 0, 4096, .inl (fun _ => 0))), (q21, .inl (cT 0, 4096, .inl (fun _ => 0)))]) hP hD [] [0, 1, 2, 3, 4, 5, 6, 7, 8, 9, 10, 11, 12, 13, 14, 15, 16, 17, 18, 19, 20, 21] 22 rfl rfl (by decide) (by decide) hk1 hFc hP1 hD1
  generalize H1 = H at hP hS ⊢
  rw [hr9]
  refine W.eq (g2 := F0 m 177 ls [.int 110, .int 0, .ref q16]) rfl ?_
  refine lv_i2b hx hb dM_init_177 rfl ?_
  refine W.eq (g2 := F0 m 178 ls [.int 110, .int 0, .ref q16]) rfl ?_
  refine va_bast hx hb hK hP hD hS 16 0 rfl rfl (show ¬ ((0 : Int32) < 0 ∨ 4096 ≤ (0 : Int32).toNatClampNeg) by decide) dM_init_178 (fun H locs hP hD hS => ?_)
  obtain ⟨hP, hD⟩ : xPD D xcl A [(a0, .inr (5, [v1, .ref q1, v3, .ref q2, v5, .ref q3, .ref q4, v8, v9, v10, .ref q5, .ref q6, v13, .ref q7, .ref q8, v16, v17, v18, v19, .int 40, .int (-1), .ref q9, v23, .int 1000000000, .ref q10, .ref q19, .ref q20, v28, .ref q21, v30, v31, .int (-1)])), (q1, .inl (cT 4, 1024, .inr (.inr (.inr (.inr (fun _ => none)))))), (q2, .inl (cT 0, 4096, .inl (fun _ => 0))), (q3, .inl (cT 4, 1024, .inr (.inr (.inr (.inr (fun _ => none)))))), (q4, .inl (cT 4, 1024, .inr (.inr (.inr (.inr (fun _ => none)))))), (q5, .inl (cT 4, 256, .inr (.inr (.inr (.inr (fun _ => none)))))), (q6, .inl (cT 4, 256, .inr (.inr (.inr (.inr (fun _ => none)))))), (q7, .inl (cT 1, 64, .inl (fun _ => 0))), (q8, .inl (cT 1, 64, .inl (fun _ => 0))), (q9, .inl (cT 0, 1024, .inl (fun _ => 0))), (q10, .inl (cT 5, 8, .inr (.inr (.inr (.inr (x8 q11 q12 q13 q14 q15 q16 q17 q18)))))), (q11, .inl (cT 0, 4096, .inl (upd (upd (upd (upd (fun _ => 0) 0 110) 1 117) 2 108) 3 108))), (q12, .inl (cT 0, 4096, .inl (upd (upd (upd (upd (fun _ => 0) 0 110) 1 117) 2 108) 3 108))), (q13, .inl (cT 0, 4096, .inl (upd (upd (upd (upd (fun _ => 0) 0 110) 1 117) 2 108) 3 108))), (q14, .inl (cT 0, 4096, .inl (upd (upd (upd (upd (fun _ => 0) 0 110) 1 117) 2 108) 3 108))), (q15, .inl (cT 0, 4096, .inl (upd (upd (upd (upd (fun _ => 0) 0 110) 1 117) 2 108) 3 108))), (q16, .inl (cT 0, 4096, .inl (upd (fun _ => 0) 0 110))), (q17, .inl (cT 0, 4096, .inl (fun _ => 0))), (q18, .inl (cT 0, 4096, .inl (fun _ => 0))), (q19, .inl (cT 1, 8, .inl (upd (upd (upd (upd (upd (fun _ => 0) 0 4) 1 4) 2 4) 3 4) 4 4))), (q20, .inl (cT 0, 4096, .inl (fun _ => 0))), (q21, .inl (cT 0, 4096, .inl (fun _ => 0)))] H := ⟨hP, hD⟩
  refine lv_iinc (v := 1) (lv' := [(2, .int 1), (1, .int 5), (0, .ref a0)]) hx hb dM_init_179 hl (k := 0) rfl (by decide) (by decide) rfl (fun ls hl => ?_)
  refine lv_goto (tgt := 159) hx hb dM_init_182 (by decide) ?_
  refine lv_iload_n hx hb dM_init_159 rfl (lv_at hl 0 rfl) ?_
  refine lv_iconst (v := 4) hx hb dM_init_160 (by decide) ?_
  refine lv_icmp_ge (tgt := 185) hx hb dM_init_161 (by decide) (fun h => ((by revert h; decide : False)).elim) (fun _ => ?_)
  refine lv_aload_n hx hb dM_init_164 rfl (lv_at hl 2 rfl) ?_
  refine va_get (D := D) (ci := 5) (v := .ref q10) (C := "ValueBenchModel") (T := TM) (N := 32) hx hb htx inM hown hK hP 0 rfl rfl 24 (by decide) (htx _ kw_5_111) (fun _ h9 => h9) rfl dM_init_165 ?_
  refine lv_iload_n hx hb dM_init_168 rfl (lv_at hl 1 rfl) ?_
  refine xx_aldA hx hb hK hP 10 5 rfl rfl (show ¬ ((5 : Int32) < 0 ∨ 8 ≤ (5 : Int32).toNatClampNeg) by decide) dM_init_169 ?_
  refine W.eq (g2 := F0 m 170 ls [.ref q16]) rfl ?_
  refine lv_iload_n hx hb dM_init_170 rfl (lv_at hl 0 rfl) ?_
  refine va_ldcS (q := aK 10) hx hb hown (hZ.2.2.2.2.2.2.2.2.1 _ (List.mem_of_getElem? (i := 17) rfl)) dM_init_171 ?_
  refine lv_iload_n hx hb dM_init_173 rfl (lv_at hl 0 rfl) ?_
  obtain ⟨hPc, hDc, hFc⟩ := xcut (wc := []) hP hD hS hA [] rfl rfl (by decide)
  refine va_calli (va_runV (C := "java/lang/String") (As := [.int 1]) (rest := [.int 1, .ref q16]) ⟨hx, hb, hml, hown, htx⟩ (cJS_charAt_1 l hl9 D cT aK aV H.size) ⟨callB_of 1 htx (xw_goodC kw_2_80) rfl rfl rfl (htx _ kw_1_6) (htx _ kw_5_86) ⟨by decide, by decide, by decide +kernel⟩ ⟨Nat.le_of_ble_eq_true rfl, Nat.le_of_ble_eq_true rfl⟩, (htx _ kw_2_78), (htx _ kw_2_79)⟩ ⟨xPre_blind, vk_recv hZ.2.2.2.2.2.2.2.2.2.1 (i := 10) (by decide) hS, (fun U hU hW => ⟨rfl, xPre_of hZ hS hFc hPc hDc hK U hU hW⟩)⟩ rfl rfl hl.1 rfl (lv_room (Nat.le_of_ble_eq_true rfl)) dM_init_174 ⟨Nat.le_of_ble_eq_true rfl, Nat.le_of_ble_eq_true rfl⟩) hS (fun q _ h => hFc q h) hFc (fun r43 u9 t H1 locs ht hvm hr9 hB hz1 hk1 hS => ?_)
  obtain ⟨hP1, hK1, hD1⟩ := hB
  rw [ht] at hP1
  obtain ⟨hP, hD⟩ := xjoin (W := [(a0, .inr (5, [v1, .ref q1, v3, .ref q2, v5, .ref q3, .ref q4, v8, v9, v10, .ref q5, .ref q6, v13, .ref q7, .ref q8, v16, v17, v18, v19, .int 40, .int (-1), .ref q9, v23, .int 1000000000, .ref q10, .ref q19, .ref q20, v28, .ref q21, v30, v31, .int (-1)])), (q1, .inl (cT 4, 1024, .inr (.inr (.inr (.inr (fun _ => none)))))), (q2, .inl (cT 0, 4096, .inl (fun _ => 0))), (q3, .inl (cT 4, 1024, .inr (.inr (.inr (.inr (fun _ => none)))))), (q4, .inl (cT 4, 1024, .inr (.inr (.inr (.inr (fun _ => none)))))), (q5, .inl (cT 4, 256, .inr (.inr (.inr (.inr (fun _ => none)))))), (q6, .inl (cT 4, 256, .inr (.inr (.inr (.inr (fun _ => none)))))), (q7, .inl (cT 1, 64, .inl (fun _ => 0))), (q8, .inl (cT 1, 64, .inl (fun _ => 0))), (q9, .inl (cT 0, 1024, .inl (fun _ => 0))), (q10, .inl (cT 5, 8, .inr (.inr (.inr (.inr (x8 q11 q12 q13 q14 q15 q16 q17 q18)))))), (q11, .inl (cT 0, 4096, .inl (upd (upd (upd (upd (fun _ => 0) 0 110) 1 117) 2 108) 3 108))), (q12, .inl (cT 0, 4096, .inl (upd (upd (upd (upd (fun _ => 0) 0 110) 1 117) 2 108) 3 108))), (q13, .inl (cT 0, 4096, .inl (upd (upd (upd (upd (fun _ => 0) 0 110) 1 117) 2 108) 3 108))), (q14, .inl (cT 0, 4096, .inl (upd (upd (upd (upd (fun _ => 0) 0 110) 1 117) 2 108) 3 108))), (q15, .inl (cT 0, 4096, .inl (upd (upd (upd (upd (fun _ => 0) 0 110) 1 117) 2 108) 3 108))), (q16, .inl (cT 0, 4096, .inl (upd (fun _ => 0) 0 110))), (q17, .inl (cT 0, 4096, .inl (fun _ => 0))), (q18, .inl (cT 0, 4096, .inl (fun _ => 0))), (q19, .inl (cT 1, 8, .inl (upd (upd (upd (upd (upd (fun _ => 0) 0 4) 1 4) 2 4) 3 4) 4 4))), (q20, .inl (cT 0, 4096, .inl (fun _ => 0))), (q21, .inl (cT 0, 4096, .inl (fun _ => 0)))]) hP hD [] [0, 1, 2, 3, 4, 5, 6, 7, 8, 9, 10, 11, 12, 13, 14, 15, 16, 17, 18, 19, 20, 21] 22 rfl rfl (by decide) (by decide) hk1 hFc hP1 hD1
  generalize H1 = H at hP hS ⊢
  rw [hr9]
  refine W.eq (g2 := F0 m 177 ls [.int 117, .int 1, .ref q16]) rfl ?_
  refine lv_i2b hx hb dM_init_177 rfl ?_
  refine W.eq (g2 := F0 m 178 ls [.int 117, .int 1, .ref q16]) rfl ?_
  refine va_bast hx hb hK hP hD hS 16 0 rfl rfl (show ¬ ((1 : Int32) < 0 ∨ 4096 ≤ (1 : Int32).toNatClampNeg) by decide) dM_init_178 (fun H locs hP hD hS => ?_)
  obtain ⟨hP, hD⟩ : xPD D xcl A [(a0, .inr (5, [v1, .ref q1, v3, .ref q2, v5, .ref q3, .ref q4, v8, v9, v10, .ref q5, .ref q6, v13, .ref q7, .ref q8, v16, v17, v18, v19, .int 40, .int (-1), .ref q9, v23, .int 1000000000, .ref q10, .ref q19, .ref q20, v28, .ref q21, v30, v31, .int (-1)])), (q1, .inl (cT 4, 1024, .inr (.inr (.inr (.inr (fun _ => none)))))), (q2, .inl (cT 0, 4096, .inl (fun _ => 0))), (q3, .inl (cT 4, 1024, .inr (.inr (.inr (.inr (fun _ => none)))))), (q4, .inl (cT 4, 1024, .inr (.inr (.inr (.inr (fun _ => none)))))), (q5, .inl (cT 4, 256, .inr (.inr (.inr (.inr (fun _ => none)))))), (q6, .inl (cT 4, 256, .inr (.inr (.inr (.inr (fun _ => none)))))), (q7, .inl (cT 1, 64, .inl (fun _ => 0))), (q8, .inl (cT 1, 64, .inl (fun _ => 0))), (q9, .inl (cT 0, 1024, .inl (fun _ => 0))), (q10, .inl (cT 5, 8, .inr (.inr (.inr (.inr (x8 q11 q12 q13 q14 q15 q16 q17 q18)))))), (q11, .inl (cT 0, 4096, .inl (upd (upd (upd (upd (fun _ => 0) 0 110) 1 117) 2 108) 3 108))), (q12, .inl (cT 0, 4096, .inl (upd (upd (upd (upd (fun _ => 0) 0 110) 1 117) 2 108) 3 108))), (q13, .inl (cT 0, 4096, .inl (upd (upd (upd (upd (fun _ => 0) 0 110) 1 117) 2 108) 3 108))), (q14, .inl (cT 0, 4096, .inl (upd (upd (upd (upd (fun _ => 0) 0 110) 1 117) 2 108) 3 108))), (q15, .inl (cT 0, 4096, .inl (upd (upd (upd (upd (fun _ => 0) 0 110) 1 117) 2 108) 3 108))), (q16, .inl (cT 0, 4096, .inl (upd (upd (fun _ => 0) 0 110) 1 117))), (q17, .inl (cT 0, 4096, .inl (fun _ => 0))), (q18, .inl (cT 0, 4096, .inl (fun _ => 0))), (q19, .inl (cT 1, 8, .inl (upd (upd (upd (upd (upd (fun _ => 0) 0 4) 1 4) 2 4) 3 4) 4 4))), (q20, .inl (cT 0, 4096, .inl (fun _ => 0))), (q21, .inl (cT 0, 4096, .inl (fun _ => 0)))] H := ⟨hP, hD⟩
  refine lv_iinc (v := 2) (lv' := [(2, .int 2), (1, .int 5), (0, .ref a0)]) hx hb dM_init_179 hl (k := 0) rfl (by decide) (by decide) rfl (fun ls hl => ?_)
  refine lv_goto (tgt := 159) hx hb dM_init_182 (by decide) ?_
  refine lv_iload_n hx hb dM_init_159 rfl (lv_at hl 0 rfl) ?_
  refine lv_iconst (v := 4) hx hb dM_init_160 (by decide) ?_
  refine lv_icmp_ge (tgt := 185) hx hb dM_init_161 (by decide) (fun h => ((by revert h; decide : False)).elim) (fun _ => ?_)
  refine lv_aload_n hx hb dM_init_164 rfl (lv_at hl 2 rfl) ?_
  refine va_get (D := D) (ci := 5) (v := .ref q10) (C := "ValueBenchModel") (T := TM) (N := 32) hx hb htx inM hown hK hP 0 rfl rfl 24 (by decide) (htx _ kw_5_111) (fun _ h9 => h9) rfl dM_init_165 ?_
  refine lv_iload_n hx hb dM_init_168 rfl (lv_at hl 1 rfl) ?_
  refine xx_aldA hx hb hK hP 10 5 rfl rfl (show ¬ ((5 : Int32) < 0 ∨ 8 ≤ (5 : Int32).toNatClampNeg) by decide) dM_init_169 ?_
  refine W.eq (g2 := F0 m 170 ls [.ref q16]) rfl ?_
  refine lv_iload_n hx hb dM_init_170 rfl (lv_at hl 0 rfl) ?_
  refine va_ldcS (q := aK 10) hx hb hown (hZ.2.2.2.2.2.2.2.2.1 _ (List.mem_of_getElem? (i := 17) rfl)) dM_init_171 ?_
  refine lv_iload_n hx hb dM_init_173 rfl (lv_at hl 0 rfl) ?_
  obtain ⟨hPc, hDc, hFc⟩ := xcut (wc := []) hP hD hS hA [] rfl rfl (by decide)
  refine va_calli (va_runV (C := "java/lang/String") (As := [.int 2]) (rest := [.int 2, .ref q16]) ⟨hx, hb, hml, hown, htx⟩ (cJS_charAt_2 l hl9 D cT aK aV H.size) ⟨callB_of 1 htx (xw_goodC kw_2_80) rfl rfl rfl (htx _ kw_1_6) (htx _ kw_5_86) ⟨by decide, by decide, by decide +kernel⟩ ⟨Nat.le_of_ble_eq_true rfl, Nat.le_of_ble_eq_true rfl⟩, (htx _ kw_2_78), (htx _ kw_2_79)⟩ ⟨xPre_blind, vk_recv hZ.2.2.2.2.2.2.2.2.2.1 (i := 10) (by decide) hS, (fun U hU hW => ⟨rfl, xPre_of hZ hS hFc hPc hDc hK U hU hW⟩)⟩ rfl rfl hl.1 rfl (lv_room (Nat.le_of_ble_eq_true rfl)) dM_init_174 ⟨Nat.le_of_ble_eq_true rfl, Nat.le_of_ble_eq_true rfl⟩) hS (fun q _ h => hFc q h) hFc (fun r44 u9 t H1 locs ht hvm hr9 hB hz1 hk1 hS => ?_)
  obtain ⟨hP1, hK1, hD1⟩ := hB
  rw [ht] at hP1
  obtain ⟨hP, hD⟩ := xjoin (W := [(a0, .inr (5, [v1, .ref q1, v3, .ref q2, v5, .ref q3, .ref q4, v8, v9, v10, .ref q5, .ref q6, v13, .ref q7, .ref q8, v16, v17, v18, v19, .int 40, .int (-1), .ref q9, v23, .int 1000000000, .ref q10, .ref q19, .ref q20, v28, .ref q21, v30, v31, .int (-1)])), (q1, .inl (cT 4, 1024, .inr (.inr (.inr (.inr (fun _ => none)))))), (q2, .inl (cT 0, 4096, .inl (fun _ => 0))), (q3, .inl (cT 4, 1024, .inr (.inr (.inr (.inr (fun _ => none)))))), (q4, .inl (cT 4, 1024, .inr (.inr (.inr (.inr (fun _ => none)))))), (q5, .inl (cT 4, 256, .inr (.inr (.inr (.inr (fun _ => none)))))), (q6, .inl (cT 4, 256, .inr (.inr (.inr (.inr (fun _ => none)))))), (q7, .inl (cT 1, 64, .inl (fun _ => 0))), (q8, .inl (cT 1, 64, .inl (fun _ => 0))), (q9, .inl (cT 0, 1024, .inl (fun _ => 0))), (q10, .inl (cT 5, 8, .inr (.inr (.inr (.inr (x8 q11 q12 q13 q14 q15 q16 q17 q18)))))), (q11, .inl (cT 0, 4096, .inl (upd (upd (upd (upd (fun _ => 0) 0 110) 1 117) 2 108) 3 108))), (q12, .inl (cT 0, 4096, .inl (upd (upd (upd (upd (fun _ => 0) 0 110) 1 117) 2 108) 3 108))), (q13, .inl (cT 0, 4096, .inl (upd (upd (upd (upd (fun _ => 0) 0 110) 1 117) 2 108) 3 108))), (q14, .inl (cT 0, 4096, .inl (upd (upd (upd (upd (fun _ => 0) 0 110) 1 117) 2 108) 3 108))), (q15, .inl (cT 0, 4096, .inl (upd (upd (upd (upd (fun _ => 0) 0 110) 1 117) 2 108) 3 108))), (q16, .inl (cT 0, 4096, .inl (upd (upd (fun _ => 0) 0 110) 1 117))), (q17, .inl (cT 0, 4096, .inl (fun _ => 0))), (q18, .inl (cT 0, 4096, .inl (fun _ => 0))), (q19, .inl (cT 1, 8, .inl (upd (upd (upd (upd (upd (fun _ => 0) 0 4) 1 4) 2 4) 3 4) 4 4))), (q20, .inl (cT 0, 4096, .inl (fun _ => 0))), (q21, .inl (cT 0, 4096, .inl (fun _ => 0)))]) hP hD [] [0, 1, 2, 3, 4, 5, 6, 7, 8, 9, 10, 11, 12, 13, 14, 15, 16, 17, 18, 19, 20, 21] 22 rfl rfl (by decide) (by decide) hk1 hFc hP1 hD1
  generalize H1 = H at hP hS ⊢
  rw [hr9]
  refine W.eq (g2 := F0 m 177 ls [.int 108, .int 2, .ref q16]) rfl ?_
  refine lv_i2b hx hb dM_init_177 rfl ?_
  refine W.eq (g2 := F0 m 178 ls [.int 108, .int 2, .ref q16]) rfl ?_
  refine va_bast hx hb hK hP hD hS 16 0 rfl rfl (show ¬ ((2 : Int32) < 0 ∨ 4096 ≤ (2 : Int32).toNatClampNeg) by decide) dM_init_178 (fun H locs hP hD hS => ?_)
  obtain ⟨hP, hD⟩ : xPD D xcl A [(a0, .inr (5, [v1, .ref q1, v3, .ref q2, v5, .ref q3, .ref q4, v8, v9, v10, .ref q5, .ref q6, v13, .ref q7, .ref q8, v16, v17, v18, v19, .int 40, .int (-1), .ref q9, v23, .int 1000000000, .ref q10, .ref q19, .ref q20, v28, .ref q21, v30, v31, .int (-1)])), (q1, .inl (cT 4, 1024, .inr (.inr (.inr (.inr (fun _ => none)))))), (q2, .inl (cT 0, 4096, .inl (fun _ => 0))), (q3, .inl (cT 4, 1024, .inr (.inr (.inr (.inr (fun _ => none)))))), (q4, .inl (cT 4, 1024, .inr (.inr (.inr (.inr (fun _ => none)))))), (q5, .inl (cT 4, 256, .inr (.inr (.inr (.inr (fun _ => none)))))), (q6, .inl (cT 4, 256, .inr (.inr (.inr (.inr (fun _ => none)))))), (q7, .inl (cT 1, 64, .inl (fun _ => 0))), (q8, .inl (cT 1, 64, .inl (fun _ => 0))), (q9, .inl (cT 0, 1024, .inl (fun _ => 0))), (q10, .inl (cT 5, 8, .inr (.inr (.inr (.inr (x8 q11 q12 q13 q14 q15 q16 q17 q18)))))), (q11, .inl (cT 0, 4096, .inl (upd (upd (upd (upd (fun _ => 0) 0 110) 1 117) 2 108) 3 108))), (q12, .inl (cT 0, 4096, .inl (upd (upd (upd (upd (fun _ => 0) 0 110) 1 117) 2 108) 3 108))), (q13, .inl (cT 0, 4096, .inl (upd (upd (upd (upd (fun _ => 0) 0 110) 1 117) 2 108) 3 108))), (q14, .inl (cT 0, 4096, .inl (upd (upd (upd (upd (fun _ => 0) 0 110) 1 117) 2 108) 3 108))), (q15, .inl (cT 0, 4096, .inl (upd (upd (upd (upd (fun _ => 0) 0 110) 1 117) 2 108) 3 108))), (q16, .inl (cT 0, 4096, .inl (upd (upd (upd (fun _ => 0) 0 110) 1 117) 2 108))), (q17, .inl (cT 0, 4096, .inl (fun _ => 0))), (q18, .inl (cT 0, 4096, .inl (fun _ => 0))), (q19, .inl (cT 1, 8, .inl (upd (upd (upd (upd (upd (fun _ => 0) 0 4) 1 4) 2 4) 3 4) 4 4))), (q20, .inl (cT 0, 4096, .inl (fun _ => 0))), (q21, .inl (cT 0, 4096, .inl (fun _ => 0)))] H := ⟨hP, hD⟩
  refine lv_iinc (v := 3) (lv' := [(2, .int 3), (1, .int 5), (0, .ref a0)]) hx hb dM_init_179 hl (k := 0) rfl (by decide) (by decide) rfl (fun ls hl => ?_)
  refine lv_goto (tgt := 159) hx hb dM_init_182 (by decide) ?_
  refine lv_iload_n hx hb dM_init_159 rfl (lv_at hl 0 rfl) ?_
  refine lv_iconst (v := 4) hx hb dM_init_160 (by decide) ?_
  refine lv_icmp_ge (tgt := 185) hx hb dM_init_161 (by decide) (fun h => ((by revert h; decide : False)).elim) (fun _ => ?_)
  refine lv_aload_n hx hb dM_init_164 rfl (lv_at hl 2 rfl) ?_
  refine va_get (D := D) (ci := 5) (v := .ref q10) (C := "ValueBenchModel") (T := TM) (N := 32) hx hb htx inM hown hK hP 0 rfl rfl 24 (by decide) (htx _ kw_5_111) (fun _ h9 => h9) rfl dM_init_165 ?_
  refine lv_iload_n hx hb dM_init_168 rfl (lv_at hl 1 rfl) ?_
  refine xx_aldA hx hb hK hP 10 5 rfl rfl (show ¬ ((5 : Int32) < 0 ∨ 8 ≤ (5 : Int32).toNatClampNeg) by decide) dM_init_169 ?_
  refine W.eq (g2 := F0 m 170 ls [.ref q16]) rfl ?_
  refine lv_iload_n hx hb dM_init_170 rfl (lv_at hl 0 rfl) ?_
  refine va_ldcS (q := aK 10) hx hb hown (hZ.2.2.2.2.2.2.2.2.1 _ (List.mem_of_getElem? (i := 17) rfl)) dM_init_171 ?_
  refine lv_iload_n hx hb dM_init_173 rfl (lv_at hl 0 rfl) ?_
  obtain ⟨hPc, hDc, hFc⟩ := xcut (wc := []) hP hD hS hA [] rfl rfl (by decide)
  refine va_calli (va_runV (C := "java/lang/String") (As := [.int 3]) (rest := [.int 3, .ref q16]) ⟨hx, hb, hml, hown, htx⟩ (cJS_charAt_3 l hl9 D cT aK aV H.size) ⟨callB_of 1 htx (xw_goodC kw_2_80) rfl rfl rfl (htx _ kw_1_6) (htx _ kw_5_86) ⟨by decide, by decide, by decide +kernel⟩ ⟨Nat.le_of_ble_eq_true rfl, Nat.le_of_ble_eq_true rfl⟩, (htx _ kw_2_78), (htx _ kw_2_79)⟩ ⟨xPre_blind, vk_recv hZ.2.2.2.2.2.2.2.2.2.1 (i := 10) (by decide) hS, (fun U hU hW => ⟨rfl, xPre_of hZ hS hFc hPc hDc hK U hU hW⟩)⟩ rfl rfl hl.1 rfl (lv_room (Nat.le_of_ble_eq_true rfl)) dM_init_174 ⟨Nat.le_of_ble_eq_true rfl, Nat.le_of_ble_eq_true rfl⟩) hS (fun q _ h => hFc q h) hFc (fun r45 u9 t H1 locs ht hvm hr9 hB hz1 hk1 hS => ?_)
  obtain ⟨hP1, hK1, hD1⟩ := hB
  rw [ht] at hP1
  obtain ⟨hP, hD⟩ := xjoin (W := [(a0, .inr (5, [v1, .ref q1, v3, .ref q2, v5, .ref q3, .ref q4, v8, v9, v10, .ref q5, .ref q6, v13, .ref q7, .ref q8, v16, v17, v18, v19, .int 40, .int (-1), .ref q9, v23, .int 1000000000, .ref q10, .ref q19, .ref q20, v28, .ref q21, v30, v31, .int (-1)])), (q1, .inl (cT 4, 1024, .inr (.inr (.inr (.inr (fun _ => none)))))), (q2, .inl (cT 0, 4096, .inl (fun _ => 0))), (q3, .inl (cT 4, 1024, .inr (.inr (.inr (.inr (fun _ => none)))))), (q4, .inl (cT 4, 1024, .inr (.inr (.inr (.inr (fun _ => none)))))), (q5, .inl (cT 4, 256, .inr (.inr (.inr (.inr (fun _ => none)))))), (q6, .inl (cT 4, 256, .inr (.inr (.inr (.inr (fun _ => none)))))), (q7, .inl (cT 1, 64, .inl (fun _ => 0))), (q8, .inl (cT 1, 64, .inl (fun _ => 0))), (q9, .inl (cT 0, 1024, .inl (fun _ => 0))), (q10, .inl (cT 5, 8, .inr (.inr (.inr (.inr (x8 q11 q12 q13 q14 q15 q16 q17 q18)))))), (q11, .inl (cT 0, 4096, .inl (upd (upd (upd (upd (fun _ => 0) 0 110) 1 117) 2 108) 3 108))), (q12, .inl (cT 0, 4096, .inl (upd (upd (upd (upd (fun _ => 0) 0 110) 1 117) 2 108) 3 108))), (q13, .inl (cT 0, 4096, .inl (upd (upd (upd (upd (fun _ => 0) 0 110) 1 117) 2 108) 3 108))), (q14, .inl (cT 0, 4096, .inl (upd (upd (upd (upd (fun _ => 0) 0 110) 1 117) 2 108) 3 108))), (q15, .inl (cT 0, 4096, .inl (upd (upd (upd (upd (fun _ => 0) 0 110) 1 117) 2 108) 3 108))), (q16, .inl (cT 0, 4096, .inl (upd (upd (upd (fun _ => 0) 0 110) 1 117) 2 108))), (q17, .inl (cT 0, 4096, .inl (fun _ => 0))), (q18, .inl (cT 0, 4096, .inl (fun _ => 0))), (q19, .inl (cT 1, 8, .inl (upd (upd (upd (upd (upd (fun _ => 0) 0 4) 1 4) 2 4) 3 4) 4 4))), (q20, .inl (cT 0, 4096, .inl (fun _ => 0))), (q21, .inl (cT 0, 4096, .inl (fun _ => 0)))]) hP hD [] [0, 1, 2, 3, 4, 5, 6, 7, 8, 9, 10, 11, 12, 13, 14, 15, 16, 17, 18, 19, 20, 21] 22 rfl rfl (by decide) (by decide) hk1 hFc hP1 hD1
  generalize H1 = H at hP hS ⊢
  rw [hr9]
  refine W.eq (g2 := F0 m 177 ls [.int 108, .int 3, .ref q16]) rfl ?_
  refine lv_i2b hx hb dM_init_177 rfl ?_
  refine W.eq (g2 := F0 m 178 ls [.int 108, .int 3, .ref q16]) rfl ?_
  refine va_bast hx hb hK hP hD hS 16 0 rfl rfl (show ¬ ((3 : Int32) < 0 ∨ 4096 ≤ (3 : Int32).toNatClampNeg) by decide) dM_init_178 (fun H locs hP hD hS => ?_)
  obtain ⟨hP, hD⟩ : xPD D xcl A [(a0, .inr (5, [v1, .ref q1, v3, .ref q2, v5, .ref q3, .ref q4, v8, v9, v10, .ref q5, .ref q6, v13, .ref q7, .ref q8, v16, v17, v18, v19, .int 40, .int (-1), .ref q9, v23, .int 1000000000, .ref q10, .ref q19, .ref q20, v28, .ref q21, v30, v31, .int (-1)])), (q1, .inl (cT 4, 1024, .inr (.inr (.inr (.inr (fun _ => none)))))), (q2, .inl (cT 0, 4096, .inl (fun _ => 0))), (q3, .inl (cT 4, 1024, .inr (.inr (.inr (.inr (fun _ => none)))))), (q4, .inl (cT 4, 1024, .inr (.inr (.inr (.inr (fun _ => none)))))), (q5, .inl (cT 4, 256, .inr (.inr (.inr (.inr (fun _ => none)))))), (q6, .inl (cT 4, 256, .inr (.inr (.inr (.inr (fun _ => none)))))), (q7, .inl (cT 1, 64, .inl (fun _ => 0))), (q8, .inl (cT 1, 64, .inl (fun _ => 0))), (q9, .inl (cT 0, 1024, .inl (fun _ => 0))), (q10, .inl (cT 5, 8, .inr (.inr (.inr (.inr (x8 q11 q12 q13 q14 q15 q16 q17 q18)))))), (q11, .inl (cT 0, 4096, .inl (upd (upd (upd (upd (fun _ => 0) 0 110) 1 117) 2 108) 3 108))), (q12, .inl (cT 0, 4096, .inl (upd (upd (upd (upd (fun _ => 0) 0 110) 1 117) 2 108) 3 108))), (q13, .inl (cT 0, 4096, .inl (upd (upd (upd (upd (fun _ => 0) 0 110) 1 117) 2 108) 3 108))), (q14, .inl (cT 0, 4096, .inl (upd (upd (upd (upd (fun _ => 0) 0 110) 1 117) 2 108) 3 108))), (q15, .inl (cT 0, 4096, .inl (upd (upd (upd (upd (fun _ => 0) 0 110) 1 117) 2 108) 3 108))), (q16, .inl (cT 0, 4096, .inl (upd (upd (upd (upd (fun _ => 0) 0 110) 1 117) 2 108) 3 108))), (q17, .inl (cT 0, 4096, .inl (fun _ => 0))), (q18, .inl (cT 0, 4096, .inl (fun _ => 0))), (q19, .inl (cT 1, 8, .inl (upd (upd (upd (upd (upd (fun _ => 0) 0 4) 1 4) 2 4) 3 4) 4 4))), (q20, .inl (cT 0, 4096, .inl (fun _ => 0))), (q21, .inl (cT 0, 4096, .inl (fun _ => 0)))] H := ⟨hP, hD⟩
  refine lv_iinc (v := 4) (lv' := [(2, .int 4), (1, .int 5), (0, .ref a0)]) hx hb dM_init_179 hl (k := 0) rfl (by decide) (by decide) rfl (fun ls hl => ?_)
  refine lv_goto (tgt := 159) hx hb dM_init_182 (by decide) ?_
  refine lv_iload_n hx hb dM_init_159 rfl (lv_at hl 0 rfl) ?_
  refine lv_iconst (v := 4) hx hb dM_init_160 (by decide) ?_
  refine lv_icmp_ge (tgt := 185) hx hb dM_init_161 (by decide) (fun _ => ?_) (fun h => ((by revert h; decide : False)).elim)
  refine lv_aload_n hx hb dM_init_185 rfl (lv_at hl 2 rfl) ?_
  refine va_get (D := D) (ci := 5) (v := .ref q19) (C := "ValueBenchModel") (T := TM) (N := 32) hx hb htx inM hown hK hP 0 rfl rfl 25 (by decide) (htx _ kw_5_112) (fun _ h9 => h9) rfl dM_init_186 ?_
  refine lv_iload_n hx hb dM_init_189 rfl (lv_at hl 1 rfl) ?_
  refine lv_iconst (v := 4) hx hb dM_init_190 (by decide) ?_
  refine va_iast hx hb hK hP hD hS 19 1 rfl rfl (show ¬ ((5 : Int32) < 0 ∨ 8 ≤ (5 : Int32).toNatClampNeg) by decide) dM_init_191 (fun H locs hP hD hS => ?_)
  obtain ⟨hP, hD⟩ : xPD D xcl A [(a0, .inr (5, [v1, .ref q1, v3, .ref q2, v5, .ref q3, .ref q4, v8, v9, v10, .ref q5, .ref q6, v13, .ref q7, .ref q8, v16, v17, v18, v19, .int 40, .int (-1), .ref q9, v23, .int 1000000000, .ref q10, .ref q19, .ref q20, v28, .ref q21, v30, v31, .int (-1)])), (q1, .inl (cT 4, 1024, .inr (.inr (.inr (.inr (fun _ => none)))))), (q2, .inl (cT 0, 4096, .inl (fun _ => 0))), (q3, .inl (cT 4, 1024, .inr (.inr (.inr (.inr (fun _ => none)))))), (q4, .inl (cT 4, 1024, .inr (.inr (.inr (.inr (fun _ => none)))))), (q5, .inl (cT 4, 256, .inr (.inr (.inr (.inr (fun _ => none)))))), (q6, .inl (cT 4, 256, .inr (.inr (.inr (.inr (fun _ => none)))))), (q7, .inl (cT 1, 64, .inl (fun _ => 0))), (q8, .inl (cT 1, 64, .inl (fun _ => 0))), (q9, .inl (cT 0, 1024, .inl (fun _ => 0))), (q10, .inl (cT 5, 8, .inr (.inr (.inr (.inr (x8 q11 q12 q13 q14 q15 q16 q17 q18)))))), (q11, .inl (cT 0, 4096, .inl (upd (upd (upd (upd (fun _ => 0) 0 110) 1 117) 2 108) 3 108))), (q12, .inl (cT 0, 4096, .inl (upd (upd (upd (upd (fun _ => 0) 0 110) 1 117) 2 108) 3 108))), (q13, .inl (cT 0, 4096, .inl (upd (upd (upd (upd (fun _ => 0) 0 110) 1 117) 2 108) 3 108))), (q14, .inl (cT 0, 4096, .inl (upd (upd (upd (upd (fun _ => 0) 0 110) 1 117) 2 108) 3 108))), (q15, .inl (cT 0, 4096, .inl (upd (upd (upd (upd (fun _ => 0) 0 110) 1 117) 2 108) 3 108))), (q16, .inl (cT 0, 4096, .inl (upd (upd (upd (upd (fun _ => 0) 0 110) 1 117) 2 108) 3 108))), (q17, .inl (cT 0, 4096, .inl (fun _ => 0))), (q18, .inl (cT 0, 4096, .inl (fun _ => 0))), (q19, .inl (cT 1, 8, .inl (upd (upd (upd (upd (upd (upd (fun _ => 0) 0 4) 1 4) 2 4) 3 4) 4 4) 5 4))), (q20, .inl (cT 0, 4096, .inl (fun _ => 0))), (q21, .inl (cT 0, 4096, .inl (fun _ => 0)))] H := ⟨hP, hD⟩
  refine lv_iinc (v := 6) (lv' := [(1, .int 6), (2, .int 4), (0, .ref a0)]) hx hb dM_init_192 hl (k := 1) rfl (by decide) (by decide) rfl (fun ls hl => ?_)
  refine lv_goto (tgt := 151) hx hb dM_init_195 (by decide) ?_
  refine lv_iload_n hx hb dM_init_151 rfl (lv_at hl 0 rfl) ?_
  refine lv_bipush (v := 8) hx hb dM_init_152 (by decide) ?_
  refine lv_icmp_ge (tgt := 198) hx hb dM_init_154 (by decide) (fun h => ((by revert h; decide : False)).elim) (fun _ => ?_)
  refine lv_iconst (v := 0) hx hb dM_init_157 (by decide) ?_
  refine lv_istore_n (lv' := [(2, .int 0), (1, .int 6), (0, .ref a0)]) hx hb dM_init_158 rfl hl (by decide) rfl (fun ls hl => ?_)
  refine lv_iload_n hx hb dM_init_159 rfl (lv_at hl 0 rfl) ?_
  refine lv_iconst (v := 4) hx hb dM_init_160 (by decide) ?_
  refine lv_icmp_ge (tgt := 185) hx hb dM_init_161 (by decide) (fun h => ((by revert h; decide : False)).elim) (fun _ => ?_)
  refine lv_aload_n hx hb dM_init_164 rfl (lv_at hl 2 rfl) ?_
  refine va_get (D := D) (ci := 5) (v := .ref q10) (C := "ValueBenchModel") (T := TM) (N := 32) hx hb htx inM hown hK hP 0 rfl rfl 24 (by decide) (htx _ kw_5_111) (fun _ h9 => h9) rfl dM_init_165 ?_
  refine lv_iload_n hx hb dM_init_168 rfl (lv_at hl 1 rfl) ?_
  refine xx_aldA hx hb hK hP 10 5 rfl rfl (show ¬ ((6 : Int32) < 0 ∨ 8 ≤ (6 : Int32).toNatClampNeg) by decide) dM_init_169 ?_
  refine W.eq (g2 := F0 m 170 ls [.ref q17]) rfl ?_
  refine lv_iload_n hx hb dM_init_170 rfl (lv_at hl 0 rfl) ?_
  refine va_ldcS (q := aK 10) hx hb hown (hZ.2.2.2.2.2.2.2.2.1 _ (List.mem_of_getElem? (i := 17) rfl)) dM_init_171 ?_
  refine lv_iload_n hx hb dM_init_173 rfl (lv_at hl 0 rfl) ?_
  obtain ⟨hPc, hDc, hFc⟩ := xcut (wc := []) hP hD hS hA [] rfl rfl (by decide)
  refine va_calli (va_runV (C := "java/lang/String") (As := [.int 0]) (rest := [.int 0, .ref q17]) ⟨hx, hb, hml, hown, htx⟩ (cJS_charAt_0 l hl9 D cT aK aV H.size) ⟨callB_of 1 htx (xw_goodC kw_2_80) rfl rfl rfl (htx _ kw_1_6) (htx _ kw_5_86) ⟨by decide, by decide, by decide +kernel⟩ ⟨Nat.le_of_ble_eq_true rfl, Nat.le_of_ble_eq_true rfl⟩, (htx _ kw_2_78), (htx _ kw_2_79)⟩ ⟨xPre_blind, vk_recv hZ.2.2.2.2.2.2.2.2.2.1 (i := 10) (by decide) hS, (fun U hU hW => ⟨rfl, xPre_of hZ hS hFc hPc hDc hK U hU hW⟩)⟩ rfl rfl hl.1 rfl (lv_room (Nat.le_of_ble_eq_true rfl)) dM_init_174 ⟨Nat.le_of_ble_eq_true rfl, Nat.le_of_ble_eq_true rfl⟩) hS (fun q _ h => hFc q h) hFc (fun r46 u9 t H1 locs ht hvm hr9 hB hz1 hk1 hS => ?_)
  obtain ⟨hP1, hK1, hD1⟩ := hB
  rw [ht] at hP1
  obtain ⟨hP, hD⟩ := xjoin (W := [(a0, .inr (5, [v1, .ref q1, v3, .ref q2, v5, .ref q3, .ref q4, v8, v9, v10, .ref q5, .ref q6, v13, .ref q7, .ref q8, v16, v17, v18, v19, .int 40, .int (-1), .ref q9, v23, .int 1000000000, .ref q10, .ref q19, .ref q20, v28, .ref q21, v30, v31, .int (-1)])), (q1, .inl (cT 4, 1024, .inr (.inr (.inr (.inr (fun _ => none)))))), (q2, .inl (cT 0, 4096, .inl (fun _ => 0))), (q3, .inl (cT 4, 1024, .inr (.inr (.inr (.inr (fun _ => none)))))), (q4, .inl (cT 4, 1024, .inr (.inr (.inr (.inr (fun _ => none)))))), (q5, .inl (cT 4, 256, .inr (.inr (.inr (.inr (fun _ => none)))))), (q6, .inl (cT 4, 256, .inr (.inr (.inr (.inr (fun _ => none)))))), (q7, .inl (cT 1, 64, .inl (fun _ => 0))), (q8, .inl (cT 1, 64, .inl (fun _ => 0))), (q9, .inl (cT 0, 1024, .inl (fun _ => 0))), (q10, .inl (cT 5, 8, .inr (.inr (.inr (.inr (x8 q11 q12 q13 q14 q15 q16 q17 q18)))))), (q11, .inl (cT 0, 4096, .inl (upd (upd (upd (upd (fun _ => 0) 0 110) 1 117) 2 108) 3 108))), (q12, .inl (cT 0, 4096, .inl (upd (upd (upd (upd (fun _ => 0) 0 110) 1 117) 2 108) 3 108))), (q13, .inl (cT 0, 4096, .inl (upd (upd (upd (upd (fun _ => 0) 0 110) 1 117) 2 108) 3 108))), (q14, .inl (cT 0, 4096, .inl (upd (upd (upd (upd (fun _ => 0) 0 110) 1 117) 2 108) 3 108))), (q15, .inl (cT 0, 4096, .inl (upd (upd (upd (upd (fun _ => 0) 0 110) 1 117) 2 108) 3 108))), (q16, .inl (cT 0, 4096, .inl (upd (upd (upd (upd (fun _ => 0) 0 110) 1 117) 2 108) 3 108))), (q17, .inl (cT 0, 4096, .inl (fun _ => 0))), (q18, .inl (cT 0, 4096, .inl (fun _ => 0))), (q19, .inl (cT 1, 8, .inl (upd (upd (upd (upd (upd (upd (fun _ => 0) 0 4) 1 4) 2 4) 3 4) 4 4) 5 4))), (q20, .inl (cT 0, 4096, .inl (fun _ => 0))), (q21, .inl (cT 0, 4096, .inl (fun _ => 0)))]) hP hD [] [0, 1, 2, 3, 4, 5, 6, 7, 8, 9, 10, 11, 12, 13, 14, 15, 16, 17, 18, 19, 20, 21] 22 rfl rfl (by decide) (by decide) hk1 hFc hP1 hD1
  generalize H1 = H at hP hS ⊢
  rw [hr9]
  refine W.eq (g2 := F0 m 177 ls [.int 110, .int 0, .ref q17]) rfl ?_
  refine lv_i2b hx hb dM_init_177 rfl ?_
  refine W.eq (g2 := F0 m 178 ls [.int 110, .int 0, .ref q17]) rfl ?_
  refine va_bast hx hb hK hP hD hS 17 0 rfl rfl (show ¬ ((0 : Int32) < 0 ∨ 4096 ≤ (0 : Int32).toNatClampNeg) by decide) dM_init_178 (fun H locs hP hD hS => ?_)
  obtain ⟨hP, hD⟩ : xPD D xcl A [(a0, .inr (5, [v1, .ref q1, v3, .ref q2, v5, .ref q3, .ref q4, v8, v9, v10, .ref q5, .ref q6, v13, .ref q7, .ref q8, v16, v17, v18, v19, .int 40, .int (-1), .ref q9, v23, .int 1000000000, .ref q10, .ref q19, .ref q20, v28, .ref q21, v30, v31, .int (-1)])), (q1, .inl (cT 4, 1024, .inr (.inr (.inr (.inr (fun _ => none)))))), (q2, .inl (cT 0, 4096, .inl (fun _ => 0))), (q3, .inl (cT 4, 1024, .inr (.inr (.inr (.inr (fun _ => none)))))), (q4, .inl (cT 4, 1024, .inr (.inr (.inr (.inr (fun _ => none)))))), (q5, .inl (cT 4, 256, .inr (.inr (.inr (.inr (fun _ => none)))))), (q6, .inl (cT 4, 256, .inr (.inr (.inr (.inr (fun _ => none)))))), (q7, .inl (cT 1, 64, .inl (fun _ => 0))), (q8, .inl (cT 1, 64, .inl (fun _ => 0))), (q9, .inl (cT 0, 1024, .inl (fun _ => 0))), (q10, .inl (cT 5, 8, .inr (.inr (.inr (.inr (x8 q11 q12 q13 q14 q15 q16 q17 q18)))))), (q11, .inl (cT 0, 4096, .inl (upd (upd (upd (upd (fun _ => 0) 0 110) 1 117) 2 108) 3 108))), (q12, .inl (cT 0, 4096, .inl (upd (upd (upd (upd (fun _ => 0) 0 110) 1 117) 2 108) 3 108))), (q13, .inl (cT 0, 4096, .inl (upd (upd (upd (upd (fun _ => 0) 0 110) 1 117) 2 108) 3 108))), (q14, .inl (cT 0, 4096, .inl (upd (upd (upd (upd (fun _ => 0) 0 110) 1 117) 2 108) 3 108))), (q15, .inl (cT 0, 4096, .inl (upd (upd (upd (upd (fun _ => 0) 0 110) 1 117) 2 108) 3 108))), (q16, .inl (cT 0, 4096, .inl (upd (upd (upd (upd (fun _ => 0) 0 110) 1 117) 2 108) 3 108))), (q17, .inl (cT 0, 4096, .inl (upd (fun _ => 0) 0 110))), (q18, .inl (cT 0, 4096, .inl (fun _ => 0))), (q19, .inl (cT 1, 8, .inl (upd (upd (upd (upd (upd (upd (fun _ => 0) 0 4) 1 4) 2 4) 3 4) 4 4) 5 4))), (q20, .inl (cT 0, 4096, .inl (fun _ => 0))), (q21, .inl (cT 0, 4096, .inl (fun _ => 0)))] H := ⟨hP, hD⟩
  refine lv_iinc (v := 1) (lv' := [(2, .int 1), (1, .int 6), (0, .ref a0)]) hx hb dM_init_179 hl (k := 0) rfl (by decide) (by decide) rfl (fun ls hl => ?_)
  refine lv_goto (tgt := 159) hx hb dM_init_182 (by decide) ?_
  refine lv_iload_n hx hb dM_init_159 rfl (lv_at hl 0 rfl) ?_
  refine lv_iconst (v := 4) hx hb dM_init_160 (by decide) ?_
  refine lv_icmp_ge (tgt := 185) hx hb dM_init_161 (by decide) (fun h => ((by revert h; decide : False)).elim) (fun _ => ?_)
  refine lv_aload_n hx hb dM_init_164 rfl (lv_at hl 2 rfl) ?_
  refine va_get (D := D) (ci := 5) (v := .ref q10) (C := "ValueBenchModel") (T := TM) (N := 32) hx hb htx inM hown hK hP 0 rfl rfl 24 (by decide) (htx _ kw_5_111) (fun _ h9 => h9) rfl dM_init_165 ?_
  refine lv_iload_n hx hb dM_init_168 rfl (lv_at hl 1 rfl) ?_
  refine xx_aldA hx hb hK hP 10 5 rfl rfl (show ¬ ((6 : Int32) < 0 ∨ 8 ≤ (6 : Int32).toNatClampNeg) by decide) dM_init_169 ?_
  refine W.eq (g2 := F0 m 170 ls [.ref q17]) rfl ?_
  refine lv_iload_n hx hb dM_init_170 rfl (lv_at hl 0 rfl) ?_
  refine va_ldcS (q := aK 10) hx hb hown (hZ.2.2.2.2.2.2.2.2.1 _ (List.mem_of_getElem? (i := 17) rfl)) dM_init_171 ?_
  refine lv_iload_n hx hb dM_init_173 rfl (lv_at hl 0 rfl) ?_
  obtain ⟨hPc, hDc, hFc⟩ := xcut (wc := []) hP hD hS hA [] rfl rfl (by decide)
  refine va_calli (va_runV (C := "java/lang/String") (As := [.int 1]) (rest := [.int 1, .ref q17]) ⟨hx, hb, hml, hown, htx⟩ (cJS_charAt_1 l hl9 D cT aK aV H.size) ⟨callB_of 1 htx (xw_goodC kw_2_80) rfl rfl rfl (htx _ kw_1_6) (htx _ kw_5_86) ⟨by decide, by decide, by decide +kernel⟩ ⟨Nat.le_of_ble_eq_true rfl, Nat.le_of_ble_eq_true rfl⟩, (htx _ kw_2_78), (htx _ kw_2_79)⟩ ⟨xPre_blind, vk_recv hZ.2.2.2.2.2.2.2.2.2.1 (i := 10) (by decide) hS, (fun U hU hW => ⟨rfl, xPre_of hZ hS hFc hPc hDc hK U hU hW⟩)⟩ rfl rfl hl.1 rfl (lv_room (Nat.le_of_ble_eq_true rfl)) dM_init_174 ⟨Nat.le_of_ble_eq_true rfl, Nat.le_of_ble_eq_true rfl⟩) hS (fun q _ h => hFc q h) hFc (fun r47 u9 t H1 locs ht hvm hr9 hB hz1 hk1 hS => ?_)
  obtain ⟨hP1, hK1, hD1⟩ := hB
  rw [ht] at hP1
  obtain ⟨hP, hD⟩ := xjoin (W := [(a0, .inr (5, [v1, .ref q1, v3, .ref q2, v5, .ref q3, .ref q4, v8, v9, v10, .ref q5, .ref q6, v13, .ref q7, .ref q8, v16, v17, v18, v19, .int 40, .int (-1), .ref q9, v23, .int 1000000000, .ref q10, .ref q19, .ref q20, v28, .ref q21, v30, v31, .int (-1)])), (q1, .inl (cT 4, 1024, .inr (.inr (.inr (.inr (fun _ => none)))))), (q2, .inl (cT 0, 4096, .inl (fun _ => 0))), (q3, .inl (cT 4, 1024, .inr (.inr (.inr (.inr (fun _ => none)))))), (q4, .inl (cT 4, 1024, .inr (.inr (.inr (.inr (fun _ => none)))))), (q5, .inl (cT 4, 256, .inr (.inr (.inr (.inr (fun _ => none)))))), (q6, .inl (cT 4, 256, .inr (.inr (.inr (.inr (fun _ => none)))))), (q7, .inl (cT 1, 64, .inl (fun _ => 0))), (q8, .inl (cT 1, 64, .inl (fun _ => 0))), (q9, .inl (cT 0, 1024, .inl (fun _ => 0))), (q10, .inl (cT 5, 8, .inr (.inr (.inr (.inr (x8 q11 q12 q13 q14 q15 q16 q17 q18)))))), (q11, .inl (cT 0, 4096, .inl (upd (upd (upd (upd (fun _ => 0) 0 110) 1 117) 2 108) 3 108))), (q12, .inl (cT 0, 4096, .inl (upd (upd (upd (upd (fun _ => 0) 0 110) 1 117) 2 108) 3 108))), (q13, .inl (cT 0, 4096, .inl (upd (upd (upd (upd (fun _ => 0) 0 110) 1 117) 2 108) 3 108))), (q14, .inl (cT 0, 4096, .inl (upd (upd (upd (upd (fun _ => 0) 0 110) 1 117) 2 108) 3 108))), (q15, .inl (cT 0, 4096, .inl (upd (upd (upd (upd (fun _ => 0) 0 110) 1 117) 2 108) 3 108))), (q16, .inl (cT 0, 4096, .inl (upd (upd (upd (upd (fun _ => 0) 0 110) 1 117) 2 108) 3 108))), (q17, .inl (cT 0, 4096, .inl (upd (fun _ => 0) 0 110))), (q18, .inl (cT 0, 4096, .inl (fun _ => 0))), (q19, .inl (cT 1, 8, .inl (upd (upd (upd (upd (upd (upd (fun _ => 0) 0 4) 1 4) 2 4) 3 4) 4 4) 5 4))), (q20, .inl (cT 0, 4096, .inl (fun _ => 0))), (q21, .inl (cT 0, 4096, .inl (fun _ => 0)))]) hP hD [] [0, 1, 2, 3, 4, 5, 6, 7, 8, 9, 10, 11, 12, 13, 14, 15, 16, 17, 18, 19, 20, 21] 22 rfl rfl (by decide) (by decide) hk1 hFc hP1 hD1
  generalize H1 = H at hP hS ⊢
  rw [hr9]
  refine W.eq (g2 := F0 m 177 ls [.int 117, .int 1, .ref q17]) rfl ?_
  refine lv_i2b hx hb dM_init_177 rfl ?_
  refine W.eq (g2 := F0 m 178 ls [.int 117, .int 1, .ref q17]) rfl ?_
  refine va_bast hx hb hK hP hD hS 17 0 rfl rfl (show ¬ ((1 : Int32) < 0 ∨ 4096 ≤ (1 : Int32).toNatClampNeg) by decide) dM_init_178 (fun H locs hP hD hS => ?_)
  obtain ⟨hP, hD⟩ : xPD D xcl A [(a0, .inr (5, [v1, .ref q1, v3, .ref q2, v5, .ref q3, .ref q4, v8, v9, v10, .ref q5, .ref q6, v13, .ref q7, .ref q8, v16, v17, v18, v19, .int 40, .int (-1), .ref q9, v23, .int 1000000000, .ref q10, .ref q19, .ref q20, v28, .ref q21, v30, v31, .int (-1)])), (q1, .inl (cT 4, 1024, .inr (.inr (.inr (.inr (fun _ => none)))))), (q2, .inl (cT 0, 4096, .inl (fun _ => 0))), (q3, .inl (cT 4, 1024, .inr (.inr (.inr (.inr (fun _ => none)))))), (q4, .inl (cT 4, 1024, .inr (.inr (.inr (.inr (fun _ => none)))))), (q5, .inl (cT 4, 256, .inr (.inr (.inr (.inr (fun _ => none)))))), (q6, .inl (cT 4, 256, .inr (.inr (.inr (.inr (fun _ => none)))))), (q7, .inl (cT 1, 64, .inl (fun _ => 0))), (q8, .inl (cT 1, 64, .inl (fun _ => 0))), (q9, .inl (cT 0, 1024, .inl (fun _ => 0))), (q10, .inl (cT 5, 8, .inr (.inr (.inr (.inr (x8 q11 q12 q13 q14 q15 q16 q17 q18)))))), (q11, .inl (cT 0, 4096, .inl (upd (upd (upd (upd (fun _ => 0) 0 110) 1 117) 2 108) 3 108))), (q12, .inl (cT 0, 4096, .inl (upd (upd (upd (upd (fun _ => 0) 0 110) 1 117) 2 108) 3 108))), (q13, .inl (cT 0, 4096, .inl (upd (upd (upd (upd (fun _ => 0) 0 110) 1 117) 2 108) 3 108))), (q14, .inl (cT 0, 4096, .inl (upd (upd (upd (upd (fun _ => 0) 0 110) 1 117) 2 108) 3 108))), (q15, .inl (cT 0, 4096, .inl (upd (upd (upd (upd (fun _ => 0) 0 110) 1 117) 2 108) 3 108))), (q16, .inl (cT 0, 4096, .inl (upd (upd (upd (upd (fun _ => 0) 0 110) 1 117) 2 108) 3 108))), (q17, .inl (cT 0, 4096, .inl (upd (upd (fun _ => 0) 0 110) 1 117))), (q18, .inl (cT 0, 4096, .inl (fun _ => 0))), (q19, .inl (cT 1, 8, .inl (upd (upd (upd (upd (upd (upd (fun _ => 0) 0 4) 1 4) 2 4) 3 4) 4 4) 5 4))), (q20, .inl (cT 0, 4096, .inl (fun _ => 0))), (q21, .inl (cT 0, 4096, .inl (fun _ => 0)))] H := ⟨hP, hD⟩
  refine lv_iinc (v := 2) (lv' := [(2, .int 2), (1, .int 6), (0, .ref a0)]) hx hb dM_init_179 hl (k := 0) rfl (by decide) (by decide) rfl (fun ls hl => ?_)
  refine lv_goto (tgt := 159) hx hb dM_init_182 (by decide) ?_
  refine lv_iload_n hx hb dM_init_159 rfl (lv_at hl 0 rfl) ?_
  refine lv_iconst (v := 4) hx hb dM_init_160 (by decide) ?_
  refine lv_icmp_ge (tgt := 185) hx hb dM_init_161 (by decide) (fun h => ((by revert h; decide : False)).elim) (fun _ => ?_)
  refine lv_aload_n hx hb dM_init_164 rfl (lv_at hl 2 rfl) ?_
  refine va_get (D := D) (ci := 5) (v := .ref q10) (C := "ValueBenchModel") (T := TM) (N := 32) hx hb htx inM hown hK hP 0 rfl rfl 24 (by decide) (htx _ kw_5_111) (fun _ h9 => h9) rfl dM_init_165 ?_
  refine lv_iload_n hx hb dM_init_168 rfl (lv_at hl 1 rfl) ?_
  refine xx_aldA hx hb hK hP 10 5 rfl rfl (show ¬ ((6 : Int32) < 0 ∨ 8 ≤ (6 : Int32).toNatClampNeg) by decide) dM_init_169 ?_
  refine W.eq (g2 := F0 m 170 ls [.ref q17]) rfl ?_
  refine lv_iload_n hx hb dM_init_170 rfl (lv_at hl 0 rfl) ?_
  refine va_ldcS (q := aK 10) hx hb hown (hZ.2.2.2.2.2.2.2.2.1 _ (List.mem_of_getElem? (i := 17) rfl)) dM_init_171 ?_
  refine lv_iload_n hx hb dM_init_173 rfl (lv_at hl 0 rfl) ?_
  obtain ⟨hPc, hDc, hFc⟩ := xcut (wc := []) hP hD hS hA [] rfl rfl (by decide)
  refine va_calli (va_runV (C := "java/lang/String") (As := [.int 2]) (rest := [.int 2, .ref q17]) ⟨hx, hb, hml, hown, htx⟩ (cJS_charAt_2 l hl9 D cT aK aV H.size) ⟨callB_of 1 htx (xw_goodC kw_2_80) rfl rfl rfl (htx _ kw_1_6) (htx _ kw_5_86) ⟨by decide, by decide, by decide +kernel⟩ ⟨Nat.le_of_ble_eq_true rfl, Nat.le_of_ble_eq_true rfl⟩, (htx _ kw_2_78), (htx _ kw_2_79)⟩ ⟨xPre_blind, vk_recv hZ.2.2.2.2.2.2.2.2.2.1 (i := 10) (by decide) hS, (fun U hU hW => ⟨rfl, xPre_of hZ hS hFc hPc hDc hK U hU hW⟩)⟩ rfl rfl hl.1 rfl (lv_room (Nat.le_of_ble_eq_true rfl)) dM_init_174 ⟨Nat.le_of_ble_eq_true rfl, Nat.le_of_ble_eq_true rfl⟩) hS (fun q _ h => hFc q h) hFc (fun r48 u9 t H1 locs ht hvm hr9 hB hz1 hk1 hS => ?_)
  obtain ⟨hP1, hK1, hD1⟩ := hB
  rw [ht] at hP1
  obtain ⟨hP, hD⟩ := xjoin (W := [(a0, .inr (5, [v1, .ref q1, v3, .ref q2, v5, .ref q3, .ref q4, v8, v9, v10, .ref q5, .ref q6, v13, .ref q7, .ref q8, v16, v17, v18, v19, .int 40, .int (-1), .ref q9, v23, .int 1000000000, .ref q10, .ref q19, .ref q20, v28, .ref q21, v30, v31, .int (-1)])), (q1, .inl (cT 4, 1024, .inr (.inr (.inr (.inr (fun _ => none)))))), (q2, .inl (cT 0, 4096, .inl (fun _ => 0))), (q3, .inl (cT 4, 1024, .inr (.inr (.inr (.inr (fun _ => none)))))), (q4, .inl (cT 4, 1024, .inr (.inr (.inr (.inr (fun _ => none)))))), (q5, .inl (cT 4, 256, .inr (.inr (.inr (.inr (fun _ => none)))))), (q6, .inl (cT 4, 256, .inr (.inr (.inr (.inr (fun _ => none)))))), (q7, .inl (cT 1, 64, .inl (fun _ => 0))), (q8, .inl (cT 1, 64, .inl (fun _ => 0))), (q9, .inl (cT 0, 1024, .inl (fun _ => 0))), (q10, .inl (cT 5, 8, .inr (.inr (.inr (.inr (x8 q11 q12 q13 q14 q15 q16 q17 q18)))))), (q11, .inl (cT 0, 4096, .inl (upd (upd (upd (upd (fun _ => 0) 0 110) 1 117) 2 108) 3 108))), (q12, .inl (cT 0, 4096, .inl (upd (upd (upd (upd (fun _ => 0) 0 110) 1 117) 2 108) 3 108))), (q13, .inl (cT 0, 4096, .inl (upd (upd (upd (upd (fun _ => 0) 0 110) 1 117) 2 108) 3 108))), (q14, .inl (cT 0, 4096, .inl (upd (upd (upd (upd (fun _ => 0) 0 110) 1 117) 2 108) 3 108))), (q15, .inl (cT 0, 4096, .inl (upd (upd (upd (upd (fun _ => 0) 0 110) 1 117) 2 108) 3 108))), (q16, .inl (cT 0, 4096, .inl (upd (upd (upd (upd (fun _ => 0) 0 110) 1 117) 2 108) 3 108))), (q17, .inl (cT 0, 4096, .inl (upd (upd (fun _ => 0) 0 110) 1 117))), (q18, .inl (cT 0, 4096, .inl (fun _ => 0))), (q19, .inl (cT 1, 8, .inl (upd (upd (upd (upd (upd (upd (fun _ => 0) 0 4) 1 4) 2 4) 3 4) 4 4) 5 4))), (q20, .inl (cT 0, 4096, .inl (fun _ => 0))), (q21, .inl (cT 0, 4096, .inl (fun _ => 0)))]) hP hD [] [0, 1, 2, 3, 4, 5, 6, 7, 8, 9, 10, 11, 12, 13, 14, 15, 16, 17, 18, 19, 20, 21] 22 rfl rfl (by decide) (by decide) hk1 hFc hP1 hD1
  generalize H1 = H at hP hS ⊢
  rw [hr9]
  refine W.eq (g2 := F0 m 177 ls [.int 108, .int 2, .ref q17]) rfl ?_
  refine lv_i2b hx hb dM_init_177 rfl ?_
  refine W.eq (g2 := F0 m 178 ls [.int 108, .int 2, .ref q17]) rfl ?_
  refine va_bast hx hb hK hP hD hS 17 0 rfl rfl (show ¬ ((2 : Int32) < 0 ∨ 4096 ≤ (2 : Int32).toNatClampNeg) by decide) dM_init_178 (fun H locs hP hD hS => ?_)
  obtain ⟨hP, hD⟩ : xPD D xcl A [(a0, .inr (5, [v1, .ref q1, v3, .ref q2, v5, .ref q3, .ref q4, v8, v9, v10, .ref q5, .ref q6, v13, .ref q7, .ref q8, v16, v17, v18, v19, .int 40, .int (-1), .ref q9, v23, .int 1000000000, .ref q10, .ref q19, .ref q20, v28, .ref q21, v30, v31, .int (-1)])), (q1, .inl (cT 4, 1024, .inr (.inr (.inr (.inr (fun _ => none)))))), (q2, .inl (cT 0, 4096, .inl (fun _ => 0))), (q3, .inl (cT 4, 1024, .inr (.inr (.inr (.inr (fun _ => none)))))), (q4, .inl (cT 4, 1024, .inr (.inr (.inr (.inr (fun _ => none)))))), (q5, .inl (cT 4, 256, .inr (.inr (.inr (.inr (fun _ => none)))))), (q6, .inl (cT 4, 256, .inr (.inr (.inr (.inr (fun _ => none)))))), (q7, .inl (cT 1, 64, .inl (fun _ => 0))), (q8, .inl (cT 1, 64, .inl (fun _ => 0))), (q9, .inl (cT 0, 1024, .inl (fun _ => 0))), (q10, .inl (cT 5, 8, .inr (.inr (.inr (.inr (x8 q11 q12 q13 q14 q15 q16 q17 q18)))))), (q11, .inl (cT 0, 4096, .inl (upd (upd (upd (upd (fun _ => 0) 0 110) 1 117) 2 108) 3 108))), (q12, .inl (cT 0, 4096, .inl (upd (upd (upd (upd (fun _ => 0) 0 110) 1 117) 2 108) 3 108))), (q13, .inl (cT 0, 4096, .inl (upd (upd (upd (upd (fun _ => 0) 0 110) 1 117) 2 108) 3 108))), (q14, .inl (cT 0, 4096, .inl (upd (upd (upd (upd (fun _ => 0) 0 110) 1 117) 2 108) 3 108))), (q15, .inl (cT 0, 4096, .inl (upd (upd (upd (upd (fun _ => 0) 0 110) 1 117) 2 108) 3 108))), (q16, .inl (cT 0, 4096, .inl (upd (upd (upd (upd (fun _ => 0) 0 110) 1 117) 2 108) 3 108))), (q17, .inl (cT 0, 4096, .inl (upd (upd (upd (fun _ => 0) 0 110) 1 117) 2 108))), (q18, .inl (cT 0, 4096, .inl (fun _ => 0))), (q19, .inl (cT 1, 8, .inl (upd (upd (upd (upd (upd (upd (fun _ => 0) 0 4) 1 4) 2 4) 3 4) 4 4) 5 4))), (q20, .inl (cT 0, 4096, .inl (fun _ => 0))), (q21, .inl (cT 0, 4096, .inl (fun _ => 0)))] H := ⟨hP, hD⟩
  refine lv_iinc (v := 3) (lv' := [(2, .int 3), (1, .int 6), (0, .ref a0)]) hx hb dM_init_179 hl (k := 0) rfl (by decide) (by decide) rfl (fun ls hl => ?_)
  refine lv_goto (tgt := 159) hx hb dM_init_182 (by decide) ?_
  refine lv_iload_n hx hb dM_init_159 rfl (lv_at hl 0 rfl) ?_
  refine lv_iconst (v := 4) hx hb dM_init_160 (by decide) ?_
  refine lv_icmp_ge (tgt := 185) hx hb dM_init_161 (by decide) (fun h => ((by revert h; decide : False)).elim) (fun _ => ?_)
  refine lv_aload_n hx hb dM_init_164 rfl (lv_at hl 2 rfl) ?_
  refine va_get (D := D) (ci := 5) (v := .ref q10) (C := "ValueBenchModel") (T := TM) (N := 32) hx hb htx inM hown hK hP 0 rfl rfl 24 (by decide) (htx _ kw_5_111) (fun _ h9 => h9) rfl dM_init_165 ?_
  refine lv_iload_n hx hb dM_init_168 rfl (lv_at hl 1 rfl) ?_
  refine xx_aldA hx hb hK hP 10 5 rfl rfl (show ¬ ((6 : Int32) < 0 ∨ 8 ≤ (6 : Int32).toNatClampNeg) by decide) dM_init_169 ?_
  refine W.eq (g2 := F0 m 170 ls [.ref q17]) rfl ?_
  refine lv_iload_n hx hb dM_init_170 rfl (lv_at hl 0 rfl) ?_
  refine va_ldcS (q := aK 10) hx hb hown (hZ.2.2.2.2.2.2.2.2.1 _ (List.mem_of_getElem? (i := 17) rfl)) dM_init_171 ?_
  refine lv_iload_n hx hb dM_init_173 rfl (lv_at hl 0 rfl) ?_
  obtain ⟨hPc, hDc, hFc⟩ := xcut (wc := []) hP hD hS hA [] rfl rfl (by decide)
  refine va_calli (va_runV (C := "java/lang/String") (As := [.int 3]) (rest := [.int 3, .ref q17]) ⟨hx, hb, hml, hown, htx⟩ (cJS_charAt_3 l hl9 D cT aK aV H.size) ⟨callB_of 1 htx (xw_goodC kw_2_80) rfl rfl rfl (htx _ kw_1_6) (htx _ kw_5_86) ⟨by decide, by decide, by decide +kernel⟩ ⟨Nat.le_of_ble_eq_true rfl, Nat.le_of_ble_eq_true rfl⟩, (htx _ kw_2_78), (htx _ kw_2_79)⟩ ⟨xPre_blind, vk_recv hZ.2.2.2.2.2.2.2.2.2.1 (i := 10) (by decide) hS, (fun U hU hW => ⟨rfl, xPre_of hZ hS hFc hPc hDc hK U hU hW⟩)⟩ rfl rfl hl.1 rfl (lv_room (Nat.le_of_ble_eq_true rfl)) dM_init_174 ⟨Nat.le_of_ble_eq_true rfl, Nat.le_of_ble_eq_true rfl⟩) hS (fun q _ h => hFc q h) hFc (fun r49 u9 t H1 locs ht hvm hr9 hB hz1 hk1 hS => ?_)
  obtain ⟨hP1, hK1, hD1⟩ := hB
  rw [ht] at hP1
  obtain ⟨hP, hD⟩ := xjoin (W := [(a0, .inr (5, [v1, .ref q1, v3, .ref q2, v5, .ref q3, .ref q4, v8, v9, v10, .ref q5, .ref q6, v13, .ref q7, .ref q8, v16, v17, v18, v19, .int 40, .int (-1), .ref q9, v23, .int 1000000000, .ref q10, .ref q19, .ref q20, v28, .ref q21, v30, v31, .int (-1)])), (q1, .inl (cT 4, 1024, .inr (.inr (.inr (.inr (fun _ => none)))))), (q2, .inl (cT 0, 4096, .inl (fun _ => 0))), (q3, .inl (cT 4, 1024, .inr (.inr (.inr (.inr (fun _ => none)))))), (q4, .inl (cT 4, 1024, .inr (.inr (.inr (.inr (fun _ => none)))))), (q5, .inl (cT 4, 256, .inr (.inr (.inr (.inr (fun _ => none)))))), (q6, .inl (cT 4, 256, .inr (.inr (.inr (.inr (fun _ => none)))))), (q7, .inl (cT 1, 64, .inl (fun _ => 0))), (q8, .inl (cT 1, 64, .inl (fun _ => 0))), (q9, .inl (cT 0, 1024, .inl (fun _ => 0))), (q10, .inl (cT 5, 8, .inr (.inr (.inr (.inr (x8 q11 q12 q13 q14 q15 q16 q17 q18)))))), (q11, .inl (cT 0, 4096, .inl (upd (upd (upd (upd (fun _ => 0) 0 110) 1 117) 2 108) 3 108))), (q12, .inl (cT 0, 4096, .inl (upd (upd (upd (upd (fun _ => 0) 0 110) 1 117) 2 108) 3 108))), (q13, .inl (cT 0, 4096, .inl (upd (upd (upd (upd (fun _ => 0) 0 110) 1 117) 2 108) 3 108))), (q14, .inl (cT 0, 4096, .inl (upd (upd (upd (upd (fun _ => 0) 0 110) 1 117) 2 108) 3 108))), (q15, .inl (cT 0, 4096, .inl (upd (upd (upd (upd (fun _ => 0) 0 110) 1 117) 2 108) 3 108))), (q16, .inl (cT 0, 4096, .inl (upd (upd (upd (upd (fun _ => 0) 0 110) 1 117) 2 108) 3 108))), (q17, .inl (cT 0, 4096, .inl (upd (upd (upd (fun _ => 0) 0 110) 1 117) 2 108))), (q18, .inl (cT 0, 4096, .inl (fun _ => 0))), (q19, .inl (cT 1, 8, .inl (upd (upd (upd (upd (upd (upd (fun _ => 0) 0 4) 1 4) 2 4) 3 4) 4 4) 5 4))), (q20, .inl (cT 0, 4096, .inl (fun _ => 0))), (q21, .inl (cT 0, 4096, .inl (fun _ => 0)))]) hP hD [] [0, 1, 2, 3, 4, 5, 6, 7, 8, 9, 10, 11, 12, 13, 14, 15, 16, 17, 18, 19, 20, 21] 22 rfl rfl (by decide) (by decide) hk1 hFc hP1 hD1
  generalize H1 = H at hP hS ⊢
  rw [hr9]
  refine W.eq (g2 := F0 m 177 ls [.int 108, .int 3, .ref q17]) rfl ?_
  refine lv_i2b hx hb dM_init_177 rfl ?_
  refine W.eq (g2 := F0 m 178 ls [.int 108, .int 3, .ref q17]) rfl ?_
  refine va_bast hx hb hK hP hD hS 17 0 rfl rfl (show ¬ ((3 : Int32) < 0 ∨ 4096 ≤ (3 : Int32).toNatClampNeg) by decide) dM_init_178 (fun H locs hP hD hS => ?_)
  obtain ⟨hP, hD⟩ : xPD D xcl A [(a0, .inr (5, [v1, .ref q1, v3, .ref q2, v5, .ref q3, .ref q4, v8, v9, v10, .ref q5, .ref q6, v13, .ref q7, .ref q8, v16, v17, v18, v19, .int 40, .int (-1), .ref q9, v23, .int 1000000000, .ref q10, .ref q19, .ref q20, v28, .ref q21, v30, v31, .int (-1)])), (q1, .inl (cT 4, 1024, .inr (.inr (.inr (.inr (fun _ => none)))))), (q2, .inl (cT 0, 4096, .inl (fun _ => 0))), (q3, .inl (cT 4, 1024, .inr (.inr (.inr (.inr (fun _ => none)))))), (q4, .inl (cT 4, 1024, .inr (.inr (.inr (.inr (fun _ => none)))))), (q5, .inl (cT 4, 256, .inr (.inr (.inr (.inr (fun _ => none)))))), (q6, .inl (cT 4, 256, .inr (.inr (.inr (.inr (fun _ => none)))))), (q7, .inl (cT 1, 64, .inl (fun _ => 0))), (q8, .inl (cT 1, 64, .inl (fun _ => 0))), (q9, .inl (cT 0, 1024, .inl (fun _ => 0))), (q10, .inl (cT 5, 8, .inr (.inr (.inr (.inr (x8 q11 q12 q13 q14 q15 q16 q17 q18)))))), (q11, .inl (cT 0, 4096, .inl (upd (upd (upd (upd (fun _ => 0) 0 110) 1 117) 2 108) 3 108))), (q12, .inl (cT 0, 4096, .inl (upd (upd (upd (upd (fun _ => 0) 0 110) 1 117) 2 108) 3 108))), (q13, .inl (cT 0, 4096, .inl (upd (upd (upd (upd (fun _ => 0) 0 110) 1 117) 2 108) 3 108))), (q14, .inl (cT 0, 4096, .inl (upd (upd (upd (upd (fun _ => 0) 0 110) 1 117) 2 108) 3 108))), (q15, .inl (cT 0, 4096, .inl (upd (upd (upd (upd (fun _ => 0) 0 110) 1 117) 2 108) 3 108))), (q16, .inl (cT 0, 4096, .inl (upd (upd (upd (upd (fun _ => 0) 0 110) 1 117) 2 108) 3 108))), (q17, .inl (cT 0, 4096, .inl (upd (upd (upd (upd (fun _ => 0) 0 110) 1 117) 2 108) 3 108))), (q18, .inl (cT 0, 4096, .inl (fun _ => 0))), (q19, .inl (cT 1, 8, .inl (upd (upd (upd (upd (upd (upd (fun _ => 0) 0 4) 1 4) 2 4) 3 4) 4 4) 5 4))), (q20, .inl (cT 0, 4096, .inl (fun _ => 0))), (q21, .inl (cT 0, 4096, .inl (fun _ => 0)))] H := ⟨hP, hD⟩
  refine lv_iinc (v := 4) (lv' := [(2, .int 4), (1, .int 6), (0, .ref a0)]) hx hb dM_init_179 hl (k := 0) rfl (by decide) (by decide) rfl (fun ls hl => ?_)
  refine lv_goto (tgt := 159) hx hb dM_init_182 (by decide) ?_
  refine lv_iload_n hx hb dM_init_159 rfl (lv_at hl 0 rfl) ?_
  refine lv_iconst (v := 4) hx hb dM_init_160 (by decide) ?_
  refine lv_icmp_ge (tgt := 185) hx hb dM_init_161 (by decide) (fun _ => ?_) (fun h => ((by revert h; decide : False)).elim)
  refine lv_aload_n hx hb dM_init_185 rfl (lv_at hl 2 rfl) ?_
  refine va_get (D := D) (ci := 5) (v := .ref q19) (C := "ValueBenchModel") (T := TM) (N := 32) hx hb htx inM hown hK hP 0 rfl rfl 25 (by decide) (htx _ kw_5_112) (fun _ h9 => h9) rfl dM_init_186 ?_
  refine lv_iload_n hx hb dM_init_189 rfl (lv_at hl 1 rfl) ?_
  refine lv_iconst (v := 4) hx hb dM_init_190 (by decide) ?_
  refine va_iast hx hb hK hP hD hS 19 1 rfl rfl (show ¬ ((6 : Int32) < 0 ∨ 8 ≤ (6 : Int32).toNatClampNeg) by decide) dM_init_191 (fun H locs hP hD hS => ?_)
  obtain ⟨hP, hD⟩ : xPD D xcl A [(a0, .inr (5, [v1, .ref q1, v3, .ref q2, v5, .ref q3, .ref q4, v8, v9, v10, .ref q5, .ref q6, v13, .ref q7, .ref q8, v16, v17, v18, v19, .int 40, .int (-1), .ref q9, v23, .int 1000000000, .ref q10, .ref q19, .ref q20, v28, .ref q21, v30, v31, .int (-1)])), (q1, .inl (cT 4, 1024, .inr (.inr (.inr (.inr (fun _ => none)))))), (q2, .inl (cT 0, 4096, .inl (fun _ => 0))), (q3, .inl (cT 4, 1024, .inr (.inr (.inr (.inr (fun _ => none)))))), (q4, .inl (cT 4, 1024, .inr (.inr (.inr (.inr (fun _ => none)))))), (q5, .inl (cT 4, 256, .inr (.inr (.inr (.inr (fun _ => none)))))), (q6, .inl (cT 4, 256, .inr (.inr (.inr (.inr (fun _ => none)))))), (q7, .inl (cT 1, 64, .inl (fun _ => 0))), (q8, .inl (cT 1, 64, .inl (fun _ => 0))), (q9, .inl (cT 0, 1024, .inl (fun _ => 0))), (q10, .inl (cT 5, 8, .inr (.inr (.inr (.inr (x8 q11 q12 q13 q14 q15 q16 q17 q18)))))), (q11, .inl (cT 0, 4096, .inl (upd (upd (upd (upd (fun _ => 0) 0 110) 1 117) 2 108) 3 108))), (q12, .inl (cT 0, 4096, .inl (upd (upd (upd (upd (fun _ => 0) 0 110) 1 117) 2 108) 3 108))), (q13, .inl (cT 0, 4096, .inl (upd (upd (upd (upd (fun _ => 0) 0 110) 1 117) 2 108) 3 108))), (q14, .inl (cT 0, 4096, .inl (upd (upd (upd (upd (fun _ => 0) 0 110) 1 117) 2 108) 3 108))), (q15, .inl (cT 0, 4096, .inl (upd (upd (upd (upd (fun _ => 0) 0 110) 1 117) 2 108) 3 108))), (q16, .inl (cT 0, 4096, .inl (upd (upd (upd (upd (fun _ => 0) 0 110) 1 117) 2 108) 3 108))), (q17, .inl (cT 0, 4096, .inl (upd (upd (upd (upd (fun _ => 0) 0 110) 1 117) 2 108) 3 108))), (q18, .inl (cT 0, 4096, .inl (fun _ => 0))), (q19, .inl (cT 1, 8, .inl (upd (upd (upd (upd (upd (upd (upd (fun _ => 0) 0 4) 1 4) 2 4) 3 4) 4 4) 5 4) 6 4))), (q20, .inl (cT 0, 4096, .inl (fun _ => 0))), (q21, .inl (cT 0, 4096, .inl (fun _ => 0)))] H := ⟨hP, hD⟩
  refine lv_iinc (v := 7) (lv' := [(1, .int 7), (2, .int 4), (0, .ref a0)]) hx hb dM_init_192 hl (k := 1) rfl (by decide) (by decide) rfl (fun ls hl => ?_)
  refine lv_goto (tgt := 151) hx hb dM_init_195 (by decide) ?_
  refine lv_iload_n hx hb dM_init_151 rfl (lv_at hl 0 rfl) ?_
  refine lv_bipush (v := 8) hx hb dM_init_152 (by decide) ?_
  refine lv_icmp_ge (tgt := 198) hx hb dM_init_154 (by decide) (fun h => ((by revert h; decide : False)).elim) (fun _ => ?_)
  refine lv_iconst (v := 0) hx hb dM_init_157 (by decide) ?_
  refine lv_istore_n (lv' := [(2, .int 0), (1, .int 7), (0, .ref a0)]) hx hb dM_init_158 rfl hl (by decide) rfl (fun ls hl => ?_)
  refine lv_iload_n hx hb dM_init_159 rfl (lv_at hl 0 rfl) ?_
  refine lv_iconst (v := 4) hx hb dM_init_160 (by decide) ?_
  refine lv_icmp_ge (tgt := 185) hx hb dM_init_161 (by decide) (fun h => ((by revert h; decide : False)).elim) (fun _ => ?_)
  refine lv_aload_n hx hb dM_init_164 rfl (lv_at hl 2 rfl) ?_
  refine va_get (D := D) (ci := 5) (v := .ref q10) (C := "ValueBenchModel") (T := TM) (N := 32) hx hb htx inM hown hK hP 0 rfl rfl 24 (by decide) (htx _ kw_5_111) (fun _ h9 => h9) rfl dM_init_165 ?_
  refine lv_iload_n hx hb dM_init_168 rfl (lv_at hl 1 rfl) ?_
  refine xx_aldA hx hb hK hP 10 5 rfl rfl (show ¬ ((7 : Int32) < 0 ∨ 8 ≤ (7 : Int32).toNatClampNeg) by decide) dM_init_169 ?_
  refine W.eq (g2 := F0 m 170 ls [.ref q18]) rfl ?_
  refine lv_iload_n hx hb dM_init_170 rfl (lv_at hl 0 rfl) ?_
  refine va_ldcS (q := aK 10) hx hb hown (hZ.2.2.2.2.2.2.2.2.1 _ (List.mem_of_getElem? (i := 17) rfl)) dM_init_171 ?_
  refine lv_iload_n hx hb dM_init_173 rfl (lv_at hl 0 rfl) ?_
  obtain ⟨hPc, hDc, hFc⟩ := xcut (wc := []) hP hD hS hA [] rfl rfl (by decide)
  refine va_calli (va_runV (C := "java/lang/String") (As := [.int 0]) (rest := [.int 0, .ref q18]) ⟨hx, hb, hml, hown, htx⟩ (cJS_charAt_0 l hl9 D cT aK aV H.size) ⟨callB_of 1 htx (xw_goodC kw_2_80) rfl rfl rfl (htx _ kw_1_6) (htx _ kw_5_86) ⟨by decide, by decide, by decide +kernel⟩ ⟨Nat.le_of_ble_eq_true rfl, Nat.le_of_ble_eq_true rfl⟩, (htx _ kw_2_78), (htx _ kw_2_79)⟩ ⟨xPre_blind, vk_recv hZ.2.2.2.2.2.2.2.2.2.1 (i := 10) (by decide) hS, (fun U hU hW => ⟨rfl, xPre_of hZ hS hFc hPc hDc hK U hU hW⟩)⟩ rfl rfl hl.1 rfl (lv_room (Nat.le_of_ble_eq_true rfl)) dM_init_174 ⟨Nat.le_of_ble_eq_true rfl, Nat.le_of_ble_eq_true rfl⟩) hS (fun q _ h => hFc q h) hFc (fun r50 u9 t H1 locs ht hvm hr9 hB hz1 hk1 hS => ?_)
  obtain ⟨hP1, hK1, hD1⟩ := hB
  rw [ht] at hP1
  obtain ⟨hP, hD⟩ := xjoin (W := [(a0, .inr (5, [v1, .ref q1, v3, .ref q2, v5, .ref q3, .ref q4, v8, v9, v10, .ref q5, .ref q6, v13, .ref q7, .ref q8, v16, v17, v18, v19, .int 40, .int (-1), .ref q9, v23, .int 1000000000, .ref q10, .ref q19, .ref q20, v28, .ref q21, v30, v31, .int (-1)])), (q1, .inl (cT 4, 1024, .inr (.inr (.inr (.inr (fun _ => none)))))), (q2, .inl (cT 0, 4096, .inl (fun _ => 0))), (q3, .inl (cT 4, 1024, .inr (.inr (.inr (.inr (fun _ => none)))))), (q4, .inl (cT 4, 1024, .inr (.inr (.inr (.inr (fun _ => none)))))), (q5, .inl (cT 4, 256, .inr (.inr (.inr (.inr (fun _ => none)))))), (q6, .inl (cT 4, 256, .inr (.inr (.inr (.inr (fun _ => none)))))), (q7, .inl (cT 1, 64, .inl (fun _ => 0))), (q8, .inl (cT 1, 64, .inl (fun _ => 0))), (q9, .inl (cT 0, 1024, .inl (fun _ => 0))), (q10, .inl (cT 5, 8, .inr (.inr (.inr (.inr (x8 q11 q12 q13 q14 q15 q16 q17 q18)))))), (q11, .inl (cT 0, 4096, .inl (upd (upd (upd (upd (fun _ => 0) 0 110) 1 117) 2 108) 3 108))), (q12, .inl (cT 0, 4096, .inl (upd (upd (upd (upd (fun _ => 0) 0 110) 1 117) 2 108) 3 108))), (q13, .inl (cT 0, 4096, .inl (upd (upd (upd (upd (fun _ => 0) 0 110) 1 117) 2 108) 3 108))), (q14, .inl (cT 0, 4096, .inl (upd (upd (upd (upd (fun _ => 0) 0 110) 1 117) 2 108) 3 108))), (q15, .inl (cT 0, 4096, .inl (upd (upd (upd (upd (fun _ => 0) 0 110) 1 117) 2 108) 3 108))), (q16, .inl (cT 0, 4096, .inl (upd (upd (upd (upd (fun _ => 0) 0 110) 1 117) 2 108) 3 108))), (q17, .inl (cT 0, 4096, .inl (upd (upd (upd (upd (fun _ => 0) 0 110) 1 117) 2 108) 3 108))), (q18, .inl (cT 0, 4096, .inl (fun _ => 0))), (q19, .inl (cT 1, 8, .inl (upd (upd (upd (upd (upd (upd (upd (fun _ => 0) 0 4) 1 4) 2 4) 3 4) 4 4) 5 4) 6 4))), (q20, .inl (cT 0, 4096, .inl (fun _ => 0))), (q21, .inl (cT 0, 4096, .inl (fun _ => 0)))]) hP hD [] [0, 1, 2, 3, 4, 5, 6, 7, 8, 9, 10, 11, 12, 13, 14, 15, 16, 17, 18, 19, 20, 21] 22 rfl rfl (by decide) (by decide) hk1 hFc hP1 hD1
  generalize H1 = H at hP hS ⊢
  rw [hr9]
  refine W.eq (g2 := F0 m 177 ls [.int 110, .int 0, .ref q18]) rfl ?_
  refine lv_i2b hx hb dM_init_177 rfl ?_
  refine W.eq (g2 := F0 m 178 ls [.int 110, .int 0, .ref q18]) rfl ?_
  refine va_bast hx hb hK hP hD hS 18 0 rfl rfl (show ¬ ((0 : Int32) < 0 ∨ 4096 ≤ (0 : Int32).toNatClampNeg) by decide) dM_init_178 (fun H locs hP hD hS => ?_)
  obtain ⟨hP, hD⟩ : xPD D xcl A [(a0, .inr (5, [v1, .ref q1, v3, .ref q2, v5, .ref q3, .ref q4, v8, v9, v10, .ref q5, .ref q6, v13, .ref q7, .ref q8, v16, v17, v18, v19, .int 40, .int (-1), .ref q9, v23, .int 1000000000, .ref q10, .ref q19, .ref q20, v28, .ref q21, v30, v31, .int (-1)])), (q1, .inl (cT 4, 1024, .inr (.inr (.inr (.inr (fun _ => none)))))), (q2, .inl (cT 0, 4096, .inl (fun _ => 0))), (q3, .inl (cT 4, 1024, .inr (.inr (.inr (.inr (fun _ => none)))))), (q4, .inl (cT 4, 1024, .inr (.inr (.inr (.inr (fun _ => none)))))), (q5, .inl (cT 4, 256, .inr (.inr (.inr (.inr (fun _ => none)))))), (q6, .inl (cT 4, 256, .inr (.inr (.inr (.inr (fun _ => none)))))), (q7, .inl (cT 1, 64, .inl (fun _ => 0))), (q8, .inl (cT 1, 64, .inl (fun _ => 0))), (q9, .inl (cT 0, 1024, .inl (fun _ => 0))), (q10, .inl (cT 5, 8, .inr (.inr (.inr (.inr (x8 q11 q12 q13 q14 q15 q16 q17 q18)))))), (q11, .inl (cT 0, 4096, .inl (upd (upd (upd (upd (fun _ => 0) 0 110) 1 117) 2 108) 3 108))), (q12, .inl (cT 0, 4096, .inl (upd (upd (upd (upd (fun _ => 0) 0 110) 1 117) 2 108) 3 108))), (q13, .inl (cT 0, 4096, .inl (upd (upd (upd (upd (fun _ => 0) 0 110) 1 117) 2 108) 3 108))), (q14, .inl (cT 0, 4096, .inl (upd (upd (upd (upd (fun _ => 0) 0 110) 1 117) 2 108) 3 108))), (q15, .inl (cT 0, 4096, .inl (upd (upd (upd (upd (fun _ => 0) 0 110) 1 117) 2 108) 3 108))), (q16, .inl (cT 0, 4096, .inl (upd (upd (upd (upd (fun _ => 0) 0 110) 1 117) 2 108) 3 108))), (q17, .inl (cT 0, 4096, .inl (upd (upd (upd (upd (fun _ => 0) 0 110) 1 117) 2 108) 3 108))), (q18, .inl (cT 0, 4096, .inl (upd (fun _ => 0) 0 110))), (q19, .inl (cT 1, 8, .inl (upd (upd (upd (upd (upd (upd (upd (fun _ => 0) 0 4) 1 4) 2 4) 3 4) 4 4) 5 4) 6 4))), (q20, .inl (cT 0, 4096, .inl (fun _ => 0))), (q21, .inl (cT 0, 4096, .inl (fun _ => 0)))] H := ⟨hP, hD⟩
  refine lv_iinc (v := 1) (lv' := [(2, .int 1), (1, .int 7), (0, .ref a0)]) hx hb dM_init_179 hl (k := 0) rfl (by decide) (by decide) rfl (fun ls hl => ?_)
  refine lv_goto (tgt := 159) hx hb dM_init_182 (by decide) ?_
  refine lv_iload_n hx hb dM_init_159 rfl (lv_at hl 0 rfl) ?_
  refine lv_iconst (v := 4) hx hb dM_init_160 (by decide) ?_
  refine lv_icmp_ge (tgt := 185) hx hb dM_init_161 (by decide) (fun h => ((by revert h; decide : False)).elim) (fun _ => ?_)
  refine lv_aload_n hx hb dM_init_164 rfl (lv_at hl 2 rfl) ?_
  refine va_get (D := D) (ci := 5) (v := .ref q10) (C := "ValueBenchModel") (T := TM) (N := 32) hx hb htx inM hown hK hP 0 rfl rfl 24 (by decide) (htx _ kw_5_111) (fun _ h9 => h9) rfl dM_init_165 ?_
  refine lv_iload_n hx hb dM_init_168 rfl (lv_at hl 1 rfl) ?_
  refine xx_aldA hx hb hK hP 10 5 rfl rfl (show ¬ ((7 : Int32) < 0 ∨ 8 ≤ (7 : Int32).toNatClampNeg) by decide) dM_init_169 ?_
  refine W.eq (g2 := F0 m 170 ls [.ref q18]) rfl ?_
  refine lv_iload_n hx hb dM_init_170 rfl (lv_at hl 0 rfl) ?_
  refine va_ldcS (q := aK 10) hx hb hown (hZ.2.2.2.2.2.2.2.2.1 _ (List.mem_of_getElem? (i := 17) rfl)) dM_init_171 ?_
  refine lv_iload_n hx hb dM_init_173 rfl (lv_at hl 0 rfl) ?_
  obtain ⟨hPc, hDc, hFc⟩ := xcut (wc := []) hP hD hS hA [] rfl rfl (by decide)
  refine va_calli (va_runV (C := "java/lang/String") (As := [.int 1]) (rest := [.int 1, .ref q18]) ⟨hx, hb, hml, hown, htx⟩ (cJS_charAt_1 l hl9 D cT aK aV H.size) ⟨callB_of 1 htx (xw_goodC kw_2_80) rfl rfl rfl (htx _ kw_1_6) (htx _ kw_5_86) ⟨by decide, by decide, by decide +kernel⟩ ⟨Nat.le_of_ble_eq_true rfl, Nat.le_of_ble_eq_true rfl⟩, (htx _ kw_2_78), (htx _ kw_2_79)⟩ ⟨xPre_blind, vk_recv hZ.2.2.2.2.2.2.2.2.2.1 (i := 10) (by decide) hS, (fun U hU hW => ⟨rfl, xPre_of hZ hS hFc hPc hDc hK U hU hW⟩)⟩ rfl rfl hl.1 rfl (lv_room (Nat.le_of_ble_eq_true rfl)) dM_init_174 ⟨Nat.le_of_ble_eq_true rfl, Nat.le_of_ble_eq_true rfl⟩) hS (fun q _ h => hFc q h) hFc (fun r51 u9 t H1 locs ht hvm hr9 hB hz1 hk1 hS => ?_)
  obtain ⟨hP1, hK1, hD1⟩ := hB
  rw [ht] at hP1
  obtain ⟨hP, hD⟩ := xjoin (W := [(a0, .inr (5, [v1, .ref q1, v3, .ref q2, v5, .ref q3, .ref q4, v8, v9, v10, .ref q5, .ref q6, v13, .ref q7, .ref q8, v16, v17, v18, v19, .int 40, .int (-1), .ref q9, v23, .int 1000000000, .ref q10, .ref q19, .ref q20, v28, .ref q21, v30, v31, .int (-1)])), (q1, .inl (cT 4, 1024, .inr (.inr (.inr (.inr (fun _ => none)))))), (q2, .inl (cT 0, 4096, .inl (fun _ => 0))), (q3, .inl (cT 4, 1024, .inr (.inr (.inr (.inr (fun _ => none)))))), (q4, .inl (cT 4, 1024, .inr (.inr (.inr (.inr (fun _ => none)))))), (q5, .inl (cT 4, 256, .inr (.inr (.inr (.inr (fun _ => none)))))), (q6, .inl (cT 4, 256, .inr (.inr (.inr (.inr (fun _ => none)))))), (q7, .inl (cT 1, 64, .inl (fun _ => 0))), (q8, .inl (cT 1, 64, .inl (fun _ => 0))), (q9, .inl (cT 0, 1024, .inl (fun _ => 0))), (q10, .inl (cT 5, 8, .inr (.inr (.inr (.inr (x8 q11 q12 q13 q14 q15 q16 q17 q18)))))), (q11, .inl (cT 0, 4096, .inl (upd (upd (upd (upd (fun _ => 0) 0 110) 1 117) 2 108) 3 108))), (q12, .inl (cT 0, 4096, .inl (upd (upd (upd (upd (fun _ => 0) 0 110) 1 117) 2 108) 3 108))), (q13, .inl (cT 0, 4096, .inl (upd (upd (upd (upd (fun _ => 0) 0 110) 1 117) 2 108) 3 108))), (q14, .inl (cT 0, 4096, .inl (upd (upd (upd (upd (fun _ => 0) 0 110) 1 117) 2 108) 3 108))), (q15, .inl (cT 0, 4096, .inl (upd (upd (upd (upd (fun _ => 0) 0 110) 1 117) 2 108) 3 108))), (q16, .inl (cT 0, 4096, .inl (upd (upd (upd (upd (fun _ => 0) 0 110) 1 117) 2 108) 3 108))), (q17, .inl (cT 0, 4096, .inl (upd (upd (upd (upd (fun _ => 0) 0 110) 1 117) 2 108) 3 108))), (q18, .inl (cT 0, 4096, .inl (upd (fun _ => 0) 0 110))), (q19, .inl (cT 1, 8, .inl (upd (upd (upd (upd (upd (upd (upd (fun _ => 0) 0 4) 1 4) 2 4) 3 4) 4 4) 5 4) 6 4))), (q20, .inl (cT 0, 4096, .inl (fun _ => 0))), (q21, .inl (cT 0, 4096, .inl (fun _ => 0)))]) hP hD [] [0, 1, 2, 3, 4, 5, 6, 7, 8, 9, 10, 11, 12, 13, 14, 15, 16, 17, 18, 19, 20, 21] 22 rfl rfl (by decide) (by decide) hk1 hFc hP1 hD1
  generalize H1 = H at hP hS ⊢
  rw [hr9]
  refine W.eq (g2 := F0 m 177 ls [.int 117, .int 1, .ref q18]) rfl ?_
  refine lv_i2b hx hb dM_init_177 rfl ?_
  refine W.eq (g2 := F0 m 178 ls [.int 117, .int 1, .ref q18]) rfl ?_
  refine va_bast hx hb hK hP hD hS 18 0 rfl rfl (show ¬ ((1 : Int32) < 0 ∨ 4096 ≤ (1 : Int32).toNatClampNeg) by decide) dM_init_178 (fun H locs hP hD hS => ?_)
  obtain ⟨hP, hD⟩ : xPD D xcl A [(a0, .inr (5, [v1, .ref q1, v3, .ref q2, v5, .ref q3, .ref q4, v8, v9, v10, .ref q5, .ref q6, v13, .ref q7, .ref q8, v16, v17, v18, v19, .int 40, .int (-1), .ref q9, v23, .int 1000000000, .ref q10, .ref q19, .ref q20, v28, .ref q21, v30, v31, .int (-1)])), (q1, .inl (cT 4, 1024, .inr (.inr (.inr (.inr (fun _ => none)))))), (q2, .inl (cT 0, 4096, .inl (fun _ => 0))), (q3, .inl (cT 4, 1024, .inr (.inr (.inr (.inr (fun _ => none)))))), (q4, .inl (cT 4, 1024, .inr (.inr (.inr (.inr (fun _ => none)))))), (q5, .inl (cT 4, 256, .inr (.inr (.inr (.inr (fun _ => none)))))), (q6, .inl (cT 4, 256, .inr (.inr (.inr (.inr (fun _ => none)))))), (q7, .inl (cT 1, 64, .inl (fun _ => 0))), (q8, .inl (cT 1, 64, .inl (fun _ => 0))), (q9, .inl (cT 0, 1024, .inl (fun _ => 0))), (q10, .inl (cT 5, 8, .inr (.inr (.inr (.inr (x8 q11 q12 q13 q14 q15 q16 q17 q18)))))), (q11, .inl (cT 0, 4096, .inl (upd (upd (upd (upd (fun _ => 0) 0 110) 1 117) 2 108) 3 108))), (q12, .inl (cT 0, 4096, .inl (upd (upd (upd (upd (fun _ => 0) 0 110) 1 117) 2 108) 3 108))), (q13, .inl (cT 0, 4096, .inl (upd (upd (upd (upd (fun _ => 0) 0 110) 1 117) 2 108) 3 108))), (q14, .inl (cT 0, 4096, .inl (upd (upd (upd (upd (fun _ => 0) 0 110) 1 117) 2 108) 3 108))), (q15, .inl (cT 0, 4096, .inl (upd (upd (upd (upd (fun _ => 0) 0 110) 1 117) 2 108) 3 108))), (q16, .inl (cT 0, 4096, .inl (upd (upd (upd (upd (fun _ => 0) 0 110) 1 117) 2 108) 3 108))), (q17, .inl (cT 0, 4096, .inl (upd (upd (upd (upd (fun _ => 0) 0 110) 1 117) 2 108) 3 108))), (q18, .inl (cT 0, 4096, .inl (upd (upd (fun _ => 0) 0 110) 1 117))), (q19, .inl (cT 1, 8, .inl (upd (upd (upd (upd (upd (upd (upd (fun _ => 0) 0 4) 1 4) 2 4) 3 4) 4 4) 5 4) 6 4))), (q20, .inl (cT 0, 4096, .inl (fun _ => 0))), (q21, .inl (cT 0, 4096, .inl (fun _ => 0)))] H := ⟨hP, hD⟩
  refine lv_iinc (v := 2) (lv' := [(2, .int 2), (1, .int 7), (0, .ref a0)]) hx hb dM_init_179 hl (k := 0) rfl (by decide) (by decide) rfl (fun ls hl => ?_)
  refine lv_goto (tgt := 159) hx hb dM_init_182 (by decide) ?_
  refine lv_iload_n hx hb dM_init_159 rfl (lv_at hl 0 rfl) ?_
  refine lv_iconst (v := 4) hx hb dM_init_160 (by decide) ?_
  refine lv_icmp_ge (tgt := 185) hx hb dM_init_161 (by decide) (fun h => ((by revert h; decide : False)).elim) (fun _ => ?_)
  refine lv_aload_n hx hb dM_init_164 rfl (lv_at hl 2 rfl) ?_
  refine va_get (D := D) (ci := 5) (v := .ref q10) (C := "ValueBenchModel") (T := TM) (N := 32) hx hb htx inM hown hK hP 0 rfl rfl 24 (by decide) (htx _ kw_5_111) (fun _ h9 => h9) rfl dM_init_165 ?_
  refine lv_iload_n hx hb dM_init_168 rfl (lv_at hl 1 rfl) ?_
  refine xx_aldA hx hb hK hP 10 5 rfl rfl (show ¬ ((7 : Int32) < 0 ∨ 8 ≤ (7 : Int32).toNatClampNeg) by decide) dM_init_169 ?_
  refine W.eq (g2 := F0 m 170 ls [.ref q18]) rfl ?_
  refine lv_iload_n hx hb dM_init_170 rfl (lv_at hl 0 rfl) ?_
  refine va_ldcS (q := aK 10) hx hb hown (hZ.2.2.2.2.2.2.2.2.1 _ (List.mem_of_getElem? (i := 17) rfl)) dM_init_171 ?_
  refine lv_iload_n hx hb dM_init_173 rfl (lv_at hl 0 rfl) ?_
  obtain ⟨hPc, hDc, hFc⟩ := xcut (wc := []) hP hD hS hA [] rfl rfl (by decide)
  refine va_calli (va_runV (C := "java/lang/String") (As := [.int 2]) (rest := [.int 2, .ref q18]) ⟨hx, hb, hml, hown, htx⟩ (cJS_charAt_2 l hl9 D cT aK aV H.size) ⟨callB_of 1 htx (xw_goodC kw_2_80) rfl rfl rfl (htx _ kw_1_6) (htx _ kw_5_86) ⟨by decide, by decide, by decide +kernel⟩ ⟨Nat.le_of_ble_eq_true rfl, Nat.le_of_ble_eq_true rfl⟩, (htx _ kw_2_78), (htx _ kw_2_79)⟩ ⟨xPre_blind, vk_recv hZ.2.2.2.2.2.2.2.2.2.1 (i := 10) (by decide) hS, (fun U hU hW => ⟨rfl, xPre_of hZ hS hFc hPc hDc hK U hU hW⟩)⟩ rfl rfl hl.1 rfl (lv_room (Nat.le_of_ble_eq_true rfl)) dM_init_174 ⟨Nat.le_of_ble_eq_true rfl, Nat.le_of_ble_eq_true rfl⟩) hS (fun q _ h => hFc q h) hFc (fun r52 u9 t H1 locs ht hvm hr9 hB hz1 hk1 hS => ?_)
  obtain ⟨hP1, hK1, hD1⟩ := hB
  rw [ht] at hP1
  obtain ⟨hP, hD⟩ := xjoin (W := [(a0, .inr (5, [v1, .ref q1, v3, .ref q2, v5, .ref q3, .ref q4, v8, v9, v10, .ref q5, .ref q6, v13, .ref q7, .ref q8, v16, v17, v18, v19, .int 40, .int (-1), .ref q9, v23, .int 1000000000, .ref q10, .ref q19, .ref q20, v28, .ref q21, v30, v31, .int (-1)])), (q1, .inl (cT 4, 1024, .inr (.inr (.inr (.inr (fun _ => none)))))), (q2, .inl (cT 0, 4096, .inl (fun _ => 0))), (q3, .inl (cT 4, 1024, .inr (.inr (.inr (.inr (fun _ => none)))))), (q4, .inl (cT 4, 1024, .inr (.inr (.inr (.inr (fun _ => none)))))), (q5, .inl (cT 4, 256, .inr (.inr (.inr (.inr (fun _ => none)))))), (q6, .inl (cT 4, 256, .inr (.inr (.inr (.inr (fun _ => none)))))), (q7, .inl (cT 1, 64, .inl (fun _ => 0))), (q8, .inl (cT 1, 64, .inl (fun _ => 0))), (q9, .inl (cT 0, 1024, .inl (fun _ => 0))), (q10, .inl (cT 5, 8, .inr (.inr (.inr (.inr (x8 q11 q12 q13 q14 q15 q16 q17 q18)))))), (q11, .inl (cT 0, 4096, .inl (upd (upd (upd (upd (fun _ => 0) 0 110) 1 117) 2 108) 3 108))), (q12, .inl (cT 0, 4096, .inl (upd (upd (upd (upd (fun _ => 0) 0 110) 1 117) 2 108) 3 108))), (q13, .inl (cT 0, 4096, .inl (upd (upd (upd (upd (fun _ => 0) 0 110) 1 117) 2 108) 3 108))), (q14, .inl (cT 0, 4096, .inl (upd (upd (upd (upd (fun _ => 0) 0 110) 1 117) 2 108) 3 108))), (q15, .inl (cT 0, 4096, .inl (upd (upd (upd (upd (fun _ => 0) 0 110) 1 117) 2 108) 3 108))), (q16, .inl (cT 0, 4096, .inl (upd (upd (upd (upd (fun _ => 0) 0 110) 1 117) 2 108) 3 108))), (q17, .inl (cT 0, 4096, .inl (upd (upd (upd (upd (fun _ => 0) 0 110) 1 117) 2 108) 3 108))), (q18, .inl (cT 0, 4096, .inl (upd (upd (fun _ => 0) 0 110) 1 117))), (q19, .inl (cT 1, 8, .inl (upd (upd (upd (upd (upd (upd (upd (fun _ => 0) 0 4) 1 4) 2 4) 3 4) 4 4) 5 4) 6 4))), (q20, .inl (cT 0, 4096, .inl (fun _ => 0))), (q21, .inl (cT 0, 4096, .inl (fun _ => 0)))]) hP hD [] [0, 1, 2, 3, 4, 5, 6, 7, 8, 9, 10, 11, 12, 13, 14, 15, 16, 17, 18, 19, 20, 21] 22 rfl rfl (by decide) (by decide) hk1 hFc hP1 hD1
  generalize H1 = H at hP hS ⊢
  rw [hr9]
  refine W.eq (g2 := F0 m 177 ls [.int 108, .int 2, .ref q18]) rfl ?_
  refine lv_i2b hx hb dM_init_177 rfl ?_
  refine W.eq (g2 := F0 m 178 ls [.int 108, .int 2, .ref q18]) rfl ?_
  refine va_bast hx hb hK hP hD hS 18 0 rfl rfl (show ¬ ((2 : Int32) < 0 ∨ 4096 ≤ (2 : Int32).toNatClampNeg) by decide) dM_init_178 (fun H locs hP hD hS => ?_)
  obtain ⟨hP, hD⟩ : xPD D xcl A [(a0, .inr (5, [v1, .ref q1, v3, .ref q2, v5, .ref q3, .ref q4, v8, v9, v10, .ref q5, .ref q6, v13, .ref q7, .ref q8, v16, v17, v18, v19, .int 40, .int (-1), .ref q9, v23, .int 1000000000, .ref q10, .ref q19, .ref q20, v28, .ref q21, v30, v31, .int (-1)])), (q1, .inl (cT 4, 1024, .inr (.inr (.inr (.inr (fun _ => none)))))), (q2, .inl (cT 0, 4096, .inl (fun _ => 0))), (q3, .inl (cT 4, 1024, .inr (.inr (.inr (.inr (fun _ => none)))))), (q4, .inl (cT 4, 1024, .inr (.inr (.inr (.inr (fun _ => none)))))), (q5, .inl (cT 4, 256, .inr (.inr (.inr (.inr (fun _ => none)))))), (q6, .inl (cT 4, 256, .inr (.inr (.inr (.inr (fun _ => none)))))), (q7, .inl (cT 1, 64, .inl (fun _ => 0))), (q8, .inl (cT 1, 64, .inl (fun _ => 0))), (q9, .inl (cT 0, 1024, .inl (fun _ => 0))), (q10, .inl (cT 5, 8, .inr (.inr (.inr (.inr (x8 q11 q12 q13 q14 q15 q16 q17 q18)))))), (q11, .inl (cT 0, 4096, .inl (upd (upd (upd (upd (fun _ => 0) 0 110) 1 117) 2 108) 3 108))), (q12, .inl (cT 0, 4096, .inl (upd (upd (upd (upd (fun _ => 0) 0 110) 1 117) 2 108) 3 108))), (q13, .inl (cT 0, 4096, .inl (upd (upd (upd (upd (fun _ => 0) 0 110) 1 117) 2 108) 3 108))), (q14, .inl (cT 0, 4096, .inl (upd (upd (upd (upd (fun _ => 0) 0 110) 1 117) 2 108) 3 108))), (q15, .inl (cT 0, 4096, .inl (upd (upd (upd (upd (fun _ => 0) 0 110) 1 117) 2 108) 3 108))), (q16, .inl (cT 0, 4096, .inl (upd (upd (upd (upd (fun _ => 0) 0 110) 1 117) 2 108) 3 108))), (q17, .inl (cT 0, 4096, .inl (upd (upd (upd (upd (fun _ => 0) 0 110) 1 117) 2 108) 3 108))), (q18, .inl (cT 0, 4096, .inl (upd (upd (upd (fun _ => 0) 0 110) 1 117) 2 108))), (q19, .inl (cT 1, 8, .inl (upd (upd (upd (upd (upd (upd (upd (fun _ => 0) 0 4) 1 4) 2 4) 3 4) 4 4) 5 4) 6 4))), (q20, .inl (cT 0, 4096, .inl (fun _ => 0))), (q21, .inl (cT 0, 4096, .inl (fun _ => 0)))] H := ⟨hP, hD⟩
  refine lv_iinc (v := 3) (lv' := [(2, .int 3), (1, .int 7), (0, .ref a0)]) hx hb dM_init_179 hl (k := 0) rfl (by decide) (by decide) rfl (fun ls hl => ?_)
  refine lv_goto (tgt := 159) hx hb dM_init_182 (by decide) ?_
  refine lv_iload_n hx hb dM_init_159 rfl (lv_at hl 0 rfl) ?_
  refine lv_iconst (v := 4) hx hb dM_init_160 (by decide) ?_
  refine lv_icmp_ge (tgt := 185) hx hb dM_init_161 (by decide) (fun h => ((by revert h; decide : False)).elim) (fun _ => ?_)
  refine lv_aload_n hx hb dM_init_164 rfl (lv_at hl 2 rfl) ?_
  refine va_get (D := D) (ci := 5) (v := .ref q10) (C := "ValueBenchModel") (T := TM) (N := 32) hx hb htx inM hown hK hP 0 rfl rfl 24 (by decide) (htx _ kw_5_111) (fun _ h9 => h9) rfl dM_init_165 ?_
  refine lv_iload_n hx hb dM_init_168 rfl (lv_at hl 1 rfl) ?_
  refine xx_aldA hx hb hK hP 10 5 rfl rfl (show ¬ ((7 : Int32) < 0 ∨ 8 ≤ (7 : Int32).toNatClampNeg) by decide) dM_init_169 ?_
  refine W.eq (g2 := F0 m 170 ls [.ref q18]) rfl ?_
  refine lv_iload_n hx hb dM_init_170 rfl (lv_at hl 0 rfl) ?_
  refine va_ldcS (q := aK 10) hx hb hown (hZ.2.2.2.2.2.2.2.2.1 _ (List.mem_of_getElem? (i := 17) rfl)) dM_init_171 ?_
  refine lv_iload_n hx hb dM_init_173 rfl (lv_at hl 0 rfl) ?_
  obtain ⟨hPc, hDc, hFc⟩ := xcut (wc := []) hP hD hS hA [] rfl rfl (by decide)
  refine va_calli (va_runV (C := "java/lang/String") (As := [.int 3]) (rest := [.int 3, .ref q18]) ⟨hx, hb, hml, hown, htx⟩ (cJS_charAt_3 l hl9 D cT aK aV H.size) ⟨callB_of 1 htx (xw_goodC kw_2_80) rfl rfl rfl (htx _ kw_1_6) (htx _ kw_5_86) ⟨by decide, by decide, by decide +kernel⟩ ⟨Nat.le_of_ble_eq_true rfl, Nat.le_of_ble_eq_true rfl⟩, (htx _ kw_2_78), (htx _ kw_2_79)⟩ ⟨xPre_blind, vk_recv hZ.2.2.2.2.2.2.2.2.2.1 (i := 10) (by decide) hS, (fun U hU hW => ⟨rfl, xPre_of hZ hS hFc hPc hDc hK U hU hW⟩)⟩ rfl rfl hl.1 rfl (lv_room (Nat.le_of_ble_eq_true rfl)) dM_init_174 ⟨Nat.le_of_ble_eq_true rfl, Nat.le_of_ble_eq_true rfl⟩) hS (fun q _ h => hFc q h) hFc (fun r53 u9 t H1 locs ht hvm hr9 hB hz1 hk1 hS => ?_)
  obtain ⟨hP1, hK1, hD1⟩ := hB
  rw [ht] at hP1
  obtain ⟨hP, hD⟩ := xjoin (W := [(a0, .inr (5, [v1, .ref q1, v3, .ref q2, v5, .ref q3, .ref q4, v8, v9, v10, .ref q5, .ref q6, v13, .ref q7, .ref q8, v16, v17, v18, v19, .int 40, .int (-1), .ref q9, v23, .int 1000000000, .ref q10, .ref q19, .ref q20, v28, .ref q21, v30, v31, .int (-1)])), (q1, .inl (cT 4, 1024, .inr (.inr (.inr (.inr (fun _ => none)))))), (q2, .inl (cT 0, 4096, .inl (fun _ => 0))), (q3, .inl (cT 4, 1024, .inr (.inr (.inr (.inr (fun _ => none)))))), (q4, .inl (cT 4, 1024, .inr (.inr (.inr (.inr (fun _ => none)))))), (q5, .inl (cT 4, 256, .inr (.inr (.inr (.inr (fun _ => none)))))), (q6, .inl (cT 4, 256, .inr (.inr (.inr (.inr (fun _ => none)))))), (q7, .inl (cT 1, 64, .inl (fun _ => 0))), (q8, .inl (cT 1, 64, .inl (fun _ => 0))), (q9, .inl (cT 0, 1024, .inl (fun _ => 0))), (q10, .inl (cT 5, 8, .inr (.inr (.inr (.inr (x8 q11 q12 q13 q14 q15 q16 q17 q18)))))), (q11, .inl (cT 0, 4096, .inl (upd (upd (upd (upd (fun _ => 0) 0 110) 1 117) 2 108) 3 108))), (q12, .inl (cT 0, 4096, .inl (upd (upd (upd (upd (fun _ => 0) 0 110) 1 117) 2 108) 3 108))), (q13, .inl (cT 0, 4096, .inl (upd (upd (upd (upd (fun _ => 0) 0 110) 1 117) 2 108) 3 108))), (q14, .inl (cT 0, 4096, .inl (upd (upd (upd (upd (fun _ => 0) 0 110) 1 117) 2 108) 3 108))), (q15, .inl (cT 0, 4096, .inl (upd (upd (upd (upd (fun _ => 0) 0 110) 1 117) 2 108) 3 108))), (q16, .inl (cT 0, 4096, .inl (upd (upd (upd (upd (fun _ => 0) 0 110) 1 117) 2 108) 3 108))), (q17, .inl (cT 0, 4096, .inl (upd (upd (upd (upd (fun _ => 0) 0 110) 1 117) 2 108) 3 108))), (q18, .inl (cT 0, 4096, .inl (upd (upd (upd (fun _ => 0) 0 110) 1 117) 2 108))), (q19, .inl (cT 1, 8, .inl (upd (upd (upd (upd (upd (upd (upd (fun _ => 0) 0 4) 1 4) 2 4) 3 4) 4 4) 5 4) 6 4))), (q20, .inl (cT 0, 4096, .inl (fun _ => 0))), (q21, .inl (cT 0, 4096, .inl (fun _ => 0)))]) hP hD [] [0, 1, 2, 3, 4, 5, 6, 7, 8, 9, 10, 11, 12, 13, 14, 15, 16, 17, 18, 19, 20, 21] 22 rfl rfl (by decide) (by decide) hk1 hFc hP1 hD1
  generalize H1 = H at hP hS ⊢
  rw [hr9]
  refine W.eq (g2 := F0 m 177 ls [.int 108, .int 3, .ref q18]) rfl ?_
  refine lv_i2b hx hb dM_init_177 rfl ?_
  refine W.eq (g2 := F0 m 178 ls [.int 108, .int 3, .ref q18]) rfl ?_
  refine va_bast hx hb hK hP hD hS 18 0 rfl rfl (show ¬ ((3 : Int32) < 0 ∨ 4096 ≤ (3 : Int32).toNatClampNeg) by decide) dM_init_178 (fun H locs hP hD hS => ?_)
  obtain ⟨hP, hD⟩ : xPD D xcl A [(a0, .inr (5, [v1, .ref q1, v3, .ref q2, v5, .ref q3, .ref q4, v8, v9, v10, .ref q5, .ref q6, v13, .ref q7, .ref q8, v16, v17, v18, v19, .int 40, .int (-1), .ref q9, v23, .int 1000000000, .ref q10, .ref q19, .ref q20, v28, .ref q21, v30, v31, .int (-1)])), (q1, .inl (cT 4, 1024, .inr (.inr (.inr (.inr (fun _ => none)))))), (q2, .inl (cT 0, 4096, .inl (fun _ => 0))), (q3, .inl (cT 4, 1024, .inr (.inr (.inr (.inr (fun _ => none)))))), (q4, .inl (cT 4, 1024, .inr (.inr (.inr (.inr (fun _ => none)))))), (q5, .inl (cT 4, 256, .inr (.inr (.inr (.inr (fun _ => none)))))), (q6, .inl (cT 4, 256, .inr (.inr (.inr (.inr (fun _ => none)))))), (q7, .inl (cT 1, 64, .inl (fun _ => 0))), (q8, .inl (cT 1, 64, .inl (fun _ => 0))), (q9, .inl (cT 0, 1024, .inl (fun _ => 0))), (q10, .inl (cT 5, 8, .inr (.inr (.inr (.inr (x8 q11 q12 q13 q14 q15 q16 q17 q18)))))), (q11, .inl (cT 0, 4096, .inl (upd (upd (upd (upd (fun _ => 0) 0 110) 1 117) 2 108) 3 108))), (q12, .inl (cT 0, 4096, .inl (upd (upd (upd (upd (fun _ => 0) 0 110) 1 117) 2 108) 3 108))), (q13, .inl (cT 0, 4096, .inl (upd (upd (upd (upd (fun _ => 0) 0 110) 1 117) 2 108) 3 108))), (q14, .inl (cT 0, 4096, .inl (upd (upd (upd (upd (fun _ => 0) 0 110) 1 117) 2 108) 3 108))), (q15, .inl (cT 0, 4096, .inl (upd (upd (upd (upd (fun _ => 0) 0 110) 1 117) 2 108) 3 108))), (q16, .inl (cT 0, 4096, .inl (upd (upd (upd (upd (fun _ => 0) 0 110) 1 117) 2 108) 3 108))), (q17, .inl (cT 0, 4096, .inl (upd (upd (upd (upd (fun _ => 0) 0 110) 1 117) 2 108) 3 108))), (q18, .inl (cT 0, 4096, .inl (upd (upd (upd (upd (fun _ => 0) 0 110) 1 117) 2 108) 3 108))), (q19, .inl (cT 1, 8, .inl (upd (upd (upd (upd (upd (upd (upd (fun _ => 0) 0 4) 1 4) 2 4) 3 4) 4 4) 5 4) 6 4))), (q20, .inl (cT 0, 4096, .inl (fun _ => 0))), (q21, .inl (cT 0, 4096, .inl (fun _ => 0)))] H := ⟨hP, hD⟩
  refine lv_iinc (v := 4) (lv' := [(2, .int 4), (1, .int 7), (0, .ref a0)]) hx hb dM_init_179 hl (k := 0) rfl (by decide) (by decide) rfl (fun ls hl => ?_)
  refine lv_goto (tgt := 159) hx hb dM_init_182 (by decide) ?_
  refine lv_iload_n hx hb dM_init_159 rfl (lv_at hl 0 rfl) ?_
  refine lv_iconst (v := 4) hx hb dM_init_160 (by decide) ?_
  refine lv_icmp_ge (tgt := 185) hx hb dM_init_161 (by decide) (fun _ => ?_) (fun h => ((by revert h; decide : False)).elim)
  refine lv_aload_n hx hb dM_init_185 rfl (lv_at hl 2 rfl) ?_
  refine va_get (D := D) (ci := 5) (v := .ref q19) (C := "ValueBenchModel") (T := TM) (N := 32) hx hb htx inM hown hK hP 0 rfl rfl 25 (by decide) (htx _ kw_5_112) (fun _ h9 => h9) rfl dM_init_186 ?_
  refine lv_iload_n hx hb dM_init_189 rfl (lv_at hl 1 rfl) ?_
  refine lv_iconst (v := 4) hx hb dM_init_190 (by decide) ?_
  refine va_iast hx hb hK hP hD hS 19 1 rfl rfl (show ¬ ((7 : Int32) < 0 ∨ 8 ≤ (7 : Int32).toNatClampNeg) by decide) dM_init_191 (fun H locs hP hD hS => ?_)
  obtain ⟨hP, hD⟩ : xPD D xcl A [(a0, .inr (5, [v1, .ref q1, v3, .ref q2, v5, .ref q3, .ref q4, v8, v9, v10, .ref q5, .ref q6, v13, .ref q7, .ref q8, v16, v17, v18, v19, .int 40, .int (-1), .ref q9, v23, .int 1000000000, .ref q10, .ref q19, .ref q20, v28, .ref q21, v30, v31, .int (-1)])), (q1, .inl (cT 4, 1024, .inr (.inr (.inr (.inr (fun _ => none)))))), (q2, .inl (cT 0, 4096, .inl (fun _ => 0))), (q3, .inl (cT 4, 1024, .inr (.inr (.inr (.inr (fun _ => none)))))), (q4, .inl (cT 4, 1024, .inr (.inr (.inr (.inr (fun _ => none)))))), (q5, .inl (cT 4, 256, .inr (.inr (.inr (.inr (fun _ => none)))))), (q6, .inl (cT 4, 256, .inr (.inr (.inr (.inr (fun _ => none)))))), (q7, .inl (cT 1, 64, .inl (fun _ => 0))), (q8, .inl (cT 1, 64, .inl (fun _ => 0))), (q9, .inl (cT 0, 1024, .inl (fun _ => 0))), (q10, .inl (cT 5, 8, .inr (.inr (.inr (.inr (x8 q11 q12 q13 q14 q15 q16 q17 q18)))))), (q11, .inl (cT 0, 4096, .inl (upd (upd (upd (upd (fun _ => 0) 0 110) 1 117) 2 108) 3 108))), (q12, .inl (cT 0, 4096, .inl (upd (upd (upd (upd (fun _ => 0) 0 110) 1 117) 2 108) 3 108))), (q13, .inl (cT 0, 4096, .inl (upd (upd (upd (upd (fun _ => 0) 0 110) 1 117) 2 108) 3 108))), (q14, .inl (cT 0, 4096, .inl (upd (upd (upd (upd (fun _ => 0) 0 110) 1 117) 2 108) 3 108))), (q15, .inl (cT 0, 4096, .inl (upd (upd (upd (upd (fun _ => 0) 0 110) 1 117) 2 108) 3 108))), (q16, .inl (cT 0, 4096, .inl (upd (upd (upd (upd (fun _ => 0) 0 110) 1 117) 2 108) 3 108))), (q17, .inl (cT 0, 4096, .inl (upd (upd (upd (upd (fun _ => 0) 0 110) 1 117) 2 108) 3 108))), (q18, .inl (cT 0, 4096, .inl (upd (upd (upd (upd (fun _ => 0) 0 110) 1 117) 2 108) 3 108))), (q19, .inl (cT 1, 8, .inl (upd (upd (upd (upd (upd (upd (upd (upd (fun _ => 0) 0 4) 1 4) 2 4) 3 4) 4 4) 5 4) 6 4) 7 4))), (q20, .inl (cT 0, 4096, .inl (fun _ => 0))), (q21, .inl (cT 0, 4096, .inl (fun _ => 0)))] H := ⟨hP, hD⟩
  refine lv_iinc (v := 8) (lv' := [(1, .int 8), (2, .int 4), (0, .ref a0)]) hx hb dM_init_192 hl (k := 1) rfl (by decide) (by decide) rfl (fun ls hl => ?_)
  refine lv_goto (tgt := 151) hx hb dM_init_195 (by decide) ?_
  refine lv_iload_n hx hb dM_init_151 rfl (lv_at hl 0 rfl) ?_
  refine lv_bipush (v := 8) hx hb dM_init_152 (by decide) ?_
  refine lv_icmp_ge (tgt := 198) hx hb dM_init_154 (by decide) (fun _ => ?_) (fun h => ((by revert h; decide : False)).elim)
  obtain ⟨hP9, hD9⟩ := xsub (wc := [(a0, .inr (5, [v1, .ref q1, v3, .ref q2, v5, .ref q3, .ref q4, v8, v9, v10, .ref q5, .ref q6, v13, .ref q7, .ref q8, v16, v17, v18, v19, .int 40, .int (-1), .ref q9, v23, .int 1000000000, .ref q10, .ref q19, .ref q20, v28, .ref q21, v30, v31, .int (-1)])), (q1, .inl (cT 4, 1024, .inr (.inr (.inr (.inr (fun _ => none)))))), (q2, .inl (cT 0, 4096, .inl (fun _ => 0))), (q3, .inl (cT 4, 1024, .inr (.inr (.inr (.inr (fun _ => none)))))), (q4, .inl (cT 4, 1024, .inr (.inr (.inr (.inr (fun _ => none)))))), (q5, .inl (cT 4, 256, .inr (.inr (.inr (.inr (fun _ => none)))))), (q6, .inl (cT 4, 256, .inr (.inr (.inr (.inr (fun _ => none)))))), (q7, .inl (cT 1, 64, .inl (fun _ => 0))), (q8, .inl (cT 1, 64, .inl (fun _ => 0))), (q9, .inl (cT 0, 1024, .inl (fun _ => 0))), (q10, .inl (cT 5, 8, .inr (.inr (.inr (.inr (x8 q11 q12 q13 q14 q15 q16 q17 q18)))))), (q11, .inl (cT 0, 4096, .inl (upd (upd (upd (upd (fun _ => 0) 0 110) 1 117) 2 108) 3 108))), (q12, .inl (cT 0, 4096, .inl (upd (upd (upd (upd (fun _ => 0) 0 110) 1 117) 2 108) 3 108))), (q13, .inl (cT 0, 4096, .inl (upd (upd (upd (upd (fun _ => 0) 0 110) 1 117) 2 108) 3 108))), (q14, .inl (cT 0, 4096, .inl (upd (upd (upd (upd (fun _ => 0) 0 110) 1 117) 2 108) 3 108))), (q15, .inl (cT 0, 4096, .inl (upd (upd (upd (upd (fun _ => 0) 0 110) 1 117) 2 108) 3 108))), (q16, .inl (cT 0, 4096, .inl (upd (upd (upd (upd (fun _ => 0) 0 110) 1 117) 2 108) 3 108))), (q17, .inl (cT 0, 4096, .inl (upd (upd (upd (upd (fun _ => 0) 0 110) 1 117) 2 108) 3 108))), (q18, .inl (cT 0, 4096, .inl (upd (upd (upd (upd (fun _ => 0) 0 110) 1 117) 2 108) 3 108))), (q19, .inl (cT 1, 8, .inl (upd (upd (upd (upd (upd (upd (upd (upd (fun _ => 0) 0 4) 1 4) 2 4) 3 4) 4 4) 5 4) 6 4) 7 4))), (q20, .inl (cT 0, 4096, .inl (fun _ => 0))), (q21, .inl (cT 0, 4096, .inl (fun _ => 0)))]) hP hD [0, 1, 2, 3, 4, 5, 6, 7, 8, 9, 10, 11, 12, 13, 14, 15, 16, 17, 18, 19, 20, 21] rfl rfl (by decide)
  refine W.widen (k := 21) (n := 49808) (Nat.le_of_ble_eq_true rfl) (Nat.le_of_ble_eq_true rfl) ?_
  exact W.vret hx hb hr (fun t ht hW => ⟨⟨(), rfl, trivial, q1, q2, q3, q4, q5, q6, q7, q8, q9, q10, q11, q12, q13, q14, q15, q16, q17, q18, q19, q20, q21, by rw [ht]; exact hP9, va_K.moved hW.alike hK, hD9⟩, hS.F ht⟩) hS.2.2 dM_init_198
set_option maxHeartbeats 4000000 in
set_option maxRecDepth 100000 in
theorem cM_feed_0 (l : Launch) (hl9 : l.stackTraces = false) (D : va_G) (cT : Nat → ClassId) (aK aV : Nat → Nat) (sz : Nat) (a0 : Nat) (a1 : Nat) (x2 : Int32) (x3 : Int32) (x4 : Int32) (x5 : Int32) (x6 : Int32) (v7 : Value) (v8 : Value) (v9 : Value) (v10 : Value) (v11 : Value) (v12 : Value) (v13 : Value) (v14 : Value) (v15 : Value) (v16 : Value) (v17 : Value) (v18 : Value) (v19 : Value) (v20 : Value) (v21 : Value) (v22 : Value) (v23 : Value) (v24 : Value) (v25 : Value) (v26 : Value) (v27 : Value) (v28 : Value) (v29 : Value) (v30 : Value) (v31 : Value) (v32 : Value) (v33 : Value) (v34 : Value) (v35 : Value) (v36 : Value) (f37 : Nat → Int32) : xMet l yM_feed wyM_feed 0 0 0 0 D cT aK aV sz [.ref a0, .int x2, .int x3, .int x4, .int x5, .int x6] [(a0, .inr (5, [v7, v8, v9, v10, v11, v12, v13, v14, v15, v16, v17, v18, v19, v20, v21, v22, v23, v24, v25, v26, v27, v28, v29, v30, v31, v32, .ref a1, .int 0, v33, v34, v35, v36])), (a1, .inl (cT 0, 4096, .inl f37))] (fun A => va_Qi (fun (r : Int32) (_ : Unit) => r = 20) (fun _ t => ∃ (y2 : Int32) (y4 : Int32) (y6 : Int32) (y8 : Int32) (y10 : Int32) (y12 : Int32) (y14 : Int32) (y16 : Int32) (y18 : Int32) (y20 : Int32) (y22 : Int32) (y24 : Int32) (y26 : Int32) (y28 : Int32) (y30 : Int32) (y32 : Int32) (y34 : Int32) (y36 : Int32) (y38 : Int32) (y40 : Int32), xB D xcl cT A [(a0, .inr (5, [.int 0, v8, v9, v10, v11, v12, v13, v14, v15, v16, v17, v18, v19, v20, v21, v22, v23, v24, v25, v26, v27, v28, v29, v30, v31, v32, .ref a1, .int 20, v33, v34, v35, v36])), (a1, .inl (cT 0, 4096, .inl (upd (upd (upd (upd (upd (upd (upd (upd (upd (upd (upd (upd (upd (upd (upd (upd (upd (upd (upd (upd f37 0 (vp_nar .byte y2)) 1 (vp_nar .byte y4)) 2 (vp_nar .byte y6)) 3 (vp_nar .byte y8)) 4 (vp_nar .byte y10)) 5 (vp_nar .byte y12)) 6 (vp_nar .byte y14)) 7 (vp_nar .byte y16)) 8 (vp_nar .byte y18)) 9 (vp_nar .byte y20)) 10 (vp_nar .byte y22)) 11 (vp_nar .byte y24)) 12 (vp_nar .byte y26)) 13 (vp_nar .byte y28)) 14 (vp_nar .byte y30)) 15 (vp_nar .byte y32)) 16 (vp_nar .byte y34)) 17 (vp_nar .byte y36)) 18 (vp_nar .byte y38)) 19 (vp_nar .byte y40))))] t) A) := by
  refine Met.ofW (cc := prog_13_method_82_code) (maxL := 8) (ret := (some .int)) (by decide) rfl ?_
  intro p e s m args below meth c s₁ B hml hv
  obtain ⟨rfl, hsz, hZ, hP, hK, hD0⟩ := hv
  have hx := B.exec
  have hb := B.bytes
  have hr := B.returns
  have hts := atoms_spec (ws := wyM_feed) B.pre
  have htx := fun w h => hts w (List.mem_cons_of_mem _ h)
  have hown : s.vm.findClass "ValueBenchModel" = some m.cls := findClass_of_methodNamed B.named
  have hlocks := B.notSynchronized
  subst hsz
  have hD := hD0.self (sz := s.heap.size)
  generalize hAe : va_A [(a0, .inr (5, [v7, v8, v9, v10, v11, v12, v13, v14, v15, v16, v17, v18, v19, v20, v21, v22, v23, v24, v25, v26, v27, v28, v29, v30, v31, v32, .ref a1, .int 0, v33, v34, v35, v36])), (a1, .inl (cT 0, 4096, .inl f37))] s.heap.size = A at hD hZ ⊢
  have hA : ∀ q : Nat, s.heap.size ≤ q → A q := fun q h => by rw [← hAe]; exact Or.inr h
  have hS : va_S A s.heap s.heap [] := va_S.rf
  have hP : va_P D xcl [(a0, .inr (5, [v7, v8, v9, v10, v11, v12, v13, v14, v15, v16, v17, v18, v19, v20, v21, v22, v23, v24, v25, v26, v27, v28, v29, v30, v31, v32, .ref a1, .int 0, v33, v34, v35, v36])), (a1, .inl (cT 0, 4096, .inl f37))] s.heap := hP
  have hl := lv_entry ([.ref a0, .int x2, .int x3, .int x4, .int x5, .int x6]) (n := 8) (Nat.le_of_ble_eq_true rfl)
  rw [lg_entry_eq]
  generalize (lg_sl ([.ref a0, .int x2, .int x3, .int x4, .int x5, .int x6]) ++ List.replicate (8 - (lg_sl ([.ref a0, .int x2, .int x3, .int x4, .int x5, .int x6])).length) Slot.unset).toArray = ls at hl ⊢
  have hl : lv_has ls 8 [(0, .ref a0), (1, .int x2), (2, .int x3), (3, .int x4), (4, .int x5), (5, .int x6)] := hl
  refine lv_aload_n hx hb dM_feed_0 rfl (lv_at hl 0 rfl) ?_
  refine lv_iconst (v := 0) hx hb dM_feed_1 (by decide) ?_
  refine va_put (D := D) (ci := 5) (v := .int 0) (ty := .int) (C := "ValueBenchModel") (T := TM) (N := 32) hx hb htx inM tyM tyM_ok nmM hown hK hP hD hS 0 rfl rfl 0 (by decide) (htx _ kw_5_87) (fun _ h9 => h9) rfl (by decide +kernel) rfl rfl (Nat.le_of_ble_eq_true rfl) dM_feed_2 (fun H locs hP hD hS => ?_)
  obtain ⟨hP, hD⟩ : xPD D xcl A [(a0, .inr (5, [.int 0, v8, v9, v10, v11, v12, v13, v14, v15, v16, v17, v18, v19, v20, v21, v22, v23, v24, v25, v26, v27, v28, v29, v30, v31, v32, .ref a1, .int 0, v33, v34, v35, v36])), (a1, .inl (cT 0, 4096, .inl f37))] H := ⟨hP, hD⟩
  refine lv_aload_n hx hb dM_feed_5 rfl (lv_at hl 0 rfl) ?_
  refine va_get (D := D) (ci := 5) (v := .int 0) (C := "ValueBenchModel") (T := TM) (N := 32) hx hb htx inM hown hK hP 0 rfl rfl 27 (by decide) (htx _ kw_5_114) (fun _ h9 => h9) rfl dM_feed_6 ?_
  refine lv_bipush (v := 20) hx hb dM_feed_9 (by decide) ?_
  refine lv_iadd hx hb dM_feed_11 ?_
  refine W.eq (g2 := F0 m 12 ls [.int 20]) rfl ?_
  refine lv_sipush (v := 4096) hx hb dM_feed_12 (by decide) ?_
  refine lv_icmp_le (tgt := 24) hx hb dM_feed_15 (by decide) (fun _ => ?_) (fun h => ((by revert h; decide : False)).elim)
  refine lv_iconst (v := 0) hx hb dM_feed_24 (by decide) ?_
  refine lv_istore (lv' := [(6, .int 0), (0, .ref a0), (1, .int x2), (2, .int x3), (3, .int x4), (4, .int x5), (5, .int x6)]) hx hb dM_feed_25 hl (by decide) rfl (fun ls hl => ?_)
  refine lv_iload hx hb dM_feed_27 (lv_at hl 0 rfl) ?_
  refine lv_bipush (v := 20) hx hb dM_feed_29 (by decide) ?_
  refine lv_icmp_ge (tgt := 121) hx hb dM_feed_31 (by decide) (fun h => ((by revert h; decide : False)).elim) (fun _ => ?_)
  refine lv_iload hx hb dM_feed_34 (lv_at hl 0 rfl) ?_
  refine lv_iconst (v := 4) hx hb dM_feed_36 (by decide) ?_
  refine lv_icmp_ge (tgt := 44) hx hb dM_feed_37 (by decide) (fun h => ((by revert h; decide : False)).elim) (fun _ => ?_)
  refine lv_iload_n hx hb dM_feed_40 rfl (lv_at hl 2 rfl) ?_
  refine lv_goto (tgt := 80) hx hb dM_feed_41 (by decide) ?_
  refine lv_istore (lv' := [(7, .int x2), (6, .int 0), (0, .ref a0), (1, .int x2), (2, .int x3), (3, .int x4), (4, .int x5), (5, .int x6)]) hx hb dM_feed_80 hl (by decide) rfl (fun ls hl => ?_)
  refine lv_aload_n hx hb dM_feed_82 rfl (lv_at hl 2 rfl) ?_
  refine va_get (D := D) (ci := 5) (v := .ref a1) (C := "ValueBenchModel") (T := TM) (N := 32) hx hb htx inM hown hK hP 0 rfl rfl 26 (by decide) (htx _ kw_5_113) (fun _ h9 => h9) rfl dM_feed_83 ?_
  refine lv_aload_n hx hb dM_feed_86 rfl (lv_at hl 2 rfl) ?_
  refine va_get (D := D) (ci := 5) (v := .int 0) (C := "ValueBenchModel") (T := TM) (N := 32) hx hb htx inM hown hK hP 0 rfl rfl 27 (by decide) (htx _ kw_5_114) (fun _ h9 => h9) rfl dM_feed_87 ?_
  refine lv_iload hx hb dM_feed_90 (lv_at hl 0 rfl) ?_
  refine lv_bipush (v := 24) hx hb dM_feed_92 (by decide) ?_
  refine lv_bipush (v := 8) hx hb dM_feed_94 (by decide) ?_
  refine lv_iload hx hb dM_feed_96 (lv_at hl 1 rfl) ?_
  refine lv_iconst (v := 4) hx hb dM_feed_98 (by decide) ?_
  refine lv_irem hx hb dM_feed_99 (by decide) ?_
  refine W.eq (g2 := F0 m 100 ls [.int 0, .int 8, .int 24, .int x2, .int 0, .ref a1]) rfl ?_
  refine lv_imul hx hb dM_feed_100 ?_
  refine W.eq (g2 := F0 m 101 ls [.int 0, .int 24, .int x2, .int 0, .ref a1]) rfl ?_
  refine lv_isub hx hb dM_feed_101 ?_
  refine W.eq (g2 := F0 m 102 ls [.int 24, .int x2, .int 0, .ref a1]) rfl ?_
  refine lv_ishr hx hb dM_feed_102 ?_
  refine lv_topi (fun y1 ey1 => ?_)
  refine lv_i2b hx hb dM_feed_103 rfl ?_
  refine lv_topi (fun y2 ey2 => ?_)
  refine va_bast hx hb hK hP hD hS 1 0 rfl rfl (show ¬ ((0 : Int32) < 0 ∨ 4096 ≤ (0 : Int32).toNatClampNeg) by decide) dM_feed_104 (fun H locs hP hD hS => ?_)
  obtain ⟨hP, hD⟩ : xPD D xcl A [(a0, .inr (5, [.int 0, v8, v9, v10, v11, v12, v13, v14, v15, v16, v17, v18, v19, v20, v21, v22, v23, v24, v25, v26, v27, v28, v29, v30, v31, v32, .ref a1, .int 0, v33, v34, v35, v36])), (a1, .inl (cT 0, 4096, .inl (upd f37 0 (vp_nar .byte y2))))] H := ⟨hP, hD⟩
  refine lv_aload_n hx hb dM_feed_105 rfl (lv_at hl 2 rfl) ?_
  refine lv_dup hx hb dM_feed_106 rfl ?_
  refine va_get (D := D) (ci := 5) (v := .int 0) (C := "ValueBenchModel") (T := TM) (N := 32) hx hb htx inM hown hK hP 0 rfl rfl 27 (by decide) (htx _ kw_5_114) (fun _ h9 => h9) rfl dM_feed_107 ?_
  refine lv_iconst (v := 1) hx hb dM_feed_110 (by decide) ?_
  refine lv_iadd hx hb dM_feed_111 ?_
  refine W.eq (g2 := F0 m 112 ls [.int 1, .ref a0]) rfl ?_
  refine va_put (D := D) (ci := 5) (v := .int 1) (ty := .int) (C := "ValueBenchModel") (T := TM) (N := 32) hx hb htx inM tyM tyM_ok nmM hown hK hP hD hS 0 rfl rfl 27 (by decide) (htx _ kw_5_114) (fun _ h9 => h9) rfl (by decide +kernel) rfl rfl (Nat.le_of_ble_eq_true rfl) dM_feed_112 (fun H locs hP hD hS => ?_)
  obtain ⟨hP, hD⟩ : xPD D xcl A [(a0, .inr (5, [.int 0, v8, v9, v10, v11, v12, v13, v14, v15, v16, v17, v18, v19, v20, v21, v22, v23, v24, v25, v26, v27, v28, v29, v30, v31, v32, .ref a1, .int 1, v33, v34, v35, v36])), (a1, .inl (cT 0, 4096, .inl (upd f37 0 (vp_nar .byte y2))))] H := ⟨hP, hD⟩
  refine lv_iinc (v := 1) (lv' := [(6, .int 1), (7, .int x2), (0, .ref a0), (1, .int x2), (2, .int x3), (3, .int x4), (4, .int x5), (5, .int x6)]) hx hb dM_feed_115 hl (k := 1) rfl (by decide) (by decide) rfl (fun ls hl => ?_)
  refine lv_goto (tgt := 27) hx hb dM_feed_118 (by decide) ?_
  refine lv_iload hx hb dM_feed_27 (lv_at hl 0 rfl) ?_
  refine lv_bipush (v := 20) hx hb dM_feed_29 (by decide) ?_
  refine lv_icmp_ge (tgt := 121) hx hb dM_feed_31 (by decide) (fun h => ((by revert h; decide : False)).elim) (fun _ => ?_)
  refine lv_iload hx hb dM_feed_34 (lv_at hl 0 rfl) ?_
  refine lv_iconst (v := 4) hx hb dM_feed_36 (by decide) ?_
  refine lv_icmp_ge (tgt := 44) hx hb dM_feed_37 (by decide) (fun h => ((by revert h; decide : False)).elim) (fun _ => ?_)
  refine lv_iload_n hx hb dM_feed_40 rfl (lv_at hl 3 rfl) ?_
  refine lv_goto (tgt := 80) hx hb dM_feed_41 (by decide) ?_
  refine lv_istore (lv' := [(7, .int x2), (6, .int 1), (0, .ref a0), (1, .int x2), (2, .int x3), (3, .int x4), (4, .int x5), (5, .int x6)]) hx hb dM_feed_80 hl (by decide) rfl (fun ls hl => ?_)
  refine lv_aload_n hx hb dM_feed_82 rfl (lv_at hl 2 rfl) ?_
  refine va_get (D := D) (ci := 5) (v := .ref a1) (C := "ValueBenchModel") (T := TM) (N := 32) hx hb htx inM hown hK hP 0 rfl rfl 26 (by decide) (htx _ kw_5_113) (fun _ h9 => h9) rfl dM_feed_83 ?_
  refine lv_aload_n hx hb dM_feed_86 rfl (lv_at hl 2 rfl) ?_
  refine va_get (D := D) (ci := 5) (v := .int 1) (C := "ValueBenchModel") (T := TM) (N := 32) hx hb htx inM hown hK hP 0 rfl rfl 27 (by decide) (htx _ kw_5_114) (fun _ h9 => h9) rfl dM_feed_87 ?_
  refine lv_iload hx hb dM_feed_90 (lv_at hl 0 rfl) ?_
  refine lv_bipush (v := 24) hx hb dM_feed_92 (by decide) ?_
  refine lv_bipush (v := 8) hx hb dM_feed_94 (by decide) ?_
  refine lv_iload hx hb dM_feed_96 (lv_at hl 1 rfl) ?_
  refine lv_iconst (v := 4) hx hb dM_feed_98 (by decide) ?_
  refine lv_irem hx hb dM_feed_99 (by decide) ?_
  refine W.eq (g2 := F0 m 100 ls [.int 1, .int 8, .int 24, .int x2, .int 1, .ref a1]) rfl ?_
  refine lv_imul hx hb dM_feed_100 ?_
  refine W.eq (g2 := F0 m 101 ls [.int 8, .int 24, .int x2, .int 1, .ref a1]) rfl ?_
  refine lv_isub hx hb dM_feed_101 ?_
  refine W.eq (g2 := F0 m 102 ls [.int 16, .int x2, .int 1, .ref a1]) rfl ?_
  refine lv_ishr hx hb dM_feed_102 ?_
  refine lv_topi (fun y3 ey3 => ?_)
  refine lv_i2b hx hb dM_feed_103 rfl ?_
  refine lv_topi (fun y4 ey4 => ?_)
  refine va_bast hx hb hK hP hD hS 1 0 rfl rfl (show ¬ ((1 : Int32) < 0 ∨ 4096 ≤ (1 : Int32).toNatClampNeg) by decide) dM_feed_104 (fun H locs hP hD hS => ?_)
  obtain ⟨hP, hD⟩ : xPD D xcl A [(a0, .inr (5, [.int 0, v8, v9, v10, v11, v12, v13, v14, v15, v16, v17, v18, v19, v20, v21, v22, v23, v24, v25, v26, v27, v28, v29, v30, v31, v32, .ref a1, .int 1, v33, v34, v35, v36])), (a1, .inl (cT 0, 4096, .inl (upd (upd f37 0 (vp_nar .byte y2)) 1 (vp_nar .byte y4))))] H := ⟨hP, hD⟩
  refine lv_aload_n hx hb dM_feed_105 rfl (lv_at hl 2 rfl) ?_
  refine lv_dup hx hb dM_feed_106 rfl ?_
  refine va_get (D := D) (ci := 5) (v := .int 1) (C := "ValueBenchModel") (T := TM) (N := 32) hx hb htx inM hown hK hP 0 rfl rfl 27 (by decide) (htx _ kw_5_114) (fun _ h9 => h9) rfl dM_feed_107 ?_
  refine lv_iconst (v := 1) hx hb dM_feed_110 (by decide) ?_
  refine lv_iadd hx hb dM_feed_111 ?_
  refine W.eq (g2 := F0 m 112 ls [.int 2, .ref a0]) rfl ?_
  refine va_put (D := D) (ci := 5) (v := .int 2) (ty := .int) (C := "ValueBenchModel") (T := TM) (N := 32) hx hb htx inM tyM tyM_ok nmM hown hK hP hD hS 0 rfl rfl 27 (by decide) (htx _ kw_5_114) (fun _ h9 => h9) rfl (by decide +kernel) rfl rfl (Nat.le_of_ble_eq_true rfl) dM_feed_112 (fun H locs hP hD hS => ?_)
  obtain ⟨hP, hD⟩ : xPD D xcl A [(a0, .inr (5, [.int 0, v8, v9, v10, v11, v12, v13, v14, v15, v16, v17, v18, v19, v20, v21, v22, v23, v24, v25, v26, v27, v28, v29, v30, v31, v32, .ref a1, .int 2, v33, v34, v35, v36])), (a1, .inl (cT 0, 4096, .inl (upd (upd f37 0 (vp_nar .byte y2)) 1 (vp_nar .byte y4))))] H := ⟨hP, hD⟩
  refine lv_iinc (v := 2) (lv' := [(6, .int 2), (7, .int x2), (0, .ref a0), (1, .int x2), (2, .int x3), (3, .int x4), (4, .int x5), (5, .int x6)]) hx hb dM_feed_115 hl (k := 1) rfl (by decide) (by decide) rfl (fun ls hl => ?_)
  refine lv_goto (tgt := 27) hx hb dM_feed_118 (by decide) ?_
  refine lv_iload hx hb dM_feed_27 (lv_at hl 0 rfl) ?_
  refine lv_bipush (v := 20) hx hb dM_feed_29 (by decide) ?_
  refine lv_icmp_ge (tgt := 121) hx hb dM_feed_31 (by decide) (fun h => ((by revert h; decide : False)).elim) (fun _ => ?_)
  refine lv_iload hx hb dM_feed_34 (lv_at hl 0 rfl) ?_
  refine lv_iconst (v := 4) hx hb dM_feed_36 (by decide) ?_
  refine lv_icmp_ge (tgt := 44) hx hb dM_feed_37 (by decide) (fun h => ((by revert h; decide : False)).elim) (fun _ => ?_)
  refine lv_iload_n hx hb dM_feed_40 rfl (lv_at hl 3 rfl) ?_
  refine lv_goto (tgt := 80) hx hb dM_feed_41 (by decide) ?_
  refine lv_istore (lv' := [(7, .int x2), (6, .int 2), (0, .ref a0), (1, .int x2), (2, .int x3), (3, .int x4), (4, .int x5), (5, .int x6)]) hx hb dM_feed_80 hl (by decide) rfl (fun ls hl => ?_)
  refine lv_aload_n hx hb dM_feed_82 rfl (lv_at hl 2 rfl) ?_
  refine va_get (D := D) (ci := 5) (v := .ref a1) (C := "ValueBenchModel") (T := TM) (N := 32) hx hb htx inM hown hK hP 0 rfl rfl 26 (by decide) (htx _ kw_5_113) (fun _ h9 => h9) rfl dM_feed_83 ?_
  refine lv_aload_n hx hb dM_feed_86 rfl (lv_at hl 2 rfl) ?_
  refine va_get (D := D) (ci := 5) (v := .int 2) (C := "ValueBenchModel") (T := TM) (N := 32) hx hb htx inM hown hK hP 0 rfl rfl 27 (by decide) (htx _ kw_5_114) (fun _ h9 => h9) rfl dM_feed_87 ?_
  refine lv_iload hx hb dM_feed_90 (lv_at hl 0 rfl) ?_
  refine lv_bipush (v := 24) hx hb dM_feed_92 (by decide) ?_
  refine lv_bipush (v := 8) hx hb dM_feed_94 (by decide) ?_
  refine lv_iload hx hb dM_feed_96 (lv_at hl 1 rfl) ?_
  refine lv_iconst (v := 4) hx hb dM_feed_98 (by decide) ?_
  refine lv_irem hx hb dM_feed_99 (by decide) ?_
  refine W.eq (g2 := F0 m 100 ls [.int 2, .int 8, .int 24, .int x2, .int 2, .ref a1]) rfl ?_
  refine lv_imul hx hb dM_feed_100 ?_
  refine W.eq (g2 := F0 m 101 ls [.int 16, .int 24, .int x2, .int 2, .ref a1]) rfl ?_
  refine lv_isub hx hb dM_feed_101 ?_
  refine W.eq (g2 := F0 m 102 ls [.int 8, .int x2, .int 2, .ref a1]) rfl ?_
  refine lv_ishr hx hb dM_feed_102 ?_
  refine lv_topi (fun y5 ey5 => ?_)
  refine lv_i2b hx hb dM_feed_103 rfl ?_
  refine lv_topi (fun y6 ey6 => ?_)
  refine va_bast hx hb hK hP hD hS 1 0 rfl rfl (show ¬ ((2 : Int32) < 0 ∨ 4096 ≤ (2 : Int32).toNatClampNeg) by decide) dM_feed_104 (fun H locs hP hD hS => ?_)
  obtain ⟨hP, hD⟩ : xPD D xcl A [(a0, .inr (5, [.int 0, v8, v9, v10, v11, v12, v13, v14, v15, v16, v17, v18, v19, v20, v21, v22, v23, v24, v25, v26, v27, v28, v29, v30, v31, v32, .ref a1, .int 2, v33, v34, v35, v36])), (a1, .inl (cT 0, 4096, .inl (upd (upd (upd f37 0 (vp_nar .byte y2)) 1 (vp_nar .byte y4)) 2 (vp_nar .byte y6))))] H := ⟨hP, hD⟩
  refine lv_aload_n hx hb dM_feed_105 rfl (lv_at hl 2 rfl) ?_
  refine lv_dup hx hb dM_feed_106 rfl ?_
  refine va_get (D := D) (ci := 5) (v := .int 2) (C := "ValueBenchModel") (T := TM) (N := 32) hx hb htx inM hown hK hP 0 rfl rfl 27 (by decide) (htx _ kw_5_114) (fun _ h9 => h9) rfl dM_feed_107 ?_
  refine lv_iconst (v := 1) hx hb dM_feed_110 (by decide) ?_
  refine lv_iadd hx hb dM_feed_111 ?_
  refine W.eq (g2 := F0 m 112 ls [.int 3, .ref a0]) rfl ?_
  refine va_put (D := D) (ci := 5) (v := .int 3) (ty := .int) (C := "ValueBenchModel") (T := TM) (N := 32) hx hb htx inM tyM tyM_ok nmM hown hK hP hD hS 0 rfl rfl 27 (by decide) (htx _ kw_5_114) (fun _ h9 => h9) rfl (by decide +kernel) rfl rfl (Nat.le_of_ble_eq_true rfl) dM_feed_112 (fun H locs hP hD hS => ?_)
  obtain ⟨hP, hD⟩ : xPD D xcl A [(a0, .inr (5, [.int 0, v8, v9, v10, v11, v12, v13, v14, v15, v16, v17, v18, v19, v20, v21, v22, v23, v24, v25, v26, v27, v28, v29, v30, v31, v32, .ref a1, .int 3, v33, v34, v35, v36])), (a1, .inl (cT 0, 4096, .inl (upd (upd (upd f37 0 (vp_nar .byte y2)) 1 (vp_nar .byte y4)) 2 (vp_nar .byte y6))))] H := ⟨hP, hD⟩
  refine lv_iinc (v := 3) (lv' := [(6, .int 3), (7, .int x2), (0, .ref a0), (1, .int x2), (2, .int x3), (3, .int x4), (4, .int x5), (5, .int x6)]) hx hb dM_feed_115 hl (k := 1) rfl (by decide) (by decide) rfl (fun ls hl => ?_)
  refine lv_goto (tgt := 27) hx hb dM_feed_118 (by decide) ?_
  refine lv_iload hx hb dM_feed_27 (lv_at hl 0 rfl) ?_
  refine lv_bipush (v := 20) hx hb dM_feed_29 (by decide) ?_
  refine lv_icmp_ge (tgt := 121) hx hb dM_feed_31 (by decide) (fun h => ((by revert h; decide : False)).elim) (fun _ => ?_)
  refine lv_iload hx hb dM_feed_34 (lv_at hl 0 rfl) ?_
  refine lv_iconst (v := 4) hx hb dM_feed_36 (by decide) ?_
  refine lv_icmp_ge (tgt := 44) hx hb dM_feed_37 (by decide) (fun h => ((by revert h; decide : False)).elim) (fun _ => ?_)
  refine lv_iload_n hx hb dM_feed_40 rfl (lv_at hl 3 rfl) ?_
  refine lv_goto (tgt := 80) hx hb dM_feed_41 (by decide) ?_
  refine lv_istore (lv' := [(7, .int x2), (6, .int 3), (0, .ref a0), (1, .int x2), (2, .int x3), (3, .int x4), (4, .int x5), (5, .int x6)]) hx hb dM_feed_80 hl (by decide) rfl (fun ls hl => ?_)
  refine lv_aload_n hx hb dM_feed_82 rfl (lv_at hl 2 rfl) ?_
  refine va_get (D := D) (ci := 5) (v := .ref a1) (C := "ValueBenchModel") (T := TM) (N := 32) hx hb htx inM hown hK hP 0 rfl rfl 26 (by decide) (htx _ kw_5_113) (fun _ h9 => h9) rfl dM_feed_83 ?_
  refine lv_aload_n hx hb dM_feed_86 rfl (lv_at hl 2 rfl) ?_
  refine va_get (D := D) (ci := 5) (v := .int 3) (C := "ValueBenchModel") (T := TM) (N := 32) hx hb htx inM hown hK hP 0 rfl rfl 27 (by decide) (htx _ kw_5_114) (fun _ h9 => h9) rfl dM_feed_87 ?_
  refine lv_iload hx hb dM_feed_90 (lv_at hl 0 rfl) ?_
  refine lv_bipush (v := 24) hx hb dM_feed_92 (by decide) ?_
  refine lv_bipush (v := 8) hx hb dM_feed_94 (by decide) ?_
  refine lv_iload hx hb dM_feed_96 (lv_at hl 1 rfl) ?_
  refine lv_iconst (v := 4) hx hb dM_feed_98 (by decide) ?_
  refine lv_irem hx hb dM_feed_99 (by decide) ?_
  refine W.eq (g2 := F0 m 100 ls [.int 3, .int 8, .int 24, .int x2, .int 3, .ref a1]) rfl ?_
  refine lv_imul hx hb dM_feed_100 ?_
  refine W.eq (g2 := F0 m 101 ls [.int 24, .int 24, .int x2, .int 3, .ref a1]) rfl ?_
  refine lv_isub hx hb dM_feed_101 ?_
  refine W.eq (g2 := F0 m 102 ls [.int 0, .int x2, .int 3, .ref a1]) rfl ?_
  refine lv_ishr hx hb dM_feed_102 ?_
  refine lv_topi (fun y7 ey7 => ?_)
  refine lv_i2b hx hb dM_feed_103 rfl ?_
  refine lv_topi (fun y8 ey8 => ?_)
  refine va_bast hx hb hK hP hD hS 1 0 rfl rfl (show ¬ ((3 : Int32) < 0 ∨ 4096 ≤ (3 : Int32).toNatClampNeg) by decide) dM_feed_104 (fun H locs hP hD hS => ?_)
  obtain ⟨hP, hD⟩ : xPD D xcl A [(a0, .inr (5, [.int 0, v8, v9, v10, v11, v12, v13, v14, v15, v16, v17, v18, v19, v20, v21, v22, v23, v24, v25, v26, v27, v28, v29, v30, v31, v32, .ref a1, .int 3, v33, v34, v35, v36])), (a1, .inl (cT 0, 4096, .inl (upd (upd (upd (upd f37 0 (vp_nar .byte y2)) 1 (vp_nar .byte y4)) 2 (vp_nar .byte y6)) 3 (vp_nar .byte y8))))] H := ⟨hP, hD⟩
  refine lv_aload_n hx hb dM_feed_105 rfl (lv_at hl 2 rfl) ?_
  refine lv_dup hx hb dM_feed_106 rfl ?_
  refine va_get (D := D) (ci := 5) (v := .int 3) (C := "ValueBenchModel") (T := TM) (N := 32) hx hb htx inM hown hK hP 0 rfl rfl 27 (by decide) (htx _ kw_5_114) (fun _ h9 => h9) rfl dM_feed_107 ?_
  refine lv_iconst (v := 1) hx hb dM_feed_110 (by decide) ?_
  refine lv_iadd hx hb dM_feed_111 ?_
  refine W.eq (g2 := F0 m 112 ls [.int 4, .ref a0]) rfl ?_
  refine va_put (D := D) (ci := 5) (v := .int 4) (ty := .int) (C := "ValueBenchModel") (T := TM) (N := 32) hx hb htx inM tyM tyM_ok nmM hown hK hP hD hS 0 rfl rfl 27 (by decide) (htx _ kw_5_114) (fun _ h9 => h9) rfl (by decide +kernel) rfl rfl (Nat.le_of_ble_eq_true rfl) dM_feed_112 (fun H locs hP hD hS => ?_)
  obtain ⟨hP, hD⟩ : xPD D xcl A [(a0, .inr (5, [.int 0, v8, v9, v10, v11, v12, v13, v14, v15, v16, v17, v18, v19, v20, v21, v22, v23, v24, v25, v26, v27, v28, v29, v30, v31, v32, .ref a1, .int 4, v33, v34, v35, v36])), (a1, .inl (cT 0, 4096, .inl (upd (upd (upd (upd f37 0 (vp_nar .byte y2)) 1 (vp_nar .byte y4)) 2 (vp_nar .byte y6)) 3 (vp_nar .byte y8))))] H := ⟨hP, hD⟩
  refine lv_iinc (v := 4) (lv' := [(6, .int 4), (7, .int x2), (0, .ref a0), (1, .int x2), (2, .int x3), (3, .int x4), (4, .int x5), (5, .int x6)]) hx hb dM_feed_115 hl (k := 1) rfl (by decide) (by decide) rfl (fun ls hl => ?_)
  refine lv_goto (tgt := 27) hx hb dM_feed_118 (by decide) ?_
  refine lv_iload hx hb dM_feed_27 (lv_at hl 0 rfl) ?_
  refine lv_bipush (v := 20) hx hb dM_feed_29 (by decide) ?_
  refine lv_icmp_ge (tgt := 121) hx hb dM_feed_31 (by decide) (fun h => ((by revert h; decide : False)).elim) (fun _ => ?_)
  refine lv_iload hx hb dM_feed_34 (lv_at hl 0 rfl) ?_
  refine lv_iconst (v := 4) hx hb dM_feed_36 (by decide) ?_
  refine lv_icmp_ge (tgt := 44) hx hb dM_feed_37 (by decide) (fun _ => ?_) (fun h => ((by revert h; decide : False)).elim)
  refine lv_iload hx hb dM_feed_44 (lv_at hl 0 rfl) ?_
  refine lv_bipush (v := 8) hx hb dM_feed_46 (by decide) ?_
  refine lv_icmp_ge (tgt := 55) hx hb dM_feed_48 (by decide) (fun h => ((by revert h; decide : False)).elim) (fun _ => ?_)
  refine lv_iload_n hx hb dM_feed_51 rfl (lv_at hl 4 rfl) ?_
  refine lv_goto (tgt := 80) hx hb dM_feed_52 (by decide) ?_
  refine lv_istore (lv' := [(7, .int x3), (6, .int 4), (0, .ref a0), (1, .int x2), (2, .int x3), (3, .int x4), (4, .int x5), (5, .int x6)]) hx hb dM_feed_80 hl (by decide) rfl (fun ls hl => ?_)
  refine lv_aload_n hx hb dM_feed_82 rfl (lv_at hl 2 rfl) ?_
  refine va_get (D := D) (ci := 5) (v := .ref a1) (C := "ValueBenchModel") (T := TM) (N := 32) hx hb htx inM hown hK hP 0 rfl rfl 26 (by decide) (htx _ kw_5_113) (fun _ h9 => h9) rfl dM_feed_83 ?_
  refine lv_aload_n hx hb dM_feed_86 rfl (lv_at hl 2 rfl) ?_
  refine va_get (D := D) (ci := 5) (v := .int 4) (C := "ValueBenchModel") (T := TM) (N := 32) hx hb htx inM hown hK hP 0 rfl rfl 27 (by decide) (htx _ kw_5_114) (fun _ h9 => h9) rfl dM_feed_87 ?_
  refine lv_iload hx hb dM_feed_90 (lv_at hl 0 rfl) ?_
  refine lv_bipush (v := 24) hx hb dM_feed_92 (by decide) ?_
  refine lv_bipush (v := 8) hx hb dM_feed_94 (by decide) ?_
  refine lv_iload hx hb dM_feed_96 (lv_at hl 1 rfl) ?_
  refine lv_iconst (v := 4) hx hb dM_feed_98 (by decide) ?_
  refine lv_irem hx hb dM_feed_99 (by decide) ?_
  refine W.eq (g2 := F0 m 100 ls [.int 0, .int 8, .int 24, .int x3, .int 4, .ref a1]) rfl ?_
  refine lv_imul hx hb dM_feed_100 ?_
  refine W.eq (g2 := F0 m 101 ls [.int 0, .int 24, .int x3, .int 4, .ref a1]) rfl ?_
  refine lv_isub hx hb dM_feed_101 ?_
  refine W.eq (g2 := F0 m 102 ls [.int 24, .int x3, .int 4, .ref a1]) rfl ?_
  refine lv_ishr hx hb dM_feed_102 ?_
  refine lv_topi (fun y9 ey9 => ?_)
  refine lv_i2b hx hb dM_feed_103 rfl ?_
  refine lv_topi (fun y10 ey10 => ?_)
  refine va_bast hx hb hK hP hD hS 1 0 rfl rfl (show ¬ ((4 : Int32) < 0 ∨ 4096 ≤ (4 : Int32).toNatClampNeg) by decide) dM_feed_104 (fun H locs hP hD hS => ?_)
  obtain ⟨hP, hD⟩ : xPD D xcl A [(a0, .inr (5, [.int 0, v8, v9, v10, v11, v12, v13, v14, v15, v16, v17, v18, v19, v20, v21, v22, v23, v24, v25, v26, v27, v28, v29, v30, v31, v32, .ref a1, .int 4, v33, v34, v35, v36])), (a1, .inl (cT 0, 4096, .inl (upd (upd (upd (upd (upd f37 0 (vp_nar .byte y2)) 1 (vp_nar .byte y4)) 2 (vp_nar .byte y6)) 3 (vp_nar .byte y8)) 4 (vp_nar .byte y10))))] H := ⟨hP, hD⟩
  refine lv_aload_n hx hb dM_feed_105 rfl (lv_at hl 2 rfl) ?_
  refine lv_dup hx hb dM_feed_106 rfl ?_
  refine va_get (D := D) (ci := 5) (v := .int 4) (C := "ValueBenchModel") (T := TM) (N := 32) hx hb htx inM hown hK hP 0 rfl rfl 27 (by decide) (htx _ kw_5_114) (fun _ h9 => h9) rfl dM_feed_107 ?_
  refine lv_iconst (v := 1) hx hb dM_feed_110 (by decide) ?_
  refine lv_iadd hx hb dM_feed_111 ?_
  refine W.eq (g2 := F0 m 112 ls [.int 5, .ref a0]) rfl ?_
  refine va_put (D := D) (ci := 5) (v := .int 5) (ty := .int) (C := "ValueBenchModel") (T := TM) (N := 32) hx hb htx inM tyM tyM_ok nmM hown hK hP hD hS 0 rfl rfl 27 (by decide) (htx _ kw_5_114) (fun _ h9 => h9) rfl (by decide +kernel) rfl rfl (Nat.le_of_ble_eq_true rfl) dM_feed_112 (fun H locs hP hD hS => ?_)
  obtain ⟨hP, hD⟩ : xPD D xcl A [(a0, .inr (5, [.int 0, v8, v9, v10, v11, v12, v13, v14, v15, v16, v17, v18, v19, v20, v21, v22, v23, v24, v25, v26, v27, v28, v29, v30, v31, v32, .ref a1, .int 5, v33, v34, v35, v36])), (a1, .inl (cT 0, 4096, .inl (upd (upd (upd (upd (upd f37 0 (vp_nar .byte y2)) 1 (vp_nar .byte y4)) 2 (vp_nar .byte y6)) 3 (vp_nar .byte y8)) 4 (vp_nar .byte y10))))] H := ⟨hP, hD⟩
  refine lv_iinc (v := 5) (lv' := [(6, .int 5), (7, .int x3), (0, .ref a0), (1, .int x2), (2, .int x3), (3, .int x4), (4, .int x5), (5, .int x6)]) hx hb dM_feed_115 hl (k := 1) rfl (by decide) (by decide) rfl (fun ls hl => ?_)
  refine lv_goto (tgt := 27) hx hb dM_feed_118 (by decide) ?_
  refine lv_iload hx hb dM_feed_27 (lv_at hl 0 rfl) ?_
  refine lv_bipush (v := 20) hx hb dM_feed_29 (by decide) ?_
  refine lv_icmp_ge (tgt := 121) hx hb dM_feed_31 (by decide) (fun h => ((by revert h; decide : False)).elim) (fun _ => ?_)
  refine lv_iload hx hb dM_feed_34 (lv_at hl 0 rfl) ?_
  refine lv_iconst (v := 4) hx hb dM_feed_36 (by decide) ?_
  refine lv_icmp_ge (tgt := 44) hx hb dM_feed_37 (by decide) (fun _ => ?_) (fun h => ((by revert h; decide : False)).elim)
  refine lv_iload hx hb dM_feed_44 (lv_at hl 0 rfl) ?_
  refine lv_bipush (v := 8) hx hb dM_feed_46 (by decide) ?_
  refine lv_icmp_ge (tgt := 55) hx hb dM_feed_48 (by decide) (fun h => ((by revert h; decide : False)).elim) (fun _ => ?_)
  refine lv_iload_n hx hb dM_feed_51 rfl (lv_at hl 4 rfl) ?_
  refine lv_goto (tgt := 80) hx hb dM_feed_52 (by decide) ?_
  refine lv_istore (lv' := [(7, .int x3), (6, .int 5), (0, .ref a0), (1, .int x2), (2, .int x3), (3, .int x4), (4, .int x5), (5, .int x6)]) hx hb dM_feed_80 hl (by decide) rfl (fun ls hl => ?_)
  refine lv_aload_n hx hb dM_feed_82 rfl (lv_at hl 2 rfl) ?_
  refine va_get (D := D) (ci := 5) (v := .ref a1) (C := "ValueBenchModel") (T := TM) (N := 32) hx hb htx inM hown hK hP 0 rfl rfl 26 (by decide) (htx _ kw_5_113) (fun _ h9 => h9) rfl dM_feed_83 ?_
  refine lv_aload_n hx hb dM_feed_86 rfl (lv_at hl 2 rfl) ?_
  refine va_get (D := D) (ci := 5) (v := .int 5) (C := "ValueBenchModel") (T := TM) (N := 32) hx hb htx inM hown hK hP 0 rfl rfl 27 (by decide) (htx _ kw_5_114) (fun _ h9 => h9) rfl dM_feed_87 ?_
  refine lv_iload hx hb dM_feed_90 (lv_at hl 0 rfl) ?_
  refine lv_bipush (v := 24) hx hb dM_feed_92 (by decide) ?_
  refine lv_bipush (v := 8) hx hb dM_feed_94 (by decide) ?_
  refine lv_iload hx hb dM_feed_96 (lv_at hl 1 rfl) ?_
  refine lv_iconst (v := 4) hx hb dM_feed_98 (by decide) ?_
  refine lv_irem hx hb dM_feed_99 (by decide) ?_
  refine W.eq (g2 := F0 m 100 ls [.int 1, .int 8, .int 24, .int x3, .int 5, .ref a1]) rfl ?_
  refine lv_imul hx hb dM_feed_100 ?_
  refine W.eq (g2 := F0 m 101 ls [.int 8, .int 24, .int x3, .int 5, .ref a1]) rfl ?_
  refine lv_isub hx hb dM_feed_101 ?_
  refine W.eq (g2 := F0 m 102 ls [.int 16, .int x3, .int 5, .ref a1]) rfl ?_
  refine lv_ishr hx hb dM_feed_102 ?_
  refine lv_topi (fun y11 ey11 => ?_)
  refine lv_i2b hx hb dM_feed_103 rfl ?_
  refine lv_topi (fun y12 ey12 => ?_)
  refine va_bast hx hb hK hP hD hS 1 0 rfl rfl (show ¬ ((5 : Int32) < 0 ∨ 4096 ≤ (5 : Int32).toNatClampNeg) by decide) dM_feed_104 (fun H locs hP hD hS => ?_)
  obtain ⟨hP, hD⟩ : xPD D xcl A [(a0, .inr (5, [.int 0, v8, v9, v10, v11, v12, v13, v14, v15, v16, v17, v18, v19, v20, v21, v22, v23, v24, v25, v26, v27, v28, v29, v30, v31, v32, .ref a1, .int 5, v33, v34, v35, v36])), (a1, .inl (cT 0, 4096, .inl (upd (upd (upd (upd (upd (upd f37 0 (vp_nar .byte y2)) 1 (vp_nar .byte y4)) 2 (vp_nar .byte y6)) 3 (vp_nar .byte y8)) 4 (vp_nar .byte y10)) 5 (vp_nar .byte y12))))] H := ⟨hP, hD⟩
  refine lv_aload_n hx hb dM_feed_105 rfl (lv_at hl 2 rfl) ?_
  refine lv_dup hx hb dM_feed_106 rfl ?_
  refine va_get (D := D) (ci := 5) (v := .int 5) (C := "ValueBenchModel") (T := TM) (N := 32) hx hb htx inM hown hK hP 0 rfl rfl 27 (by decide) (htx _ kw_5_114) (fun _ h9 => h9) rfl dM_feed_107 ?_
  refine lv_iconst (v := 1) hx hb dM_feed_110 (by decide) ?_
  refine lv_iadd hx hb dM_feed_111 ?_
  refine W.eq (g2 := F0 m 112 ls [.int 6, .ref a0]) rfl ?_
  refine va_put (D := D) (ci := 5) (v := .int 6) (ty := .int) (C := "ValueBenchModel") (T := TM) (N := 32) hx hb htx inM tyM tyM_ok nmM hown hK hP hD hS 0 rfl rfl 27 (by decide) (htx _ kw_5_114) (fun _ h9 => h9) rfl (by decide +kernel) rfl rfl (Nat.le_of_ble_eq_true rfl) dM_feed_112 (fun H locs hP hD hS => ?_)
  obtain ⟨hP, hD⟩ : xPD D xcl A [(a0, .inr (5, [.int 0, v8, v9, v10, v11, v12, v13, v14, v15, v16, v17, v18, v19, v20, v21, v22, v23, v24, v25, v26, v27, v28, v29, v30, v31, v32, .ref a1, .int 6, v33, v34, v35, v36])), (a1, .inl (cT 0, 4096, .inl (upd (upd (upd (upd (upd (upd f37 0 (vp_nar .byte y2)) 1 (vp_nar .byte y4)) 2 (vp_nar .byte y6)) 3 (vp_nar .byte y8)) 4 (vp_nar .byte y10)) 5 (vp_nar .byte y12))))] H := ⟨hP, hD⟩
  refine lv_iinc (v := 6) (lv' := [(6, .int 6), (7, .int x3), (0, .ref a0), (1, .int x2), (2, .int x3), (3, .int x4), (4, .int x5), (5, .int x6)]) hx hb dM_feed_115 hl (k := 1) rfl (by decide) (by decide) rfl (fun ls hl => ?_)
  refine lv_goto (tgt := 27) hx hb dM_feed_118 (by decide) ?_
  refine lv_iload hx hb dM_feed_27 (lv_at hl 0 rfl) ?_
  refine lv_bipush (v := 20) hx hb dM_feed_29 (by decide) ?_
  refine lv_icmp_ge (tgt := 121) hx hb dM_feed_31 (by decide) (fun h => ((by revert h; decide : False)).elim) (fun _ => ?_)
  refine lv_iload hx hb dM_feed_34 (lv_at hl 0 rfl) ?_
  refine lv_iconst (v := 4) hx hb dM_feed_36 (by decide) ?_
  refine lv_icmp_ge (tgt := 44) hx hb dM_feed_37 (by decide) (fun _ => ?_) (fun h => ((by revert h; decide : False)).elim)
  refine lv_iload hx hb dM_feed_44 (lv_at hl 0 rfl) ?_
  refine lv_bipush (v := 8) hx hb dM_feed_46 (by decide) ?_
  refine lv_icmp_ge (tgt := 55) hx hb dM_feed_48 (by decide) (fun h => ((by revert h; decide : False)).elim) (fun _ => ?_)
  refine lv_iload_n hx hb dM_feed_51 rfl (lv_at hl 4 rfl) ?_
  refine lv_goto (tgt := 80) hx hb dM_feed_52 (by decide) ?_
  refine lv_istore (lv' := [(7, .int x3), (6, .int 6), (0, .ref a0), (1, .int x2), (2, .int x3), (3, .int x4), (4, .int x5), (5, .int x6)]) hx hb dM_feed_80 hl (by decide) rfl (fun ls hl => ?_)
  refine lv_aload_n hx hb dM_feed_82 rfl (lv_at hl 2 rfl) ?_
  refine va_get (D := D) (ci := 5) (v := .ref a1) (C := "ValueBenchModel") (T := TM) (N := 32) hx hb htx inM hown hK hP 0 rfl rfl 26 (by decide) (htx _ kw_5_113) (fun _ h9 => h9) rfl dM_feed_83 ?_
  refine lv_aload_n hx hb dM_feed_86 rfl (lv_at hl 2 rfl) ?_
  refine va_get (D := D) (ci := 5) (v := .int 6) (C := "ValueBenchModel") (T := TM) (N := 32) hx hb htx inM hown hK hP 0 rfl rfl 27 (by decide) (htx _ kw_5_114) (fun _ h9 => h9) rfl dM_feed_87 ?_
  refine lv_iload hx hb dM_feed_90 (lv_at hl 0 rfl) ?_
  refine lv_bipush (v := 24) hx hb dM_feed_92 (by decide) ?_
  refine lv_bipush (v := 8) hx hb dM_feed_94 (by decide) ?_
  refine lv_iload hx hb dM_feed_96 (lv_at hl 1 rfl) ?_
  refine lv_iconst (v := 4) hx hb dM_feed_98 (by decide) ?_
  refine lv_irem hx hb dM_feed_99 (by decide) ?_
  refine W.eq (g2 := F0 m 100 ls [.int 2, .int 8, .int 24, .int x3, .int 6, .ref a1]) rfl ?_
  refine lv_imul hx hb dM_feed_100 ?_
  refine W.eq (g2 := F0 m 101 ls [.int 16, .int 24, .int x3, .int 6, .ref a1]) rfl ?_
  refine lv_isub hx hb dM_feed_101 ?_
  refine W.eq (g2 := F0 m 102 ls [.int 8, .int x3, .int 6, .ref a1]) rfl ?_
  refine lv_ishr hx hb dM_feed_102 ?_
  refine lv_topi (fun y13 ey13 => ?_)
  refine lv_i2b hx hb dM_feed_103 rfl ?_
  refine lv_topi (fun y14 ey14 => ?_)
  refine va_bast hx hb hK hP hD hS 1 0 rfl rfl (show ¬ ((6 : Int32) < 0 ∨ 4096 ≤ (6 : Int32).toNatClampNeg) by decide) dM_feed_104 (fun H locs hP hD hS => ?_)
  obtain ⟨hP, hD⟩ : xPD D xcl A [(a0, .inr (5, [.int 0, v8, v9, v10, v11, v12, v13, v14, v15, v16, v17, v18, v19, v20, v21, v22, v23, v24, v25, v26, v27, v28, v29, v30, v31, v32, .ref a1, .int 6, v33, v34, v35, v36])), (a1, .inl (cT 0, 4096, .inl (upd (upd (upd (upd (upd (upd (upd f37 0 (vp_nar .byte y2)) 1 (vp_nar .byte y4)) 2 (vp_nar .byte y6)) 3 (vp_nar .byte y8)) 4 (vp_nar .byte y10)) 5 (vp_nar .byte y12)) 6 (vp_nar .byte y14))))] H := ⟨hP, hD⟩
  refine lv_aload_n hx hb dM_feed_105 rfl (lv_at hl 2 rfl) ?_
  refine lv_dup hx hb dM_feed_106 rfl ?_
  refine va_get (D := D) (ci := 5) (v := .int 6) (C := "ValueBenchModel") (T := TM) (N := 32) hx hb htx inM hown hK hP 0 rfl rfl 27 (by decide) (htx _ kw_5_114) (fun _ h9 => h9) rfl dM_feed_107 ?_
  refine lv_iconst (v := 1) hx hb dM_feed_110 (by decide) ?_
  refine lv_iadd hx hb dM_feed_111 ?_
  refine W.eq (g2 := F0 m 112 ls [.int 7, .ref a0]) rfl ?_
  refine va_put (D := D) (ci := 5) (v := .int 7) (ty := .int) (C := "ValueBenchModel") (T := TM) (N := 32) hx hb htx inM tyM tyM_ok nmM hown hK hP hD hS 0 rfl rfl 27 (by decide) (htx _ kw_5_114) (fun _ h9 => h9) rfl (by decide +kernel) rfl rfl (Nat.le_of_ble_eq_true rfl) dM_feed_112 (fun H locs hP hD hS => ?_)
  obtain ⟨hP, hD⟩ : xPD D xcl A [(a0, .inr (5, [.int 0, v8, v9, v10, v11, v12, v13, v14, v15, v16, v17, v18, v19, v20, v21, v22, v23, v24, v25, v26, v27, v28, v29, v30, v31, v32, .ref a1, .int 7, v33, v34, v35, v36])), (a1, .inl (cT 0, 4096, .inl (upd (upd (upd (upd (upd (upd (upd f37 0 (vp_nar .byte y2)) 1 (vp_nar .byte y4)) 2 (vp_nar .byte y6)) 3 (vp_nar .byte y8)) 4 (vp_nar .byte y10)) 5 (vp_nar .byte y12)) 6 (vp_nar .byte y14))))] H := ⟨hP, hD⟩
  refine lv_iinc (v := 7) (lv' := [(6, .int 7), (7, .int x3), (0, .ref a0), (1, .int x2), (2, .int x3), (3, .int x4), (4, .int x5), (5, .int x6)]) hx hb dM_feed_115 hl (k := 1) rfl (by decide) (by decide) rfl (fun ls hl => ?_)
  refine lv_goto (tgt := 27) hx hb dM_feed_118 (by decide) ?_
  refine lv_iload hx hb dM_feed_27 (lv_at hl 0 rfl) ?_
  refine lv_bipush (v := 20) hx hb dM_feed_29 (by decide) ?_
  refine lv_icmp_ge (tgt := 121) hx hb dM_feed_31 (by decide) (fun h => ((by revert h; decide : False)).elim) (fun _ => ?_)
  refine lv_iload hx hb dM_feed_34 (lv_at hl 0 rfl) ?_
  refine lv_iconst (v := 4) hx hb dM_feed_36 (by decide) ?_
  refine lv_icmp_ge (tgt := 44) hx hb dM_feed_37 (by decide) (fun _ => ?_) (fun h => ((by revert h; decide : False)).elim)
  refine lv_iload hx hb dM_feed_44 (lv_at hl 0 rfl) ?_
  refine lv_bipush (v := 8) hx hb dM_feed_46 (by decide) ?_
  refine lv_icmp_ge (tgt := 55) hx hb dM_feed_48 (by decide) (fun h => ((by revert h; decide : False)).elim) (fun _ => ?_)
  refine lv_iload_n hx hb dM_feed_51 rfl (lv_at hl 4 rfl) ?_
  refine lv_goto (tgt := 80) hx hb dM_feed_52 (by decide) ?_
  refine lv_istore (lv' := [(7, .int x3), (6, .int 7), (0, .ref a0), (1, .int x2), (2, .int x3), (3, .int x4), (4, .int x5), (5, .int x6)]) hx hb dM_feed_80 hl (by decide) rfl (fun ls hl => ?_)
  refine lv_aload_n hx hb dM_feed_82 rfl (lv_at hl 2 rfl) ?_
  refine va_get (D := D) (ci := 5) (v := .ref a1) (C := "ValueBenchModel") (T := TM) (N := 32) hx hb htx inM hown hK hP 0 rfl rfl 26 (by decide) (htx _ kw_5_113) (fun _ h9 => h9) rfl dM_feed_83 ?_
  refine lv_aload_n hx hb dM_feed_86 rfl (lv_at hl 2 rfl) ?_
  refine va_get (D := D) (ci := 5) (v := .int 7) (C := "ValueBenchModel") (T := TM) (N := 32) hx hb htx inM hown hK hP 0 rfl rfl 27 (by decide) (htx _ kw_5_114) (fun _ h9 => h9) rfl dM_feed_87 ?_
  refine lv_iload hx hb dM_feed_90 (lv_at hl 0 rfl) ?_
  refine lv_bipush (v := 24) hx hb dM_feed_92 (by decide) ?_
  refine lv_bipush (v := 8) hx hb dM_feed_94 (by decide) ?_
  refine lv_iload hx hb dM_feed_96 (lv_at hl 1 rfl) ?_
  refine lv_iconst (v := 4) hx hb dM_feed_98 (by decide) ?_
  refine lv_irem hx hb dM_feed_99 (by decide) ?_
  refine W.eq (g2 := F0 m 100 ls [.int 3, .int 8, .int 24, .int x3, .int 7, .ref a1]) rfl ?_
  refine lv_imul hx hb dM_feed_100 ?_
  refine W.eq (g2 := F0 m 101 ls [.int 24, .int 24, .int x3, .int 7, .ref a1]) rfl ?_
  refine lv_isub hx hb dM_feed_101 ?_
  refine W.eq (g2 := F0 m 102 ls [.int 0, .int x3, .int 7, .ref a1]) rfl ?_
  refine lv_ishr hx hb dM_feed_102 ?_
  refine lv_topi (fun y15 ey15 => ?_)
  refine lv_i2b hx hb dM_feed_103 rfl ?_
  refine lv_topi (fun y16 ey16 => ?_)
  refine va_bast hx hb hK hP hD hS 1 0 rfl rfl (show ¬ ((7 : Int32) < 0 ∨ 4096 ≤ (7 : Int32).toNatClampNeg) by decide) dM_feed_104 (fun H locs hP hD hS => ?_)
  obtain ⟨hP, hD⟩ : xPD D xcl A [(a0, .inr (5, [.int 0, v8, v9, v10, v11, v12, v13, v14, v15, v16, v17, v18, v19, v20, v21, v22, v23, v24, v25, v26, v27, v28, v29, v30, v31, v32, .ref a1, .int 7, v33, v34, v35, v36])), (a1, .inl (cT 0, 4096, .inl (upd (upd (upd (upd (upd (upd (upd (upd f37 0 (vp_nar .byte y2)) 1 (vp_nar .byte y4)) 2 (vp_nar .byte y6)) 3 (vp_nar .byte y8)) 4 (vp_nar .byte y10)) 5 (vp_nar .byte y12)) 6 (vp_nar .byte y14)) 7 (vp_nar .byte y16))))] H := ⟨hP, hD⟩
  refine lv_aload_n hx hb dM_feed_105 rfl (lv_at hl 2 rfl) ?_
  refine lv_dup hx hb dM_feed_106 rfl ?_
  refine va_get (D := D) (ci := 5) (v := .int 7) (C := "ValueBenchModel") (T := TM) (N := 32) hx hb htx inM hown hK hP 0 rfl rfl 27 (by decide) (htx _ kw_5_114) (fun _ h9 => h9) rfl dM_feed_107 ?_
  refine lv_iconst (v := 1) hx hb dM_feed_110 (by decide) ?_
  refine lv_iadd hx hb dM_feed_111 ?_
  refine W.eq (g2 := F0 m 112 ls [.int 8, .ref a0]) rfl ?_
  refine va_put (D := D) (ci := 5) (v := .int 8) (ty := .int) (C := "ValueBenchModel") (T := TM) (N := 32) hx hb htx inM tyM tyM_ok nmM hown hK hP hD hS 0 rfl rfl 27 (by decide) (htx _ kw_5_114) (fun _ h9 => h9) rfl (by decide +kernel) rfl rfl (Nat.le_of_ble_eq_true rfl) dM_feed_112 (fun H locs hP hD hS => ?_)
  obtain ⟨hP, hD⟩ : xPD D xcl A [(a0, .inr (5, [.int 0, v8, v9, v10, v11, v12, v13, v14, v15, v16, v17, v18, v19, v20, v21, v22, v23, v24, v25, v26, v27, v28, v29, v30, v31, v32, .ref a1, .int 8, v33, v34, v35, v36])), (a1, .inl (cT 0, 4096, .inl (upd (upd (upd (upd (upd (upd (upd (upd f37 0 (vp_nar .byte y2)) 1 (vp_nar .byte y4)) 2 (vp_nar .byte y6)) 3 (vp_nar .byte y8)) 4 (vp_nar .byte y10)) 5 (vp_nar .byte y12)) 6 (vp_nar .byte y14)) 7 (vp_nar .byte y16))))] H := ⟨hP, hD⟩
  refine lv_iinc (v := 8) (lv' := [(6, .int 8), (7, .int x3), (0, .ref a0), (1, .int x2), (2, .int x3), (3, .int x4), (4, .int x5), (5, .int x6)]) hx hb dM_feed_115 hl (k := 1) rfl (by decide) (by decide) rfl (fun ls hl => ?_)
  refine lv_goto (tgt := 27) hx hb dM_feed_118 (by decide) ?_
  refine lv_iload hx hb dM_feed_27 (lv_at hl 0 rfl) ?_
  refine lv_bipush (v := 20) hx hb dM_feed_29 (by decide) ?_
  refine lv_icmp_ge (tgt := 121) hx hb dM_feed_31 (by decide) (fun h => ((by revert h; decide : False)).elim) (fun _ => ?_)
  refine lv_iload hx hb dM_feed_34 (lv_at hl 0 rfl) ?_
  refine lv_iconst (v := 4) hx hb dM_feed_36 (by decide) ?_
  refine lv_icmp_ge (tgt := 44) hx hb dM_feed_37 (by decide) (fun _ => ?_) (fun h => ((by revert h; decide : False)).elim)
  refine lv_iload hx hb dM_feed_44 (lv_at hl 0 rfl) ?_
  refine lv_bipush (v := 8) hx hb dM_feed_46 (by decide) ?_
  refine lv_icmp_ge (tgt := 55) hx hb dM_feed_48 (by decide) (fun _ => ?_) (fun h => ((by revert h; decide : False)).elim)
  refine lv_iload hx hb dM_feed_55 (lv_at hl 0 rfl) ?_
  refine lv_bipush (v := 12) hx hb dM_feed_57 (by decide) ?_
  refine lv_icmp_ge (tgt := 66) hx hb dM_feed_59 (by decide) (fun h => ((by revert h; decide : False)).elim) (fun _ => ?_)
  refine lv_iload_n hx hb dM_feed_62 rfl (lv_at hl 5 rfl) ?_
  refine lv_goto (tgt := 80) hx hb dM_feed_63 (by decide) ?_
  refine lv_istore (lv' := [(7, .int x4), (6, .int 8), (0, .ref a0), (1, .int x2), (2, .int x3), (3, .int x4), (4, .int x5), (5, .int x6)]) hx hb dM_feed_80 hl (by decide) rfl (fun ls hl => ?_)
  refine lv_aload_n hx hb dM_feed_82 rfl (lv_at hl 2 rfl) ?_
  refine va_get (D := D) (ci := 5) (v := .ref a1) (C := "ValueBenchModel") (T := TM) (N := 32) hx hb htx inM hown hK hP 0 rfl rfl 26 (by decide) (htx _ kw_5_113) (fun _ h9 => h9) rfl dM_feed_83 ?_
  refine lv_aload_n hx hb dM_feed_86 rfl (lv_at hl 2 rfl) ?_
  refine va_get (D := D) (ci := 5) (v := .int 8) (C := "ValueBenchModel") (T := TM) (N := 32) hx hb htx inM hown hK hP 0 rfl rfl 27 (by decide) (htx _ kw_5_114) (fun _ h9 => h9) rfl dM_feed_87 ?_
  refine lv_iload hx hb dM_feed_90 (lv_at hl 0 rfl) ?_
  refine lv_bipush (v := 24) hx hb dM_feed_92 (by decide) ?_
  refine lv_bipush (v := 8) hx hb dM_feed_94 (by decide) ?_
  refine lv_iload hx hb dM_feed_96 (lv_at hl 1 rfl) ?_
  refine lv_iconst (v := 4) hx hb dM_feed_98 (by decide) ?_
  refine lv_irem hx hb dM_feed_99 (by decide) ?_
  refine W.eq (g2 := F0 m 100 ls [.int 0, .int 8, .int 24, .int x4, .int 8, .ref a1]) rfl ?_
  refine lv_imul hx hb dM_feed_100 ?_
  refine W.eq (g2 := F0 m 101 ls [.int 0, .int 24, .int x4, .int 8, .ref a1]) rfl ?_
  refine lv_isub hx hb dM_feed_101 ?_
  refine W.eq (g2 := F0 m 102 ls [.int 24, .int x4, .int 8, .ref a1]) rfl ?_
  refine lv_ishr hx hb dM_feed_102 ?_
  refine lv_topi (fun y17 ey17 => ?_)
  refine lv_i2b hx hb dM_feed_103 rfl ?_
  refine lv_topi (fun y18 ey18 => ?_)
  refine va_bast hx hb hK hP hD hS 1 0 rfl rfl (show ¬ ((8 : Int32) < 0 ∨ 4096 ≤ (8 : Int32).toNatClampNeg) by decide) dM_feed_104 (fun H locs hP hD hS => ?_)
  obtain ⟨hP, hD⟩ : xPD D xcl A [(a0, .inr (5, [.int 0, v8, v9, v10, v11, v12, v13, v14, v15, v16, v17, v18, v19, v20, v21, v22, v23, v24, v25, v26, v27, v28, v29, v30, v31, v32, .ref a1, .int 8, v33, v34, v35, v36])), (a1, .inl (cT 0, 4096, .inl (upd (upd (upd (upd (upd (upd (upd (upd (upd f37 0 (vp_nar .byte y2)) 1 (vp_nar .byte y4)) 2 (vp_nar .byte y6)) 3 (vp_nar .byte y8)) 4 (vp_nar .byte y10)) 5 (vp_nar .byte y12)) 6 (vp_nar .byte y14)) 7 (vp_nar .byte y16)) 8 (vp_nar .byte y18))))] H := ⟨hP, hD⟩
  refine lv_aload_n hx hb dM_feed_105 rfl (lv_at hl 2 rfl) ?_
  refine lv_dup hx hb dM_feed_106 rfl ?_
  refine va_get (D := D) (ci := 5) (v := .int 8) (C := "ValueBenchModel") (T := TM) (N := 32) hx hb htx inM hown hK hP 0 rfl rfl 27 (by decide) (htx _ kw_5_114) (fun _ h9 => h9) rfl dM_feed_107 ?_
  refine lv_iconst (v := 1) hx hb dM_feed_110 (by decide) ?_
  refine lv_iadd hx hb dM_feed_111 ?_
  refine W.eq (g2 := F0 m 112 ls [.int 9, .ref a0]) rfl ?_
  refine va_put (D := D) (ci := 5) (v := .int 9) (ty := .int) (C := "ValueBenchModel") (T := TM) (N := 32) hx hb htx inM tyM tyM_ok nmM hown hK hP hD hS 0 rfl rfl 27 (by decide) (htx _ kw_5_114) (fun _ h9 => h9) rfl (by decide +kernel) rfl rfl (Nat.le_of_ble_eq_true rfl) dM_feed_112 (fun H locs hP hD hS => ?_)
  obtain ⟨hP, hD⟩ : xPD D xcl A [(a0, .inr (5, [.int 0, v8, v9, v10, v11, v12, v13, v14, v15, v16, v17, v18, v19, v20, v21, v22, v23, v24, v25, v26, v27, v28, v29, v30, v31, v32, .ref a1, .int 9, v33, v34, v35, v36])), (a1, .inl (cT 0, 4096, .inl (upd (upd (upd (upd (upd (upd (upd (upd (upd f37 0 (vp_nar .byte y2)) 1 (vp_nar .byte y4)) 2 (vp_nar .byte y6)) 3 (vp_nar .byte y8)) 4 (vp_nar .byte y10)) 5 (vp_nar .byte y12)) 6 (vp_nar .byte y14)) 7 (vp_nar .byte y16)) 8 (vp_nar .byte y18))))] H := ⟨hP, hD⟩
  refine lv_iinc (v := 9) (lv' := [(6, .int 9), (7, .int x4), (0, .ref a0), (1, .int x2), (2, .int x3), (3, .int x4), (4, .int x5), (5, .int x6)]) hx hb dM_feed_115 hl (k := 1) rfl (by decide) (by decide) rfl (fun ls hl => ?_)
  refine lv_goto (tgt := 27) hx hb dM_feed_118 (by decide) ?_
  refine lv_iload hx hb dM_feed_27 (lv_at hl 0 rfl) ?_
  refine lv_bipush (v := 20) hx hb dM_feed_29 (by decide) ?_
  refine lv_icmp_ge (tgt := 121) hx hb dM_feed_31 (by decide) (fun h => ((by revert h; decide : False)).elim) (fun _ => ?_)
  refine lv_iload hx hb dM_feed_34 (lv_at hl 0 rfl) ?_
  refine lv_iconst (v := 4) hx hb dM_feed_36 (by decide) ?_
  refine lv_icmp_ge (tgt := 44) hx hb dM_feed_37 (by decide) (fun _ => ?_) (fun h => ((by revert h; decide : False)).elim)
  refine lv_iload hx hb dM_feed_44 (lv_at hl 0 rfl) ?_
  refine lv_bipush (v := 8) hx hb dM_feed_46 (by decide) ?_
  refine lv_icmp_ge (tgt := 55) hx hb dM_feed_48 (by decide) (fun _ => ?_) (fun h => ((by revert h; decide : False)).elim)
  refine lv_iload hx hb dM_feed_55 (lv_at hl 0 rfl) ?_
  refine lv_bipush (v := 12) hx hb dM_feed_57 (by decide) ?_
  refine lv_icmp_ge (tgt := 66) hx hb dM_feed_59 (by decide) (fun h => ((by revert h; decide : False)).elim) (fun _ => ?_)
  refine lv_iload_n hx hb dM_feed_62 rfl (lv_at hl 5 rfl) ?_
  refine lv_goto (tgt := 80) hx hb dM_feed_63 (by decide) ?_
  refine lv_istore (lv' := [(7, .int x4), (6, .int 9), (0, .ref a0), (1, .int x2), (2, .int x3), (3, .int x4), (4, .int x5), (5, .int x6)]) hx hb dM_feed_80 hl (by decide) rfl (fun ls hl => ?_)
  refine lv_aload_n hx hb dM_feed_82 rfl (lv_at hl 2 rfl) ?_
  refine va_get (D := D) (ci := 5) (v := .ref a1) (C := "ValueBenchModel") (T := TM) (N := 32) hx hb htx inM hown hK hP 0 rfl rfl 26 (by decide) (htx _ kw_5_113) (fun _ h9 => h9) rfl dM_feed_83 ?_
  refine lv_aload_n hx hb dM_feed_86 rfl (lv_at hl 2 rfl) ?_
  refine va_get (D := D) (ci := 5) (v := .int 9) (C := "ValueBenchModel") (T := TM) (N := 32) hx hb htx inM hown hK hP 0 rfl rfl 27 (by decide) (htx _ kw_5_114) (fun _ h9 => h9) rfl dM_feed_87 ?_
  refine lv_iload hx hb dM_feed_90 (lv_at hl 0 rfl) ?_
  refine lv_bipush (v := 24) hx hb dM_feed_92 (by decide) ?_
  refine lv_bipush (v := 8) hx hb dM_feed_94 (by decide) ?_
  refine lv_iload hx hb dM_feed_96 (lv_at hl 1 rfl) ?_
  refine lv_iconst (v := 4) hx hb dM_feed_98 (by decide) ?_
  refine lv_irem hx hb dM_feed_99 (by decide) ?_
  refine W.eq (g2 := F0 m 100 ls [.int 1, .int 8, .int 24, .int x4, .int 9, .ref a1]) rfl ?_
  refine lv_imul hx hb dM_feed_100 ?_
  refine W.eq (g2 := F0 m 101 ls [.int 8, .int 24, .int x4, .int 9, .ref a1]) rfl ?_
  refine lv_isub hx hb dM_feed_101 ?_
  refine W.eq (g2 := F0 m 102 ls [.int 16, .int x4, .int 9, .ref a1]) rfl ?_
  refine lv_ishr hx hb dM_feed_102 ?_
  refine lv_topi (fun y19 ey19 => ?_)
  refine lv_i2b hx hb dM_feed_103 rfl ?_
  refine lv_topi (fun y20 ey20 => ?_)
  refine va_bast hx hb hK hP hD hS 1 0 rfl rfl (show ¬ ((9 : Int32) < 0 ∨ 4096 ≤ (9 : Int32).toNatClampNeg) by decide) dM_feed_104 (fun H locs hP hD hS => ?_)
  obtain ⟨hP, hD⟩ : xPD D xcl A [(a0, .inr (5, [.int 0, v8, v9, v10, v11, v12, v13, v14, v15, v16, v17, v18, v19, v20, v21, v22, v23, v24, v25, v26, v27, v28, v29, v30, v31, v32, .ref a1, .int 9, v33, v34, v35, v36])), (a1, .inl (cT 0, 4096, .inl (upd (upd (upd (upd (upd (upd (upd (upd (upd (upd f37 0 (vp_nar .byte y2)) 1 (vp_nar .byte y4)) 2 (vp_nar .byte y6)) 3 (vp_nar .byte y8)) 4 (vp_nar .byte y10)) 5 (vp_nar .byte y12)) 6 (vp_nar .byte y14)) 7 (vp_nar .byte y16)) 8 (vp_nar .byte y18)) 9 (vp_nar .byte y20))))] H := ⟨hP, hD⟩
  refine lv_aload_n hx hb dM_feed_105 rfl (lv_at hl 2 rfl) ?_
  refine lv_dup hx hb dM_feed_106 rfl ?_
  refine va_get (D := D) (ci := 5) (v := .int 9) (C := "ValueBenchModel") (T := TM) (N := 32) hx hb htx inM hown hK hP 0 rfl rfl 27 (by decide) (htx _ kw_5_114) (fun _ h9 => h9) rfl dM_feed_107 ?_
  refine lv_iconst (v := 1) hx hb dM_feed_110 (by decide) ?_
  refine lv_iadd hx hb dM_feed_111 ?_
  refine W.eq (g2 := F0 m 112 ls [.int 10, .ref a0]) rfl ?_
  refine va_put (D := D) (ci := 5) (v := .int 10) (ty := .int) (C := "ValueBenchModel") (T := TM) (N := 32) hx hb htx inM tyM tyM_ok nmM hown hK hP hD hS 0 rfl rfl 27 (by decide) (htx _ kw_5_114) (fun _ h9 => h9) rfl (by decide +kernel) rfl rfl (Nat.le_of_ble_eq_true rfl) dM_feed_112 (fun H locs hP hD hS => ?_)
  obtain ⟨hP, hD⟩ : xPD D xcl A [(a0, .inr (5, [.int 0, v8, v9, v10, v11, v12, v13, v14, v15, v16, v17, v18, v19, v20, v21, v22, v23, v24, v25, v26, v27, v28, v29, v30, v31, v32, .ref a1, .int 10, v33, v34, v35, v36])), (a1, .inl (cT 0, 4096, .inl (upd (upd (upd (upd (upd (upd (upd (upd (upd (upd f37 0 (vp_nar .byte y2)) 1 (vp_nar .byte y4)) 2 (vp_nar .byte y6)) 3 (vp_nar .byte y8)) 4 (vp_nar .byte y10)) 5 (vp_nar .byte y12)) 6 (vp_nar .byte y14)) 7 (vp_nar .byte y16)) 8 (vp_nar .byte y18)) 9 (vp_nar .byte y20))))] H := ⟨hP, hD⟩
  refine lv_iinc (v := 10) (lv' := [(6, .int 10), (7, .int x4), (0, .ref a0), (1, .int x2), (2, .int x3), (3, .int x4), (4, .int x5), (5, .int x6)]) hx hb dM_feed_115 hl (k := 1) rfl (by decide) (by decide) rfl (fun ls hl => ?_)
  refine lv_goto (tgt := 27) hx hb dM_feed_118 (by decide) ?_
  refine lv_iload hx hb dM_feed_27 (lv_at hl 0 rfl) ?_
  refine lv_bipush (v := 20) hx hb dM_feed_29 (by decide) ?_
  refine lv_icmp_ge (tgt := 121) hx hb dM_feed_31 (by decide) (fun h => ((by revert h; decide : False)).elim) (fun _ => ?_)
  refine lv_iload hx hb dM_feed_34 (lv_at hl 0 rfl) ?_
  refine lv_iconst (v := 4) hx hb dM_feed_36 (by decide) ?_
  refine lv_icmp_ge (tgt := 44) hx hb dM_feed_37 (by decide) (fun _ => ?_) (fun h => ((by revert h; decide : False)).elim)
  refine lv_iload hx hb dM_feed_44 (lv_at hl 0 rfl) ?_
  refine lv_bipush (v := 8) hx hb dM_feed_46 (by decide) ?_
  refine lv_icmp_ge (tgt := 55) hx hb dM_feed_48 (by decide) (fun _ => ?_) (fun h => ((by revert h; decide : False)).elim)
  refine lv_iload hx hb dM_feed_55 (lv_at hl 0 rfl) ?_
  refine lv_bipush (v := 12) hx hb dM_feed_57 (by decide) ?_
  refine lv_icmp_ge (tgt := 66) hx hb dM_feed_59 (by decide) (fun h => ((by revert h; decide : False)).elim) (fun _ => ?_)
  refine lv_iload_n hx hb dM_feed_62 rfl (lv_at hl 5 rfl) ?_
  refine lv_goto (tgt := 80) hx hb dM_feed_63 (by decide) ?_
  refine lv_istore (lv' := [(7, .int x4), (6, .int 10), (0, .ref a0), (1, .int x2), (2, .int x3), (3, .int x4), (4, .int x5), (5, .int x6)]) hx hb dM_feed_80 hl (by decide) rfl (fun ls hl => ?_)
  refine lv_aload_n hx hb dM_feed_82 rfl (lv_at hl 2 rfl) ?_
  refine va_get (D := D) (ci := 5) (v := .ref a1) (C := "ValueBenchModel") (T := TM) (N := 32) hx hb htx inM hown hK hP 0 rfl rfl 26 (by decide) (htx _ kw_5_113) (fun _ h9 => h9) rfl dM_feed_83 ?_
  refine lv_aload_n hx hb dM_feed_86 rfl (lv_at hl 2 rfl) ?_
  refine va_get (D := D) (ci := 5) (v := .int 10) (C := "ValueBenchModel") (T := TM) (N := 32) hx hb htx inM hown hK hP 0 rfl rfl 27 (by decide) (htx _ kw_5_114) (fun _ h9 => h9) rfl dM_feed_87 ?_
  refine lv_iload hx hb dM_feed_90 (lv_at hl 0 rfl) ?_
  refine lv_bipush (v := 24) hx hb dM_feed_92 (by decide) ?_
  refine lv_bipush (v := 8) hx hb dM_feed_94 (by decide) ?_
  refine lv_iload hx hb dM_feed_96 (lv_at hl 1 rfl) ?_
  refine lv_iconst (v := 4) hx hb dM_feed_98 (by decide) ?_
  refine lv_irem hx hb dM_feed_99 (by decide) ?_
  refine W.eq (g2 := F0 m 100 ls [.int 2, .int 8, .int 24, .int x4, .int 10, .ref a1]) rfl ?_
  refine lv_imul hx hb dM_feed_100 ?_
  refine W.eq (g2 := F0 m 101 ls [.int 16, .int 24, .int x4, .int 10, .ref a1]) rfl ?_
  refine lv_isub hx hb dM_feed_101 ?_
  refine W.eq (g2 := F0 m 102 ls [.int 8, .int x4, .int 10, .ref a1]) rfl ?_
  refine lv_ishr hx hb dM_feed_102 ?_
  refine lv_topi (fun y21 ey21 => ?_)
  refine lv_i2b hx hb dM_feed_103 rfl ?_
  refine lv_topi (fun y22 ey22 => ?_)
  refine va_bast hx hb hK hP hD hS 1 0 rfl rfl (show ¬ ((10 : Int32) < 0 ∨ 4096 ≤ (10 : Int32).toNatClampNeg) by decide) dM_feed_104 (fun H locs hP hD hS => ?_)
  obtain ⟨hP, hD⟩ : xPD D xcl A [(a0, .inr (5, [.int 0, v8, v9, v10, v11, v12, v13, v14, v15, v16, v17, v18, v19, v20, v21, v22, v23, v24, v25, v26, v27, v28, v29, v30, v31, v32, .ref a1, .int 10, v33, v34, v35, v36])), (a1, .inl (cT 0, 4096, .inl (upd (upd (upd (upd (upd (upd (upd (upd (upd (upd (upd f37 0 (vp_nar .byte y2)) 1 (vp_nar .byte y4)) 2 (vp_nar .byte y6)) 3 (vp_nar .byte y8)) 4 (vp_nar .byte y10)) 5 (vp_nar .byte y12)) 6 (vp_nar .byte y14)) 7 (vp_nar .byte y16)) 8 (vp_nar .byte y18)) 9 (vp_nar .byte y20)) 10 (vp_nar .byte y22))))] H := ⟨hP, hD⟩
  refine lv_aload_n hx hb dM_feed_105 rfl (lv_at hl 2 rfl) ?_
  refine lv_dup hx hb dM_feed_106 rfl ?_
  refine va_get (D := D) (ci := 5) (v := .int 10) (C := "ValueBenchModel") (T := TM) (N := 32) hx hb htx inM hown hK hP 0 rfl rfl 27 (by decide) (htx _ kw_5_114) (fun _ h9 => h9) rfl dM_feed_107 ?_
  refine lv_iconst (v := 1) hx hb dM_feed_110 (by decide) ?_
  refine lv_iadd hx hb dM_feed_111 ?_
  refine W.eq (g2 := F0 m 112 ls [.int 11, .ref a0]) rfl ?_
  refine va_put (D := D) (ci := 5) (v := .int 11) (ty := .int) (C := "ValueBenchModel") (T := TM) (N := 32) hx hb htx inM tyM tyM_ok nmM hown hK hP hD hS 0 rfl rfl 27 (by decide) (htx _ kw_5_114) (fun _ h9 => h9) rfl (by decide +kernel) rfl rfl (Nat.le_of_ble_eq_true rfl) dM_feed_112 (fun H locs hP hD hS => ?_)
  obtain ⟨hP, hD⟩ : xPD D xcl A [(a0, .inr (5, [.int 0, v8, v9, v10, v11, v12, v13, v14, v15, v16, v17, v18, v19, v20, v21, v22, v23, v24, v25, v26, v27, v28, v29, v30, v31, v32, .ref a1, .int 11, v33, v34, v35, v36])), (a1, .inl (cT 0, 4096, .inl (upd (upd (upd (upd (upd (upd (upd (upd (upd (upd (upd f37 0 (vp_nar .byte y2)) 1 (vp_nar .byte y4)) 2 (vp_nar .byte y6)) 3 (vp_nar .byte y8)) 4 (vp_nar .byte y10)) 5 (vp_nar .byte y12)) 6 (vp_nar .byte y14)) 7 (vp_nar .byte y16)) 8 (vp_nar .byte y18)) 9 (vp_nar .byte y20)) 10 (vp_nar .byte y22))))] H := ⟨hP, hD⟩
  refine lv_iinc (v := 11) (lv' := [(6, .int 11), (7, .int x4), (0, .ref a0), (1, .int x2), (2, .int x3), (3, .int x4), (4, .int x5), (5, .int x6)]) hx hb dM_feed_115 hl (k := 1) rfl (by decide) (by decide) rfl (fun ls hl => ?_)
  refine lv_goto (tgt := 27) hx hb dM_feed_118 (by decide) ?_
  refine lv_iload hx hb dM_feed_27 (lv_at hl 0 rfl) ?_
  refine lv_bipush (v := 20) hx hb dM_feed_29 (by decide) ?_
  refine lv_icmp_ge (tgt := 121) hx hb dM_feed_31 (by decide) (fun h => ((by revert h; decide : False)).elim) (fun _ => ?_)
  refine lv_iload hx hb dM_feed_34 (lv_at hl 0 rfl) ?_
  refine lv_iconst (v := 4) hx hb dM_feed_36 (by decide) ?_
  refine lv_icmp_ge (tgt := 44) hx hb dM_feed_37 (by decide) (fun _ => ?_) (fun h => ((by revert h; decide : False)).elim)
  refine lv_iload hx hb dM_feed_44 (lv_at hl 0 rfl) ?_
  refine lv_bipush (v := 8) hx hb dM_feed_46 (by decide) ?_
  refine lv_icmp_ge (tgt := 55) hx hb dM_feed_48 (by decide) (fun _ => ?_) (fun h => ((by revert h; decide : False)).elim)
  refine lv_iload hx hb dM_feed_55 (lv_at hl 0 rfl) ?_
  refine lv_bipush (v := 12) hx hb dM_feed_57 (by decide) ?_
  refine lv_icmp_ge (tgt := 66) hx hb dM_feed_59 (by decide) (fun h => ((by revert h; decide : False)).elim) (fun _ => ?_)
  refine lv_iload_n hx hb dM_feed_62 rfl (lv_at hl 5 rfl) ?_
  refine lv_goto (tgt := 80) hx hb dM_feed_63 (by decide) ?_
  refine lv_istore (lv' := [(7, .int x4), (6, .int 11), (0, .ref a0), (1, .int x2), (2, .int x3), (3, .int x4), (4, .int x5), (5, .int x6)]) hx hb dM_feed_80 hl (by decide) rfl (fun ls hl => ?_)
  refine lv_aload_n hx hb dM_feed_82 rfl (lv_at hl 2 rfl) ?_
  refine va_get (D := D) (ci := 5) (v := .ref a1) (C := "ValueBenchModel") (T := TM) (N := 32) hx hb htx inM hown hK hP 0 rfl rfl 26 (by decide) (htx _ kw_5_113) (fun _ h9 => h9) rfl dM_feed_83 ?_
  refine lv_aload_n hx hb dM_feed_86 rfl (lv_at hl 2 rfl) ?_
  refine va_get (D := D) (ci := 5) (v := .int 11) (C := "ValueBenchModel") (T := TM) (N := 32) hx hb htx inM hown hK hP 0 rfl rfl 27 (by decide) (htx _ kw_5_114) (fun _ h9 => h9) rfl dM_feed_87 ?_
  refine lv_iload hx hb dM_feed_90 (lv_at hl 0 rfl) ?_
  refine lv_bipush (v := 24) hx hb dM_feed_92 (by decide) ?_
  refine lv_bipush (v := 8) hx hb dM_feed_94 (by decide) ?_
  refine lv_iload hx hb dM_feed_96 (lv_at hl 1 rfl) ?_
  refine lv_iconst (v := 4) hx hb dM_feed_98 (by decide) ?_
  refine lv_irem hx hb dM_feed_99 (by decide) ?_
  refine W.eq (g2 := F0 m 100 ls [.int 3, .int 8, .int 24, .int x4, .int 11, .ref a1]) rfl ?_
  refine lv_imul hx hb dM_feed_100 ?_
  refine W.eq (g2 := F0 m 101 ls [.int 24, .int 24, .int x4, .int 11, .ref a1]) rfl ?_
  refine lv_isub hx hb dM_feed_101 ?_
  refine W.eq (g2 := F0 m 102 ls [.int 0, .int x4, .int 11, .ref a1]) rfl ?_
  refine lv_ishr hx hb dM_feed_102 ?_
  refine lv_topi (fun y23 ey23 => ?_)
  refine lv_i2b hx hb dM_feed_103 rfl ?_
  refine lv_topi (fun y24 ey24 => ?_)
  refine va_bast hx hb hK hP hD hS 1 0 rfl rfl (show ¬ ((11 : Int32) < 0 ∨ 4096 ≤ (11 : Int32).toNatClampNeg) by decide) dM_feed_104 (fun H locs hP hD hS => ?_)
  obtain ⟨hP, hD⟩ : xPD D xcl A [(a0, .inr (5, [.int 0, v8, v9, v10, v11, v12, v13, v14, v15, v16, v17, v18, v19, v20, v21, v22, v23, v24, v25, v26, v27, v28, v29, v30, v31, v32, .ref a1, .int 11, v33, v34, v35, v36])), (a1, .inl (cT 0, 4096, .inl (upd (upd (upd (upd (upd (upd (upd (upd (upd (upd (upd (upd f37 0 (vp_nar .byte y2)) 1 (vp_nar .byte y4)) 2 (vp_nar .byte y6)) 3 (vp_nar .byte y8)) 4 (vp_nar .byte y10)) 5 (vp_nar .byte y12)) 6 (vp_nar .byte y14)) 7 (vp_nar .byte y16)) 8 (vp_nar .byte y18)) 9 (vp_nar .byte y20)) 10 (vp_nar .byte y22)) 11 (vp_nar .byte y24))))] H := ⟨hP, hD⟩
  refine lv_aload_n hx hb dM_feed_105 rfl (lv_at hl 2 rfl) ?_
  refine lv_dup hx hb dM_feed_106 rfl ?_
  refine va_get (D := D) (ci := 5) (v := .int 11) (C := "ValueBenchModel") (T := TM) (N := 32) hx hb htx inM hown hK hP 0 rfl rfl 27 (by decide) (htx _ kw_5_114) (fun _ h9 => h9) rfl dM_feed_107 ?_
  refine lv_iconst (v := 1) hx hb dM_feed_110 (by decide) ?_
  refine lv_iadd hx hb dM_feed_111 ?_
  refine W.eq (g2 := F0 m 112 ls [.int 12, .ref a0]) rfl ?_
  refine va_put (D := D) (ci := 5) (v := .int 12) (ty := .int) (C := "ValueBenchModel") (T := TM) (N := 32) hx hb htx inM tyM tyM_ok nmM hown hK hP hD hS 0 rfl rfl 27 (by decide) (htx _ kw_5_114) (fun _ h9 => h9) rfl (by decide +kernel) rfl rfl (Nat.le_of_ble_eq_true rfl) dM_feed_112 (fun H locs hP hD hS => ?_)
  obtain ⟨hP, hD⟩ : xPD D xcl A [(a0, .inr (5, [.int 0, v8, v9, v10, v11, v12, v13, v14, v15, v16, v17, v18, v19, v20, v21, v22, v23, v24, v25, v26, v27, v28, v29, v30, v31, v32, .ref a1, .int 12, v33, v34, v35, v36])), (a1, .inl (cT 0, 4096, .inl (upd (upd (upd (upd (upd (upd (upd (upd (upd (upd (upd (upd f37 0 (vp_nar .byte y2)) 1 (vp_nar .byte y4)) 2 (vp_nar .byte y6)) 3 (vp_nar .byte y8)) 4 (vp_nar .byte y10)) 5 (vp_nar .byte y12)) 6 (vp_nar .byte y14)) 7 (vp_nar .byte y16)) 8 (vp_nar .byte y18)) 9 (vp_nar .byte y20)) 10 (vp_nar .byte y22)) 11 (vp_nar .byte y24))))] H := ⟨hP, hD⟩
  refine lv_iinc (v := 12) (lv' := [(6, .int 12), (7, .int x4), (0, .ref a0), (1, .int x2), (2, .int x3), (3, .int x4), (4, .int x5), (5, .int x6)]) hx hb dM_feed_115 hl (k := 1) rfl (by decide) (by decide) rfl (fun ls hl => ?_)
  refine lv_goto (tgt := 27) hx hb dM_feed_118 (by decide) ?_
  refine lv_iload hx hb dM_feed_27 (lv_at hl 0 rfl) ?_
  refine lv_bipush (v := 20) hx hb dM_feed_29 (by decide) ?_
  refine lv_icmp_ge (tgt := 121) hx hb dM_feed_31 (by decide) (fun h => ((by revert h; decide : False)).elim) (fun _ => ?_)
  refine lv_iload hx hb dM_feed_34 (lv_at hl 0 rfl) ?_
  refine lv_iconst (v := 4) hx hb dM_feed_36 (by decide) ?_
  refine lv_icmp_ge (tgt := 44) hx hb dM_feed_37 (by decide) (fun _ => ?_) (fun h => ((by revert h; decide : False)).elim)
  refine lv_iload hx hb dM_feed_44 (lv_at hl 0 rfl) ?_
  refine lv_bipush (v := 8) hx hb dM_feed_46 (by decide) ?_
  refine lv_icmp_ge (tgt := 55) hx hb dM_feed_48 (by decide) (fun _ => ?_) (fun h => ((by revert h; decide : False)).elim)
  refine lv_iload hx hb dM_feed_55 (lv_at hl 0 rfl) ?_
  refine lv_bipush (v := 12) hx hb dM_feed_57 (by decide) ?_
  refine lv_icmp_ge (tgt := 66) hx hb dM_feed_59 (by decide) (fun _ => ?_) (fun h => ((by revert h; decide : False)).elim)
  refine lv_iload hx hb dM_feed_66 (lv_at hl 0 rfl) ?_
  refine lv_bipush (v := 16) hx hb dM_feed_68 (by decide) ?_
  refine lv_icmp_ge (tgt := 78) hx hb dM_feed_70 (by decide) (fun h => ((by revert h; decide : False)).elim) (fun _ => ?_)
  refine lv_iload hx hb dM_feed_73 (lv_at hl 6 rfl) ?_
  refine lv_goto (tgt := 80) hx hb dM_feed_75 (by decide) ?_
  refine lv_istore (lv' := [(7, .int x5), (6, .int 12), (0, .ref a0), (1, .int x2), (2, .int x3), (3, .int x4), (4, .int x5), (5, .int x6)]) hx hb dM_feed_80 hl (by decide) rfl (fun ls hl => ?_)
  refine lv_aload_n hx hb dM_feed_82 rfl (lv_at hl 2 rfl) ?_
  refine va_get (D := D) (ci := 5) (v := .ref a1) (C := "ValueBenchModel") (T := TM) (N := 32) hx hb htx inM hown hK hP 0 rfl rfl 26 (by decide) (htx _ kw_5_113) (fun _ h9 => h9) rfl dM_feed_83 ?_
  refine lv_aload_n hx hb dM_feed_86 rfl (lv_at hl 2 rfl) ?_
  refine va_get (D := D) (ci := 5) (v := .int 12) (C := "ValueBenchModel") (T := TM) (N := 32) hx hb htx inM hown hK hP 0 rfl rfl 27 (by decide) (htx _ kw_5_114) (fun _ h9 => h9) rfl dM_feed_87 ?_
  refine lv_iload hx hb dM_feed_90 (lv_at hl 0 rfl) ?_
  refine lv_bipush (v := 24) hx hb dM_feed_92 (by decide) ?_
  refine lv_bipush (v := 8) hx hb dM_feed_94 (by decide) ?_
  refine lv_iload hx hb dM_feed_96 (lv_at hl 1 rfl) ?_
  refine lv_iconst (v := 4) hx hb dM_feed_98 (by decide) ?_
  refine lv_irem hx hb dM_feed_99 (by decide) ?_
  refine W.eq (g2 := F0 m 100 ls [.int 0, .int 8, .int 24, .int x5, .int 12, .ref a1]) rfl ?_
  refine lv_imul hx hb dM_feed_100 ?_
  refine W.eq (g2 := F0 m 101 ls [.int 0, .int 24, .int x5, .int 12, .ref a1]) rfl ?_
  refine lv_isub hx hb dM_feed_101 ?_
  refine W.eq (g2 := F0 m 102 ls [.int 24, .int x5, .int 12, .ref a1]) rfl ?_
  refine lv_ishr hx hb dM_feed_102 ?_
  refine lv_topi (fun y25 ey25 => ?_)
  refine lv_i2b hx hb dM_feed_103 rfl ?_
  refine lv_topi (fun y26 ey26 => ?_)
  refine va_bast hx hb hK hP hD hS 1 0 rfl rfl (show ¬ ((12 : Int32) < 0 ∨ 4096 ≤ (12 : Int32).toNatClampNeg) by decide) dM_feed_104 (fun H locs hP hD hS => ?_)
  obtain ⟨hP, hD⟩ : xPD D xcl A [(a0, .inr (5, [.int 0, v8, v9, v10, v11, v12, v13, v14, v15, v16, v17, v18, v19, v20, v21, v22, v23, v24, v25, v26, v27, v28, v29, v30, v31, v32, .ref a1, .int 12, v33, v34, v35, v36])), (a1, .inl (cT 0, 4096, .inl (upd (upd (upd (upd (upd (upd (upd (upd (upd (upd (upd (upd (upd f37 0 (vp_nar .byte y2)) 1 (vp_nar .byte y4)) 2 (vp_nar .byte y6)) 3 (vp_nar .byte y8)) 4 (vp_nar .byte y10)) 5 (vp_nar .byte y12)) 6 (vp_nar .byte y14)) 7 (vp_nar .byte y16)) 8 (vp_nar .byte y18)) 9 (vp_nar .byte y20)) 10 (vp_nar .byte y22)) 11 (vp_nar .byte y24)) 12 (vp_nar .byte y26))))] H := ⟨hP, hD⟩
  refine lv_aload_n hx hb dM_feed_105 rfl (lv_at hl 2 rfl) ?_
  refine lv_dup hx hb dM_feed_106 rfl ?_
  refine va_get (D := D) (ci := 5) (v := .int 12) (C := "ValueBenchModel") (T := TM) (N := 32) hx hb htx inM hown hK hP 0 rfl rfl 27 (by decide) (htx _ kw_5_114) (fun _ h9 => h9) rfl dM_feed_107 ?_
  refine lv_iconst (v := 1) hx hb dM_feed_110 (by decide) ?_
  refine lv_iadd hx hb dM_feed_111 ?_
  refine W.eq (g2 := F0 m 112 ls [.int 13, .ref a0]) rfl ?_
  refine va_put (D := D) (ci := 5) (v := .int 13) (ty := .int) (C := "ValueBenchModel") (T := TM) (N := 32) hx hb htx inM tyM tyM_ok nmM hown hK hP hD hS 0 rfl rfl 27 (by decide) (htx _ kw_5_114) (fun _ h9 => h9) rfl (by decide +kernel) rfl rfl (Nat.le_of_ble_eq_true rfl) dM_feed_112 (fun H locs hP hD hS => ?_)
  obtain ⟨hP, hD⟩ : xPD D xcl A [(a0, .inr (5, [.int 0, v8, v9, v10, v11, v12, v13, v14, v15, v16, v17, v18, v19, v20, v21, v22, v23, v24, v25, v26, v27, v28, v29, v30, v31, v32, .ref a1, .int 13, v33, v34, v35, v36])), (a1, .inl (cT 0, 4096, .inl (upd (upd (upd (upd (upd (upd (upd (upd (upd (upd (upd (upd (upd f37 0 (vp_nar .byte y2)) 1 (vp_nar .byte y4)) 2 (vp_nar .byte y6)) 3 (vp_nar .byte y8)) 4 (vp_nar .byte y10)) 5 (vp_nar .byte y12)) 6 (vp_nar .byte y14)) 7 (vp_nar .byte y16)) 8 (vp_nar .byte y18)) 9 (vp_nar .byte y20)) 10 (vp_nar .byte y22)) 11 (vp_nar .byte y24)) 12 (vp_nar .byte y26))))] H := ⟨hP, hD⟩
  refine lv_iinc (v := 13) (lv' := [(6, .int 13), (7, .int x5), (0, .ref a0), (1, .int x2), (2, .int x3), (3, .int x4), (4, .int x5), (5, .int x6)]) hx hb dM_feed_115 hl (k := 1) rfl (by decide) (by decide) rfl (fun ls hl => ?_)
  refine lv_goto (tgt := 27) hx hb dM_feed_118 (by decide) ?_
  refine lv_iload hx hb dM_feed_27 (lv_at hl 0 rfl) ?_
  refine lv_bipush (v := 20) hx hb dM_feed_29 (by decide) ?_
  refine lv_icmp_ge (tgt := 121) hx hb dM_feed_31 (by decide) (fun h => ((by revert h; decide : False)).elim) (fun _ => ?_)
  refine lv_iload hx hb dM_feed_34 (lv_at hl 0 rfl) ?_
  refine lv_iconst (v := 4) hx hb dM_feed_36 (by decide) ?_
  refine lv_icmp_ge (tgt := 44) hx hb dM_feed_37 (by decide) (fun _ => ?_) (fun h => ((by revert h; decide : False)).elim)
  refine lv_iload hx hb dM_feed_44 (lv_at hl 0 rfl) ?_
  refine lv_bipush (v := 8) hx hb dM_feed_46 (by decide) ?_
  refine lv_icmp_ge (tgt := 55) hx hb dM_feed_48 (by decide) (fun _ => ?_) (fun h => ((by revert h; decide : False)).elim)
  refine lv_iload hx hb dM_feed_55 (lv_at hl 0 rfl) ?_
  refine lv_bipush (v := 12) hx hb dM_feed_57 (by decide) ?_
  refine lv_icmp_ge (tgt := 66) hx hb dM_feed_59 (by decide) (fun _ => ?_) (fun h => ((by revert h; decide : False)).elim)
  refine lv_iload hx hb dM_feed_66 (lv_at hl 0 rfl) ?_
  refine lv_bipush (v := 16) hx hb dM_feed_68 (by decide) ?_
  refine lv_icmp_ge (tgt := 78) hx hb dM_feed_70 (by decide) (fun h => ((by revert h; decide : False)).elim) (fun _ => ?_)
  refine lv_iload hx hb dM_feed_73 (lv_at hl 6 rfl) ?_
  refine lv_goto (tgt := 80) hx hb dM_feed_75 (by decide) ?_
  refine lv_istore (lv' := [(7, .int x5), (6, .int 13), (0, .ref a0), (1, .int x2), (2, .int x3), (3, .int x4), (4, .int x5), (5, .int x6)]) hx hb dM_feed_80 hl (by decide) rfl (fun ls hl => ?_)
  refine lv_aload_n hx hb dM_feed_82 rfl (lv_at hl 2 rfl) ?_
  refine va_get (D := D) (ci := 5) (v := .ref a1) (C := "ValueBenchModel") (T := TM) (N := 32) hx hb htx inM hown hK hP 0 rfl rfl 26 (by decide) (htx _ kw_5_113) (fun _ h9 => h9) rfl dM_feed_83 ?_
  refine lv_aload_n hx hb dM_feed_86 rfl (lv_at hl 2 rfl) ?_
  refine va_get (D := D) (ci := 5) (v := .int 13) (C := "ValueBenchModel") (T := TM) (N := 32) hx hb htx inM hown hK hP 0 rfl rfl 27 (by decide) (htx _ kw_5_114) (fun _ h9 => h9) rfl dM_feed_87 ?_
  refine lv_iload hx hb dM_feed_90 (lv_at hl 0 rfl) ?_
  refine lv_bipush (v := 24) hx hb dM_feed_92 (by decide) ?_
  refine lv_bipush (v := 8) hx hb dM_feed_94 (by decide) ?_
  refine lv_iload hx hb dM_feed_96 (lv_at hl 1 rfl) ?_
  refine lv_iconst (v := 4) hx hb dM_feed_98 (by decide) ?_
  refine lv_irem hx hb dM_feed_99 (by decide) ?_
  refine W.eq (g2 := F0 m 100 ls [.int 1, .int 8, .int 24, .int x5, .int 13, .ref a1]) rfl ?_
  refine lv_imul hx hb dM_feed_100 ?_
  refine W.eq (g2 := F0 m 101 ls [.int 8, .int 24, .int x5, .int 13, .ref a1]) rfl ?_
  refine lv_isub hx hb dM_feed_101 ?_
  refine W.eq (g2 := F0 m 102 ls [.int 16, .int x5, .int 13, .ref a1]) rfl ?_
  refine lv_ishr hx hb dM_feed_102 ?_
  refine lv_topi (fun y27 ey27 => ?_)
  refine lv_i2b hx hb dM_feed_103 rfl ?_
  refine lv_topi (fun y28 ey28 => ?_)
  refine va_bast hx hb hK hP hD hS 1 0 rfl rfl (show ¬ ((13 : Int32) < 0 ∨ 4096 ≤ (13 : Int32).toNatClampNeg) by decide) dM_feed_104 (fun H locs hP hD hS => ?_)
  obtain ⟨hP, hD⟩ : xPD D xcl A [(a0, .inr (5, [.int 0, v8, v9, v10, v11, v12, v13, v14, v15, v16, v17, v18, v19, v20, v21, v22, v23, v24, v25, v26, v27, v28, v29, v30, v31, v32, .ref a1, .int 13, v33, v34, v35, v36])), (a1, .inl (cT 0, 4096, .inl (upd (upd (upd (upd (upd (upd (upd (upd (upd (upd (upd (upd (upd (upd f37 0 (vp_nar .byte y2)) 1 (vp_nar .byte y4)) 2 (vp_nar .byte y6)) 3 (vp_nar .byte y8)) 4 (vp_nar .byte y10)) 5 (vp_nar .byte y12)) 6 (vp_nar .byte y14)) 7 (vp_nar .byte y16)) 8 (vp_nar .byte y18)) 9 (vp_nar .byte y20)) 10 (vp_nar .byte y22)) 11 (vp_nar .byte y24)) 12 (vp_nar .byte y26)) 13 (vp_nar .byte y28))))] H := ⟨hP, hD⟩
  refine lv_aload_n hx hb dM_feed_105 rfl (lv_at hl 2 rfl) ?_
  refine lv_dup hx hb dM_feed_106 rfl ?_
  refine va_get (D := D) (ci := 5) (v := .int 13) (C := "ValueBenchModel") (T := TM) (N := 32) hx hb htx inM hown hK hP 0 rfl rfl 27 (by decide) (htx _ kw_5_114) (fun _ h9 => h9) rfl dM_feed_107 ?_
  refine lv_iconst (v := 1) hx hb dM_feed_110 (by decide) ?_
  refine lv_iadd hx hb dM_feed_111 ?_
  refine W.eq (g2 := F0 m 112 ls [.int 14, .ref a0]) rfl ?_
  refine va_put (D := D) (ci := 5) (v := .int 14) (ty := .int) (C := "ValueBenchModel") (T := TM) (N := 32) hx hb htx inM tyM tyM_ok nmM hown hK hP hD hS 0 rfl rfl 27 (by decide) (htx _ kw_5_114) (fun _ h9 => h9) rfl (by decide +kernel) rfl rfl (Nat.le_of_ble_eq_true rfl) dM_feed_112 (fun H locs hP hD hS => ?_)
  obtain ⟨hP, hD⟩ : xPD D xcl A [(a0, .inr (5, [.int 0, v8, v9, v10, v11, v12, v13, v14, v15, v16, v17, v18, v19, v20, v21, v22, v23, v24, v25, v26, v27, v28, v29, v30, v31, v32, .ref a1, .int 14, v33, v34, v35, v36])), (a1, .inl (cT 0, 4096, .inl (upd (upd (upd (upd (upd (upd (upd (upd (upd (upd (upd (upd (upd (upd f37 0 (vp_nar .byte y2)) 1 (vp_nar .byte y4)) 2 (vp_nar .byte y6)) 3 (vp_nar .byte y8)) 4 (vp_nar .byte y10)) 5 (vp_nar .byte y12)) 6 (vp_nar .byte y14)) 7 (vp_nar .byte y16)) 8 (vp_nar .byte y18)) 9 (vp_nar .byte y20)) 10 (vp_nar .byte y22)) 11 (vp_nar .byte y24)) 12 (vp_nar .byte y26)) 13 (vp_nar .byte y28))))] H := ⟨hP, hD⟩
  refine lv_iinc (v := 14) (lv' := [(6, .int 14), (7, .int x5), (0, .ref a0), (1, .int x2), (2, .int x3), (3, .int x4), (4, .int x5), (5, .int x6)]) hx hb dM_feed_115 hl (k := 1) rfl (by decide) (by decide) rfl (fun ls hl => ?_)
  refine lv_goto (tgt := 27) hx hb dM_feed_118 (by decide) ?_
  refine lv_iload hx hb dM_feed_27 (lv_at hl 0 rfl) ?_
  refine lv_bipush (v := 20) hx hb dM_feed_29 (by decide) ?_
  refine lv_icmp_ge (tgt := 121) hx hb dM_feed_31 (by decide) (fun h => ((by revert h; decide : False)).elim) (fun _ => ?_)
  refine lv_iload hx hb dM_feed_34 (lv_at hl 0 rfl) ?_
  refine lv_iconst (v := 4) hx hb dM_feed_36 (by decide) ?_
  refine lv_icmp_ge (tgt := 44) hx hb dM_feed_37 (by decide) (fun _ => ?_) (fun h => ((by revert h; decide : False)).elim)
  refine lv_iload hx hb dM_feed_44 (lv_at hl 0 rfl) ?_
  refine lv_bipush (v := 8) hx hb dM_feed_46 (by decide) ?_
  refine lv_icmp_ge (tgt := 55) hx hb dM_feed_48 (by decide) (fun _ => ?_) (fun h => ((by revert h; decide : False)).elim)
  refine lv_iload hx hb dM_feed_55 (lv_at hl 0 rfl) ?_
  refine lv_bipush (v := 12) hx hb dM_feed_57 (by decide) ?_
  refine lv_icmp_ge (tgt := 66) hx hb dM_feed_59 (by decide) (fun _ => ?_) (fun h => ((by revert h; decide : False)).elim)
  refine lv_iload hx hb dM_feed_66 (lv_at hl 0 rfl) ?_
  refine lv_bipush (v := 16) hx hb dM_feed_68 (by decide) ?_
  refine lv_icmp_ge (tgt := 78) hx hb dM_feed_70 (by decide) (fun h => ((by revert h; decide : False)).elim) (fun _ => ?_)
  refine lv_iload hx hb dM_feed_73 (lv_at hl 6 rfl) ?_
  refine lv_goto (tgt := 80) hx hb dM_feed_75 (by decide) ?_
  refine lv_istore (lv' := [(7, .int x5), (6, .int 14), (0, .ref a0), (1, .int x2), (2, .int x3), (3, .int x4), (4, .int x5), (5, .int x6)]) hx hb dM_feed_80 hl (by decide) rfl (fun ls hl => ?_)
  refine lv_aload_n hx hb dM_feed_82 rfl (lv_at hl 2 rfl) ?_
  refine va_get (D := D) (ci := 5) (v := .ref a1) (C := "ValueBenchModel") (T := TM) (N := 32) hx hb htx inM hown hK hP 0 rfl rfl 26 (by decide) (htx _ kw_5_113) (fun _ h9 => h9) rfl dM_feed_83 ?_
  refine lv_aload_n hx hb dM_feed_86 rfl (lv_at hl 2 rfl) ?_
  refine va_get (D := D) (ci := 5) (v := .int 14) (C := "ValueBenchModel") (T := TM) (N := 32) hx hb htx inM hown hK hP 0 rfl rfl 27 (by decide) (htx _ kw_5_114) (fun _ h9 => h9) rfl dM_feed_87 ?_
  refine lv_iload hx hb dM_feed_90 (lv_at hl 0 rfl) ?_
  refine lv_bipush (v := 24) hx hb dM_feed_92 (by decide) ?_
  refine lv_bipush (v := 8) hx hb dM_feed_94 (by decide) ?_
  refine lv_iload hx hb dM_feed_96 (lv_at hl 1 rfl) ?_
  refine lv_iconst (v := 4) hx hb dM_feed_98 (by decide) ?_
  refine lv_irem hx hb dM_feed_99 (by decide) ?_
  refine W.eq (g2 := F0 m 100 ls [.int 2, .int 8, .int 24, .int x5, .int 14, .ref a1]) rfl ?_
  refine lv_imul hx hb dM_feed_100 ?_
  refine W.eq (g2 := F0 m 101 ls [.int 16, .int 24, .int x5, .int 14, .ref a1]) rfl ?_
  refine lv_isub hx hb dM_feed_101 ?_
  refine W.eq (g2 := F0 m 102 ls [.int 8, .int x5, .int 14, .ref a1]) rfl ?_
  refine lv_ishr hx hb dM_feed_102 ?_
  refine lv_topi (fun y29 ey29 => ?_)
  refine lv_i2b hx hb dM_feed_103 rfl ?_
  refine lv_topi (fun y30 ey30 => ?_)
  refine va_bast hx hb hK hP hD hS 1 0 rfl rfl (show ¬ ((14 : Int32) < 0 ∨ 4096 ≤ (14 : Int32).toNatClampNeg) by decide) dM_feed_104 (fun H locs hP hD hS => ?_)
  obtain ⟨hP, hD⟩ : xPD D xcl A [(a0, .inr (5, [.int 0, v8, v9, v10, v11, v12, v13, v14, v15, v16, v17, v18, v19, v20, v21, v22, v23, v24, v25, v26, v27, v28, v29, v30, v31, v32, .ref a1, .int 14, v33, v34, v35, v36])), (a1, .inl (cT 0, 4096, .inl (upd (upd (upd (upd (upd (upd (upd (upd (upd (upd (upd (upd (upd (upd (upd f37 0 (vp_nar .byte y2)) 1 (vp_nar .byte y4)) 2 (vp_nar .byte y6)) 3 (vp_nar .byte y8)) 4 (vp_nar .byte y10)) 5 (vp_nar .byte y12)) 6 (vp_nar .byte y14)) 7 (vp_nar .byte y16)) 8 (vp_nar .byte y18)) 9 (vp_nar .byte y20)) 10 (vp_nar .byte y22)) 11 (vp_nar .byte y24)) 12 (vp_nar .byte y26)) 13 (vp_nar .byte y28)) 14 (vp_nar .byte y30))))] H := ⟨hP, hD⟩
  refine lv_aload_n hx hb dM_feed_105 rfl (lv_at hl 2 rfl) ?_
  refine lv_dup hx hb dM_feed_106 rfl ?_
  refine va_get (D := D) (ci := 5) (v := .int 14) (C := "ValueBenchModel") (T := TM) (N := 32) hx hb htx inM hown hK hP 0 rfl rfl 27 (by decide) (htx _ kw_5_114) (fun _ h9 => h9) rfl dM_feed_107 ?_
  refine lv_iconst (v := 1) hx hb dM_feed_110 (by decide) ?_
  refine lv_iadd hx hb dM_feed_111 ?_
  refine W.eq (g2 := F0 m 112 ls [.int 15, .ref a0]) rfl ?_
  refine va_put (D := D) (ci := 5) (v := .int 15) (ty := .int) (C := "ValueBenchModel") (T := TM) (N := 32) hx hb htx inM tyM tyM_ok nmM hown hK hP hD hS 0 rfl rfl 27 (by decide) (htx _ kw_5_114) (fun _ h9 => h9) rfl (by decide +kernel) rfl rfl (Nat.le_of_ble_eq_true rfl) dM_feed_112 (fun H locs hP hD hS => ?_)
  obtain ⟨hP, hD⟩ : xPD D xcl A [(a0, .inr (5, [.int 0, v8, v9, v10, v11, v12, v13, v14, v15, v16, v17, v18, v19, v20, v21, v22, v23, v24, v25, v26, v27, v28, v29, v30, v31, v32, .ref a1, .int 15, v33, v34, v35, v36])), (a1, .inl (cT 0, 4096, .inl (upd (upd (upd (upd (upd (upd (upd (upd (upd (upd (upd (upd (upd (upd (upd f37 0 (vp_nar .byte y2)) 1 (vp_nar .byte y4)) 2 (vp_nar .byte y6)) 3 (vp_nar .byte y8)) 4 (vp_nar .byte y10)) 5 (vp_nar .byte y12)) 6 (vp_nar .byte y14)) 7 (vp_nar .byte y16)) 8 (vp_nar .byte y18)) 9 (vp_nar .byte y20)) 10 (vp_nar .byte y22)) 11 (vp_nar .byte y24)) 12 (vp_nar .byte y26)) 13 (vp_nar .byte y28)) 14 (vp_nar .byte y30))))] H := ⟨hP, hD⟩
  refine lv_iinc (v := 15) (lv' := [(6, .int 15), (7, .int x5), (0, .ref a0), (1, .int x2), (2, .int x3), (3, .int x4), (4, .int x5), (5, .int x6)]) hx hb dM_feed_115 hl (k := 1) rfl (by decide) (by decide) rfl (fun ls hl => ?_)
  refine lv_goto (tgt := 27) hx hb dM_feed_118 (by decide) ?_
  refine lv_iload hx hb dM_feed_27 (lv_at hl 0 rfl) ?_
  refine lv_bipush (v := 20) hx hb dM_feed_29 (by decide) ?_
  refine lv_icmp_ge (tgt := 121) hx hb dM_feed_31 (by decide) (fun h => ((by revert h; decide : False)).elim) (fun _ => ?_)
  refine lv_iload hx hb dM_feed_34 (lv_at hl 0 rfl) ?_
  refine lv_iconst (v := 4) hx hb dM_feed_36 (by decide) ?_
  refine lv_icmp_ge (tgt := 44) hx hb dM_feed_37 (by decide) (fun _ => ?_) (fun h => ((by revert h; decide : False)).elim)
  refine lv_iload hx hb dM_feed_44 (lv_at hl 0 rfl) ?_
  refine lv_bipush (v := 8) hx hb dM_feed_46 (by decide) ?_
  refine lv_icmp_ge (tgt := 55) hx hb dM_feed_48 (by decide) (fun _ => ?_) (fun h => ((by revert h; decide : False)).elim)
  refine lv_iload hx hb dM_feed_55 (lv_at hl 0 rfl) ?_
  refine lv_bipush (v := 12) hx hb dM_feed_57 (by decide) ?_
  refine lv_icmp_ge (tgt := 66) hx hb dM_feed_59 (by decide) (fun _ => ?_) (fun h => ((by revert h; decide : False)).elim)
  refine lv_iload hx hb dM_feed_66 (lv_at hl 0 rfl) ?_
  refine lv_bipush (v := 16) hx hb dM_feed_68 (by decide) ?_
  refine lv_icmp_ge (tgt := 78) hx hb dM_feed_70 (by decide) (fun h => ((by revert h; decide : False)).elim) (fun _ => ?_)
  refine lv_iload hx hb dM_feed_73 (lv_at hl 6 rfl) ?_
  refine lv_goto (tgt := 80) hx hb dM_feed_75 (by decide) ?_
  refine lv_istore (lv' := [(7, .int x5), (6, .int 15), (0, .ref a0), (1, .int x2), (2, .int x3), (3, .int x4), (4, .int x5), (5, .int x6)]) hx hb dM_feed_80 hl (by decide) rfl (fun ls hl => ?_)
  refine lv_aload_n hx hb dM_feed_82 rfl (lv_at hl 2 rfl) ?_
  refine va_get (D := D) (ci := 5) (v := .ref a1) (C := "ValueBenchModel") (T := TM) (N := 32) hx hb htx inM hown hK hP 0 rfl rfl 26 (by decide) (htx _ kw_5_113) (fun _ h9 => h9) rfl dM_feed_83 ?_
  refine lv_aload_n hx hb dM_feed_86 rfl (lv_at hl 2 rfl) ?_
  refine va_get (D := D) (ci := 5) (v := .int 15) (C := "ValueBenchModel") (T := TM) (N := 32) hx hb htx inM hown hK hP 0 rfl rfl 27 (by decide) (htx _ kw_5_114) (fun _ h9 => h9) rfl dM_feed_87 ?_
  refine lv_iload hx hb dM_feed_90 (lv_at hl 0 rfl) ?_
  refine lv_bipush (v := 24) hx hb dM_feed_92 (by decide) ?_
  refine lv_bipush (v := 8) hx hb dM_feed_94 (by decide) ?_
  refine lv_iload hx hb dM_feed_96 (lv_at hl 1 rfl) ?_
  refine lv_iconst (v := 4) hx hb dM_feed_98 (by decide) ?_
  refine lv_irem hx hb dM_feed_99 (by decide) ?_
  refine W.eq (g2 := F0 m 100 ls [.int 3, .int 8, .int 24, .int x5, .int 15, .ref a1]) rfl ?_
  refine lv_imul hx hb dM_feed_100 ?_
  refine W.eq (g2 := F0 m 101 ls [.int 24, .int 24, .int x5, .int 15, .ref a1]) rfl ?_
  refine lv_isub hx hb dM_feed_101 ?_
  refine W.eq (g2 := F0 m 102 ls [.int 0, .int x5, .int 15, .ref a1]) rfl ?_
  refine lv_ishr hx hb dM_feed_102 ?_
  refine lv_topi (fun y31 ey31 => ?_)
  refine lv_i2b hx hb dM_feed_103 rfl ?_
  refine lv_topi (fun y32 ey32 => ?_)
  refine va_bast hx hb hK hP hD hS 1 0 rfl rfl (show ¬ ((15 : Int32) < 0 ∨ 4096 ≤ (15 : Int32).toNatClampNeg) by decide) dM_feed_104 (fun H locs hP hD hS => ?_)
  obtain ⟨hP, hD⟩ : xPD D xcl A [(a0, .inr (5, [.int 0, v8, v9, v10, v11, v12, v13, v14, v15, v16, v17, v18, v19, v20, v21, v22, v23, v24, v25, v26, v27, v28, v29, v30, v31, v32, .ref a1, .int 15, v33, v34, v35, v36])), (a1, .inl (cT 0, 4096, .inl (upd (upd (upd (upd (upd (upd (upd (upd (upd (upd (upd (upd (upd (upd (upd (upd f37 0 (vp_nar .byte y2)) 1 (vp_nar .byte y4)) 2 (vp_nar .byte y6)) 3 (vp_nar .byte y8)) 4 (vp_nar .byte y10)) 5 (vp_nar .byte y12)) 6 (vp_nar .byte y14)) 7 (vp_nar .byte y16)) 8 (vp_nar .byte y18)) 9 (vp_nar .byte y20)) 10 (vp_nar .byte y22)) 11 (vp_nar .byte y24)) 12 (vp_nar .byte y26)) 13 (vp_nar .byte y28)) 14 (vp_nar .byte y30)) 15 (vp_nar .byte y32))))] H := ⟨hP, hD⟩
  refine lv_aload_n hx hb dM_feed_105 rfl (lv_at hl 2 rfl) ?_
  refine lv_dup hx hb dM_feed_106 rfl ?_
  refine va_get (D := D) (ci := 5) (v := .int 15) (C := "ValueBenchModel") (T := TM) (N := 32) hx hb htx inM hown hK hP 0 rfl rfl 27 (by decide) (htx _ kw_5_114) (fun _ h9 => h9) rfl dM_feed_107 ?_
  refine lv_iconst (v := 1) hx hb dM_feed_110 (by decide) ?_
  refine lv_iadd hx hb dM_feed_111 ?_
  refine W.eq (g2 := F0 m 112 ls [.int 16, .ref a0]) rfl ?_
  refine va_put (D := D) (ci := 5) (v := .int 16) (ty := .int) (C := "ValueBenchModel") (T := TM) (N := 32) hx hb htx inM tyM tyM_ok nmM hown hK hP hD hS 0 rfl rfl 27 (by decide) (htx _ kw_5_114) (fun _ h9 => h9) rfl (by decide +kernel) rfl rfl (Nat.le_of_ble_eq_true rfl) dM_feed_112 (fun H locs hP hD hS => ?_)
  obtain ⟨hP, hD⟩ : xPD D xcl A [(a0, .inr (5, [.int 0, v8, v9, v10, v11, v12, v13, v14, v15, v16, v17, v18, v19, v20, v21, v22, v23, v24, v25, v26, v27, v28, v29, v30, v31, v32, .ref a1, .int 16, v33, v34, v35, v36])), (a1, .inl (cT 0, 4096, .inl (upd (upd (upd (upd (upd (upd (upd (upd (upd (upd (upd (upd (upd (upd (upd (upd f37 0 (vp_nar .byte y2)) 1 (vp_nar .byte y4)) 2 (vp_nar .byte y6)) 3 (vp_nar .byte y8)) 4 (vp_nar .byte y10)) 5 (vp_nar .byte y12)) 6 (vp_nar .byte y14)) 7 (vp_nar .byte y16)) 8 (vp_nar .byte y18)) 9 (vp_nar .byte y20)) 10 (vp_nar .byte y22)) 11 (vp_nar .byte y24)) 12 (vp_nar .byte y26)) 13 (vp_nar .byte y28)) 14 (vp_nar .byte y30)) 15 (vp_nar .byte y32))))] H := ⟨hP, hD⟩
  refine lv_iinc (v := 16) (lv' := [(6, .int 16), (7, .int x5), (0, .ref a0), (1, .int x2), (2, .int x3), (3, .int x4), (4, .int x5), (5, .int x6)]) hx hb dM_feed_115 hl (k := 1) rfl (by decide) (by decide) rfl (fun ls hl => ?_)
  refine lv_goto (tgt := 27) hx hb dM_feed_118 (by decide) ?_
  refine lv_iload hx hb dM_feed_27 (lv_at hl 0 rfl) ?_
  refine lv_bipush (v := 20) hx hb dM_feed_29 (by decide) ?_
  refine lv_icmp_ge (tgt := 121) hx hb dM_feed_31 (by decide) (fun h => ((by revert h; decide : False)).elim) (fun _ => ?_)
  refine lv_iload hx hb dM_feed_34 (lv_at hl 0 rfl) ?_
  refine lv_iconst (v := 4) hx hb dM_feed_36 (by decide) ?_
  refine lv_icmp_ge (tgt := 44) hx hb dM_feed_37 (by decide) (fun _ => ?_) (fun h => ((by revert h; decide : False)).elim)
  refine lv_iload hx hb dM_feed_44 (lv_at hl 0 rfl) ?_
  refine lv_bipush (v := 8) hx hb dM_feed_46 (by decide) ?_
  refine lv_icmp_ge (tgt := 55) hx hb dM_feed_48 (by decide) (fun _ => ?_) (fun h => ((by revert h; decide : False)).elim)
  refine lv_iload hx hb dM_feed_55 (lv_at hl 0 rfl) ?_
  refine lv_bipush (v := 12) hx hb dM_feed_57 (by decide) ?_
  refine lv_icmp_ge (tgt := 66) hx hb dM_feed_59 (by decide) (fun _ => ?_) (fun h => ((by revert h; decide : False)).elim)
  refine lv_iload hx hb dM_feed_66 (lv_at hl 0 rfl) ?_
  refine lv_bipush (v := 16) hx hb dM_feed_68 (by decide) ?_
  refine lv_icmp_ge (tgt := 78) hx hb dM_feed_70 (by decide) (fun _ => ?_) (fun h => ((by revert h; decide : False)).elim)
  refine lv_iload hx hb dM_feed_78 (lv_at hl 7 rfl) ?_
  refine lv_istore (lv' := [(7, .int x6), (6, .int 16), (0, .ref a0), (1, .int x2), (2, .int x3), (3, .int x4), (4, .int x5), (5, .int x6)]) hx hb dM_feed_80 hl (by decide) rfl (fun ls hl => ?_)
  refine lv_aload_n hx hb dM_feed_82 rfl (lv_at hl 2 rfl) ?_
  refine va_get (D := D) (ci := 5) (v := .ref a1) (C := "ValueBenchModel") (T := TM) (N := 32) hx hb htx inM hown hK hP 0 rfl rfl 26 (by decide) (htx _ kw_5_113) (fun _ h9 => h9) rfl dM_feed_83 ?_
  refine lv_aload_n hx hb dM_feed_86 rfl (lv_at hl 2 rfl) ?_
  refine va_get (D := D) (ci := 5) (v := .int 16) (C := "ValueBenchModel") (T := TM) (N := 32) hx hb htx inM hown hK hP 0 rfl rfl 27 (by decide) (htx _ kw_5_114) (fun _ h9 => h9) rfl dM_feed_87 ?_
  refine lv_iload hx hb dM_feed_90 (lv_at hl 0 rfl) ?_
  refine lv_bipush (v := 24) hx hb dM_feed_92 (by decide) ?_
  refine lv_bipush (v := 8) hx hb dM_feed_94 (by decide) ?_
  refine lv_iload hx hb dM_feed_96 (lv_at hl 1 rfl) ?_
  refine lv_iconst (v := 4) hx hb dM_feed_98 (by decide) ?_
  refine lv_irem hx hb dM_feed_99 (by decide) ?_
  refine W.eq (g2 := F0 m 100 ls [.int 0, .int 8, .int 24, .int x6, .int 16, .ref a1]) rfl ?_
  refine lv_imul hx hb dM_feed_100 ?_
  refine W.eq (g2 := F0 m 101 ls [.int 0, .int 24, .int x6, .int 16, .ref a1]) rfl ?_
  refine lv_isub hx hb dM_feed_101 ?_
  refine W.eq (g2 := F0 m 102 ls [.int 24, .int x6, .int 16, .ref a1]) rfl ?_
  refine lv_ishr hx hb dM_feed_102 ?_
  refine lv_topi (fun y33 ey33 => ?_)
  refine lv_i2b hx hb dM_feed_103 rfl ?_
  refine lv_topi (fun y34 ey34 => ?_)
  refine va_bast hx hb hK hP hD hS 1 0 rfl rfl (show ¬ ((16 : Int32) < 0 ∨ 4096 ≤ (16 : Int32).toNatClampNeg) by decide) dM_feed_104 (fun H locs hP hD hS => ?_)
  obtain ⟨hP, hD⟩ : xPD D xcl A [(a0, .inr (5, [.int 0, v8, v9, v10, v11, v12, v13, v14, v15, v16, v17, v18, v19, v20, v21, v22, v23, v24, v25, v26, v27, v28, v29, v30, v31, v32, .ref a1, .int 16, v33, v34, v35, v36])), (a1, .inl (cT 0, 4096, .inl (upd (upd (upd (upd (upd (upd (upd (upd (upd (upd (upd (upd (upd (upd (upd (upd (upd f37 0 (vp_nar .byte y2)) 1 (vp_nar .byte y4)) 2 (vp_nar .byte y6)) 3 (vp_nar .byte y8)) 4 (vp_nar .byte y10)) 5 (vp_nar .byte y12)) 6 (vp_nar .byte y14)) 7 (vp_nar .byte y16)) 8 (vp_nar .byte y18)) 9 (vp_nar .byte y20)) 10 (vp_nar .byte y22)) 11 (vp_nar .byte y24)) 12 (vp_nar .byte y26)) 13 (vp_nar .byte y28)) 14 (vp_nar .byte y30)) 15 (vp_nar .byte y32)) 16 (vp_nar .byte y34))))] H := ⟨hP, hD⟩
  refine lv_aload_n hx hb dM_feed_105 rfl (lv_at hl 2 rfl) ?_
  refine lv_dup hx hb dM_feed_106 rfl ?_
  refine va_get (D := D) (ci := 5) (v := .int 16) (C := "ValueBenchModel") (T := TM) (N := 32) hx hb htx inM hown hK hP 0 rfl rfl 27 (by decide) (htx _ kw_5_114) (fun _ h9 => h9) rfl dM_feed_107 ?_
  refine lv_iconst (v := 1) hx hb dM_feed_110 (by decide) ?_
  refine lv_iadd hx hb dM_feed_111 ?_
  refine W.eq (g2 := F0 m 112 ls [.int 17, .ref a0]) rfl ?_
  refine va_put (D := D) (ci := 5) (v := .int 17) (ty := .int) (C := "ValueBenchModel") (T := TM) (N := 32) hx hb htx inM tyM tyM_ok nmM hown hK hP hD hS 0 rfl rfl 27 (by decide) (htx _ kw_5_114) (fun _ h9 => h9) rfl (by decide +kernel) rfl rfl (Nat.le_of_ble_eq_true rfl) dM_feed_112 (fun H locs hP hD hS => ?_)
  obtain ⟨hP, hD⟩ : xPD D xcl A [(a0, .inr (5, [.int 0, v8, v9, v10, v11, v12, v13, v14, v15, v16, v17, v18, v19, v20, v21, v22, v23, v24, v25, v26, v27, v28, v29, v30, v31, v32, .ref a1, .int 17, v33, v34, v35, v36])), (a1, .inl (cT 0, 4096, .inl (upd (upd (upd (upd (upd (upd (upd (upd (upd (upd (upd (upd (upd (upd (upd (upd (upd f37 0 (vp_nar .byte y2)) 1 (vp_nar .byte y4)) 2 (vp_nar .byte y6)) 3 (vp_nar .byte y8)) 4 (vp_nar .byte y10)) 5 (vp_nar .byte y12)) 6 (vp_nar .byte y14)) 7 (vp_nar .byte y16)) 8 (vp_nar .byte y18)) 9 (vp_nar .byte y20)) 10 (vp_nar .byte y22)) 11 (vp_nar .byte y24)) 12 (vp_nar .byte y26)) 13 (vp_nar .byte y28)) 14 (vp_nar .byte y30)) 15 (vp_nar .byte y32)) 16 (vp_nar .byte y34))))] H := ⟨hP, hD⟩
  refine lv_iinc (v := 17) (lv' := [(6, .int 17), (7, .int x6), (0, .ref a0), (1, .int x2), (2, .int x3), (3, .int x4), (4, .int x5), (5, .int x6)]) hx hb dM_feed_115 hl (k := 1) rfl (by decide) (by decide) rfl (fun ls hl => ?_)
  refine lv_goto (tgt := 27) hx hb dM_feed_118 (by decide) ?_
  refine lv_iload hx hb dM_feed_27 (lv_at hl 0 rfl) ?_
  refine lv_bipush (v := 20) hx hb dM_feed_29 (by decide) ?_
  refine lv_icmp_ge (tgt := 121) hx hb dM_feed_31 (by decide) (fun h => ((by revert h; decide : False)).elim) (fun _ => ?_)
  refine lv_iload hx hb dM_feed_34 (lv_at hl 0 rfl) ?_
  refine lv_iconst (v := 4) hx hb dM_feed_36 (by decide) ?_
  refine lv_icmp_ge (tgt := 44) hx hb dM_feed_37 (by decide) (fun _ => ?_) (fun h => ((by revert h; decide : False)).elim)
  refine lv_iload hx hb dM_feed_44 (lv_at hl 0 rfl) ?_
  refine lv_bipush (v := 8) hx hb dM_feed_46 (by decide) ?_
  refine lv_icmp_ge (tgt := 55) hx hb dM_feed_48 (by decide) (fun _ => ?_) (fun h => ((by revert h; decide : False)).elim)
  refine lv_iload hx hb dM_feed_55 (lv_at hl 0 rfl) ?_
  refine lv_bipush (v := 12) hx hb dM_feed_57 (by decide) ?_
  refine lv_icmp_ge (tgt := 66) hx hb dM_feed_59 (by decide) (fun _ => ?_) (fun h => ((by revert h; decide : False)).elim)
  refine lv_iload hx hb dM_feed_66 (lv_at hl 0 rfl) ?_
  refine lv_bipush (v := 16) hx hb dM_feed_68 (by decide) ?_
  refine lv_icmp_ge (tgt := 78) hx hb dM_feed_70 (by decide) (fun _ => ?_) (fun h => ((by revert h; decide : False)).elim)
  refine lv_iload hx hb dM_feed_78 (lv_at hl 7 rfl) ?_
  refine lv_istore (lv' := [(7, .int x6), (6, .int 17), (0, .ref a0), (1, .int x2), (2, .int x3), (3, .int x4), (4, .int x5), (5, .int x6)]) hx hb dM_feed_80 hl (by decide) rfl (fun ls hl => ?_)
  refine lv_aload_n hx hb dM_feed_82 rfl (lv_at hl 2 rfl) ?_
  refine va_get (D := D) (ci := 5) (v := .ref a1) (C := "ValueBenchModel") (T := TM) (N := 32) hx hb htx inM hown hK hP 0 rfl rfl 26 (by decide) (htx _ kw_5_113) (fun _ h9 => h9) rfl dM_feed_83 ?_
  refine lv_aload_n hx hb dM_feed_86 rfl (lv_at hl 2 rfl) ?_
  refine va_get (D := D) (ci := 5) (v := .int 17) (C := "ValueBenchModel") (T := TM) (N := 32) hx hb htx inM hown hK hP 0 rfl rfl 27 (by decide) (htx _ kw_5_114) (fun _ h9 => h9) rfl dM_feed_87 ?_
  refine lv_iload hx hb dM_feed_90 (lv_at hl 0 rfl) ?_
  refine lv_bipush (v := 24) hx hb dM_feed_92 (by decide) ?_
  refine lv_bipush (v := 8) hx hb dM_feed_94 (by decide) ?_
  refine lv_iload hx hb dM_feed_96 (lv_at hl 1 rfl) ?_
  refine lv_iconst (v := 4) hx hb dM_feed_98 (by decide) ?_
  refine lv_irem hx hb dM_feed_99 (by decide) ?_
  refine W.eq (g2 := F0 m 100 ls [.int 1, .int 8, .int 24, .int x6, .int 17, .ref a1]) rfl ?_
  refine lv_imul hx hb dM_feed_100 ?_
  refine W.eq (g2 := F0 m 101 ls [.int 8, .int 24, .int x6, .int 17, .ref a1]) rfl ?_
  refine lv_isub hx hb dM_feed_101 ?_
  refine W.eq (g2 := F0 m 102 ls [.int 16, .int x6, .int 17, .ref a1]) rfl ?_
  refine lv_ishr hx hb dM_feed_102 ?_
  refine lv_topi (fun y35 ey35 => ?_)
  refine lv_i2b hx hb dM_feed_103 rfl ?_
  refine lv_topi (fun y36 ey36 => ?_)
  refine va_bast hx hb hK hP hD hS 1 0 rfl rfl (show ¬ ((17 : Int32) < 0 ∨ 4096 ≤ (17 : Int32).toNatClampNeg) by decide) dM_feed_104 (fun H locs hP hD hS => ?_)
  obtain ⟨hP, hD⟩ : xPD D xcl A [(a0, .inr (5, [.int 0, v8, v9, v10, v11, v12, v13, v14, v15, v16, v17, v18, v19, v20, v21, v22, v23, v24, v25, v26, v27, v28, v29, v30, v31, v32, .ref a1, .int 17, v33, v34, v35, v36])), (a1, .inl (cT 0, 4096, .inl (upd (upd (upd (upd (upd (upd (upd (upd (upd (upd (upd (upd (upd (upd (upd (upd (upd (upd f37 0 (vp_nar .byte y2)) 1 (vp_nar .byte y4)) 2 (vp_nar .byte y6)) 3 (vp_nar .byte y8)) 4 (vp_nar .byte y10)) 5 (vp_nar .byte y12)) 6 (vp_nar .byte y14)) 7 (vp_nar .byte y16)) 8 (vp_nar .byte y18)) 9 (vp_nar .byte y20)) 10 (vp_nar .byte y22)) 11 (vp_nar .byte y24)) 12 (vp_nar .byte y26)) 13 (vp_nar .byte y28)) 14 (vp_nar .byte y30)) 15 (vp_nar .byte y32)) 16 (vp_nar .byte y34)) 17 (vp_nar .byte y36))))] H := ⟨hP, hD⟩
  refine lv_aload_n hx hb dM_feed_105 rfl (lv_at hl 2 rfl) ?_
  refine lv_dup hx hb dM_feed_106 rfl ?_
  refine va_get (D := D) (ci := 5) (v := .int 17) (C := "ValueBenchModel") (T := TM) (N := 32) hx hb htx inM hown hK hP 0 rfl rfl 27 (by decide) (htx _ kw_5_114) (fun _ h9 => h9) rfl dM_feed_107 ?_
  refine lv_iconst (v := 1) hx hb dM_feed_110 (by decide) ?_
  refine lv_iadd hx hb dM_feed_111 ?_
  refine W.eq (g2 := F0 m 112 ls [.int 18, .ref a0]) rfl ?_
  refine va_put (D := D) (ci := 5) (v := .int 18) (ty := .int) (C := "ValueBenchModel") (T := TM) (N := 32) hx hb htx inM tyM tyM_ok nmM hown hK hP hD hS 0 rfl rfl 27 (by decide) (htx _ kw_5_114) (fun _ h9 => h9) rfl (by decide +kernel) rfl rfl (Nat.le_of_ble_eq_true rfl) dM_feed_112 (fun H locs hP hD hS => ?_)
  obtain ⟨hP, hD⟩ : xPD D xcl A [(a0, .inr (5, [.int 0, v8, v9, v10, v11, v12, v13, v14, v15, v16, v17, v18, v19, v20, v21, v22, v23, v24, v25, v26, v27, v28, v29, v30, v31, v32, .ref a1, .int 18, v33, v34, v35, v36])), (a1, .inl (cT 0, 4096, .inl (upd (upd (upd (upd (upd (upd (upd (upd (upd (upd (upd (upd (upd (upd (upd (upd (upd (upd f37 0 (vp_nar .byte y2)) 1 (vp_nar .byte y4)) 2 (vp_nar .byte y6)) 3 (vp_nar .byte y8)) 4 (vp_nar .byte y10)) 5 (vp_nar .byte y12)) 6 (vp_nar .byte y14)) 7 (vp_nar .byte y16)) 8 (vp_nar .byte y18)) 9 (vp_nar .byte y20)) 10 (vp_nar .byte y22)) 11 (vp_nar .byte y24)) 12 (vp_nar .byte y26)) 13 (vp_nar .byte y28)) 14 (vp_nar .byte y30)) 15 (vp_nar .byte y32)) 16 (vp_nar .byte y34)) 17 (vp_nar .byte y36))))] H := ⟨hP, hD⟩
  refine lv_iinc (v := 18) (lv' := [(6, .int 18), (7, .int x6), (0, .ref a0), (1, .int x2), (2, .int x3), (3, .int x4), (4, .int x5), (5, .int x6)]) hx hb dM_feed_115 hl (k := 1) rfl (by decide) (by decide) rfl (fun ls hl => ?_)
  refine lv_goto (tgt := 27) hx hb dM_feed_118 (by decide) ?_
  refine lv_iload hx hb dM_feed_27 (lv_at hl 0 rfl) ?_
  refine lv_bipush (v := 20) hx hb dM_feed_29 (by decide) ?_
  refine lv_icmp_ge (tgt := 121) hx hb dM_feed_31 (by decide) (fun h => ((by revert h; decide : False)).elim) (fun _ => ?_)
  refine lv_iload hx hb dM_feed_34 (lv_at hl 0 rfl) ?_
  refine lv_iconst (v := 4) hx hb dM_feed_36 (by decide) ?_
  refine lv_icmp_ge (tgt := 44) hx hb dM_feed_37 (by decide) (fun _ => ?_) (fun h => ((by revert h; decide : False)).elim)
  refine lv_iload hx hb dM_feed_44 (lv_at hl 0 rfl) ?_
  refine lv_bipush (v := 8) hx hb dM_feed_46 (by decide) ?_
  refine lv_icmp_ge (tgt := 55) hx hb dM_feed_48 (by decide) (fun _ => ?_) (fun h => ((by revert h; decide : False)).elim)
  refine lv_iload hx hb dM_feed_55 (lv_at hl 0 rfl) ?_
  refine lv_bipush (v := 12) hx hb dM_feed_57 (by decide) ?_
  refine lv_icmp_ge (tgt := 66) hx hb dM_feed_59 (by decide) (fun _ => ?_) (fun h => ((by revert h; decide : False)).elim)
  refine lv_iload hx hb dM_feed_66 (lv_at hl 0 rfl) ?_
  refine lv_bipush (v := 16) hx hb dM_feed_68 (by decide) ?_
  refine lv_icmp_ge (tgt := 78) hx hb dM_feed_70 (by decide) (fun _ => ?_) (fun h => ((by revert h; decide : False)).elim)
  refine lv_iload hx hb dM_feed_78 (lv_at hl 7 rfl) ?_
  refine lv_istore (lv' := [(7, .int x6), (6, .int 18), (0, .ref a0), (1, .int x2), (2, .int x3), (3, .int x4), (4, .int x5), (5, .int x6)]) hx hb dM_feed_80 hl (by decide) rfl (fun ls hl => ?_)
  refine lv_aload_n hx hb dM_feed_82 rfl (lv_at hl 2 rfl) ?_
  refine va_get (D := D) (ci := 5) (v := .ref a1) (C := "ValueBenchModel") (T := TM) (N := 32) hx hb htx inM hown hK hP 0 rfl rfl 26 (by decide) (htx _ kw_5_113) (fun _ h9 => h9) rfl dM_feed_83 ?_
  refine lv_aload_n hx hb dM_feed_86 rfl (lv_at hl 2 rfl) ?_
  refine va_get (D := D) (ci := 5) (v := .int 18) (C := "ValueBenchModel") (T := TM) (N := 32) hx hb htx inM hown hK hP 0 rfl rfl 27 (by decide) (htx _ kw_5_114) (fun _ h9 => h9) rfl dM_feed_87 ?_
  refine lv_iload hx hb dM_feed_90 (lv_at hl 0 rfl) ?_
  refine lv_bipush (v := 24) hx hb dM_feed_92 (by decide) ?_
  refine lv_bipush (v := 8) hx hb dM_feed_94 (by decide) ?_
  refine lv_iload hx hb dM_feed_96 (lv_at hl 1 rfl) ?_
  refine lv_iconst (v := 4) hx hb dM_feed_98 (by decide) ?_
  refine lv_irem hx hb dM_feed_99 (by decide) ?_
  refine W.eq (g2 := F0 m 100 ls [.int 2, .int 8, .int 24, .int x6, .int 18, .ref a1]) rfl ?_
  refine lv_imul hx hb dM_feed_100 ?_
  refine W.eq (g2 := F0 m 101 ls [.int 16, .int 24, .int x6, .int 18, .ref a1]) rfl ?_
  refine lv_isub hx hb dM_feed_101 ?_
  refine W.eq (g2 := F0 m 102 ls [.int 8, .int x6, .int 18, .ref a1]) rfl ?_
  refine lv_ishr hx hb dM_feed_102 ?_
  refine lv_topi (fun y37 ey37 => ?_)
  refine lv_i2b hx hb dM_feed_103 rfl ?_
  refine lv_topi (fun y38 ey38 => ?_)
  refine va_bast hx hb hK hP hD hS 1 0 rfl rfl (show ¬ ((18 : Int32) < 0 ∨ 4096 ≤ (18 : Int32).toNatClampNeg) by decide) dM_feed_104 (fun H locs hP hD hS => ?_)
  obtain ⟨hP, hD⟩ : xPD D xcl A [(a0, .inr (5, [.int 0, v8, v9, v10, v11, v12, v13, v14, v15, v16, v17, v18, v19, v20, v21, v22, v23, v24, v25, v26, v27, v28, v29, v30, v31, v32, .ref a1, .int 18, v33, v34, v35, v36])), (a1, .inl (cT 0, 4096, .inl (upd (upd (upd (upd (upd (upd (upd (upd (upd (upd (upd (upd (upd (upd (upd (upd (upd (upd (upd f37 0 (vp_nar .byte y2)) 1 (vp_nar .byte y4)) 2 (vp_nar .byte y6)) 3 (vp_nar .byte y8)) 4 (vp_nar .byte y10)) 5 (vp_nar .byte y12)) 6 (vp_nar .byte y14)) 7 (vp_nar .byte y16)) 8 (vp_nar .byte y18)) 9 (vp_nar .byte y20)) 10 (vp_nar .byte y22)) 11 (vp_nar .byte y24)) 12 (vp_nar .byte y26)) 13 (vp_nar .byte y28)) 14 (vp_nar .byte y30)) 15 (vp_nar .byte y32)) 16 (vp_nar .byte y34)) 17 (vp_nar .byte y36)) 18 (vp_nar .byte y38))))] H := ⟨hP, hD⟩
  refine lv_aload_n hx hb dM_feed_105 rfl (lv_at hl 2 rfl) ?_
  refine lv_dup hx hb dM_feed_106 rfl ?_
  refine va_get (D := D) (ci := 5) (v := .int 18) (C := "ValueBenchModel") (T := TM) (N := 32) hx hb htx inM hown hK hP 0 rfl rfl 27 (by decide) (htx _ kw_5_114) (fun _ h9 => h9) rfl dM_feed_107 ?_
  refine lv_iconst (v := 1) hx hb dM_feed_110 (by decide) ?_
  refine lv_iadd hx hb dM_feed_111 ?_
  refine W.eq (g2 := F0 m 112 ls [.int 19, .ref a0]) rfl ?_
  refine va_put (D := D) (ci := 5) (v := .int 19) (ty := .int) (C := "ValueBenchModel") (T := TM) (N := 32) hx hb htx inM tyM tyM_ok nmM hown hK hP hD hS 0 rfl rfl 27 (by decide) (htx _ kw_5_114) (fun _ h9 => h9) rfl (by decide +kernel) rfl rfl (Nat.le_of_ble_eq_true rfl) dM_feed_112 (fun H locs hP hD hS => ?_)
  obtain ⟨hP, hD⟩ : xPD D xcl A [(a0, .inr (5, [.int 0, v8, v9, v10, v11, v12, v13, v14, v15, v16, v17, v18, v19, v20, v21, v22, v23, v24, v25, v26, v27, v28, v29, v30, v31, v32, .ref a1, .int 19, v33, v34, v35, v36])), (a1, .inl (cT 0, 4096, .inl (upd (upd (upd (upd (upd (upd (upd (upd (upd (upd (upd (upd (upd (upd (upd (upd (upd (upd (upd f37 0 (vp_nar .byte y2)) 1 (vp_nar .byte y4)) 2 (vp_nar .byte y6)) 3 (vp_nar .byte y8)) 4 (vp_nar .byte y10)) 5 (vp_nar .byte y12)) 6 (vp_nar .byte y14)) 7 (vp_nar .byte y16)) 8 (vp_nar .byte y18)) 9 (vp_nar .byte y20)) 10 (vp_nar .byte y22)) 11 (vp_nar .byte y24)) 12 (vp_nar .byte y26)) 13 (vp_nar .byte y28)) 14 (vp_nar .byte y30)) 15 (vp_nar .byte y32)) 16 (vp_nar .byte y34)) 17 (vp_nar .byte y36)) 18 (vp_nar .byte y38))))] H := ⟨hP, hD⟩
  refine lv_iinc (v := 19) (lv' := [(6, .int 19), (7, .int x6), (0, .ref a0), (1, .int x2), (2, .int x3), (3, .int x4), (4, .int x5), (5, .int x6)]) hx hb dM_feed_115 hl (k := 1) rfl (by decide) (by decide) rfl (fun ls hl => ?_)
  refine lv_goto (tgt := 27) hx hb dM_feed_118 (by decide) ?_
  refine lv_iload hx hb dM_feed_27 (lv_at hl 0 rfl) ?_
  refine lv_bipush (v := 20) hx hb dM_feed_29 (by decide) ?_
  refine lv_icmp_ge (tgt := 121) hx hb dM_feed_31 (by decide) (fun h => ((by revert h; decide : False)).elim) (fun _ => ?_)
  refine lv_iload hx hb dM_feed_34 (lv_at hl 0 rfl) ?_
  refine lv_iconst (v := 4) hx hb dM_feed_36 (by decide) ?_
  refine lv_icmp_ge (tgt := 44) hx hb dM_feed_37 (by decide) (fun _ => ?_) (fun h => ((by revert h; decide : False)).elim)
  refine lv_iload hx hb dM_feed_44 (lv_at hl 0 rfl) ?_
  refine lv_bipush (v := 8) hx hb dM_feed_46 (by decide) ?_
  refine lv_icmp_ge (tgt := 55) hx hb dM_feed_48 (by decide) (fun _ => ?_) (fun h => ((by revert h; decide : False)).elim)
  refine lv_iload hx hb dM_feed_55 (lv_at hl 0 rfl) ?_
  refine lv_bipush (v := 12) hx hb dM_feed_57 (by decide) ?_
  refine lv_icmp_ge (tgt := 66) hx hb dM_feed_59 (by decide) (fun _ => ?_) (fun h => ((by revert h; decide : False)).elim)
  refine lv_iload hx hb dM_feed_66 (lv_at hl 0 rfl) ?_
  refine lv_bipush (v := 16) hx hb dM_feed_68 (by decide) ?_
  refine lv_icmp_ge (tgt := 78) hx hb dM_feed_70 (by decide) (fun _ => ?_) (fun h => ((by revert h; decide : False)).elim)
  refine lv_iload hx hb dM_feed_78 (lv_at hl 7 rfl) ?_
  refine lv_istore (lv' := [(7, .int x6), (6, .int 19), (0, .ref a0), (1, .int x2), (2, .int x3), (3, .int x4), (4, .int x5), (5, .int x6)]) hx hb dM_feed_80 hl (by decide) rfl (fun ls hl => ?_)
  refine lv_aload_n hx hb dM_feed_82 rfl (lv_at hl 2 rfl) ?_
  refine va_get (D := D) (ci := 5) (v := .ref a1) (C := "ValueBenchModel") (T := TM) (N := 32) hx hb htx inM hown hK hP 0 rfl rfl 26 (by decide) (htx _ kw_5_113) (fun _ h9 => h9) rfl dM_feed_83 ?_
  refine lv_aload_n hx hb dM_feed_86 rfl (lv_at hl 2 rfl) ?_
  refine va_get (D := D) (ci := 5) (v := .int 19) (C := "ValueBenchModel") (T := TM) (N := 32) hx hb htx inM hown hK hP 0 rfl rfl 27 (by decide) (htx _ kw_5_114) (fun _ h9 => h9) rfl dM_feed_87 ?_
  refine lv_iload hx hb dM_feed_90 (lv_at hl 0 rfl) ?_
  refine lv_bipush (v := 24) hx hb dM_feed_92 (by decide) ?_
  refine lv_bipush (v := 8) hx hb dM_feed_94 (by decide) ?_
  refine lv_iload hx hb dM_feed_96 (lv_at hl 1 rfl) ?_
  refine lv_iconst (v := 4) hx hb dM_feed_98 (by decide) ?_
  refine lv_irem hx hb dM_feed_99 (by decide) ?_
  refine W.eq (g2 := F0 m 100 ls [.int 3, .int 8, .int 24, .int x6, .int 19, .ref a1]) rfl ?_
  refine lv_imul hx hb dM_feed_100 ?_
  refine W.eq (g2 := F0 m 101 ls [.int 24, .int 24, .int x6, .int 19, .ref a1]) rfl ?_
  refine lv_isub hx hb dM_feed_101 ?_
  refine W.eq (g2 := F0 m 102 ls [.int 0, .int x6, .int 19, .ref a1]) rfl ?_
  refine lv_ishr hx hb dM_feed_102 ?_
  refine lv_topi (fun y39 ey39 => ?_)
  refine lv_i2b hx hb dM_feed_103 rfl ?_
  refine lv_topi (fun y40 ey40 => ?_)
  refine va_bast hx hb hK hP hD hS 1 0 rfl rfl (show ¬ ((19 : Int32) < 0 ∨ 4096 ≤ (19 : Int32).toNatClampNeg) by decide) dM_feed_104 (fun H locs hP hD hS => ?_)
  obtain ⟨hP, hD⟩ : xPD D xcl A [(a0, .inr (5, [.int 0, v8, v9, v10, v11, v12, v13, v14, v15, v16, v17, v18, v19, v20, v21, v22, v23, v24, v25, v26, v27, v28, v29, v30, v31, v32, .ref a1, .int 19, v33, v34, v35, v36])), (a1, .inl (cT 0, 4096, .inl (upd (upd (upd (upd (upd (upd (upd (upd (upd (upd (upd (upd (upd (upd (upd (upd (upd (upd (upd (upd f37 0 (vp_nar .byte y2)) 1 (vp_nar .byte y4)) 2 (vp_nar .byte y6)) 3 (vp_nar .byte y8)) 4 (vp_nar .byte y10)) 5 (vp_nar .byte y12)) 6 (vp_nar .byte y14)) 7 (vp_nar .byte y16)) 8 (vp_nar .byte y18)) 9 (vp_nar .byte y20)) 10 (vp_nar .byte y22)) 11 (vp_nar .byte y24)) 12 (vp_nar .byte y26)) 13 (vp_nar .byte y28)) 14 (vp_nar .byte y30)) 15 (vp_nar .byte y32)) 16 (vp_nar .byte y34)) 17 (vp_nar .byte y36)) 18 (vp_nar .byte y38)) 19 (vp_nar .byte y40))))] H := ⟨hP, hD⟩
  refine lv_aload_n hx hb dM_feed_105 rfl (lv_at hl 2 rfl) ?_
  refine lv_dup hx hb dM_feed_106 rfl ?_
  refine va_get (D := D) (ci := 5) (v := .int 19) (C := "ValueBenchModel") (T := TM) (N := 32) hx hb htx inM hown hK hP 0 rfl rfl 27 (by decide) (htx _ kw_5_114) (fun _ h9 => h9) rfl dM_feed_107 ?_
  refine lv_iconst (v := 1) hx hb dM_feed_110 (by decide) ?_
  refine lv_iadd hx hb dM_feed_111 ?_
  refine W.eq (g2 := F0 m 112 ls [.int 20, .ref a0]) rfl ?_
  refine va_put (D := D) (ci := 5) (v := .int 20) (ty := .int) (C := "ValueBenchModel") (T := TM) (N := 32) hx hb htx inM tyM tyM_ok nmM hown hK hP hD hS 0 rfl rfl 27 (by decide) (htx _ kw_5_114) (fun _ h9 => h9) rfl (by decide +kernel) rfl rfl (Nat.le_of_ble_eq_true rfl) dM_feed_112 (fun H locs hP hD hS => ?_)
  obtain ⟨hP, hD⟩ : xPD D xcl A [(a0, .inr (5, [.int 0, v8, v9, v10, v11, v12, v13, v14, v15, v16, v17, v18, v19, v20, v21, v22, v23, v24, v25, v26, v27, v28, v29, v30, v31, v32, .ref a1, .int 20, v33, v34, v35, v36])), (a1, .inl (cT 0, 4096, .inl (upd (upd (upd (upd (upd (upd (upd (upd (upd (upd (upd (upd (upd (upd (upd (upd (upd (upd (upd (upd f37 0 (vp_nar .byte y2)) 1 (vp_nar .byte y4)) 2 (vp_nar .byte y6)) 3 (vp_nar .byte y8)) 4 (vp_nar .byte y10)) 5 (vp_nar .byte y12)) 6 (vp_nar .byte y14)) 7 (vp_nar .byte y16)) 8 (vp_nar .byte y18)) 9 (vp_nar .byte y20)) 10 (vp_nar .byte y22)) 11 (vp_nar .byte y24)) 12 (vp_nar .byte y26)) 13 (vp_nar .byte y28)) 14 (vp_nar .byte y30)) 15 (vp_nar .byte y32)) 16 (vp_nar .byte y34)) 17 (vp_nar .byte y36)) 18 (vp_nar .byte y38)) 19 (vp_nar .byte y40))))] H := ⟨hP, hD⟩
  refine lv_iinc (v := 20) (lv' := [(6, .int 20), (7, .int x6), (0, .ref a0), (1, .int x2), (2, .int x3), (3, .int x4), (4, .int x5), (5, .int x6)]) hx hb dM_feed_115 hl (k := 1) rfl (by decide) (by decide) rfl (fun ls hl => ?_)
  refine lv_goto (tgt := 27) hx hb dM_feed_118 (by decide) ?_
  refine lv_iload hx hb dM_feed_27 (lv_at hl 0 rfl) ?_
  refine lv_bipush (v := 20) hx hb dM_feed_29 (by decide) ?_
  refine lv_icmp_ge (tgt := 121) hx hb dM_feed_31 (by decide) (fun _ => ?_) (fun h => ((by revert h; decide : False)).elim)
  refine lv_aload_n hx hb dM_feed_121 rfl (lv_at hl 2 rfl) ?_
  refine va_get (D := D) (ci := 5) (v := .int 20) (C := "ValueBenchModel") (T := TM) (N := 32) hx hb htx inM hown hK hP 0 rfl rfl 27 (by decide) (htx _ kw_5_114) (fun _ h9 => h9) rfl dM_feed_122 ?_
  obtain ⟨hP9, hD9⟩ := xsub (wc := [(a0, .inr (5, [.int 0, v8, v9, v10, v11, v12, v13, v14, v15, v16, v17, v18, v19, v20, v21, v22, v23, v24, v25, v26, v27, v28, v29, v30, v31, v32, .ref a1, .int 20, v33, v34, v35, v36])), (a1, .inl (cT 0, 4096, .inl (upd (upd (upd (upd (upd (upd (upd (upd (upd (upd (upd (upd (upd (upd (upd (upd (upd (upd (upd (upd f37 0 (vp_nar .byte y2)) 1 (vp_nar .byte y4)) 2 (vp_nar .byte y6)) 3 (vp_nar .byte y8)) 4 (vp_nar .byte y10)) 5 (vp_nar .byte y12)) 6 (vp_nar .byte y14)) 7 (vp_nar .byte y16)) 8 (vp_nar .byte y18)) 9 (vp_nar .byte y20)) 10 (vp_nar .byte y22)) 11 (vp_nar .byte y24)) 12 (vp_nar .byte y26)) 13 (vp_nar .byte y28)) 14 (vp_nar .byte y30)) 15 (vp_nar .byte y32)) 16 (vp_nar .byte y34)) 17 (vp_nar .byte y36)) 18 (vp_nar .byte y38)) 19 (vp_nar .byte y40))))]) hP hD [0, 1] rfl rfl (by decide)
  refine W.widen (k := 0) (n := 0) (Nat.le_of_ble_eq_true rfl) (Nat.le_of_ble_eq_true rfl) ?_
  exact W.iret (v := 20) hx hb hr (fun t ht hW => ⟨⟨20, (), rfl, rfl, y2, y4, y6, y8, y10, y12, y14, y16, y18, y20, y22, y24, y26, y28, y30, y32, y34, y36, y38, y40, by rw [ht]; exact hP9, va_K.moved hW.alike hK, hD9⟩, hS.F ht⟩) hS.2.2 dM_feed_125
set_option maxHeartbeats 4000000 in
set_option maxRecDepth 100000 in
theorem cM_end_0 (l : Launch) (hl9 : l.stackTraces = false) (D : va_G) (cT : Nat → ClassId) (aK aV : Nat → Nat) (sz : Nat) (a0 : Nat) (v1 : Value) (v2 : Value) (v3 : Value) (v4 : Value) (v5 : Value) (v6 : Value) (v7 : Value) (v8 : Value) (v9 : Value) (v10 : Value) (v11 : Value) (v12 : Value) (v13 : Value) (v14 : Value) (v15 : Value) (v16 : Value) (v17 : Value) (v18 : Value) (v19 : Value) (v20 : Value) (v21 : Value) (v22 : Value) (v23 : Value) (v24 : Value) (v25 : Value) (v26 : Value) (v27 : Value) (v28 : Value) (v29 : Value) (v30 : Value) (v31 : Value) : xMet l yM_end wyM_end 0 0 0 0 D cT aK aV sz [.ref a0, .int 0] [(a0, .inr (5, [v1, v2, v3, v4, v5, v6, v7, v8, v9, v10, v11, v12, v13, v14, v15, v16, v17, v18, v19, v20, v21, v22, v23, v24, v25, v26, v27, .int 0, v28, v29, v30, v31]))] (fun A => va_Qi (fun (r : Int32) (_ : Unit) => r = 0) (fun _ t => xB D xcl cT A [(a0, .inr (5, [.int 0, v2, v3, v4, v5, v6, v7, v8, v9, v10, v11, v12, v13, v14, v15, v16, v17, v18, v19, v20, v21, v22, v23, v24, v25, v26, v27, .int 0, v28, v29, v30, v31]))] t) A) := by
  refine Met.ofW (cc := prog_13_method_83_code) (maxL := 2) (ret := (some .int)) (by decide) rfl ?_
  intro p e s m args below meth c s₁ B hml hv
  obtain ⟨rfl, hsz, hZ, hP, hK, hD0⟩ := hv
  have hx := B.exec
  have hb := B.bytes
  have hr := B.returns
  have hts := atoms_spec (ws := wyM_end) B.pre
  have htx := fun w h => hts w (List.mem_cons_of_mem _ h)
  have hown : s.vm.findClass "ValueBenchModel" = some m.cls := findClass_of_methodNamed B.named
  have hlocks := B.notSynchronized
  subst hsz
  have hD := hD0.self (sz := s.heap.size)
  generalize hAe : va_A [(a0, .inr (5, [v1, v2, v3, v4, v5, v6, v7, v8, v9, v10, v11, v12, v13, v14, v15, v16, v17, v18, v19, v20, v21, v22, v23, v24, v25, v26, v27, .int 0, v28, v29, v30, v31]))] s.heap.size = A at hD hZ ⊢
  have hA : ∀ q : Nat, s.heap.size ≤ q → A q := fun q h => by rw [← hAe]; exact Or.inr h
  have hS : va_S A s.heap s.heap [] := va_S.rf
  have hP : va_P D xcl [(a0, .inr (5, [v1, v2, v3, v4, v5, v6, v7, v8, v9, v10, v11, v12, v13, v14, v15, v16, v17, v18, v19, v20, v21, v22, v23, v24, v25, v26, v27, .int 0, v28, v29, v30, v31]))] s.heap := hP
  have hl := lv_entry ([.ref a0, .int 0]) (n := 2) (Nat.le_of_ble_eq_true rfl)
  rw [lg_entry_eq]
  generalize (lg_sl ([.ref a0, .int 0]) ++ List.replicate (2 - (lg_sl ([.ref a0, .int 0])).length) Slot.unset).toArray = ls at hl ⊢
  have hl : lv_has ls 2 [(0, .ref a0), (1, .int 0)] := hl
  refine lv_aload_n hx hb dM_end_0 rfl (lv_at hl 0 rfl) ?_
  refine lv_iconst (v := 0) hx hb dM_end_1 (by decide) ?_
  refine va_put (D := D) (ci := 5) (v := .int 0) (ty := .int) (C := "ValueBenchModel") (T := TM) (N := 32) hx hb htx inM tyM tyM_ok nmM hown hK hP hD hS 0 rfl rfl 0 (by decide) (htx _ kw_5_87) (fun _ h9 => h9) rfl (by decide +kernel) rfl rfl (Nat.le_of_ble_eq_true rfl) dM_end_2 (fun H locs hP hD hS => ?_)
  obtain ⟨hP, hD⟩ : xPD D xcl A [(a0, .inr (5, [.int 0, v2, v3, v4, v5, v6, v7, v8, v9, v10, v11, v12, v13, v14, v15, v16, v17, v18, v19, v20, v21, v22, v23, v24, v25, v26, v27, .int 0, v28, v29, v30, v31]))] H := ⟨hP, hD⟩
  refine lv_iload_n hx hb dM_end_5 rfl (lv_at hl 1 rfl) ?_
  refine lv_if_lt (tgt := 17) hx hb dM_end_6 (by decide) (fun h => ((by revert h; decide : False)).elim) (fun _ => ?_)
  refine lv_iload_n hx hb dM_end_9 rfl (lv_at hl 1 rfl) ?_
  refine lv_aload_n hx hb dM_end_10 rfl (lv_at hl 0 rfl) ?_
  refine va_get (D := D) (ci := 5) (v := .int 0) (C := "ValueBenchModel") (T := TM) (N := 32) hx hb htx inM hown hK hP 0 rfl rfl 27 (by decide) (htx _ kw_5_114) (fun _ h9 => h9) rfl dM_end_11 ?_
  refine lv_icmp_le (tgt := 23) hx hb dM_end_14 (by decide) (fun _ => ?_) (fun h => ((by revert h; decide : False)).elim)
  refine lv_aload_n hx hb dM_end_23 rfl (lv_at hl 0 rfl) ?_
  refine lv_iload_n hx hb dM_end_24 rfl (lv_at hl 1 rfl) ?_
  refine va_put (D := D) (ci := 5) (v := .int 0) (ty := .int) (C := "ValueBenchModel") (T := TM) (N := 32) hx hb htx inM tyM tyM_ok nmM hown hK hP hD hS 0 rfl rfl 27 (by decide) (htx _ kw_5_114) (fun _ h9 => h9) rfl (by decide +kernel) rfl rfl (Nat.le_of_ble_eq_true rfl) dM_end_25 (fun H locs hP hD hS => ?_)
  obtain ⟨hP, hD⟩ : xPD D xcl A [(a0, .inr (5, [.int 0, v2, v3, v4, v5, v6, v7, v8, v9, v10, v11, v12, v13, v14, v15, v16, v17, v18, v19, v20, v21, v22, v23, v24, v25, v26, v27, .int 0, v28, v29, v30, v31]))] H := ⟨hP, hD⟩
  refine lv_iload_n hx hb dM_end_28 rfl (lv_at hl 1 rfl) ?_
  obtain ⟨hP9, hD9⟩ := xsub (wc := [(a0, .inr (5, [.int 0, v2, v3, v4, v5, v6, v7, v8, v9, v10, v11, v12, v13, v14, v15, v16, v17, v18, v19, v20, v21, v22, v23, v24, v25, v26, v27, .int 0, v28, v29, v30, v31]))]) hP hD [0] rfl rfl (by decide)
  refine W.widen (k := 0) (n := 0) (Nat.le_of_ble_eq_true rfl) (Nat.le_of_ble_eq_true rfl) ?_
  exact W.iret (v := 0) hx hb hr (fun t ht hW => ⟨⟨0, (), rfl, rfl, by rw [ht]; exact hP9, va_K.moved hW.alike hK, hD9⟩, hS.F ht⟩) hS.2.2 dM_end_29
set_option maxHeartbeats 4000000 in
set_option maxRecDepth 100000 in
theorem cM_fail_0 (l : Launch) (hl9 : l.stackTraces = false) (D : va_G) (cT : Nat → ClassId) (aK aV : Nat → Nat) (sz : Nat) (a0 : Nat) (v1 : Value) (v2 : Value) (v3 : Value) (v4 : Value) (v5 : Value) (v6 : Value) (v7 : Value) (v8 : Value) (v9 : Value) (v10 : Value) (v11 : Value) (v12 : Value) (v13 : Value) (v14 : Value) (v15 : Value) (v16 : Value) (v17 : Value) (v18 : Value) (v19 : Value) (v20 : Value) (v21 : Value) (v22 : Value) (v23 : Value) (v24 : Value) (v25 : Value) (v26 : Value) (v27 : Value) (v28 : Value) (v29 : Value) (v30 : Value) (v31 : Value) (v32 : Value) : xMet l yM_fail wyM_fail 0 0 0 0 D cT aK aV sz [.ref a0, .int 1] [(a0, .inr (5, [v1, v2, v3, v4, v5, v6, v7, v8, v9, v10, v11, v12, v13, v14, v15, v16, v17, v18, v19, v20, v21, v22, v23, v24, v25, v26, v27, v28, v29, v30, v31, v32]))] (fun A => va_Qi (fun (r : Int32) (_ : Unit) => r = 0) (fun _ t => xB D xcl cT A [(a0, .inr (5, [.int 1, v2, v3, v4, v5, v6, v7, v8, v9, v10, v11, v12, v13, v14, v15, v16, v17, v18, v19, v20, v21, v22, v23, v24, v25, v26, v27, v28, v29, v30, v31, v32]))] t) A) := by
  refine Met.ofW (cc := prog_13_method_3_code) (maxL := 2) (ret := (some .int)) (by decide) rfl ?_
  intro p e s m args below meth c s₁ B hml hv
  obtain ⟨rfl, hsz, hZ, hP, hK, hD0⟩ := hv
  have hx := B.exec
  have hb := B.bytes
  have hr := B.returns
  have hts := atoms_spec (ws := wyM_fail) B.pre
  have htx := fun w h => hts w (List.mem_cons_of_mem _ h)
  have hown : s.vm.findClass "ValueBenchModel" = some m.cls := findClass_of_methodNamed B.named
  have hlocks := B.notSynchronized
  subst hsz
  have hD := hD0.self (sz := s.heap.size)
  generalize hAe : va_A [(a0, .inr (5, [v1, v2, v3, v4, v5, v6, v7, v8, v9, v10, v11, v12, v13, v14, v15, v16, v17, v18, v19, v20, v21, v22, v23, v24, v25, v26, v27, v28, v29, v30, v31, v32]))] s.heap.size = A at hD hZ ⊢
  have hA : ∀ q : Nat, s.heap.size ≤ q → A q := fun q h => by rw [← hAe]; exact Or.inr h
  have hS : va_S A s.heap s.heap [] := va_S.rf
  have hP : va_P D xcl [(a0, .inr (5, [v1, v2, v3, v4, v5, v6, v7, v8, v9, v10, v11, v12, v13, v14, v15, v16, v17, v18, v19, v20, v21, v22, v23, v24, v25, v26, v27, v28, v29, v30, v31, v32]))] s.heap := hP
  have hl := lv_entry ([.ref a0, .int 1]) (n := 2) (Nat.le_of_ble_eq_true rfl)
  rw [lg_entry_eq]
  generalize (lg_sl ([.ref a0, .int 1]) ++ List.replicate (2 - (lg_sl ([.ref a0, .int 1])).length) Slot.unset).toArray = ls at hl ⊢
  have hl : lv_has ls 2 [(0, .ref a0), (1, .int 1)] := hl
  refine lv_aload_n hx hb dM_fail_0 rfl (lv_at hl 0 rfl) ?_
  refine lv_iload_n hx hb dM_fail_1 rfl (lv_at hl 1 rfl) ?_
  refine va_put (D := D) (ci := 5) (v := .int 1) (ty := .int) (C := "ValueBenchModel") (T := TM) (N := 32) hx hb htx inM tyM tyM_ok nmM hown hK hP hD hS 0 rfl rfl 0 (by decide) (htx _ kw_5_87) (fun _ h9 => h9) rfl (by decide +kernel) rfl rfl (Nat.le_of_ble_eq_true rfl) dM_fail_2 (fun H locs hP hD hS => ?_)
  obtain ⟨hP, hD⟩ : xPD D xcl A [(a0, .inr (5, [.int 1, v2, v3, v4, v5, v6, v7, v8, v9, v10, v11, v12, v13, v14, v15, v16, v17, v18, v19, v20, v21, v22, v23, v24, v25, v26, v27, v28, v29, v30, v31, v32]))] H := ⟨hP, hD⟩
  refine lv_iconst (v := 0) hx hb dM_fail_5 (by decide) ?_
  obtain ⟨hP9, hD9⟩ := xsub (wc := [(a0, .inr (5, [.int 1, v2, v3, v4, v5, v6, v7, v8, v9, v10, v11, v12, v13, v14, v15, v16, v17, v18, v19, v20, v21, v22, v23, v24, v25, v26, v27, v28, v29, v30, v31, v32]))]) hP hD [0] rfl rfl (by decide)
  refine W.widen (k := 0) (n := 0) (Nat.le_of_ble_eq_true rfl) (Nat.le_of_ble_eq_true rfl) ?_
  exact W.iret (v := 0) hx hb hr (fun t ht hW => ⟨⟨0, (), rfl, rfl, by rw [ht]; exact hP9, va_K.moved hW.alike hK, hD9⟩, hS.F ht⟩) hS.2.2 dM_fail_6
set_option maxHeartbeats 4000000 in
set_option maxRecDepth 100000 in
theorem cM_end_1 (l : Launch) (hl9 : l.stackTraces = false) (D : va_G) (cT : Nat → ClassId) (aK aV : Nat → Nat) (sz : Nat) (a0 : Nat) (x1 : Int32) (v3 : Value) (v4 : Value) (v5 : Value) (v6 : Value) (v7 : Value) (v8 : Value) (v9 : Value) (v10 : Value) (v11 : Value) (v12 : Value) (v13 : Value) (v14 : Value) (v15 : Value) (v16 : Value) (v17 : Value) (v18 : Value) (v19 : Value) (v20 : Value) (v21 : Value) (v22 : Value) (v23 : Value) (v24 : Value) (v25 : Value) (v26 : Value) (v27 : Value) (v28 : Value) (v29 : Value) (v30 : Value) (v31 : Value) (v32 : Value) (v33 : Value) (v34 : Value) (h2 : x1 < 0) : xMet l yM_end wyM_end 1 0 0 21 D cT aK aV sz [.ref a0, .int x1] [(a0, .inr (5, [v3, v4, v5, v6, v7, v8, v9, v10, v11, v12, v13, v14, v15, v16, v17, v18, v19, v20, v21, v22, v23, v24, v25, v26, v27, v28, v29, v30, v31, v32, v33, v34]))] (fun A => va_Qi (fun (r : Int32) (_ : Unit) => r = 0) (fun _ t => xB D xcl cT A [(a0, .inr (5, [.int 1, v4, v5, v6, v7, v8, v9, v10, v11, v12, v13, v14, v15, v16, v17, v18, v19, v20, v21, v22, v23, v24, v25, v26, v27, v28, v29, v30, v31, v32, v33, v34]))] t) A) := by
  refine Met.ofW (cc := prog_13_method_83_code) (maxL := 2) (ret := (some .int)) (by decide) rfl ?_
  intro p e s m args below meth c s₁ B hml hv
  obtain ⟨rfl, hsz, hZ, hP, hK, hD0⟩ := hv
  have hx := B.exec
  have hb := B.bytes
  have hr := B.returns
  have hts := atoms_spec (ws := wyM_end) B.pre
  have htx := fun w h => hts w (List.mem_cons_of_mem _ h)
  have hown : s.vm.findClass "ValueBenchModel" = some m.cls := findClass_of_methodNamed B.named
  have hlocks := B.notSynchronized
  subst hsz
  have hD := hD0.self (sz := s.heap.size)
  generalize hAe : va_A [(a0, .inr (5, [v3, v4, v5, v6, v7, v8, v9, v10, v11, v12, v13, v14, v15, v16, v17, v18, v19, v20, v21, v22, v23, v24, v25, v26, v27, v28, v29, v30, v31, v32, v33, v34]))] s.heap.size = A at hD hZ ⊢
  have hA : ∀ q : Nat, s.heap.size ≤ q → A q := fun q h => by rw [← hAe]; exact Or.inr h
  have hS : va_S A s.heap s.heap [] := va_S.rf
  have hP : va_P D xcl [(a0, .inr (5, [v3, v4, v5, v6, v7, v8, v9, v10, v11, v12, v13, v14, v15, v16, v17, v18, v19, v20, v21, v22, v23, v24, v25, v26, v27, v28, v29, v30, v31, v32, v33, v34]))] s.heap := hP
  have hl := lv_entry ([.ref a0, .int x1]) (n := 2) (Nat.le_of_ble_eq_true rfl)
  rw [lg_entry_eq]
  generalize (lg_sl ([.ref a0, .int x1]) ++ List.replicate (2 - (lg_sl ([.ref a0, .int x1])).length) Slot.unset).toArray = ls at hl ⊢
  have hl : lv_has ls 2 [(0, .ref a0), (1, .int x1)] := hl
  refine lv_aload_n hx hb dM_end_0 rfl (lv_at hl 0 rfl) ?_
  refine lv_iconst (v := 0) hx hb dM_end_1 (by decide) ?_
  refine va_put (D := D) (ci := 5) (v := .int 0) (ty := .int) (C := "ValueBenchModel") (T := TM) (N := 32) hx hb htx inM tyM tyM_ok nmM hown hK hP hD hS 0 rfl rfl 0 (by decide) (htx _ kw_5_87) (fun _ h9 => h9) rfl (by decide +kernel) rfl rfl (Nat.le_of_ble_eq_true rfl) dM_end_2 (fun H locs hP hD hS => ?_)
  obtain ⟨hP, hD⟩ : xPD D xcl A [(a0, .inr (5, [.int 0, v4, v5, v6, v7, v8, v9, v10, v11, v12, v13, v14, v15, v16, v17, v18, v19, v20, v21, v22, v23, v24, v25, v26, v27, v28, v29, v30, v31, v32, v33, v34]))] H := ⟨hP, hD⟩
  refine lv_iload_n hx hb dM_end_5 rfl (lv_at hl 1 rfl) ?_
  refine lv_if_lt (tgt := 17) hx hb dM_end_6 (by decide) (fun _ => ?_) (fun h => by first | exact absurd h h2 | exact absurd h2 h)
  refine lv_aload_n hx hb dM_end_17 rfl (lv_at hl 0 rfl) ?_
  refine lv_iconst (v := 1) hx hb dM_end_18 (by decide) ?_
  obtain ⟨hPc, hDc, hFc⟩ := xcut (wc := [(a0, .inr (5, [.int 0, v4, v5, v6, v7, v8, v9, v10, v11, v12, v13, v14, v15, v16, v17, v18, v19, v20, v21, v22, v23, v24, v25, v26, v27, v28, v29, v30, v31, v32, v33, v34]))]) hP hD hS hA [0] rfl rfl (by decide)
  refine va_calli (va_runV (C := "ValueBenchModel") (As := [.int 1]) (rest := []) ⟨hx, hb, hml, hown, htx⟩ (cM_fail_0 l hl9 D cT aK aV H.size a0 (.int 0) v4 v5 v6 v7 v8 v9 v10 v11 v12 v13 v14 v15 v16 v17 v18 v19 v20 v21 v22 v23 v24 v25 v26 v27 v28 v29 v30 v31 v32 v33 v34) ⟨callB_of 1 htx (xw_goodC kw_5_195) rfl rfl rfl (htx _ kw_1_5) (htx _ kw_5_192) ⟨by decide, by decide, by decide +kernel⟩ ⟨Nat.le_of_ble_eq_true rfl, Nat.le_of_ble_eq_true rfl⟩, (htx _ kw_5_194), (htx _ kp_M_fail)⟩ ⟨xPre_blind, va_recv hK hP (ci := 5) rfl (q0 := 0) rfl, (fun U hU hW => ⟨rfl, xPre_of hZ hS hFc hPc hDc hK U hU hW⟩)⟩ rfl rfl hl.1 rfl (lv_room (Nat.le_of_ble_eq_true rfl)) dM_end_19 ⟨Nat.le_of_ble_eq_true rfl, Nat.le_of_ble_eq_true rfl⟩) hS (fun q _ h => hFc q h) hFc (fun r1 u9 t H1 locs ht hvm hr9 hB hz1 hk1 hS => ?_)
  obtain ⟨hP1, hK1, hD1⟩ := hB
  rw [ht] at hP1
  obtain ⟨hP, hD⟩ := xjoin (W := [(a0, .inr (5, [.int 1, v4, v5, v6, v7, v8, v9, v10, v11, v12, v13, v14, v15, v16, v17, v18, v19, v20, v21, v22, v23, v24, v25, v26, v27, v28, v29, v30, v31, v32, v33, v34]))]) hP hD [0] [] 0 rfl rfl (by decide) (by decide) hk1 hFc hP1 hD1
  generalize H1 = H at hP hS ⊢
  rw [hr9]
  refine W.eq (g2 := F0 m 22 ls [.int 0]) rfl ?_
  obtain ⟨hP9, hD9⟩ := xsub (wc := [(a0, .inr (5, [.int 1, v4, v5, v6, v7, v8, v9, v10, v11, v12, v13, v14, v15, v16, v17, v18, v19, v20, v21, v22, v23, v24, v25, v26, v27, v28, v29, v30, v31, v32, v33, v34]))]) hP hD [0] rfl rfl (by decide)
  refine W.widen (k := 0) (n := 0) (Nat.le_of_ble_eq_true rfl) (Nat.le_of_ble_eq_true rfl) ?_
  exact W.iret (v := 0) hx hb hr (fun t ht hW => ⟨⟨0, (), rfl, rfl, by rw [ht]; exact hP9, va_K.moved hW.alike hK, hD9⟩, hS.F ht⟩) hS.2.2 dM_end_22
set_option maxHeartbeats 4000000 in
set_option maxRecDepth 100000 in
theorem cM_end_2 (l : Launch) (hl9 : l.stackTraces = false) (D : va_G) (cT : Nat → ClassId) (aK aV : Nat → Nat) (sz : Nat) (a0 : Nat) (x1 : Int32) (v4 : Value) (v5 : Value) (v6 : Value) (v7 : Value) (v8 : Value) (v9 : Value) (v10 : Value) (v11 : Value) (v12 : Value) (v13 : Value) (v14 : Value) (v15 : Value) (v16 : Value) (v17 : Value) (v18 : Value) (v19 : Value) (v20 : Value) (v21 : Value) (v22 : Value) (v23 : Value) (v24 : Value) (v25 : Value) (v26 : Value) (v27 : Value) (v28 : Value) (v29 : Value) (v30 : Value) (v31 : Value) (v32 : Value) (v33 : Value) (v34 : Value) (h2 : ¬ x1 < 0) (h3 : 0 < x1) : xMet l yM_end wyM_end 1 0 0 21 D cT aK aV sz [.ref a0, .int x1] [(a0, .inr (5, [v4, v5, v6, v7, v8, v9, v10, v11, v12, v13, v14, v15, v16, v17, v18, v19, v20, v21, v22, v23, v24, v25, v26, v27, v28, v29, v30, .int 0, v31, v32, v33, v34]))] (fun A => va_Qi (fun (r : Int32) (_ : Unit) => r = 0) (fun _ t => xB D xcl cT A [(a0, .inr (5, [.int 1, v5, v6, v7, v8, v9, v10, v11, v12, v13, v14, v15, v16, v17, v18, v19, v20, v21, v22, v23, v24, v25, v26, v27, v28, v29, v30, .int 0, v31, v32, v33, v34]))] t) A) := by
  refine Met.ofW (cc := prog_13_method_83_code) (maxL := 2) (ret := (some .int)) (by decide) rfl ?_
  intro p e s m args below meth c s₁ B hml hv
  obtain ⟨rfl, hsz, hZ, hP, hK, hD0⟩ := hv
  have hx := B.exec
  have hb := B.bytes
  have hr := B.returns
  have hts := atoms_spec (ws := wyM_end) B.pre
  have htx := fun w h => hts w (List.mem_cons_of_mem _ h)
  have hown : s.vm.findClass "ValueBenchModel" = some m.cls := findClass_of_methodNamed B.named
  have hlocks := B.notSynchronized
  subst hsz
  have hD := hD0.self (sz := s.heap.size)
  generalize hAe : va_A [(a0, .inr (5, [v4, v5, v6, v7, v8, v9, v10, v11, v12, v13, v14, v15, v16, v17, v18, v19, v20, v21, v22, v23, v24, v25, v26, v27, v28, v29, v30, .int 0, v31, v32, v33, v34]))] s.heap.size = A at hD hZ ⊢
  have hA : ∀ q : Nat, s.heap.size ≤ q → A q := fun q h => by rw [← hAe]; exact Or.inr h
  have hS : va_S A s.heap s.heap [] := va_S.rf
  have hP : va_P D xcl [(a0, .inr (5, [v4, v5, v6, v7, v8, v9, v10, v11, v12, v13, v14, v15, v16, v17, v18, v19, v20, v21, v22, v23, v24, v25, v26, v27, v28, v29, v30, .int 0, v31, v32, v33, v34]))] s.heap := hP
  have hl := lv_entry ([.ref a0, .int x1]) (n := 2) (Nat.le_of_ble_eq_true rfl)
  rw [lg_entry_eq]
  generalize (lg_sl ([.ref a0, .int x1]) ++ List.replicate (2 - (lg_sl ([.ref a0, .int x1])).length) Slot.unset).toArray = ls at hl ⊢
  have hl : lv_has ls 2 [(0, .ref a0), (1, .int x1)] := hl
  refine lv_aload_n hx hb dM_end_0 rfl (lv_at hl 0 rfl) ?_
  refine lv_iconst (v := 0) hx hb dM_end_1 (by decide) ?_
  refine va_put (D := D) (ci := 5) (v := .int 0) (ty := .int) (C := "ValueBenchModel") (T := TM) (N := 32) hx hb htx inM tyM tyM_ok nmM hown hK hP hD hS 0 rfl rfl 0 (by decide) (htx _ kw_5_87) (fun _ h9 => h9) rfl (by decide +kernel) rfl rfl (Nat.le_of_ble_eq_true rfl) dM_end_2 (fun H locs hP hD hS => ?_)
  obtain ⟨hP, hD⟩ : xPD D xcl A [(a0, .inr (5, [.int 0, v5, v6, v7, v8, v9, v10, v11, v12, v13, v14, v15, v16, v17, v18, v19, v20, v21, v22, v23, v24, v25, v26, v27, v28, v29, v30, .int 0, v31, v32, v33, v34]))] H := ⟨hP, hD⟩
  refine lv_iload_n hx hb dM_end_5 rfl (lv_at hl 1 rfl) ?_
  refine lv_if_lt (tgt := 17) hx hb dM_end_6 (by decide) (fun h => by first | exact absurd h h2 | exact absurd h h3 | exact absurd h2 h | exact absurd h3 h) (fun _ => ?_)
  refine lv_iload_n hx hb dM_end_9 rfl (lv_at hl 1 rfl) ?_
  refine lv_aload_n hx hb dM_end_10 rfl (lv_at hl 0 rfl) ?_
  refine va_get (D := D) (ci := 5) (v := .int 0) (C := "ValueBenchModel") (T := TM) (N := 32) hx hb htx inM hown hK hP 0 rfl rfl 27 (by decide) (htx _ kw_5_114) (fun _ h9 => h9) rfl dM_end_11 ?_
  refine lv_icmp_le (tgt := 23) hx hb dM_end_14 (by decide) (fun h => by first | exact absurd h h2 | exact absurd h h3 | exact absurd h2 h | exact absurd h3 h) (fun _ => ?_)
  refine lv_aload_n hx hb dM_end_17 rfl (lv_at hl 0 rfl) ?_
  refine lv_iconst (v := 1) hx hb dM_end_18 (by decide) ?_
  obtain ⟨hPc, hDc, hFc⟩ := xcut (wc := [(a0, .inr (5, [.int 0, v5, v6, v7, v8, v9, v10, v11, v12, v13, v14, v15, v16, v17, v18, v19, v20, v21, v22, v23, v24, v25, v26, v27, v28, v29, v30, .int 0, v31, v32, v33, v34]))]) hP hD hS hA [0] rfl rfl (by decide)
  refine va_calli (va_runV (C := "ValueBenchModel") (As := [.int 1]) (rest := []) ⟨hx, hb, hml, hown, htx⟩ (cM_fail_0 l hl9 D cT aK aV H.size a0 (.int 0) v5 v6 v7 v8 v9 v10 v11 v12 v13 v14 v15 v16 v17 v18 v19 v20 v21 v22 v23 v24 v25 v26 v27 v28 v29 v30 (.int 0) v31 v32 v33 v34) ⟨callB_of 1 htx (xw_goodC kw_5_195) rfl rfl rfl (htx _ kw_1_5) (htx _ kw_5_192) ⟨by decide, by decide, by decide +kernel⟩ ⟨Nat.le_of_ble_eq_true rfl, Nat.le_of_ble_eq_true rfl⟩, (htx _ kw_5_194), (htx _ kp_M_fail)⟩ ⟨xPre_blind, va_recv hK hP (ci := 5) rfl (q0 := 0) rfl, (fun U hU hW => ⟨rfl, xPre_of hZ hS hFc hPc hDc hK U hU hW⟩)⟩ rfl rfl hl.1 rfl (lv_room (Nat.le_of_ble_eq_true rfl)) dM_end_19 ⟨Nat.le_of_ble_eq_true rfl, Nat.le_of_ble_eq_true rfl⟩) hS (fun q _ h => hFc q h) hFc (fun r1 u9 t H1 locs ht hvm hr9 hB hz1 hk1 hS => ?_)
  obtain ⟨hP1, hK1, hD1⟩ := hB
  rw [ht] at hP1
  obtain ⟨hP, hD⟩ := xjoin (W := [(a0, .inr (5, [.int 1, v5, v6, v7, v8, v9, v10, v11, v12, v13, v14, v15, v16, v17, v18, v19, v20, v21, v22, v23, v24, v25, v26, v27, v28, v29, v30, .int 0, v31, v32, v33, v34]))]) hP hD [0] [] 0 rfl rfl (by decide) (by decide) hk1 hFc hP1 hD1
  generalize H1 = H at hP hS ⊢
  rw [hr9]
  refine W.eq (g2 := F0 m 22 ls [.int 0]) rfl ?_
  obtain ⟨hP9, hD9⟩ := xsub (wc := [(a0, .inr (5, [.int 1, v5, v6, v7, v8, v9, v10, v11, v12, v13, v14, v15, v16, v17, v18, v19, v20, v21, v22, v23, v24, v25, v26, v27, v28, v29, v30, .int 0, v31, v32, v33, v34]))]) hP hD [0] rfl rfl (by decide)
  refine W.widen (k := 0) (n := 0) (Nat.le_of_ble_eq_true rfl) (Nat.le_of_ble_eq_true rfl) ?_
  exact W.iret (v := 0) hx hb hr (fun t ht hW => ⟨⟨0, (), rfl, rfl, by rw [ht]; exact hP9, va_K.moved hW.alike hK, hD9⟩, hS.F ht⟩) hS.2.2 dM_end_22
set_option maxHeartbeats 4000000 in
set_option maxRecDepth 100000 in
theorem cM_count_0 (l : Launch) (hl9 : l.stackTraces = false) (D : va_G) (cT : Nat → ClassId) (aK aV : Nat → Nat) (sz : Nat) (a0 : Nat) (v1 : Value) (v2 : Value) (v3 : Value) (v4 : Value) (v5 : Value) (v6 : Value) (v7 : Value) (v8 : Value) (v9 : Value) (v10 : Value) (v11 : Value) (v12 : Value) (v13 : Value) (v14 : Value) (v15 : Value) (v16 : Value) (v17 : Value) (v18 : Value) (v19 : Value) (v20 : Value) (v21 : Value) (v22 : Value) (v23 : Value) (v24 : Value) (v25 : Value) (v26 : Value) (v27 : Value) (v28 : Value) (v29 : Value) (v30 : Value) (v31 : Value) : xMet l yM_count wyM_count 0 0 0 0 D cT aK aV sz [.ref a0, .int 0] [(a0, .inr (5, [v1, v2, v3, v4, v5, v6, v7, v8, v9, v10, v11, v12, v13, v14, v15, v16, v17, v18, v19, v20, v21, v22, v23, v24, v25, v26, v27, .int 0, v28, v29, v30, v31]))] (fun A => va_Qi (fun (r : Int32) (_ : Unit) => r = 0) (fun _ t => xB D xcl cT A [(a0, .inr (5, [.int 0, v2, v3, v4, v5, v6, v7, v8, v9, v10, v11, v12, v13, v14, v15, v16, v17, v18, v19, v20, v21, v22, v23, v24, v25, v26, v27, .int 0, v28, v29, v30, v31]))] t) A) := by
  refine Met.ofW (cc := prog_13_method_88_code) (maxL := 2) (ret := (some .int)) (by decide) rfl ?_
  intro p e s m args below meth c s₁ B hml hv
  obtain ⟨rfl, hsz, hZ, hP, hK, hD0⟩ := hv
  have hx := B.exec
  have hb := B.bytes
  have hr := B.returns
  have hts := atoms_spec (ws := wyM_count) B.pre
  have htx := fun w h => hts w (List.mem_cons_of_mem _ h)
  have hown : s.vm.findClass "ValueBenchModel" = some m.cls := findClass_of_methodNamed B.named
  have hlocks := B.notSynchronized
  subst hsz
  have hD := hD0.self (sz := s.heap.size)
  generalize hAe : va_A [(a0, .inr (5, [v1, v2, v3, v4, v5, v6, v7, v8, v9, v10, v11, v12, v13, v14, v15, v16, v17, v18, v19, v20, v21, v22, v23, v24, v25, v26, v27, .int 0, v28, v29, v30, v31]))] s.heap.size = A at hD hZ ⊢
  have hA : ∀ q : Nat, s.heap.size ≤ q → A q := fun q h => by rw [← hAe]; exact Or.inr h
  have hS : va_S A s.heap s.heap [] := va_S.rf
  have hP : va_P D xcl [(a0, .inr (5, [v1, v2, v3, v4, v5, v6, v7, v8, v9, v10, v11, v12, v13, v14, v15, v16, v17, v18, v19, v20, v21, v22, v23, v24, v25, v26, v27, .int 0, v28, v29, v30, v31]))] s.heap := hP
  have hl := lv_entry ([.ref a0, .int 0]) (n := 2) (Nat.le_of_ble_eq_true rfl)
  rw [lg_entry_eq]
  generalize (lg_sl ([.ref a0, .int 0]) ++ List.replicate (2 - (lg_sl ([.ref a0, .int 0])).length) Slot.unset).toArray = ls at hl ⊢
  have hl : lv_has ls 2 [(0, .ref a0), (1, .int 0)] := hl
  refine lv_aload_n hx hb dM_count_0 rfl (lv_at hl 0 rfl) ?_
  refine lv_iconst (v := 0) hx hb dM_count_1 (by decide) ?_
  refine va_put (D := D) (ci := 5) (v := .int 0) (ty := .int) (C := "ValueBenchModel") (T := TM) (N := 32) hx hb htx inM tyM tyM_ok nmM hown hK hP hD hS 0 rfl rfl 0 (by decide) (htx _ kw_5_87) (fun _ h9 => h9) rfl (by decide +kernel) rfl rfl (Nat.le_of_ble_eq_true rfl) dM_count_2 (fun H locs hP hD hS => ?_)
  obtain ⟨hP, hD⟩ : xPD D xcl A [(a0, .inr (5, [.int 0, v2, v3, v4, v5, v6, v7, v8, v9, v10, v11, v12, v13, v14, v15, v16, v17, v18, v19, v20, v21, v22, v23, v24, v25, v26, v27, .int 0, v28, v29, v30, v31]))] H := ⟨hP, hD⟩
  refine lv_iload_n hx hb dM_count_5 rfl (lv_at hl 1 rfl) ?_
  refine lv_if_lt (tgt := 14) hx hb dM_count_6 (by decide) (fun h => ((by revert h; decide : False)).elim) (fun _ => ?_)
  refine lv_iload_n hx hb dM_count_9 rfl (lv_at hl 1 rfl) ?_
  refine lv_iconst (v := 3) hx hb dM_count_10 (by decide) ?_
  refine lv_icmp_le (tgt := 20) hx hb dM_count_11 (by decide) (fun _ => ?_) (fun h => ((by revert h; decide : False)).elim)
  refine lv_iload_n hx hb dM_count_20 rfl (lv_at hl 1 rfl) ?_
  refine lv_if_ne (tgt := 31) hx hb dM_count_21 (by decide) (fun h => ((by revert h; decide : False)).elim) (fun _ => ?_)
  refine lv_aload_n hx hb dM_count_24 rfl (lv_at hl 0 rfl) ?_
  refine va_get (D := D) (ci := 5) (v := .int 0) (C := "ValueBenchModel") (T := TM) (N := 32) hx hb htx inM hown hK hP 0 rfl rfl 27 (by decide) (htx _ kw_5_114) (fun _ h9 => h9) rfl dM_count_25 ?_
  refine lv_goto (tgt := 59) hx hb dM_count_28 (by decide) ?_
  obtain ⟨hP9, hD9⟩ := xsub (wc := [(a0, .inr (5, [.int 0, v2, v3, v4, v5, v6, v7, v8, v9, v10, v11, v12, v13, v14, v15, v16, v17, v18, v19, v20, v21, v22, v23, v24, v25, v26, v27, .int 0, v28, v29, v30, v31]))]) hP hD [0] rfl rfl (by decide)
  refine W.widen (k := 0) (n := 0) (Nat.le_of_ble_eq_true rfl) (Nat.le_of_ble_eq_true rfl) ?_
  exact W.iret (v := 0) hx hb hr (fun t ht hW => ⟨⟨0, (), rfl, rfl, by rw [ht]; exact hP9, va_K.moved hW.alike hK, hD9⟩, hS.F ht⟩) hS.2.2 dM_count_59
set_option maxHeartbeats 4000000 in
set_option maxRecDepth 100000 in
theorem cM_count_1 (l : Launch) (hl9 : l.stackTraces = false) (D : va_G) (cT : Nat → ClassId) (aK aV : Nat → Nat) (sz : Nat) (a0 : Nat) (v1 : Value) (v2 : Value) (v3 : Value) (v4 : Value) (v5 : Value) (v6 : Value) (v7 : Value) (v8 : Value) (v9 : Value) (v10 : Value) (v11 : Value) (v12 : Value) (v13 : Value) (v14 : Value) (v15 : Value) (v16 : Value) (v17 : Value) (v18 : Value) (v19 : Value) (v20 : Value) (v21 : Value) (v22 : Value) (v23 : Value) (v24 : Value) (v25 : Value) (v26 : Value) (v27 : Value) (v28 : Value) (v29 : Value) (v30 : Value) (v31 : Value) : xMet l yM_count wyM_count 0 0 0 0 D cT aK aV sz [.ref a0, .int 1] [(a0, .inr (5, [v1, v2, v3, v4, v5, v6, v7, v8, v9, v10, v11, v12, v13, v14, v15, v16, v17, v18, v19, v20, v21, v22, v23, v24, v25, v26, v27, v28, v29, .int 0, v30, v31]))] (fun A => va_Qi (fun (r : Int32) (_ : Unit) => r = 0) (fun _ t => xB D xcl cT A [(a0, .inr (5, [.int 0, v2, v3, v4, v5, v6, v7, v8, v9, v10, v11, v12, v13, v14, v15, v16, v17, v18, v19, v20, v21, v22, v23, v24, v25, v26, v27, v28, v29, .int 0, v30, v31]))] t) A) := by
  refine Met.ofW (cc := prog_13_method_88_code) (maxL := 2) (ret := (some .int)) (by decide) rfl ?_
  intro p e s m args below meth c s₁ B hml hv
  obtain ⟨rfl, hsz, hZ, hP, hK, hD0⟩ := hv
  have hx := B.exec
  have hb := B.bytes
  have hr := B.returns
  have hts := atoms_spec (ws := wyM_count) B.pre
  have htx := fun w h => hts w (List.mem_cons_of_mem _ h)
  have hown : s.vm.findClass "ValueBenchModel" = some m.cls := findClass_of_methodNamed B.named
  have hlocks := B.notSynchronized
  subst hsz
  have hD := hD0.self (sz := s.heap.size)
  generalize hAe : va_A [(a0, .inr (5, [v1, v2, v3, v4, v5, v6, v7, v8, v9, v10, v11, v12, v13, v14, v15, v16, v17, v18, v19, v20, v21, v22, v23, v24, v25, v26, v27, v28, v29, .int 0, v30, v31]))] s.heap.size = A at hD hZ ⊢
  have hA : ∀ q : Nat, s.heap.size ≤ q → A q := fun q h => by rw [← hAe]; exact Or.inr h
  have hS : va_S A s.heap s.heap [] := va_S.rf
  have hP : va_P D xcl [(a0, .inr (5, [v1, v2, v3, v4, v5, v6, v7, v8, v9, v10, v11, v12, v13, v14, v15, v16, v17, v18, v19, v20, v21, v22, v23, v24, v25, v26, v27, v28, v29, .int 0, v30, v31]))] s.heap := hP
  have hl := lv_entry ([.ref a0, .int 1]) (n := 2) (Nat.le_of_ble_eq_true rfl)
  rw [lg_entry_eq]
  generalize (lg_sl ([.ref a0, .int 1]) ++ List.replicate (2 - (lg_sl ([.ref a0, .int 1])).length) Slot.unset).toArray = ls at hl ⊢
  have hl : lv_has ls 2 [(0, .ref a0), (1, .int 1)] := hl
  refine lv_aload_n hx hb dM_count_0 rfl (lv_at hl 0 rfl) ?_
  refine lv_iconst (v := 0) hx hb dM_count_1 (by decide) ?_
  refine va_put (D := D) (ci := 5) (v := .int 0) (ty := .int) (C := "ValueBenchModel") (T := TM) (N := 32) hx hb htx inM tyM tyM_ok nmM hown hK hP hD hS 0 rfl rfl 0 (by decide) (htx _ kw_5_87) (fun _ h9 => h9) rfl (by decide +kernel) rfl rfl (Nat.le_of_ble_eq_true rfl) dM_count_2 (fun H locs hP hD hS => ?_)
  obtain ⟨hP, hD⟩ : xPD D xcl A [(a0, .inr (5, [.int 0, v2, v3, v4, v5, v6, v7, v8, v9, v10, v11, v12, v13, v14, v15, v16, v17, v18, v19, v20, v21, v22, v23, v24, v25, v26, v27, v28, v29, .int 0, v30, v31]))] H := ⟨hP, hD⟩
  refine lv_iload_n hx hb dM_count_5 rfl (lv_at hl 1 rfl) ?_
  refine lv_if_lt (tgt := 14) hx hb dM_count_6 (by decide) (fun h => ((by revert h; decide : False)).elim) (fun _ => ?_)
  refine lv_iload_n hx hb dM_count_9 rfl (lv_at hl 1 rfl) ?_
  refine lv_iconst (v := 3) hx hb dM_count_10 (by decide) ?_
  refine lv_icmp_le (tgt := 20) hx hb dM_count_11 (by decide) (fun _ => ?_) (fun h => ((by revert h; decide : False)).elim)
  refine lv_iload_n hx hb dM_count_20 rfl (lv_at hl 1 rfl) ?_
  refine lv_if_ne (tgt := 31) hx hb dM_count_21 (by decide) (fun _ => ?_) (fun h => ((by revert h; decide : False)).elim)
  refine lv_iload_n hx hb dM_count_31 rfl (lv_at hl 1 rfl) ?_
  refine lv_iconst (v := 1) hx hb dM_count_32 (by decide) ?_
  refine lv_icmp_ne (tgt := 43) hx hb dM_count_33 (by decide) (fun h => ((by revert h; decide : False)).elim) (fun _ => ?_)
  refine lv_aload_n hx hb dM_count_36 rfl (lv_at hl 0 rfl) ?_
  refine va_get (D := D) (ci := 5) (v := .int 0) (C := "ValueBenchModel") (T := TM) (N := 32) hx hb htx inM hown hK hP 0 rfl rfl 29 (by decide) (htx _ kw_5_116) (fun _ h9 => h9) rfl dM_count_37 ?_
  refine lv_goto (tgt := 59) hx hb dM_count_40 (by decide) ?_
  obtain ⟨hP9, hD9⟩ := xsub (wc := [(a0, .inr (5, [.int 0, v2, v3, v4, v5, v6, v7, v8, v9, v10, v11, v12, v13, v14, v15, v16, v17, v18, v19, v20, v21, v22, v23, v24, v25, v26, v27, v28, v29, .int 0, v30, v31]))]) hP hD [0] rfl rfl (by decide)
  refine W.widen (k := 0) (n := 0) (Nat.le_of_ble_eq_true rfl) (Nat.le_of_ble_eq_true rfl) ?_
  exact W.iret (v := 0) hx hb hr (fun t ht hW => ⟨⟨0, (), rfl, rfl, by rw [ht]; exact hP9, va_K.moved hW.alike hK, hD9⟩, hS.F ht⟩) hS.2.2 dM_count_59
set_option maxHeartbeats 4000000 in
set_option maxRecDepth 100000 in
theorem cM_count_2 (l : Launch) (hl9 : l.stackTraces = false) (D : va_G) (cT : Nat → ClassId) (aK aV : Nat → Nat) (sz : Nat) (a0 : Nat) (v1 : Value) (v2 : Value) (v3 : Value) (v4 : Value) (v5 : Value) (v6 : Value) (v7 : Value) (v8 : Value) (v9 : Value) (v10 : Value) (v11 : Value) (v12 : Value) (v13 : Value) (v14 : Value) (v15 : Value) (v16 : Value) (v17 : Value) (v18 : Value) (v19 : Value) (v20 : Value) (v21 : Value) (v22 : Value) (v23 : Value) (v24 : Value) (v25 : Value) (v26 : Value) (v27 : Value) (v28 : Value) (v29 : Value) (v30 : Value) (v31 : Value) : xMet l yM_count wyM_count 0 0 0 0 D cT aK aV sz [.ref a0, .int 2] [(a0, .inr (5, [v1, v2, v3, v4, v5, v6, v7, v8, v9, v10, v11, v12, v13, v14, v15, v16, v17, v18, v19, v20, v21, v22, v23, v24, v25, v26, v27, v28, v29, v30, v31, .int (-1)]))] (fun A => va_Qi (fun (r : Int32) (_ : Unit) => r = (-1)) (fun _ t => xB D xcl cT A [(a0, .inr (5, [.int 0, v2, v3, v4, v5, v6, v7, v8, v9, v10, v11, v12, v13, v14, v15, v16, v17, v18, v19, v20, v21, v22, v23, v24, v25, v26, v27, v28, v29, v30, v31, .int (-1)]))] t) A) := by
  refine Met.ofW (cc := prog_13_method_88_code) (maxL := 2) (ret := (some .int)) (by decide) rfl ?_
  intro p e s m args below meth c s₁ B hml hv
  obtain ⟨rfl, hsz, hZ, hP, hK, hD0⟩ := hv
  have hx := B.exec
  have hb := B.bytes
  have hr := B.returns
  have hts := atoms_spec (ws := wyM_count) B.pre
  have htx := fun w h => hts w (List.mem_cons_of_mem _ h)
  have hown : s.vm.findClass "ValueBenchModel" = some m.cls := findClass_of_methodNamed B.named
  have hlocks := B.notSynchronized
  subst hsz
  have hD := hD0.self (sz := s.heap.size)
  generalize hAe : va_A [(a0, .inr (5, [v1, v2, v3, v4, v5, v6, v7, v8, v9, v10, v11, v12, v13, v14, v15, v16, v17, v18, v19, v20, v21, v22, v23, v24, v25, v26, v27, v28, v29, v30, v31, .int (-1)]))] s.heap.size = A at hD hZ ⊢
  have hA : ∀ q : Nat, s.heap.size ≤ q → A q := fun q h => by rw [← hAe]; exact Or.inr h
  have hS : va_S A s.heap s.heap [] := va_S.rf
  have hP : va_P D xcl [(a0, .inr (5, [v1, v2, v3, v4, v5, v6, v7, v8, v9, v10, v11, v12, v13, v14, v15, v16, v17, v18, v19, v20, v21, v22, v23, v24, v25, v26, v27, v28, v29, v30, v31, .int (-1)]))] s.heap := hP
  have hl := lv_entry ([.ref a0, .int 2]) (n := 2) (Nat.le_of_ble_eq_true rfl)
  rw [lg_entry_eq]
  generalize (lg_sl ([.ref a0, .int 2]) ++ List.replicate (2 - (lg_sl ([.ref a0, .int 2])).length) Slot.unset).toArray = ls at hl ⊢
  have hl : lv_has ls 2 [(0, .ref a0), (1, .int 2)] := hl
  refine lv_aload_n hx hb dM_count_0 rfl (lv_at hl 0 rfl) ?_
  refine lv_iconst (v := 0) hx hb dM_count_1 (by decide) ?_
  refine va_put (D := D) (ci := 5) (v := .int 0) (ty := .int) (C := "ValueBenchModel") (T := TM) (N := 32) hx hb htx inM tyM tyM_ok nmM hown hK hP hD hS 0 rfl rfl 0 (by decide) (htx _ kw_5_87) (fun _ h9 => h9) rfl (by decide +kernel) rfl rfl (Nat.le_of_ble_eq_true rfl) dM_count_2 (fun H locs hP hD hS => ?_)
  obtain ⟨hP, hD⟩ : xPD D xcl A [(a0, .inr (5, [.int 0, v2, v3, v4, v5, v6, v7, v8, v9, v10, v11, v12, v13, v14, v15, v16, v17, v18, v19, v20, v21, v22, v23, v24, v25, v26, v27, v28, v29, v30, v31, .int (-1)]))] H := ⟨hP, hD⟩
  refine lv_iload_n hx hb dM_count_5 rfl (lv_at hl 1 rfl) ?_
  refine lv_if_lt (tgt := 14) hx hb dM_count_6 (by decide) (fun h => ((by revert h; decide : False)).elim) (fun _ => ?_)
  refine lv_iload_n hx hb dM_count_9 rfl (lv_at hl 1 rfl) ?_
  refine lv_iconst (v := 3) hx hb dM_count_10 (by decide) ?_
  refine lv_icmp_le (tgt := 20) hx hb dM_count_11 (by decide) (fun _ => ?_) (fun h => ((by revert h; decide : False)).elim)
  refine lv_iload_n hx hb dM_count_20 rfl (lv_at hl 1 rfl) ?_
  refine lv_if_ne (tgt := 31) hx hb dM_count_21 (by decide) (fun _ => ?_) (fun h => ((by revert h; decide : False)).elim)
  refine lv_iload_n hx hb dM_count_31 rfl (lv_at hl 1 rfl) ?_
  refine lv_iconst (v := 1) hx hb dM_count_32 (by decide) ?_
  refine lv_icmp_ne (tgt := 43) hx hb dM_count_33 (by decide) (fun _ => ?_) (fun h => ((by revert h; decide : False)).elim)
  refine lv_iload_n hx hb dM_count_43 rfl (lv_at hl 1 rfl) ?_
  refine lv_iconst (v := 2) hx hb dM_count_44 (by decide) ?_
  refine lv_icmp_ne (tgt := 55) hx hb dM_count_45 (by decide) (fun h => ((by revert h; decide : False)).elim) (fun _ => ?_)
  refine lv_aload_n hx hb dM_count_48 rfl (lv_at hl 0 rfl) ?_
  refine va_get (D := D) (ci := 5) (v := .int (-1)) (C := "ValueBenchModel") (T := TM) (N := 32) hx hb htx inM hown hK hP 0 rfl rfl 31 (by decide) (htx _ kw_5_118) (fun _ h9 => h9) rfl dM_count_49 ?_
  refine lv_goto (tgt := 59) hx hb dM_count_52 (by decide) ?_
  obtain ⟨hP9, hD9⟩ := xsub (wc := [(a0, .inr (5, [.int 0, v2, v3, v4, v5, v6, v7, v8, v9, v10, v11, v12, v13, v14, v15, v16, v17, v18, v19, v20, v21, v22, v23, v24, v25, v26, v27, v28, v29, v30, v31, .int (-1)]))]) hP hD [0] rfl rfl (by decide)
  refine W.widen (k := 0) (n := 0) (Nat.le_of_ble_eq_true rfl) (Nat.le_of_ble_eq_true rfl) ?_
  exact W.iret (v := (-1)) hx hb hr (fun t ht hW => ⟨⟨(-1), (), rfl, rfl, by rw [ht]; exact hP9, va_K.moved hW.alike hK, hD9⟩, hS.F ht⟩) hS.2.2 dM_count_59
set_option maxHeartbeats 4000000 in
set_option maxRecDepth 100000 in
theorem cM_count_3 (l : Launch) (hl9 : l.stackTraces = false) (D : va_G) (cT : Nat → ClassId) (aK aV : Nat → Nat) (sz : Nat) (a0 : Nat) (v1 : Value) (v2 : Value) (v3 : Value) (v4 : Value) (v5 : Value) (v6 : Value) (v7 : Value) (v8 : Value) (v9 : Value) (v10 : Value) (v11 : Value) (v12 : Value) (v13 : Value) (v14 : Value) (v15 : Value) (v16 : Value) (v17 : Value) (v18 : Value) (v19 : Value) (v20 : Value) (v21 : Value) (v22 : Value) (v23 : Value) (v24 : Value) (v25 : Value) (v26 : Value) (v27 : Value) (v28 : Value) (v29 : Value) (v30 : Value) (v31 : Value) : xMet l yM_count wyM_count 0 0 0 0 D cT aK aV sz [.ref a0, .int 3] [(a0, .inr (5, [v1, v2, v3, v4, v5, v6, v7, v8, v9, v10, v11, v12, v13, v14, v15, v16, v17, v18, v19, v20, v21, v22, v23, v24, v25, v26, v27, v28, v29, v30, .int 0, v31]))] (fun A => va_Qi (fun (r : Int32) (_ : Unit) => r = 0) (fun _ t => xB D xcl cT A [(a0, .inr (5, [.int 0, v2, v3, v4, v5, v6, v7, v8, v9, v10, v11, v12, v13, v14, v15, v16, v17, v18, v19, v20, v21, v22, v23, v24, v25, v26, v27, v28, v29, v30, .int 0, v31]))] t) A) := by
  refine Met.ofW (cc := prog_13_method_88_code) (maxL := 2) (ret := (some .int)) (by decide) rfl ?_
  intro p e s m args below meth c s₁ B hml hv
  obtain ⟨rfl, hsz, hZ, hP, hK, hD0⟩ := hv
  have hx := B.exec
  have hb := B.bytes
  have hr := B.returns
  have hts := atoms_spec (ws := wyM_count) B.pre
  have htx := fun w h => hts w (List.mem_cons_of_mem _ h)
  have hown : s.vm.findClass "ValueBenchModel" = some m.cls := findClass_of_methodNamed B.named
  have hlocks := B.notSynchronized
  subst hsz
  have hD := hD0.self (sz := s.heap.size)
  generalize hAe : va_A [(a0, .inr (5, [v1, v2, v3, v4, v5, v6, v7, v8, v9, v10, v11, v12, v13, v14, v15, v16, v17, v18, v19, v20, v21, v22, v23, v24, v25, v26, v27, v28, v29, v30, .int 0, v31]))] s.heap.size = A at hD hZ ⊢
  have hA : ∀ q : Nat, s.heap.size ≤ q → A q := fun q h => by rw [← hAe]; exact Or.inr h
  have hS : va_S A s.heap s.heap [] := va_S.rf
  have hP : va_P D xcl [(a0, .inr (5, [v1, v2, v3, v4, v5, v6, v7, v8, v9, v10, v11, v12, v13, v14, v15, v16, v17, v18, v19, v20, v21, v22, v23, v24, v25, v26, v27, v28, v29, v30, .int 0, v31]))] s.heap := hP
  have hl := lv_entry ([.ref a0, .int 3]) (n := 2) (Nat.le_of_ble_eq_true rfl)
  rw [lg_entry_eq]
  generalize (lg_sl ([.ref a0, .int 3]) ++ List.replicate (2 - (lg_sl ([.ref a0, .int 3])).length) Slot.unset).toArray = ls at hl ⊢
  have hl : lv_has ls 2 [(0, .ref a0), (1, .int 3)] := hl
  refine lv_aload_n hx hb dM_count_0 rfl (lv_at hl 0 rfl) ?_
  refine lv_iconst (v := 0) hx hb dM_count_1 (by decide) ?_
  refine va_put (D := D) (ci := 5) (v := .int 0) (ty := .int) (C := "ValueBenchModel") (T := TM) (N := 32) hx hb htx inM tyM tyM_ok nmM hown hK hP hD hS 0 rfl rfl 0 (by decide) (htx _ kw_5_87) (fun _ h9 => h9) rfl (by decide +kernel) rfl rfl (Nat.le_of_ble_eq_true rfl) dM_count_2 (fun H locs hP hD hS => ?_)
  obtain ⟨hP, hD⟩ : xPD D xcl A [(a0, .inr (5, [.int 0, v2, v3, v4, v5, v6, v7, v8, v9, v10, v11, v12, v13, v14, v15, v16, v17, v18, v19, v20, v21, v22, v23, v24, v25, v26, v27, v28, v29, v30, .int 0, v31]))] H := ⟨hP, hD⟩
  refine lv_iload_n hx hb dM_count_5 rfl (lv_at hl 1 rfl) ?_
  refine lv_if_lt (tgt := 14) hx hb dM_count_6 (by decide) (fun h => ((by revert h; decide : False)).elim) (fun _ => ?_)
  refine lv_iload_n hx hb dM_count_9 rfl (lv_at hl 1 rfl) ?_
  refine lv_iconst (v := 3) hx hb dM_count_10 (by decide) ?_
  refine lv_icmp_le (tgt := 20) hx hb dM_count_11 (by decide) (fun _ => ?_) (fun h => ((by revert h; decide : False)).elim)
  refine lv_iload_n hx hb dM_count_20 rfl (lv_at hl 1 rfl) ?_
  refine lv_if_ne (tgt := 31) hx hb dM_count_21 (by decide) (fun _ => ?_) (fun h => ((by revert h; decide : False)).elim)
  refine lv_iload_n hx hb dM_count_31 rfl (lv_at hl 1 rfl) ?_
  refine lv_iconst (v := 1) hx hb dM_count_32 (by decide) ?_
  refine lv_icmp_ne (tgt := 43) hx hb dM_count_33 (by decide) (fun _ => ?_) (fun h => ((by revert h; decide : False)).elim)
  refine lv_iload_n hx hb dM_count_43 rfl (lv_at hl 1 rfl) ?_
  refine lv_iconst (v := 2) hx hb dM_count_44 (by decide) ?_
  refine lv_icmp_ne (tgt := 55) hx hb dM_count_45 (by decide) (fun _ => ?_) (fun h => ((by revert h; decide : False)).elim)
  refine lv_aload_n hx hb dM_count_55 rfl (lv_at hl 0 rfl) ?_
  refine va_get (D := D) (ci := 5) (v := .int 0) (C := "ValueBenchModel") (T := TM) (N := 32) hx hb htx inM hown hK hP 0 rfl rfl 30 (by decide) (htx _ kw_5_117) (fun _ h9 => h9) rfl dM_count_56 ?_
  obtain ⟨hP9, hD9⟩ := xsub (wc := [(a0, .inr (5, [.int 0, v2, v3, v4, v5, v6, v7, v8, v9, v10, v11, v12, v13, v14, v15, v16, v17, v18, v19, v20, v21, v22, v23, v24, v25, v26, v27, v28, v29, v30, .int 0, v31]))]) hP hD [0] rfl rfl (by decide)
  refine W.widen (k := 0) (n := 0) (Nat.le_of_ble_eq_true rfl) (Nat.le_of_ble_eq_true rfl) ?_
  exact W.iret (v := 0) hx hb hr (fun t ht hW => ⟨⟨0, (), rfl, rfl, by rw [ht]; exact hP9, va_K.moved hW.alike hK, hD9⟩, hS.F ht⟩) hS.2.2 dM_count_59
set_option maxHeartbeats 4000000 in
set_option maxRecDepth 100000 in
theorem cM_count_4 (l : Launch) (hl9 : l.stackTraces = false) (D : va_G) (cT : Nat → ClassId) (aK aV : Nat → Nat) (sz : Nat) (a0 : Nat) (x1 : Int32) (v3 : Value) (v4 : Value) (v5 : Value) (v6 : Value) (v7 : Value) (v8 : Value) (v9 : Value) (v10 : Value) (v11 : Value) (v12 : Value) (v13 : Value) (v14 : Value) (v15 : Value) (v16 : Value) (v17 : Value) (v18 : Value) (v19 : Value) (v20 : Value) (v21 : Value) (v22 : Value) (v23 : Value) (v24 : Value) (v25 : Value) (v26 : Value) (v27 : Value) (v28 : Value) (v29 : Value) (v30 : Value) (v31 : Value) (v32 : Value) (v33 : Value) (v34 : Value) (h2 : x1 < 0) : xMet l yM_count wyM_count 1 0 0 21 D cT aK aV sz [.ref a0, .int x1] [(a0, .inr (5, [v3, v4, v5, v6, v7, v8, v9, v10, v11, v12, v13, v14, v15, v16, v17, v18, v19, v20, v21, v22, v23, v24, v25, v26, v27, v28, v29, v30, v31, v32, v33, v34]))] (fun A => va_Qi (fun (r : Int32) (_ : Unit) => r = 0) (fun _ t => xB D xcl cT A [(a0, .inr (5, [.int 1, v4, v5, v6, v7, v8, v9, v10, v11, v12, v13, v14, v15, v16, v17, v18, v19, v20, v21, v22, v23, v24, v25, v26, v27, v28, v29, v30, v31, v32, v33, v34]))] t) A) := by
  refine Met.ofW (cc := prog_13_method_88_code) (maxL := 2) (ret := (some .int)) (by decide) rfl ?_
  intro p e s m args below meth c s₁ B hml hv
  obtain ⟨rfl, hsz, hZ, hP, hK, hD0⟩ := hv
  have hx := B.exec
  have hb := B.bytes
  have hr := B.returns
  have hts := atoms_spec (ws := wyM_count) B.pre
  have htx := fun w h => hts w (List.mem_cons_of_mem _ h)
  have hown : s.vm.findClass "ValueBenchModel" = some m.cls := findClass_of_methodNamed B.named
  have hlocks := B.notSynchronized
  subst hsz
  have hD := hD0.self (sz := s.heap.size)
  generalize hAe : va_A [(a0, .inr (5, [v3, v4, v5, v6, v7, v8, v9, v10, v11, v12, v13, v14, v15, v16, v17, v18, v19, v20, v21, v22, v23, v24, v25, v26, v27, v28, v29, v30, v31, v32, v33, v34]))] s.heap.size = A at hD hZ ⊢
  have hA : ∀ q : Nat, s.heap.size ≤ q → A q := fun q h => by rw [← hAe]; exact Or.inr h
  have hS : va_S A s.heap s.heap [] := va_S.rf
  have hP : va_P D xcl [(a0, .inr (5, [v3, v4, v5, v6, v7, v8, v9, v10, v11, v12, v13, v14, v15, v16, v17, v18, v19, v20, v21, v22, v23, v24, v25, v26, v27, v28, v29, v30, v31, v32, v33, v34]))] s.heap := hP
  have hl := lv_entry ([.ref a0, .int x1]) (n := 2) (Nat.le_of_ble_eq_true rfl)
  rw [lg_entry_eq]
  generalize (lg_sl ([.ref a0, .int x1]) ++ List.replicate (2 - (lg_sl ([.ref a0, .int x1])).length) Slot.unset).toArray = ls at hl ⊢
  have hl : lv_has ls 2 [(0, .ref a0), (1, .int x1)] := hl
  refine lv_aload_n hx hb dM_count_0 rfl (lv_at hl 0 rfl) ?_
  refine lv_iconst (v := 0) hx hb dM_count_1 (by decide) ?_
  refine va_put (D := D) (ci := 5) (v := .int 0) (ty := .int) (C := "ValueBenchModel") (T := TM) (N := 32) hx hb htx inM tyM tyM_ok nmM hown hK hP hD hS 0 rfl rfl 0 (by decide) (htx _ kw_5_87) (fun _ h9 => h9) rfl (by decide +kernel) rfl rfl (Nat.le_of_ble_eq_true rfl) dM_count_2 (fun H locs hP hD hS => ?_)
  obtain ⟨hP, hD⟩ : xPD D xcl A [(a0, .inr (5, [.int 0, v4, v5, v6, v7, v8, v9, v10, v11, v12, v13, v14, v15, v16, v17, v18, v19, v20, v21, v22, v23, v24, v25, v26, v27, v28, v29, v30, v31, v32, v33, v34]))] H := ⟨hP, hD⟩
  refine lv_iload_n hx hb dM_count_5 rfl (lv_at hl 1 rfl) ?_
  refine lv_if_lt (tgt := 14) hx hb dM_count_6 (by decide) (fun _ => ?_) (fun h => by first | exact absurd h h2 | exact absurd h2 h)
  refine lv_aload_n hx hb dM_count_14 rfl (lv_at hl 0 rfl) ?_
  refine lv_iconst (v := 1) hx hb dM_count_15 (by decide) ?_
  obtain ⟨hPc, hDc, hFc⟩ := xcut (wc := [(a0, .inr (5, [.int 0, v4, v5, v6, v7, v8, v9, v10, v11, v12, v13, v14, v15, v16, v17, v18, v19, v20, v21, v22, v23, v24, v25, v26, v27, v28, v29, v30, v31, v32, v33, v34]))]) hP hD hS hA [0] rfl rfl (by decide)
  refine va_calli (va_runV (C := "ValueBenchModel") (As := [.int 1]) (rest := []) ⟨hx, hb, hml, hown, htx⟩ (cM_fail_0 l hl9 D cT aK aV H.size a0 (.int 0) v4 v5 v6 v7 v8 v9 v10 v11 v12 v13 v14 v15 v16 v17 v18 v19 v20 v21 v22 v23 v24 v25 v26 v27 v28 v29 v30 v31 v32 v33 v34) ⟨callB_of 1 htx (xw_goodC kw_5_195) rfl rfl rfl (htx _ kw_1_5) (htx _ kw_5_192) ⟨by decide, by decide, by decide +kernel⟩ ⟨Nat.le_of_ble_eq_true rfl, Nat.le_of_ble_eq_true rfl⟩, (htx _ kw_5_194), (htx _ kp_M_fail)⟩ ⟨xPre_blind, va_recv hK hP (ci := 5) rfl (q0 := 0) rfl, (fun U hU hW => ⟨rfl, xPre_of hZ hS hFc hPc hDc hK U hU hW⟩)⟩ rfl rfl hl.1 rfl (lv_room (Nat.le_of_ble_eq_true rfl)) dM_count_16 ⟨Nat.le_of_ble_eq_true rfl, Nat.le_of_ble_eq_true rfl⟩) hS (fun q _ h => hFc q h) hFc (fun r1 u9 t H1 locs ht hvm hr9 hB hz1 hk1 hS => ?_)
  obtain ⟨hP1, hK1, hD1⟩ := hB
  rw [ht] at hP1
  obtain ⟨hP, hD⟩ := xjoin (W := [(a0, .inr (5, [.int 1, v4, v5, v6, v7, v8, v9, v10, v11, v12, v13, v14, v15, v16, v17, v18, v19, v20, v21, v22, v23, v24, v25, v26, v27, v28, v29, v30, v31, v32, v33, v34]))]) hP hD [0] [] 0 rfl rfl (by decide) (by decide) hk1 hFc hP1 hD1
  generalize H1 = H at hP hS ⊢
  rw [hr9]
  refine W.eq (g2 := F0 m 19 ls [.int 0]) rfl ?_
  obtain ⟨hP9, hD9⟩ := xsub (wc := [(a0, .inr (5, [.int 1, v4, v5, v6, v7, v8, v9, v10, v11, v12, v13, v14, v15, v16, v17, v18, v19, v20, v21, v22, v23, v24, v25, v26, v27, v28, v29, v30, v31, v32, v33, v34]))]) hP hD [0] rfl rfl (by decide)
  refine W.widen (k := 0) (n := 0) (Nat.le_of_ble_eq_true rfl) (Nat.le_of_ble_eq_true rfl) ?_
  exact W.iret (v := 0) hx hb hr (fun t ht hW => ⟨⟨0, (), rfl, rfl, by rw [ht]; exact hP9, va_K.moved hW.alike hK, hD9⟩, hS.F ht⟩) hS.2.2 dM_count_19
set_option maxHeartbeats 4000000 in
set_option maxRecDepth 100000 in
theorem cM_count_5 (l : Launch) (hl9 : l.stackTraces = false) (D : va_G) (cT : Nat → ClassId) (aK aV : Nat → Nat) (sz : Nat) (a0 : Nat) (x1 : Int32) (v4 : Value) (v5 : Value) (v6 : Value) (v7 : Value) (v8 : Value) (v9 : Value) (v10 : Value) (v11 : Value) (v12 : Value) (v13 : Value) (v14 : Value) (v15 : Value) (v16 : Value) (v17 : Value) (v18 : Value) (v19 : Value) (v20 : Value) (v21 : Value) (v22 : Value) (v23 : Value) (v24 : Value) (v25 : Value) (v26 : Value) (v27 : Value) (v28 : Value) (v29 : Value) (v30 : Value) (v31 : Value) (v32 : Value) (v33 : Value) (v34 : Value) (v35 : Value) (h2 : ¬ x1 < 0) (h3 : 3 < x1) : xMet l yM_count wyM_count 1 0 0 21 D cT aK aV sz [.ref a0, .int x1] [(a0, .inr (5, [v4, v5, v6, v7, v8, v9, v10, v11, v12, v13, v14, v15, v16, v17, v18, v19, v20, v21, v22, v23, v24, v25, v26, v27, v28, v29, v30, v31, v32, v33, v34, v35]))] (fun A => va_Qi (fun (r : Int32) (_ : Unit) => r = 0) (fun _ t => xB D xcl cT A [(a0, .inr (5, [.int 1, v5, v6, v7, v8, v9, v10, v11, v12, v13, v14, v15, v16, v17, v18, v19, v20, v21, v22, v23, v24, v25, v26, v27, v28, v29, v30, v31, v32, v33, v34, v35]))] t) A) := by
  refine Met.ofW (cc := prog_13_method_88_code) (maxL := 2) (ret := (some .int)) (by decide) rfl ?_
  intro p e s m args below meth c s₁ B hml hv
  obtain ⟨rfl, hsz, hZ, hP, hK, hD0⟩ := hv
  have hx := B.exec
  have hb := B.bytes
  have hr := B.returns
  have hts := atoms_spec (ws := wyM_count) B.pre
  have htx := fun w h => hts w (List.mem_cons_of_mem _ h)
  have hown : s.vm.findClass "ValueBenchModel" = some m.cls := findClass_of_methodNamed B.named
  have hlocks := B.notSynchronized
  subst hsz
  have hD := hD0.self (sz := s.heap.size)
  generalize hAe : va_A [(a0, .inr (5, [v4, v5, v6, v7, v8, v9, v10, v11, v12, v13, v14, v15, v16, v17, v18, v19, v20, v21, v22, v23, v24, v25, v26, v27, v28, v29, v30, v31, v32, v33, v34, v35]))] s.heap.size = A at hD hZ ⊢
  have hA : ∀ q : Nat, s.heap.size ≤ q → A q := fun q h => by rw [← hAe]; exact Or.inr h
  have hS : va_S A s.heap s.heap [] := va_S.rf
  have hP : va_P D xcl [(a0, .inr (5, [v4, v5, v6, v7, v8, v9, v10, v11, v12, v13, v14, v15, v16, v17, v18, v19, v20, v21, v22, v23, v24, v25, v26, v27, v28, v29, v30, v31, v32, v33, v34, v35]))] s.heap := hP
  have hl := lv_entry ([.ref a0, .int x1]) (n := 2) (Nat.le_of_ble_eq_true rfl)
  rw [lg_entry_eq]
  generalize (lg_sl ([.ref a0, .int x1]) ++ List.replicate (2 - (lg_sl ([.ref a0, .int x1])).length) Slot.unset).toArray = ls at hl ⊢
  have hl : lv_has ls 2 [(0, .ref a0), (1, .int x1)] := hl
  refine lv_aload_n hx hb dM_count_0 rfl (lv_at hl 0 rfl) ?_
  refine lv_iconst (v := 0) hx hb dM_count_1 (by decide) ?_
  refine va_put (D := D) (ci := 5) (v := .int 0) (ty := .int) (C := "ValueBenchModel") (T := TM) (N := 32) hx hb htx inM tyM tyM_ok nmM hown hK hP hD hS 0 rfl rfl 0 (by decide) (htx _ kw_5_87) (fun _ h9 => h9) rfl (by decide +kernel) rfl rfl (Nat.le_of_ble_eq_true rfl) dM_count_2 (fun H locs hP hD hS => ?_)
  obtain ⟨hP, hD⟩ : xPD D xcl A [(a0, .inr (5, [.int 0, v5, v6, v7, v8, v9, v10, v11, v12, v13, v14, v15, v16, v17, v18, v19, v20, v21, v22, v23, v24, v25, v26, v27, v28, v29, v30, v31, v32, v33, v34, v35]))] H := ⟨hP, hD⟩
  refine lv_iload_n hx hb dM_count_5 rfl (lv_at hl 1 rfl) ?_
  refine lv_if_lt (tgt := 14) hx hb dM_count_6 (by decide) (fun h => by first | exact absurd h h2 | exact absurd h h3 | exact absurd h2 h | exact absurd h3 h) (fun _ => ?_)
  refine lv_iload_n hx hb dM_count_9 rfl (lv_at hl 1 rfl) ?_
  refine lv_iconst (v := 3) hx hb dM_count_10 (by decide) ?_
  refine lv_icmp_le (tgt := 20) hx hb dM_count_11 (by decide) (fun h => by first | exact absurd h h2 | exact absurd h h3 | exact absurd h2 h | exact absurd h3 h) (fun _ => ?_)
  refine lv_aload_n hx hb dM_count_14 rfl (lv_at hl 0 rfl) ?_
  refine lv_iconst (v := 1) hx hb dM_count_15 (by decide) ?_
  obtain ⟨hPc, hDc, hFc⟩ := xcut (wc := [(a0, .inr (5, [.int 0, v5, v6, v7, v8, v9, v10, v11, v12, v13, v14, v15, v16, v17, v18, v19, v20, v21, v22, v23, v24, v25, v26, v27, v28, v29, v30, v31, v32, v33, v34, v35]))]) hP hD hS hA [0] rfl rfl (by decide)
  refine va_calli (va_runV (C := "ValueBenchModel") (As := [.int 1]) (rest := []) ⟨hx, hb, hml, hown, htx⟩ (cM_fail_0 l hl9 D cT aK aV H.size a0 (.int 0) v5 v6 v7 v8 v9 v10 v11 v12 v13 v14 v15 v16 v17 v18 v19 v20 v21 v22 v23 v24 v25 v26 v27 v28 v29 v30 v31 v32 v33 v34 v35) ⟨callB_of 1 htx (xw_goodC kw_5_195) rfl rfl rfl (htx _ kw_1_5) (htx _ kw_5_192) ⟨by decide, by decide, by decide +kernel⟩ ⟨Nat.le_of_ble_eq_true rfl, Nat.le_of_ble_eq_true rfl⟩, (htx _ kw_5_194), (htx _ kp_M_fail)⟩ ⟨xPre_blind, va_recv hK hP (ci := 5) rfl (q0 := 0) rfl, (fun U hU hW => ⟨rfl, xPre_of hZ hS hFc hPc hDc hK U hU hW⟩)⟩ rfl rfl hl.1 rfl (lv_room (Nat.le_of_ble_eq_true rfl)) dM_count_16 ⟨Nat.le_of_ble_eq_true rfl, Nat.le_of_ble_eq_true rfl⟩) hS (fun q _ h => hFc q h) hFc (fun r1 u9 t H1 locs ht hvm hr9 hB hz1 hk1 hS => ?_)
  obtain ⟨hP1, hK1, hD1⟩ := hB
  rw [ht] at hP1
  obtain ⟨hP, hD⟩ := xjoin (W := [(a0, .inr (5, [.int 1, v5, v6, v7, v8, v9, v10, v11, v12, v13, v14, v15, v16, v17, v18, v19, v20, v21, v22, v23, v24, v25, v26, v27, v28, v29, v30, v31, v32, v33, v34, v35]))]) hP hD [0] [] 0 rfl rfl (by decide) (by decide) hk1 hFc hP1 hD1
  generalize H1 = H at hP hS ⊢
  rw [hr9]
  refine W.eq (g2 := F0 m 19 ls [.int 0]) rfl ?_
  obtain ⟨hP9, hD9⟩ := xsub (wc := [(a0, .inr (5, [.int 1, v5, v6, v7, v8, v9, v10, v11, v12, v13, v14, v15, v16, v17, v18, v19, v20, v21, v22, v23, v24, v25, v26, v27, v28, v29, v30, v31, v32, v33, v34, v35]))]) hP hD [0] rfl rfl (by decide)
  refine W.widen (k := 0) (n := 0) (Nat.le_of_ble_eq_true rfl) (Nat.le_of_ble_eq_true rfl) ?_
  exact W.iret (v := 0) hx hb hr (fun t ht hW => ⟨⟨0, (), rfl, rfl, by rw [ht]; exact hP9, va_K.moved hW.alike hK, hD9⟩, hS.F ht⟩) hS.2.2 dM_count_19
set_option maxHeartbeats 4000000 in
set_option maxRecDepth 100000 in
theorem cM_word_0 (l : Launch) (hl9 : l.stackTraces = false) (D : va_G) (cT : Nat → ClassId) (aK aV : Nat → Nat) (sz : Nat) (a0 : Nat) (x1 : Int32) (v3 : Value) (v4 : Value) (v5 : Value) (v6 : Value) (v7 : Value) (v8 : Value) (v9 : Value) (v10 : Value) (v11 : Value) (v12 : Value) (v13 : Value) (v14 : Value) (v15 : Value) (v16 : Value) (v17 : Value) (v18 : Value) (v19 : Value) (v20 : Value) (v21 : Value) (v22 : Value) (v23 : Value) (v24 : Value) (v25 : Value) (v26 : Value) (v27 : Value) (v28 : Value) (v29 : Value) (v30 : Value) (v31 : Value) (v32 : Value) (v33 : Value) (v34 : Value) (h2 : x1 < 0) : xMet l yM_word wyM_word 1 0 0 21 D cT aK aV sz [.ref a0, .int x1] [(a0, .inr (5, [v3, v4, v5, v6, v7, v8, v9, v10, v11, v12, v13, v14, v15, v16, v17, v18, v19, v20, v21, v22, v23, v24, v25, v26, v27, v28, v29, v30, v31, v32, v33, v34]))] (fun A => va_Ql (fun (r : Int64) (_ : Unit) => r = 0) (fun _ t => xB D xcl cT A [(a0, .inr (5, [.int 1, v4, v5, v6, v7, v8, v9, v10, v11, v12, v13, v14, v15, v16, v17, v18, v19, v20, v21, v22, v23, v24, v25, v26, v27, v28, v29, v30, v31, v32, v33, v34]))] t) A) := by
  refine Met.ofW (cc := prog_13_method_87_code) (maxL := 5) (ret := (some .long)) (by decide) rfl ?_
  intro p e s m args below meth c s₁ B hml hv
  obtain ⟨rfl, hsz, hZ, hP, hK, hD0⟩ := hv
  have hx := B.exec
  have hb := B.bytes
  have hr := B.returns
  have hts := atoms_spec (ws := wyM_word) B.pre
  have htx := fun w h => hts w (List.mem_cons_of_mem _ h)
  have hown : s.vm.findClass "ValueBenchModel" = some m.cls := findClass_of_methodNamed B.named
  have hlocks := B.notSynchronized
  subst hsz
  have hD := hD0.self (sz := s.heap.size)
  generalize hAe : va_A [(a0, .inr (5, [v3, v4, v5, v6, v7, v8, v9, v10, v11, v12, v13, v14, v15, v16, v17, v18, v19, v20, v21, v22, v23, v24, v25, v26, v27, v28, v29, v30, v31, v32, v33, v34]))] s.heap.size = A at hD hZ ⊢
  have hA : ∀ q : Nat, s.heap.size ≤ q → A q := fun q h => by rw [← hAe]; exact Or.inr h
  have hS : va_S A s.heap s.heap [] := va_S.rf
  have hP : va_P D xcl [(a0, .inr (5, [v3, v4, v5, v6, v7, v8, v9, v10, v11, v12, v13, v14, v15, v16, v17, v18, v19, v20, v21, v22, v23, v24, v25, v26, v27, v28, v29, v30, v31, v32, v33, v34]))] s.heap := hP
  have hl := lv_entry ([.ref a0, .int x1]) (n := 5) (Nat.le_of_ble_eq_true rfl)
  rw [lg_entry_eq]
  generalize (lg_sl ([.ref a0, .int x1]) ++ List.replicate (5 - (lg_sl ([.ref a0, .int x1])).length) Slot.unset).toArray = ls at hl ⊢
  have hl : lv_has ls 5 [(0, .ref a0), (1, .int x1)] := hl
  refine lv_aload_n hx hb dM_word_0 rfl (lv_at hl 0 rfl) ?_
  refine lv_iconst (v := 0) hx hb dM_word_1 (by decide) ?_
  refine va_put (D := D) (ci := 5) (v := .int 0) (ty := .int) (C := "ValueBenchModel") (T := TM) (N := 32) hx hb htx inM tyM tyM_ok nmM hown hK hP hD hS 0 rfl rfl 0 (by decide) (htx _ kw_5_87) (fun _ h9 => h9) rfl (by decide +kernel) rfl rfl (Nat.le_of_ble_eq_true rfl) dM_word_2 (fun H locs hP hD hS => ?_)
  obtain ⟨hP, hD⟩ : xPD D xcl A [(a0, .inr (5, [.int 0, v4, v5, v6, v7, v8, v9, v10, v11, v12, v13, v14, v15, v16, v17, v18, v19, v20, v21, v22, v23, v24, v25, v26, v27, v28, v29, v30, v31, v32, v33, v34]))] H := ⟨hP, hD⟩
  refine lv_iload_n hx hb dM_word_5 rfl (lv_at hl 1 rfl) ?_
  refine lv_if_lt (tgt := 17) hx hb dM_word_6 (by decide) (fun _ => ?_) (fun h => by first | exact absurd h h2 | exact absurd h2 h)
  refine lv_aload_n hx hb dM_word_17 rfl (lv_at hl 0 rfl) ?_
  refine lv_iconst (v := 1) hx hb dM_word_18 (by decide) ?_
  obtain ⟨hPc, hDc, hFc⟩ := xcut (wc := [(a0, .inr (5, [.int 0, v4, v5, v6, v7, v8, v9, v10, v11, v12, v13, v14, v15, v16, v17, v18, v19, v20, v21, v22, v23, v24, v25, v26, v27, v28, v29, v30, v31, v32, v33, v34]))]) hP hD hS hA [0] rfl rfl (by decide)
  refine va_calli (va_runV (C := "ValueBenchModel") (As := [.int 1]) (rest := []) ⟨hx, hb, hml, hown, htx⟩ (cM_fail_0 l hl9 D cT aK aV H.size a0 (.int 0) v4 v5 v6 v7 v8 v9 v10 v11 v12 v13 v14 v15 v16 v17 v18 v19 v20 v21 v22 v23 v24 v25 v26 v27 v28 v29 v30 v31 v32 v33 v34) ⟨callB_of 1 htx (xw_goodC kw_5_195) rfl rfl rfl (htx _ kw_1_5) (htx _ kw_5_192) ⟨by decide, by decide, by decide +kernel⟩ ⟨Nat.le_of_ble_eq_true rfl, Nat.le_of_ble_eq_true rfl⟩, (htx _ kw_5_194), (htx _ kp_M_fail)⟩ ⟨xPre_blind, va_recv hK hP (ci := 5) rfl (q0 := 0) rfl, (fun U hU hW => ⟨rfl, xPre_of hZ hS hFc hPc hDc hK U hU hW⟩)⟩ rfl rfl hl.1 rfl (lv_room (Nat.le_of_ble_eq_true rfl)) dM_word_19 ⟨Nat.le_of_ble_eq_true rfl, Nat.le_of_ble_eq_true rfl⟩) hS (fun q _ h => hFc q h) hFc (fun r1 u9 t H1 locs ht hvm hr9 hB hz1 hk1 hS => ?_)
  obtain ⟨hP1, hK1, hD1⟩ := hB
  rw [ht] at hP1
  obtain ⟨hP, hD⟩ := xjoin (W := [(a0, .inr (5, [.int 1, v4, v5, v6, v7, v8, v9, v10, v11, v12, v13, v14, v15, v16, v17, v18, v19, v20, v21, v22, v23, v24, v25, v26, v27, v28, v29, v30, v31, v32, v33, v34]))]) hP hD [0] [] 0 rfl rfl (by decide) (by decide) hk1 hFc hP1 hD1
  generalize H1 = H at hP hS ⊢
  rw [hr9]
  refine W.eq (g2 := F0 m 22 ls [.int 0]) rfl ?_
  refine lv_i2l hx hb dM_word_22 rfl ?_
  refine W.eq (g2 := F0 m 23 ls [.long 0]) rfl ?_
  obtain ⟨hP9, hD9⟩ := xsub (wc := [(a0, .inr (5, [.int 1, v4, v5, v6, v7, v8, v9, v10, v11, v12, v13, v14, v15, v16, v17, v18, v19, v20, v21, v22, v23, v24, v25, v26, v27, v28, v29, v30, v31, v32, v33, v34]))]) hP hD [0] rfl rfl (by decide)
  refine W.widen (k := 0) (n := 0) (Nat.le_of_ble_eq_true rfl) (Nat.le_of_ble_eq_true rfl) ?_
  exact W.lret (v := 0) hx hb hr (fun t ht hW => ⟨⟨0, (), rfl, rfl, by rw [ht]; exact hP9, va_K.moved hW.alike hK, hD9⟩, hS.F ht⟩) hS.2.2 dM_word_23
set_option maxHeartbeats 4000000 in
set_option maxRecDepth 100000 in
theorem cM_word_1 (l : Launch) (hl9 : l.stackTraces = false) (D : va_G) (cT : Nat → ClassId) (aK aV : Nat → Nat) (sz : Nat) (a0 : Nat) (x1 : Int32) (v4 : Value) (v5 : Value) (v6 : Value) (v7 : Value) (v8 : Value) (v9 : Value) (v10 : Value) (v11 : Value) (v12 : Value) (v13 : Value) (v14 : Value) (v15 : Value) (v16 : Value) (v17 : Value) (v18 : Value) (v19 : Value) (v20 : Value) (v21 : Value) (v22 : Value) (v23 : Value) (v24 : Value) (v25 : Value) (v26 : Value) (v27 : Value) (v28 : Value) (v29 : Value) (v30 : Value) (v31 : Value) (v32 : Value) (v33 : Value) (v34 : Value) (h2 : ¬ x1 < 0) (h3 : 0 ≤ x1) : xMet l yM_word wyM_word 1 0 0 21 D cT aK aV sz [.ref a0, .int x1] [(a0, .inr (5, [v4, v5, v6, v7, v8, v9, v10, v11, v12, v13, v14, v15, v16, v17, v18, v19, v20, v21, v22, v23, v24, v25, v26, v27, v28, v29, v30, v31, v32, .int 0, v33, v34]))] (fun A => va_Ql (fun (r : Int64) (_ : Unit) => r = 0) (fun _ t => xB D xcl cT A [(a0, .inr (5, [.int 1, v5, v6, v7, v8, v9, v10, v11, v12, v13, v14, v15, v16, v17, v18, v19, v20, v21, v22, v23, v24, v25, v26, v27, v28, v29, v30, v31, v32, .int 0, v33, v34]))] t) A) := by
  refine Met.ofW (cc := prog_13_method_87_code) (maxL := 5) (ret := (some .long)) (by decide) rfl ?_
  intro p e s m args below meth c s₁ B hml hv
  obtain ⟨rfl, hsz, hZ, hP, hK, hD0⟩ := hv
  have hx := B.exec
  have hb := B.bytes
  have hr := B.returns
  have hts := atoms_spec (ws := wyM_word) B.pre
  have htx := fun w h => hts w (List.mem_cons_of_mem _ h)
  have hown : s.vm.findClass "ValueBenchModel" = some m.cls := findClass_of_methodNamed B.named
  have hlocks := B.notSynchronized
  subst hsz
  have hD := hD0.self (sz := s.heap.size)
  generalize hAe : va_A [(a0, .inr (5, [v4, v5, v6, v7, v8, v9, v10, v11, v12, v13, v14, v15, v16, v17, v18, v19, v20, v21, v22, v23, v24, v25, v26, v27, v28, v29, v30, v31, v32, .int 0, v33, v34]))] s.heap.size = A at hD hZ ⊢
  have hA : ∀ q : Nat, s.heap.size ≤ q → A q := fun q h => by rw [← hAe]; exact Or.inr h
  have hS : va_S A s.heap s.heap [] := va_S.rf
  have hP : va_P D xcl [(a0, .inr (5, [v4, v5, v6, v7, v8, v9, v10, v11, v12, v13, v14, v15, v16, v17, v18, v19, v20, v21, v22, v23, v24, v25, v26, v27, v28, v29, v30, v31, v32, .int 0, v33, v34]))] s.heap := hP
  have hl := lv_entry ([.ref a0, .int x1]) (n := 5) (Nat.le_of_ble_eq_true rfl)
  rw [lg_entry_eq]
  generalize (lg_sl ([.ref a0, .int x1]) ++ List.replicate (5 - (lg_sl ([.ref a0, .int x1])).length) Slot.unset).toArray = ls at hl ⊢
  have hl : lv_has ls 5 [(0, .ref a0), (1, .int x1)] := hl
  refine lv_aload_n hx hb dM_word_0 rfl (lv_at hl 0 rfl) ?_
  refine lv_iconst (v := 0) hx hb dM_word_1 (by decide) ?_
  refine va_put (D := D) (ci := 5) (v := .int 0) (ty := .int) (C := "ValueBenchModel") (T := TM) (N := 32) hx hb htx inM tyM tyM_ok nmM hown hK hP hD hS 0 rfl rfl 0 (by decide) (htx _ kw_5_87) (fun _ h9 => h9) rfl (by decide +kernel) rfl rfl (Nat.le_of_ble_eq_true rfl) dM_word_2 (fun H locs hP hD hS => ?_)
  obtain ⟨hP, hD⟩ : xPD D xcl A [(a0, .inr (5, [.int 0, v5, v6, v7, v8, v9, v10, v11, v12, v13, v14, v15, v16, v17, v18, v19, v20, v21, v22, v23, v24, v25, v26, v27, v28, v29, v30, v31, v32, .int 0, v33, v34]))] H := ⟨hP, hD⟩
  refine lv_iload_n hx hb dM_word_5 rfl (lv_at hl 1 rfl) ?_
  refine lv_if_lt (tgt := 17) hx hb dM_word_6 (by decide) (fun h => by first | exact absurd h h2 | exact absurd h h3 | exact absurd h2 h | exact absurd h3 h) (fun _ => ?_)
  refine lv_iload_n hx hb dM_word_9 rfl (lv_at hl 1 rfl) ?_
  refine lv_aload_n hx hb dM_word_10 rfl (lv_at hl 0 rfl) ?_
  refine va_get (D := D) (ci := 5) (v := .int 0) (C := "ValueBenchModel") (T := TM) (N := 32) hx hb htx inM hown hK hP 0 rfl rfl 29 (by decide) (htx _ kw_5_116) (fun _ h9 => h9) rfl dM_word_11 ?_
  refine lv_icmp_lt (tgt := 24) hx hb dM_word_14 (by decide) (fun h => by first | exact absurd h h2 | exact absurd h h3 | exact absurd h2 h | exact absurd h3 h) (fun _ => ?_)
  refine lv_aload_n hx hb dM_word_17 rfl (lv_at hl 0 rfl) ?_
  refine lv_iconst (v := 1) hx hb dM_word_18 (by decide) ?_
  obtain ⟨hPc, hDc, hFc⟩ := xcut (wc := [(a0, .inr (5, [.int 0, v5, v6, v7, v8, v9, v10, v11, v12, v13, v14, v15, v16, v17, v18, v19, v20, v21, v22, v23, v24, v25, v26, v27, v28, v29, v30, v31, v32, .int 0, v33, v34]))]) hP hD hS hA [0] rfl rfl (by decide)
  refine va_calli (va_runV (C := "ValueBenchModel") (As := [.int 1]) (rest := []) ⟨hx, hb, hml, hown, htx⟩ (cM_fail_0 l hl9 D cT aK aV H.size a0 (.int 0) v5 v6 v7 v8 v9 v10 v11 v12 v13 v14 v15 v16 v17 v18 v19 v20 v21 v22 v23 v24 v25 v26 v27 v28 v29 v30 v31 v32 (.int 0) v33 v34) ⟨callB_of 1 htx (xw_goodC kw_5_195) rfl rfl rfl (htx _ kw_1_5) (htx _ kw_5_192) ⟨by decide, by decide, by decide +kernel⟩ ⟨Nat.le_of_ble_eq_true rfl, Nat.le_of_ble_eq_true rfl⟩, (htx _ kw_5_194), (htx _ kp_M_fail)⟩ ⟨xPre_blind, va_recv hK hP (ci := 5) rfl (q0 := 0) rfl, (fun U hU hW => ⟨rfl, xPre_of hZ hS hFc hPc hDc hK U hU hW⟩)⟩ rfl rfl hl.1 rfl (lv_room (Nat.le_of_ble_eq_true rfl)) dM_word_19 ⟨Nat.le_of_ble_eq_true rfl, Nat.le_of_ble_eq_true rfl⟩) hS (fun q _ h => hFc q h) hFc (fun r1 u9 t H1 locs ht hvm hr9 hB hz1 hk1 hS => ?_)
  obtain ⟨hP1, hK1, hD1⟩ := hB
  rw [ht] at hP1
  obtain ⟨hP, hD⟩ := xjoin (W := [(a0, .inr (5, [.int 1, v5, v6, v7, v8, v9, v10, v11, v12, v13, v14, v15, v16, v17, v18, v19, v20, v21, v22, v23, v24, v25, v26, v27, v28, v29, v30, v31, v32, .int 0, v33, v34]))]) hP hD [0] [] 0 rfl rfl (by decide) (by decide) hk1 hFc hP1 hD1
  generalize H1 = H at hP hS ⊢
  rw [hr9]
  refine W.eq (g2 := F0 m 22 ls [.int 0]) rfl ?_
  refine lv_i2l hx hb dM_word_22 rfl ?_
  refine W.eq (g2 := F0 m 23 ls [.long 0]) rfl ?_
  obtain ⟨hP9, hD9⟩ := xsub (wc := [(a0, .inr (5, [.int 1, v5, v6, v7, v8, v9, v10, v11, v12, v13, v14, v15, v16, v17, v18, v19, v20, v21, v22, v23, v24, v25, v26, v27, v28, v29, v30, v31, v32, .int 0, v33, v34]))]) hP hD [0] rfl rfl (by decide)
  refine W.widen (k := 0) (n := 0) (Nat.le_of_ble_eq_true rfl) (Nat.le_of_ble_eq_true rfl) ?_
  exact W.lret (v := 0) hx hb hr (fun t ht hW => ⟨⟨0, (), rfl, rfl, by rw [ht]; exact hP9, va_K.moved hW.alike hK, hD9⟩, hS.F ht⟩) hS.2.2 dM_word_23
