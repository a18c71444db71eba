set_option maxHeartbeats 400000000 in
set_option maxRecDepth 100000 in
theorem cM_finish_64 (l : Launch) (hl9 : l.stackTraces = false) (D : va_G) (cT : Nat → ClassId) (aK aV : Nat → Nat) (sz : Nat) (a0 : Nat) (a1 : Nat) (a2 : Nat) (a3 : Nat) (a4 : Nat) (a5 : Nat) (a6 : Nat) (x7 : Int32) (x12 : Int32) (x17 : Int32) (v22 : Value) (v23 : Value) (v24 : Value) (v25 : Value) (v26 : Value) (v27 : Value) (v28 : Value) (v29 : Value) (v30 : Value) (v31 : Value) (v32 : Value) (v33 : Value) (v34 : Value) (v35 : Value) (v36 : Value) (v37 : Value) (v38 : Value) (v39 : Value) (v40 : Value) (v41 : Value) (v42 : Value) (v43 : Value) (v44 : Value) (v45 : Value) (v46 : Value) (v47 : Value) (v48 : Value) (f49 : Nat → Option Nat) (f53 : Nat → Int32) (f56 : Nat → Int32) (f61 : Nat → Option Nat) (f64 : Nat → Int32) (f69 : Nat → Int32) (h8 : ¬ x7 < 0) (h9 : ¬ 7 < x7) (h10 : x7 ≤ 7) (h11 : vp_in x7 8) (h13 : ¬ x12 < 0) (h14 : ¬ 7 < x12) (h15 : x12 ≤ 7) (h16 : vp_in x12 8) (h18 : ¬ x17 < 0) (h19 : ¬ 7 < x17) (h20 : x17 ≤ 7) (h21 : vp_in x17 8) (h50 : f49 x12.toNatClampNeg = some a3) (h51 : f49 x17.toNatClampNeg = some a5) (h52 : f49 x7.toNatClampNeg = some a3) (h54 : f53 x12.toNatClampNeg = 4) (h55 : f53 x17.toNatClampNeg = 4) (h57 : f56 0 = 110) (h58 : f56 1 = 117) (h59 : f56 2 = 108) (h60 : f56 3 = 108) (h62 : f61 0 = none) (h63 : f61 1 = none) (h65 : f64 0 = 110) (h66 : f64 1 = 117) (h67 : f64 2 = 108) (h68 : f64 3 = 108) : xMet l yM_finish wyM_finish 8 2 12 175 D cT aK aV sz [.ref a0, .int x7, .int 2, .int 9, .int x12, .int x17] [(a0, .inr (5, [v22, .ref a4, .int 0, v23, v24, v25, v26, v27, v28, v29, v30, v31, v32, v33, v34, v35, v36, v37, v38, v39, v40, .ref a6, v41, v42, .ref a1, .ref a2, v43, v44, v45, v46, v47, v48])), (a1, .inl (cT 5, 8, .inr (.inr (.inr (.inr f49))))), (a2, .inl (cT 1, 8, .inl f53)), (a3, .inl (cT 0, 4096, .inl f56)), (a4, .inl (cT 4, 1024, .inr (.inr (.inr (.inr f61))))), (a5, .inl (cT 0, 4096, .inl f64)), (a6, .inl (cT 0, 1024, .inl f69))] (fun A => va_Qv (fun _ : Unit => True) (fun _ t => ∃ (r1 : Nat) (r2 : Nat) (y5 : Int32) (y6 : Int32) (y7 : Int32) (y8 : Int32), xB D xcl cT A [(a0, .inr (5, [v22, .ref a4, .int 2, v23, v24, v25, v26, v27, v28, v29, v30, v31, v32, v33, v34, .ref a5, .int 4, .int 4, .int 0, .int 100, v40, .ref a6, .int 4, .int 4096, .ref a1, .ref a2, v43, v44, v45, v46, v47, v48])), (a1, .inl (cT 5, 8, .inr (.inr (.inr (.inr f49))))), (a2, .inl (cT 1, 8, .inl (upd f53 x7.toNatClampNeg 4))), (a3, .inl (cT 0, 4096, .inl (upd (upd (upd (upd f56 0 (vp_nar .byte (vp_nar .byte y5))) 1 (vp_nar .byte (vp_nar .byte y6))) 2 (vp_nar .byte (vp_nar .byte y7))) 3 (vp_nar .byte (vp_nar .byte y8))))), (a4, .inl (cT 4, 1024, .inr (.inr (.inr (.inr (va_up (va_up f61 0 (some r1)) 1 (some r2))))))), (a5, .inl (cT 0, 4096, .inl f64)), (a6, .inl (cT 0, 1024, .inl (upd (upd (upd (upd f69 0 (vp_nar .byte y5)) 1 (vp_nar .byte y6)) 2 (vp_nar .byte y7)) 3 (vp_nar .byte y8)))), (r1, .inr (6, [.int 0, .long 0, .int 0, .int 0, .int 0, .int 1])), (r2, .inr (6, [.int 0, .long 0, .int 0, .int 0, .int 0, .int 1]))] t) A) := by
  refine va_MetW (cc := prog_13_method_90_code) (maxL := 10) (ret := none) (hh := [(0, 128, 131, 83), (0, 128, 149, 86)]) (by decide) rfl ?_
  intro p e s m args below meth c s₁ B hml hv
  obtain ⟨rfl, hsz, hZ, hP, hK, hD0⟩ := hv
  have hx := B.exec
  have hb := B.bytes
  have hr := B.returns
  have hts := atoms_spec (ws := wyM_finish) B.pre
  have htx := fun w h => hts w (List.mem_cons_of_mem _ h)
  have hown : s.vm.findClass "ValueBenchModel" = some m.cls := findClass_of_methodNamed B.named
  have hlocks := B.notSynchronized
  subst hsz
  have hD := hD0.self (sz := s.heap.size)
  generalize hAe : va_A [(a0, .inr (5, [v22, .ref a4, .int 0, v23, v24, v25, v26, v27, v28, v29, v30, v31, v32, v33, v34, v35, v36, v37, v38, v39, v40, .ref a6, v41, v42, .ref a1, .ref a2, v43, v44, v45, v46, v47, v48])), (a1, .inl (cT 5, 8, .inr (.inr (.inr (.inr f49))))), (a2, .inl (cT 1, 8, .inl f53)), (a3, .inl (cT 0, 4096, .inl f56)), (a4, .inl (cT 4, 1024, .inr (.inr (.inr (.inr f61))))), (a5, .inl (cT 0, 4096, .inl f64)), (a6, .inl (cT 0, 1024, .inl f69))] s.heap.size = A at hD hZ ⊢
  have hA : ∀ q : Nat, s.heap.size ≤ q → A q := fun q h => by rw [← hAe]; exact Or.inr h
  have hS : va_S A s.heap s.heap [] := va_S.rf
  have hP : va_P D xcl [(a0, .inr (5, [v22, .ref a4, .int 0, v23, v24, v25, v26, v27, v28, v29, v30, v31, v32, v33, v34, v35, v36, v37, v38, v39, v40, .ref a6, v41, v42, .ref a1, .ref a2, v43, v44, v45, v46, v47, v48])), (a1, .inl (cT 5, 8, .inr (.inr (.inr (.inr f49))))), (a2, .inl (cT 1, 8, .inl f53)), (a3, .inl (cT 0, 4096, .inl f56)), (a4, .inl (cT 4, 1024, .inr (.inr (.inr (.inr f61))))), (a5, .inl (cT 0, 4096, .inl f64)), (a6, .inl (cT 0, 1024, .inl f69))] s.heap := hP
  have hl := lv_entry ([.ref a0, .int x7, .int 2, .int 9, .int x12, .int x17]) (n := 10) (Nat.le_of_ble_eq_true rfl)
  rw [lg_entry_eq]
  generalize (lg_sl ([.ref a0, .int x7, .int 2, .int 9, .int x12, .int x17]) ++ List.replicate (10 - (lg_sl ([.ref a0, .int x7, .int 2, .int 9, .int x12, .int x17])).length) Slot.unset).toArray = ls at hl ⊢
  have hl : lv_has ls 10 [(0, .ref a0), (1, .int x7), (2, .int 2), (3, .int 9), (4, .int x12), (5, .int x17)] := hl
  have htab := vx_table (x := yM_finish) B (hts _ List.mem_cons_self)
  refine lv_aload_n hx hb dM_finish_0 rfl (lv_at hl 0 rfl) ?_
  refine lv_iload hx hb dM_finish_1 (lv_at hl 4 rfl) ?_
  obtain ⟨hPc, hDc, hFc⟩ := xcut (wc := [(a0, .inr (5, [v22, .ref a4, .int 0, v23, v24, v25, v26, v27, v28, v29, v30, v31, v32, v33, v34, v35, v36, v37, v38, v39, v40, .ref a6, v41, v42, .ref a1, .ref a2, v43, v44, v45, v46, v47, v48])), (a1, .inl (cT 5, 8, .inr (.inr (.inr (.inr f49))))), (a2, .inl (cT 1, 8, .inl f53)), (a3, .inl (cT 0, 4096, .inl f56)), (a4, .inl (cT 4, 1024, .inr (.inr (.inr (.inr f61)))))]) hP hD hS hA [0, 1, 2, 3, 4] rfl rfl (by decide)
  refine va_callr (va_runV (C := "ValueBenchModel") (As := [.int x12]) (rest := []) ⟨hx, hb, hml, hown, htx⟩ (cM_register_0 l hl9 D cT aK aV s.heap.size a0 a1 a2 a3 a4 x12 v22 v23 v24 v25 v26 v27 v28 v29 v30 v31 v32 v33 v34 v35 v36 v37 v38 v39 v40 (.ref a6) v41 v42 v43 v44 v45 v46 v47 v48 f49 f53 f56 f61 h13 h14 h15 h16 (by first | rfl | exact h50 | exact h51 | exact h52 | exact h54 | exact h55 | exact h57 | exact h58 | exact h59 | exact h60 | exact h62 | exact h63 | exact h65 | exact h66 | exact h67 | exact h68) (by first | rfl | exact h50 | exact h51 | exact h52 | exact h54 | exact h55 | exact h57 | exact h58 | exact h59 | exact h60 | exact h62 | exact h63 | exact h65 | exact h66 | exact h67 | exact h68) (by first | rfl | exact h50 | exact h51 | exact h52 | exact h54 | exact h55 | exact h57 | exact h58 | exact h59 | exact h60 | exact h62 | exact h63 | exact h65 | exact h66 | exact h67 | exact h68) (by first | rfl | exact h50 | exact h51 | exact h52 | exact h54 | exact h55 | exact h57 | exact h58 | exact h59 | exact h60 | exact h62 | exact h63 | exact h65 | exact h66 | exact h67 | exact h68) (by first | rfl | exact h50 | exact h51 | exact h52 | exact h54 | exact h55 | exact h57 | exact h58 | exact h59 | exact h60 | exact h62 | exact h63 | exact h65 | exact h66 | exact h67 | exact h68) (by first | rfl | exact h50 | exact h51 | exact h52 | exact h54 | exact h55 | exact h57 | exact h58 | exact h59 | exact h60 | exact h62 | exact h63 | exact h65 | exact h66 | exact h67 | exact h68) (by first | rfl | exact h50 | exact h51 | exact h52 | exact h54 | exact h55 | exact h57 | exact h58 | exact h59 | exact h60 | exact h62 | exact h63 | exact h65 | exact h66 | exact h67 | exact h68)) ⟨callB_of 1 htx (xw_goodC kw_6_170) rfl rfl rfl (htx _ kw_1_5) (htx _ kw_6_167) ⟨by decide, by decide, by decide +kernel⟩ ⟨Nat.le_of_ble_eq_true rfl, Nat.le_of_ble_eq_true rfl⟩, (htx _ kw_6_169), (htx _ kp_M_register)⟩ ⟨xPre_blind, va_recv hK hP (ci := 5) rfl (q0 := 0) rfl, (fun U hU hW => ⟨rfl, xPre_of hZ hS hFc hPc hDc hK U hU hW⟩)⟩ rfl rfl hl.1 rfl (lv_room (Nat.le_of_ble_eq_true rfl)) dM_finish_3 ⟨Nat.le_of_ble_eq_true rfl, Nat.le_of_ble_eq_true rfl⟩) hS (fun q _ h => hFc q h) hFc (fun u9 r1 t H1 locs ht hvm hr9 hB hz1 hk1 hS => ?_)
  obtain ⟨hP1, hK1, hD1⟩ := hB
  rw [ht] at hP1
  obtain ⟨hP, hD⟩ := xjoin (W := [(a5, .inl (cT 0, 4096, .inl f64)), (a6, .inl (cT 0, 1024, .inl f69)), (a0, .inr (5, [v22, .ref a4, .int 1, v23, v24, v25, v26, v27, v28, v29, v30, v31, v32, v33, v34, .ref a3, .int 4, .int 4, .int 0, .int 100, v40, .ref a6, v41, v42, .ref a1, .ref a2, v43, v44, v45, v46, v47, v48])), (a1, .inl (cT 5, 8, .inr (.inr (.inr (.inr f49))))), (a2, .inl (cT 1, 8, .inl f53)), (a3, .inl (cT 0, 4096, .inl f56)), (a4, .inl (cT 4, 1024, .inr (.inr (.inr (.inr (va_up f61 0 (some r1))))))), (r1, .inr (6, [.int 0, .long 0, .int 0, .int 0, .int 0, .int 1]))]) hP hD [0, 1, 2, 3, 4] [5, 6] 2 rfl rfl (by decide) (by decide) hk1 hFc hP1 hD1
  generalize H1 = H at hP hS ⊢
  refine W.eq (g2 := F0 m 6 ls [.ref r1]) rfl ?_
  refine lv_astore (lv' := [(6, .ref r1), (0, .ref a0), (1, .int x7), (2, .int 2), (3, .int 9), (4, .int x12), (5, .int x17)]) hx hb dM_finish_6 hl (by decide) rfl (fun ls hl => ?_)
  refine lv_iload_n hx hb dM_finish_8 rfl (lv_at hl 3 rfl) ?_
  refine lv_iconst (v := 1) hx hb dM_finish_9 (by decide) ?_
  refine lv_icmp_ne (tgt := 17) hx hb dM_finish_10 (by decide) (fun _ => ?_) (fun h => ((by revert h; decide : False)).elim)
  refine lv_aload_n hx hb dM_finish_17 rfl (lv_at hl 1 rfl) ?_
  refine lv_iload hx hb dM_finish_18 (lv_at hl 6 rfl) ?_
  obtain ⟨hPc, hDc, hFc⟩ := xcut (wc := [(a0, .inr (5, [v22, .ref a4, .int 1, v23, v24, v25, v26, v27, v28, v29, v30, v31, v32, v33, v34, .ref a3, .int 4, .int 4, .int 0, .int 100, v40, .ref a6, v41, v42, .ref a1, .ref a2, v43, v44, v45, v46, v47, v48])), (a1, .inl (cT 5, 8, .inr (.inr (.inr (.inr f49))))), (a2, .inl (cT 1, 8, .inl f53)), (a5, .inl (cT 0, 4096, .inl f64)), (a4, .inl (cT 4, 1024, .inr (.inr (.inr (.inr (va_up f61 0 (some r1)))))))]) hP hD hS hA [2, 3, 4, 0, 6] rfl rfl (by decide)
  refine va_callr (va_runV (C := "ValueBenchModel") (As := [.int x17]) (rest := []) ⟨hx, hb, hml, hown, htx⟩ (cM_register_1 l hl9 D cT aK aV H.size a0 a1 a2 a5 a4 x17 v22 v23 v24 v25 v26 v27 v28 v29 v30 v31 v32 v33 v34 (.ref a3) (.int 4) (.int 4) (.int 0) (.int 100) v40 (.ref a6) v41 v42 v43 v44 v45 v46 v47 v48 f49 f53 f64 (va_up f61 0 (some r1)) h18 h19 h20 h21 (by first | rfl | exact h50 | exact h51 | exact h52 | exact h54 | exact h55 | exact h57 | exact h58 | exact h59 | exact h60 | exact h63 | exact h65 | exact h66 | exact h67 | exact h68) (by first | rfl | exact h50 | exact h51 | exact h52 | exact h54 | exact h55 | exact h57 | exact h58 | exact h59 | exact h60 | exact h63 | exact h65 | exact h66 | exact h67 | exact h68) (by first | rfl | exact h50 | exact h51 | exact h52 | exact h54 | exact h55 | exact h57 | exact h58 | exact h59 | exact h60 | exact h63 | exact h65 | exact h66 | exact h67 | exact h68) (by first | rfl | exact h50 | exact h51 | exact h52 | exact h54 | exact h55 | exact h57 | exact h58 | exact h59 | exact h60 | exact h63 | exact h65 | exact h66 | exact h67 | exact h68) (by first | rfl | exact h50 | exact h51 | exact h52 | exact h54 | exact h55 | exact h57 | exact h58 | exact h59 | exact h60 | exact h63 | exact h65 | exact h66 | exact h67 | exact h68) (by first | rfl | exact h50 | exact h51 | exact h52 | exact h54 | exact h55 | exact h57 | exact h58 | exact h59 | exact h60 | exact h63 | exact h65 | exact h66 | exact h67 | exact h68) (by first | rfl | exact h50 | exact h51 | exact h52 | exact h54 | exact h55 | exact h57 | exact h58 | exact h59 | exact h60 | exact h63 | exact h65 | exact h66 | exact h67 | exact h68)) ⟨callB_of 1 htx (xw_goodC kw_6_170) rfl rfl rfl (htx _ kw_1_5) (htx _ kw_6_167) ⟨by decide, by decide, by decide +kernel⟩ ⟨Nat.le_of_ble_eq_true rfl, Nat.le_of_ble_eq_true rfl⟩, (htx _ kw_6_169), (htx _ kp_M_register)⟩ ⟨xPre_blind, va_recv hK hP (ci := 5) rfl (q0 := 2) rfl, (fun U hU hW => ⟨rfl, xPre_of hZ hS hFc hPc hDc hK U hU hW⟩)⟩ rfl rfl hl.1 rfl (lv_room (Nat.le_of_ble_eq_true rfl)) dM_finish_20 ⟨Nat.le_of_ble_eq_true rfl, Nat.le_of_ble_eq_true rfl⟩) hS (fun q _ h => hFc q h) hFc (fun u9 r2 t H1 locs ht hvm hr9 hB hz1 hk1 hS => ?_)
  obtain ⟨hP1, hK1, hD1⟩ := hB
  rw [ht] at hP1
  obtain ⟨hP, hD⟩ := xjoin (W := [(a6, .inl (cT 0, 1024, .inl f69)), (a3, .inl (cT 0, 4096, .inl f56)), (r1, .inr (6, [.int 0, .long 0, .int 0, .int 0, .int 0, .int 1])), (a0, .inr (5, [v22, .ref a4, .int 2, v23, v24, v25, v26, v27, v28, v29, v30, v31, v32, v33, v34, .ref a5, .int 4, .int 4, .int 0, .int 100, v40, .ref a6, v41, v42, .ref a1, .ref a2, v43, v44, v45, v46, v47, v48])), (a1, .inl (cT 5, 8, .inr (.inr (.inr (.inr f49))))), (a2, .inl (cT 1, 8, .inl f53)), (a5, .inl (cT 0, 4096, .inl f64)), (a4, .inl (cT 4, 1024, .inr (.inr (.inr (.inr (va_up (va_up f61 0 (some r1)) 1 (some r2))))))), (r2, .inr (6, [.int 0, .long 0, .int 0, .int 0, .int 0, .int 1]))]) hP hD [2, 3, 4, 0, 6] [1, 5, 7] 3 rfl rfl (by decide) (by decide) hk1 hFc hP1 hD1
  generalize H1 = H at hP hS ⊢
  refine W.eq (g2 := F0 m 23 ls [.ref r2]) rfl ?_
  refine lv_astore (lv' := [(7, .ref r2), (6, .ref r1), (0, .ref a0), (1, .int x7), (2, .int 2), (3, .int 9), (4, .int x12), (5, .int x17)]) hx hb dM_finish_23 hl (by decide) rfl (fun ls hl => ?_)
  refine lv_iload_n hx hb dM_finish_25 rfl (lv_at hl 4 rfl) ?_
  refine lv_if_ne (tgt := 43) hx hb dM_finish_26 (by decide) (fun _ => ?_) (fun h => ((by revert h; decide : False)).elim)
  refine lv_iload_n hx hb dM_finish_43 rfl (lv_at hl 4 rfl) ?_
  refine lv_iconst (v := 1) hx hb dM_finish_44 (by decide) ?_
  refine lv_icmp_ne (tgt := 60) hx hb dM_finish_45 (by decide) (fun _ => ?_) (fun h => ((by revert h; decide : False)).elim)
  refine lv_iload_n hx hb dM_finish_60 rfl (lv_at hl 4 rfl) ?_
  refine lv_iconst (v := 2) hx hb dM_finish_61 (by decide) ?_
  refine lv_icmp_ne (tgt := 79) hx hb dM_finish_62 (by decide) (fun h => ((by revert h; decide : False)).elim) (fun _ => ?_)
  refine lv_aload_n hx hb dM_finish_65 rfl (lv_at hl 2 rfl) ?_
  refine lv_iload_n hx hb dM_finish_66 rfl (lv_at hl 5 rfl) ?_
  refine lv_aload hx hb dM_finish_67 (lv_at hl 1 rfl) ?_
  refine lv_aload hx hb dM_finish_69 (lv_at hl 0 rfl) ?_
  obtain ⟨hPc, hDc, hFc⟩ := xcut (wc := [(a0, .inr (5, [v22, .ref a4, .int 2, v23, v24, v25, v26, v27, v28, v29, v30, v31, v32, v33, v34, .ref a5, .int 4, .int 4, .int 0, .int 100, v40, .ref a6, v41, v42, .ref a1, .ref a2, v43, v44, v45, v46, v47, v48])), (r1, .inr (6, [.int 0, .long 0, .int 0, .int 0, .int 0, .int 1])), (r2, .inr (6, [.int 0, .long 0, .int 0, .int 0, .int 0, .int 1]))]) hP hD hS hA [3, 2, 8] rfl rfl (by decide)
  refine va_callr (va_runV (C := "ValueBenchModel") (As := [.int 9, .ref r1, .ref r2]) (rest := []) ⟨hx, hb, hml, hown, htx⟩ (cM_two1_9 l hl9 D cT aK aV H.size a0 r1 r2 v22 (.ref a4) (.int 2) v23 v24 v25 v26 v27 v28 v29 v30 v31 v32 v33 v34 (.ref a5) (.int 4) (.int 4) (.int 0) (.int 100) v40 (.ref a6) v41 v42 (.ref a1) (.ref a2) v43 v44 v45 v46 v47 v48 (.long 0) (.int 0) (.int 0) (.int 0) (.int 1) (.long 0) (.int 0) (.int 0) (.int 0) (.int 1)) ⟨callB_of 3 htx (xw_goodC kw_7_79) rfl rfl rfl (htx _ kw_1_5) (htx _ kw_7_76) ⟨by decide, by decide, by decide +kernel⟩ ⟨Nat.le_of_ble_eq_true rfl, Nat.le_of_ble_eq_true rfl⟩, (htx _ kw_7_78), (htx _ kp_M_two1)⟩ ⟨xPre_blind, va_recv hK hP (ci := 5) rfl (q0 := 3) rfl, (fun U hU hW => ⟨rfl, xPre_of hZ hS hFc hPc hDc hK U hU hW⟩)⟩ rfl rfl hl.1 rfl (lv_room (Nat.le_of_ble_eq_true rfl)) dM_finish_71 ⟨Nat.le_of_ble_eq_true rfl, Nat.le_of_ble_eq_true rfl⟩) hS (fun q _ h => hFc q h) hFc (fun u9 r3 t H1 locs ht hvm hr9 hB hz1 hk1 hS => ?_)
  obtain ⟨hra9, hP1, hK1, hD1⟩ := hB
  rw [ht] at hP1
  obtain ⟨hP, hD⟩ := xjoin (W := [(a6, .inl (cT 0, 1024, .inl f69)), (a3, .inl (cT 0, 4096, .inl f56)), (a1, .inl (cT 5, 8, .inr (.inr (.inr (.inr f49))))), (a2, .inl (cT 1, 8, .inl f53)), (a5, .inl (cT 0, 4096, .inl f64)), (a4, .inl (cT 4, 1024, .inr (.inr (.inr (.inr (va_up (va_up f61 0 (some r1)) 1 (some r2))))))), (a0, .inr (5, [v22, .ref a4, .int 2, v23, v24, v25, v26, v27, v28, v29, v30, v31, v32, v33, v34, .ref a5, .int 4, .int 4, .int 0, .int 100, v40, .ref a6, v41, v42, .ref a1, .ref a2, v43, v44, v45, v46, v47, v48])), (r1, .inr (6, [.int 0, .long 0, .int 0, .int 0, .int 0, .int 1])), (r2, .inr (6, [.int 0, .long 0, .int 0, .int 0, .int 0, .int 1]))]) hP hD [3, 2, 8] [0, 1, 4, 5, 6, 7] 6 rfl rfl (by decide) (by decide) hk1 hFc hP1 hD1
  generalize H1 = H at hP hS ⊢
  rw [hra9]
  refine W.eq (g2 := F0 m 74 ls [.ref r1]) rfl ?_
  refine lv_astore (lv' := [(8, .ref r1), (7, .ref r2), (6, .ref r1), (0, .ref a0), (1, .int x7), (2, .int 2), (3, .int 9), (4, .int x12), (5, .int x17)]) hx hb dM_finish_74 hl (by decide) rfl (fun ls hl => ?_)
  refine lv_goto (tgt := 119) hx hb dM_finish_76 (by decide) ?_
  refine lv_aload_n hx hb dM_finish_119 rfl (lv_at hl 3 rfl) ?_
  refine lv_iload_n hx hb dM_finish_120 rfl (lv_at hl 4 rfl) ?_
  refine lv_aload hx hb dM_finish_121 (lv_at hl 0 rfl) ?_
  obtain ⟨hPc, hDc, hFc⟩ := xcut (wc := [(a0, .inr (5, [v22, .ref a4, .int 2, v23, v24, v25, v26, v27, v28, v29, v30, v31, v32, v33, v34, .ref a5, .int 4, .int 4, .int 0, .int 100, v40, .ref a6, v41, v42, .ref a1, .ref a2, v43, v44, v45, v46, v47, v48])), (r1, .inr (6, [.int 0, .long 0, .int 0, .int 0, .int 0, .int 1])), (a6, .inl (cT 0, 1024, .inl f69)), (a1, .inl (cT 5, 8, .inr (.inr (.inr (.inr f49))))), (a3, .inl (cT 0, 4096, .inl f56)), (a2, .inl (cT 1, 8, .inl f53))]) hP hD hS hA [6, 7, 0, 2, 1, 3] rfl rfl (by decide)
  refine va_calli (va_runV (C := "ValueBenchModel") (As := [.int x7, .ref r1]) (rest := []) ⟨hx, hb, hml, hown, htx⟩ (cM_store_4 l hl9 D cT aK aV H.size a0 r1 a6 a1 a3 a2 x7 v22 (.ref a4) (.int 2) v23 v24 v25 v26 v27 v28 v29 v30 v31 v32 v33 v34 (.ref a5) (.int 4) (.int 4) (.int 0) (.int 100) v40 v41 v42 v43 v44 v45 v46 v47 v48 (.long 0) (.int 0) (.int 0) (.int 0) (.int 1) f69 f49 f56 f53 h8 h9 h10 h11 (by first | rfl | exact h50 | exact h51 | exact h52 | exact h54 | exact h55 | exact h57 | exact h58 | exact h59 | exact h60 | exact h65 | exact h66 | exact h67 | exact h68)) ⟨callB_of 2 htx (xw_goodC kw_6_124) rfl rfl rfl (htx _ kw_1_5) (htx _ kw_6_121) ⟨by decide, by decide, by decide +kernel⟩ ⟨Nat.le_of_ble_eq_true rfl, Nat.le_of_ble_eq_true rfl⟩, (htx _ kw_6_123), (htx _ kp_M_store)⟩ ⟨xPre_blind, va_recv hK hP (ci := 5) rfl (q0 := 6) rfl, (fun U hU hW => ⟨rfl, xPre_of hZ hS hFc hPc hDc hK U hU hW⟩)⟩ rfl rfl hl.1 rfl (lv_room (Nat.le_of_ble_eq_true rfl)) dM_finish_123 ⟨Nat.le_of_ble_eq_true rfl, Nat.le_of_ble_eq_true rfl⟩) hS (fun q _ h => hFc q h) hFc (fun r4 u9 t H1 locs ht hvm hr9 hB hz1 hk1 hS => ?_)
  obtain ⟨y5, y6, y7, y8, hP1, hK1, hD1⟩ := hB
  rw [ht] at hP1
  obtain ⟨hP, hD⟩ := xjoin (W := [(a5, .inl (cT 0, 4096, .inl f64)), (a4, .inl (cT 4, 1024, .inr (.inr (.inr (.inr (va_up (va_up f61 0 (some r1)) 1 (some r2))))))), (r2, .inr (6, [.int 0, .long 0, .int 0, .int 0, .int 0, .int 1])), (a0, .inr (5, [v22, .ref a4, .int 2, v23, v24, v25, v26, v27, v28, v29, v30, v31, v32, v33, v34, .ref a5, .int 4, .int 4, .int 0, .int 100, v40, .ref a6, .int 4, .int 4096, .ref a1, .ref a2, v43, v44, v45, v46, v47, v48])), (r1, .inr (6, [.int 0, .long 0, .int 0, .int 0, .int 0, .int 1])), (a6, .inl (cT 0, 1024, .inl (upd (upd (upd (upd f69 0 (vp_nar .byte y5)) 1 (vp_nar .byte y6)) 2 (vp_nar .byte y7)) 3 (vp_nar .byte y8)))), (a1, .inl (cT 5, 8, .inr (.inr (.inr (.inr f49))))), (a3, .inl (cT 0, 4096, .inl (upd (upd (upd (upd f56 0 (vp_nar .byte (vp_nar .byte y5))) 1 (vp_nar .byte (vp_nar .byte y6))) 2 (vp_nar .byte (vp_nar .byte y7))) 3 (vp_nar .byte (vp_nar .byte y8))))), (a2, .inl (cT 1, 8, .inl (upd f53 x7.toNatClampNeg 4)))]) hP hD [6, 7, 0, 2, 1, 3] [4, 5, 8] 3 rfl rfl (by decide) (by decide) hk1 hFc hP1 hD1
  generalize H1 = H at hP hS ⊢
  rw [hr9]
  refine W.eq (g2 := F0 m 126 ls [.int 4]) rfl ?_
  refine lv_istore (lv' := [(9, .int 4), (8, .ref r1), (7, .ref r2), (6, .ref r1), (0, .ref a0), (1, .int x7), (2, .int 2), (3, .int 9), (4, .int x12), (5, .int x17)]) hx hb dM_finish_126 hl (by decide) rfl (fun ls hl => ?_)
  refine lv_goto (tgt := 156) hx hb dM_finish_128 (by decide) ?_
  obtain ⟨hP9, hD9⟩ := xsub (wc := [(a0, .inr (5, [v22, .ref a4, .int 2, v23, v24, v25, v26, v27, v28, v29, v30, v31, v32, v33, v34, .ref a5, .int 4, .int 4, .int 0, .int 100, v40, .ref a6, .int 4, .int 4096, .ref a1, .ref a2, v43, v44, v45, v46, v47, v48])), (a1, .inl (cT 5, 8, .inr (.inr (.inr (.inr f49))))), (a2, .inl (cT 1, 8, .inl (upd f53 x7.toNatClampNeg 4))), (a3, .inl (cT 0, 4096, .inl (upd (upd (upd (upd f56 0 (vp_nar .byte (vp_nar .byte y5))) 1 (vp_nar .byte (vp_nar .byte y6))) 2 (vp_nar .byte (vp_nar .byte y7))) 3 (vp_nar .byte (vp_nar .byte y8))))), (a4, .inl (cT 4, 1024, .inr (.inr (.inr (.inr (va_up (va_up f61 0 (some r1)) 1 (some r2))))))), (a5, .inl (cT 0, 4096, .inl f64)), (a6, .inl (cT 0, 1024, .inl (upd (upd (upd (upd f69 0 (vp_nar .byte y5)) 1 (vp_nar .byte y6)) 2 (vp_nar .byte y7)) 3 (vp_nar .byte y8)))), (r1, .inr (6, [.int 0, .long 0, .int 0, .int 0, .int 0, .int 1])), (r2, .inr (6, [.int 0, .long 0, .int 0, .int 0, .int 0, .int 1]))]) hP hD [3, 6, 8, 7, 1, 0, 5, 4, 2] rfl rfl (by decide)
  refine W.widen (k := 2) (n := 12) (Nat.le_of_ble_eq_true rfl) (Nat.le_of_ble_eq_true rfl) ?_
  exact W.vret hx hb hr (fun t ht hW => ⟨⟨(), rfl, trivial, r1, r2, y5, y6, y7, y8, by rw [ht]; exact hP9, va_K.moved hW.alike hK, hD9⟩, hS.F ht⟩) hS.2.2 dM_finish_156
set_option maxHeartbeats 400000000 in
set_option maxRecDepth 100000 in
theorem cM_two0_32 (l : Launch) (hl9 : l.stackTraces = false) (D : va_G) (cT : Nat → ClassId) (aK aV : Nat → Nat) (sz : Nat) (a0 : Nat) (a1 : Nat) (a2 : Nat) (a3 : Nat) (a4 : Nat) (a5 : Nat) (a6 : Nat) (x7 : Int32) (x12 : Int32) (x17 : Int32) (v22 : Value) (v23 : Value) (v24 : Value) (v25 : Value) (v26 : Value) (v27 : Value) (v28 : Value) (v29 : Value) (v30 : Value) (v31 : Value) (v32 : Value) (v33 : Value) (v34 : Value) (v35 : Value) (v36 : Value) (v37 : Value) (v38 : Value) (v39 : Value) (v40 : Value) (v41 : Value) (v42 : Value) (v43 : Value) (v44 : Value) (v45 : Value) (v46 : Value) (v47 : Value) (v48 : Value) (v49 : Value) (f50 : Nat → Option Nat) (f54 : Nat → Int32) (f57 : Nat → Int32) (f62 : Nat → Option Nat) (f65 : Nat → Int32) (f70 : Nat → Int32) (h8 : ¬ x7 < 0) (h9 : ¬ 7 < x7) (h10 : x7 ≤ 7) (h11 : vp_in x7 8) (h13 : ¬ x12 < 0) (h14 : ¬ 7 < x12) (h15 : x12 ≤ 7) (h16 : vp_in x12 8) (h18 : ¬ x17 < 0) (h19 : ¬ 7 < x17) (h20 : x17 ≤ 7) (h21 : vp_in x17 8) (h51 : f50 x12.toNatClampNeg = some a3) (h52 : f50 x17.toNatClampNeg = some a5) (h53 : f50 x7.toNatClampNeg = some a3) (h55 : f54 x12.toNatClampNeg = 4) (h56 : f54 x17.toNatClampNeg = 4) (h58 : f57 0 = 110) (h59 : f57 1 = 117) (h60 : f57 2 = 108) (h61 : f57 3 = 108) (h63 : f62 0 = none) (h64 : f62 1 = none) (h66 : f65 0 = 110) (h67 : f65 1 = 117) (h68 : f65 2 = 108) (h69 : f65 3 = 108) : xMet l yM_two0 wyM_two0 9 2 12 204 D cT aK aV sz [.ref a0, .int x7, .int 9, .int x12, .int x17] [(a0, .inr (5, [v22, .ref a4, v23, v24, v25, v26, v27, v28, v29, v30, v31, v32, v33, v34, v35, v36, v37, v38, v39, v40, v41, .ref a6, v42, v43, .ref a1, .ref a2, v44, v45, v46, v47, v48, v49])), (a1, .inl (cT 5, 8, .inr (.inr (.inr (.inr f50))))), (a2, .inl (cT 1, 8, .inl f54)), (a3, .inl (cT 0, 4096, .inl f57)), (a4, .inl (cT 4, 1024, .inr (.inr (.inr (.inr f62))))), (a5, .inl (cT 0, 4096, .inl f65)), (a6, .inl (cT 0, 1024, .inl f70))] (fun A => va_Qv (fun _ : Unit => True) (fun _ t => ∃ (q4 : Nat) (q5 : Nat) (y6 : Int32) (y7 : Int32) (y8 : Int32) (y9 : Int32), xB D xcl cT A [(a0, .inr (5, [.int 0, .ref a4, .int 2, v24, .int 0, v26, v27, .int 0, v29, .int 0, v31, v32, .int 0, v34, v35, .ref a5, .int 4, .int 4, .int 0, .int 100, v41, .ref a6, .int 4, .int 4096, .ref a1, .ref a2, v44, v45, v46, v47, v48, v49])), (a1, .inl (cT 5, 8, .inr (.inr (.inr (.inr f50))))), (a2, .inl (cT 1, 8, .inl (upd f54 x7.toNatClampNeg 4))), (a3, .inl (cT 0, 4096, .inl (upd (upd (upd (upd f57 0 (vp_nar .byte (vp_nar .byte y6))) 1 (vp_nar .byte (vp_nar .byte y7))) 2 (vp_nar .byte (vp_nar .byte y8))) 3 (vp_nar .byte (vp_nar .byte y9))))), (a4, .inl (cT 4, 1024, .inr (.inr (.inr (.inr (va_up (va_up f62 0 (some q4)) 1 (some q5))))))), (a5, .inl (cT 0, 4096, .inl f65)), (a6, .inl (cT 0, 1024, .inl (upd (upd (upd (upd f70 0 (vp_nar .byte y6)) 1 (vp_nar .byte y7)) 2 (vp_nar .byte y8)) 3 (vp_nar .byte y9)))), (q4, .inr (6, [.int 0, .long 0, .int 0, .int 0, .int 0, .int 1])), (q5, .inr (6, [.int 0, .long 0, .int 0, .int 0, .int 0, .int 1]))] t) A) := by
  refine Met.ofW (cc := prog_13_method_93_code) (maxL := 5) (ret := none) (by decide) rfl ?_
  intro p e s m args below meth c s₁ B hml hv
  obtain ⟨rfl, hsz, hZ, hP, hK, hD0⟩ := hv
  have hx := B.exec
  have hb := B.bytes
  have hr := B.returns
  have hts := atoms_spec (ws := wyM_two0) B.pre
  have htx := fun w h => hts w (List.mem_cons_of_mem _ h)
  have hown : s.vm.findClass "ValueBenchModel" = some m.cls := findClass_of_methodNamed B.named
  have hlocks := B.notSynchronized
  subst hsz
  have hD := hD0.self (sz := s.heap.size)
  generalize hAe : va_A [(a0, .inr (5, [v22, .ref a4, v23, v24, v25, v26, v27, v28, v29, v30, v31, v32, v33, v34, v35, v36, v37, v38, v39, v40, v41, .ref a6, v42, v43, .ref a1, .ref a2, v44, v45, v46, v47, v48, v49])), (a1, .inl (cT 5, 8, .inr (.inr (.inr (.inr f50))))), (a2, .inl (cT 1, 8, .inl f54)), (a3, .inl (cT 0, 4096, .inl f57)), (a4, .inl (cT 4, 1024, .inr (.inr (.inr (.inr f62))))), (a5, .inl (cT 0, 4096, .inl f65)), (a6, .inl (cT 0, 1024, .inl f70))] s.heap.size = A at hD hZ ⊢
  have hA : ∀ q : Nat, s.heap.size ≤ q → A q := fun q h => by rw [← hAe]; exact Or.inr h
  have hS : va_S A s.heap s.heap [] := va_S.rf
  have hP : va_P D xcl [(a0, .inr (5, [v22, .ref a4, v23, v24, v25, v26, v27, v28, v29, v30, v31, v32, v33, v34, v35, v36, v37, v38, v39, v40, v41, .ref a6, v42, v43, .ref a1, .ref a2, v44, v45, v46, v47, v48, v49])), (a1, .inl (cT 5, 8, .inr (.inr (.inr (.inr f50))))), (a2, .inl (cT 1, 8, .inl f54)), (a3, .inl (cT 0, 4096, .inl f57)), (a4, .inl (cT 4, 1024, .inr (.inr (.inr (.inr f62))))), (a5, .inl (cT 0, 4096, .inl f65)), (a6, .inl (cT 0, 1024, .inl f70))] s.heap := hP
  have hl := lv_entry ([.ref a0, .int x7, .int 9, .int x12, .int x17]) (n := 5) (Nat.le_of_ble_eq_true rfl)
  rw [lg_entry_eq]
  generalize (lg_sl ([.ref a0, .int x7, .int 9, .int x12, .int x17]) ++ List.replicate (5 - (lg_sl ([.ref a0, .int x7, .int 9, .int x12, .int x17])).length) Slot.unset).toArray = ls at hl ⊢
  have hl : lv_has ls 5 [(0, .ref a0), (1, .int x7), (2, .int 9), (3, .int x12), (4, .int x17)] := hl
  refine lv_aload_n hx hb dM_two0_0 rfl (lv_at hl 0 rfl) ?_
  obtain ⟨hPc, hDc, hFc⟩ := xcut (wc := [(a0, .inr (5, [v22, .ref a4, v23, v24, v25, v26, v27, v28, v29, v30, v31, v32, v33, v34, v35, v36, v37, v38, v39, v40, v41, .ref a6, v42, v43, .ref a1, .ref a2, v44, v45, v46, v47, v48, v49]))]) hP hD hS hA [0] rfl rfl (by decide)
  refine va_callv (va_runV (C := "ValueBenchModel") (As := []) (rest := []) ⟨hx, hb, hml, hown, htx⟩ (cM_begin_0 l hl9 D cT aK aV s.heap.size a0 v22 (.ref a4) v23 v24 v25 v26 v27 v28 v29 v30 v31 v32 v33 v34 v35 v36 v37 v38 v39 v40 v41 (.ref a6) v42 v43 (.ref a1) (.ref a2) v44 v45 v46 v47 v48 v49) ⟨callB_of 0 htx (xw_goodC kw_5_209) rfl rfl rfl (htx _ kw_1_5) (htx _ kw_5_206) ⟨by decide, by decide, by decide +kernel⟩ ⟨Nat.le_of_ble_eq_true rfl, Nat.le_of_ble_eq_true rfl⟩, (htx _ kw_5_208), (htx _ kp_M_begin)⟩ ⟨xPre_blind, va_recv hK hP (ci := 5) rfl (q0 := 0) rfl, (fun U hU hW => ⟨rfl, xPre_of hZ hS hFc hPc hDc hK U hU hW⟩)⟩ rfl rfl hl.1 rfl (lv_room (Nat.le_of_ble_eq_true rfl)) dM_two0_1 ⟨Nat.le_of_ble_eq_true rfl, Nat.le_of_ble_eq_true rfl⟩) hS (fun q _ h => hFc q h) hFc (fun u9 t H1 locs ht hvm hr9 hB hz1 hk1 hS => ?_)
  obtain ⟨hP1, hK1, hD1⟩ := hB
  rw [ht] at hP1
  obtain ⟨hP, hD⟩ := xjoin (W := [(a1, .inl (cT 5, 8, .inr (.inr (.inr (.inr f50))))), (a2, .inl (cT 1, 8, .inl f54)), (a3, .inl (cT 0, 4096, .inl f57)), (a4, .inl (cT 4, 1024, .inr (.inr (.inr (.inr f62))))), (a5, .inl (cT 0, 4096, .inl f65)), (a6, .inl (cT 0, 1024, .inl f70)), (a0, .inr (5, [.int 0, .ref a4, .int 0, v24, .int 0, v26, v27, .int 0, v29, .int 0, v31, v32, .int 0, v34, v35, v36, v37, v38, v39, v40, v41, .ref a6, .int 0, .int 1000000000, .ref a1, .ref a2, v44, v45, v46, v47, v48, v49]))]) hP hD [0] [1, 2, 3, 4, 5, 6] 6 rfl rfl (by decide) (by decide) hk1 hFc hP1 hD1
  generalize H1 = H at hP hS ⊢
  refine lv_aload_n hx hb dM_two0_4 rfl (lv_at hl 0 rfl) ?_
  refine lv_iload_n hx hb dM_two0_5 rfl (lv_at hl 1 rfl) ?_
  obtain ⟨hPc, hDc, hFc⟩ := xcut (wc := []) hP hD hS hA [] rfl rfl (by decide)
  refine va_calli (va_runV (C := "ValueBenchModel") (As := [.int x7]) (rest := []) ⟨hx, hb, hml, hown, htx⟩ (cM_out_0 l hl9 D cT aK aV H.size a0 x7 h8 h9 h10 h11) ⟨callB_of 1 htx (xw_goodC kw_5_217) rfl rfl rfl (htx _ kw_1_5) (htx _ kw_5_214) ⟨by decide, by decide, by decide +kernel⟩ ⟨Nat.le_of_ble_eq_true rfl, Nat.le_of_ble_eq_true rfl⟩, (htx _ kw_5_216), (htx _ kp_M_out)⟩ ⟨xPre_blind, va_recv hK hP (ci := 5) rfl (q0 := 6) rfl, (fun U hU hW => ⟨rfl, xPre_of hZ hS hFc hPc hDc hK U hU hW⟩)⟩ rfl rfl hl.1 rfl (lv_room (Nat.le_of_ble_eq_true rfl)) dM_two0_6 ⟨Nat.le_of_ble_eq_true rfl, Nat.le_of_ble_eq_true rfl⟩) hS (fun q _ h => hFc q h) hFc (fun r1 u9 t H1 locs ht hvm hr9 hB hz1 hk1 hS => ?_)
  obtain ⟨hP1, hK1, hD1⟩ := hB
  rw [ht] at hP1
  obtain ⟨hP, hD⟩ := xjoin (W := [(a1, .inl (cT 5, 8, .inr (.inr (.inr (.inr f50))))), (a2, .inl (cT 1, 8, .inl f54)), (a3, .inl (cT 0, 4096, .inl f57)), (a4, .inl (cT 4, 1024, .inr (.inr (.inr (.inr f62))))), (a5, .inl (cT 0, 4096, .inl f65)), (a6, .inl (cT 0, 1024, .inl f70)), (a0, .inr (5, [.int 0, .ref a4, .int 0, v24, .int 0, v26, v27, .int 0, v29, .int 0, v31, v32, .int 0, v34, v35, v36, v37, v38, v39, v40, v41, .ref a6, .int 0, .int 1000000000, .ref a1, .ref a2, v44, v45, v46, v47, v48, v49]))]) hP hD [] [0, 1, 2, 3, 4, 5, 6] 7 rfl rfl (by decide) (by decide) hk1 hFc hP1 hD1
  generalize H1 = H at hP hS ⊢
  rw [hr9]
  refine W.eq (g2 := F0 m 9 ls [.int 0]) rfl ?_
  refine lv_if_ne (tgt := 39) hx hb dM_two0_9 (by decide) (fun h => ((by revert h; decide : False)).elim) (fun _ => ?_)
  refine lv_iload_n hx hb dM_two0_12 rfl (lv_at hl 2 rfl) ?_
  refine lv_if_lt (tgt := 39) hx hb dM_two0_13 (by decide) (fun h => ((by revert h; decide : False)).elim) (fun _ => ?_)
  refine lv_iload_n hx hb dM_two0_16 rfl (lv_at hl 2 rfl) ?_
  refine lv_bipush (v := 9) hx hb dM_two0_17 (by decide) ?_
  refine lv_icmp_gt (tgt := 39) hx hb dM_two0_19 (by decide) (fun h => ((by revert h; decide : False)).elim) (fun _ => ?_)
  refine lv_aload_n hx hb dM_two0_22 rfl (lv_at hl 0 rfl) ?_
  refine lv_iload_n hx hb dM_two0_23 rfl (lv_at hl 3 rfl) ?_
  obtain ⟨hPc, hDc, hFc⟩ := xcut (wc := []) hP hD hS hA [] rfl rfl (by decide)
  refine va_calli (va_runV (C := "ValueBenchModel") (As := [.int x12]) (rest := []) ⟨hx, hb, hml, hown, htx⟩ (cM_out_0 l hl9 D cT aK aV H.size a0 x12 h13 h14 h15 h16) ⟨callB_of 1 htx (xw_goodC kw_5_217) rfl rfl rfl (htx _ kw_1_5) (htx _ kw_5_214) ⟨by decide, by decide, by decide +kernel⟩ ⟨Nat.le_of_ble_eq_true rfl, Nat.le_of_ble_eq_true rfl⟩, (htx _ kw_5_216), (htx _ kp_M_out)⟩ ⟨xPre_blind, va_recv hK hP (ci := 5) rfl (q0 := 6) rfl, (fun U hU hW => ⟨rfl, xPre_of hZ hS hFc hPc hDc hK U hU hW⟩)⟩ rfl rfl hl.1 rfl (lv_room (Nat.le_of_ble_eq_true rfl)) dM_two0_24 ⟨Nat.le_of_ble_eq_true rfl, Nat.le_of_ble_eq_true rfl⟩) hS (fun q _ h => hFc q h) hFc (fun r2 u9 t H1 locs ht hvm hr9 hB hz1 hk1 hS => ?_)
  obtain ⟨hP1, hK1, hD1⟩ := hB
  rw [ht] at hP1
  obtain ⟨hP, hD⟩ := xjoin (W := [(a1, .inl (cT 5, 8, .inr (.inr (.inr (.inr f50))))), (a2, .inl (cT 1, 8, .inl f54)), (a3, .inl (cT 0, 4096, .inl f57)), (a4, .inl (cT 4, 1024, .inr (.inr (.inr (.inr f62))))), (a5, .inl (cT 0, 4096, .inl f65)), (a6, .inl (cT 0, 1024, .inl f70)), (a0, .inr (5, [.int 0, .ref a4, .int 0, v24, .int 0, v26, v27, .int 0, v29, .int 0, v31, v32, .int 0, v34, v35, v36, v37, v38, v39, v40, v41, .ref a6, .int 0, .int 1000000000, .ref a1, .ref a2, v44, v45, v46, v47, v48, v49]))]) hP hD [] [0, 1, 2, 3, 4, 5, 6] 7 rfl rfl (by decide) (by decide) hk1 hFc hP1 hD1
  generalize H1 = H at hP hS ⊢
  rw [hr9]
  refine W.eq (g2 := F0 m 27 ls [.int 0]) rfl ?_
  refine lv_if_ne (tgt := 39) hx hb dM_two0_27 (by decide) (fun h => ((by revert h; decide : False)).elim) (fun _ => ?_)
  refine lv_aload_n hx hb dM_two0_30 rfl (lv_at hl 0 rfl) ?_
  refine lv_iload hx hb dM_two0_31 (lv_at hl 4 rfl) ?_
  obtain ⟨hPc, hDc, hFc⟩ := xcut (wc := []) hP hD hS hA [] rfl rfl (by decide)
  refine va_calli (va_runV (C := "ValueBenchModel") (As := [.int x17]) (rest := []) ⟨hx, hb, hml, hown, htx⟩ (cM_out_0 l hl9 D cT aK aV H.size a0 x17 h18 h19 h20 h21) ⟨callB_of 1 htx (xw_goodC kw_5_217) rfl rfl rfl (htx _ kw_1_5) (htx _ kw_5_214) ⟨by decide, by decide, by decide +kernel⟩ ⟨Nat.le_of_ble_eq_true rfl, Nat.le_of_ble_eq_true rfl⟩, (htx _ kw_5_216), (htx _ kp_M_out)⟩ ⟨xPre_blind, va_recv hK hP (ci := 5) rfl (q0 := 6) rfl, (fun U hU hW => ⟨rfl, xPre_of hZ hS hFc hPc hDc hK U hU hW⟩)⟩ rfl rfl hl.1 rfl (lv_room (Nat.le_of_ble_eq_true rfl)) dM_two0_33 ⟨Nat.le_of_ble_eq_true rfl, Nat.le_of_ble_eq_true rfl⟩) hS (fun q _ h => hFc q h) hFc (fun r3 u9 t H1 locs ht hvm hr9 hB hz1 hk1 hS => ?_)
  obtain ⟨hP1, hK1, hD1⟩ := hB
  rw [ht] at hP1
  obtain ⟨hP, hD⟩ := xjoin (W := [(a1, .inl (cT 5, 8, .inr (.inr (.inr (.inr f50))))), (a2, .inl (cT 1, 8, .inl f54)), (a3, .inl (cT 0, 4096, .inl f57)), (a4, .inl (cT 4, 1024, .inr (.inr (.inr (.inr f62))))), (a5, .inl (cT 0, 4096, .inl f65)), (a6, .inl (cT 0, 1024, .inl f70)), (a0, .inr (5, [.int 0, .ref a4, .int 0, v24, .int 0, v26, v27, .int 0, v29, .int 0, v31, v32, .int 0, v34, v35, v36, v37, v38, v39, v40, v41, .ref a6, .int 0, .int 1000000000, .ref a1, .ref a2, v44, v45, v46, v47, v48, v49]))]) hP hD [] [0, 1, 2, 3, 4, 5, 6] 7 rfl rfl (by decide) (by decide) hk1 hFc hP1 hD1
  generalize H1 = H at hP hS ⊢
  rw [hr9]
  refine W.eq (g2 := F0 m 36 ls [.int 0]) rfl ?_
  refine lv_if_eq (tgt := 47) hx hb dM_two0_36 (by decide) (fun _ => ?_) (fun h => ((by revert h; decide : False)).elim)
  refine lv_aload_n hx hb dM_two0_47 rfl (lv_at hl 0 rfl) ?_
  refine lv_iload_n hx hb dM_two0_48 rfl (lv_at hl 1 rfl) ?_
  refine lv_iconst (v := 2) hx hb dM_two0_49 (by decide) ?_
  refine lv_iload_n hx hb dM_two0_50 rfl (lv_at hl 2 rfl) ?_
  refine lv_iload_n hx hb dM_two0_51 rfl (lv_at hl 3 rfl) ?_
  refine lv_iload hx hb dM_two0_52 (lv_at hl 4 rfl) ?_
  obtain ⟨hPc, hDc, hFc⟩ := xcut (wc := [(a0, .inr (5, [.int 0, .ref a4, .int 0, v24, .int 0, v26, v27, .int 0, v29, .int 0, v31, v32, .int 0, v34, v35, v36, v37, v38, v39, v40, v41, .ref a6, .int 0, .int 1000000000, .ref a1, .ref a2, v44, v45, v46, v47, v48, v49])), (a1, .inl (cT 5, 8, .inr (.inr (.inr (.inr f50))))), (a2, .inl (cT 1, 8, .inl f54)), (a3, .inl (cT 0, 4096, .inl f57)), (a4, .inl (cT 4, 1024, .inr (.inr (.inr (.inr f62))))), (a5, .inl (cT 0, 4096, .inl f65)), (a6, .inl (cT 0, 1024, .inl f70))]) hP hD hS hA [6, 0, 1, 2, 3, 4, 5] rfl rfl (by decide)
  refine va_callv (vx_runVW (C := "ValueBenchModel") (As := [.int x7, .int 2, .int 9, .int x12, .int x17]) (rest := []) ⟨hx, hb, hml, hown, htx⟩ (cM_finish_64 l hl9 D cT aK aV H.size a0 a1 a2 a3 a4 a5 a6 x7 x12 x17 (.int 0) v24 (.int 0) v26 v27 (.int 0) v29 (.int 0) v31 v32 (.int 0) v34 v35 v36 v37 v38 v39 v40 v41 (.int 0) (.int 1000000000) v44 v45 v46 v47 v48 v49 f50 f54 f57 f62 f65 f70 h8 h9 h10 h11 h13 h14 h15 h16 h18 h19 h20 h21 (by first | rfl | exact h51 | exact h52 | exact h53 | exact h55 | exact h56 | exact h58 | exact h59 | exact h60 | exact h61 | exact h63 | exact h64 | exact h66 | exact h67 | exact h68 | exact h69) (by first | rfl | exact h51 | exact h52 | exact h53 | exact h55 | exact h56 | exact h58 | exact h59 | exact h60 | exact h61 | exact h63 | exact h64 | exact h66 | exact h67 | exact h68 | exact h69) (by first | rfl | exact h51 | exact h52 | exact h53 | exact h55 | exact h56 | exact h58 | exact h59 | exact h60 | exact h61 | exact h63 | exact h64 | exact h66 | exact h67 | exact h68 | exact h69) (by first | rfl | exact h51 | exact h52 | exact h53 | exact h55 | exact h56 | exact h58 | exact h59 | exact h60 | exact h61 | exact h63 | exact h64 | exact h66 | exact h67 | exact h68 | exact h69) (by first | rfl | exact h51 | exact h52 | exact h53 | exact h55 | exact h56 | exact h58 | exact h59 | exact h60 | exact h61 | exact h63 | exact h64 | exact h66 | exact h67 | exact h68 | exact h69) (by first | rfl | exact h51 | exact h52 | exact h53 | exact h55 | exact h56 | exact h58 | exact h59 | exact h60 | exact h61 | exact h63 | exact h64 | exact h66 | exact h67 | exact h68 | exact h69) (by first | rfl | exact h51 | exact h52 | exact h53 | exact h55 | exact h56 | exact h58 | exact h59 | exact h60 | exact h61 | exact h63 | exact h64 | exact h66 | exact h67 | exact h68 | exact h69) (by first | rfl | exact h51 | exact h52 | exact h53 | exact h55 | exact h56 | exact h58 | exact h59 | exact h60 | exact h61 | exact h63 | exact h64 | exact h66 | exact h67 | exact h68 | exact h69) (by first | rfl | exact h51 | exact h52 | exact h53 | exact h55 | exact h56 | exact h58 | exact h59 | exact h60 | exact h61 | exact h63 | exact h64 | exact h66 | exact h67 | exact h68 | exact h69) (by first | rfl | exact h51 | exact h52 | exact h53 | exact h55 | exact h56 | exact h58 | exact h59 | exact h60 | exact h61 | exact h63 | exact h64 | exact h66 | exact h67 | exact h68 | exact h69) (by first | rfl | exact h51 | exact h52 | exact h53 | exact h55 | exact h56 | exact h58 | exact h59 | exact h60 | exact h61 | exact h63 | exact h64 | exact h66 | exact h67 | exact h68 | exact h69) (by first | rfl | exact h51 | exact h52 | exact h53 | exact h55 | exact h56 | exact h58 | exact h59 | exact h60 | exact h61 | exact h63 | exact h64 | exact h66 | exact h67 | exact h68 | exact h69) (by first | rfl | exact h51 | exact h52 | exact h53 | exact h55 | exact h56 | exact h58 | exact h59 | exact h60 | exact h61 | exact h63 | exact h64 | exact h66 | exact h67 | exact h68 | exact h69) (by first | rfl | exact h51 | exact h52 | exact h53 | exact h55 | exact h56 | exact h58 | exact h59 | exact h60 | exact h61 | exact h63 | exact h64 | exact h66 | exact h67 | exact h68 | exact h69) (by first | rfl | exact h51 | exact h52 | exact h53 | exact h55 | exact h56 | exact h58 | exact h59 | exact h60 | exact h61 | exact h63 | exact h64 | exact h66 | exact h67 | exact h68 | exact h69)) (xcVW 5 htx (xw_goodC kw_6_195) rfl rfl rfl (htx _ kw_1_5) (htx _ kw_6_192) ⟨by decide, by decide, by decide +kernel⟩ ⟨Nat.le_of_ble_eq_true rfl, Nat.le_of_ble_eq_true rfl⟩ (htx _ kw_6_194) (htx _ kp_M_finish)) ⟨xPre_blind, va_recv hK hP (ci := 5) rfl (q0 := 6) rfl, (fun U hU hW => ⟨rfl, xPre_of hZ hS hFc hPc hDc hK U hU hW⟩)⟩ rfl rfl hl.1 rfl (lv_room (Nat.le_of_ble_eq_true rfl)) dM_two0_54 ⟨Nat.le_of_ble_eq_true rfl, Nat.le_of_ble_eq_true rfl⟩) hS (fun q _ h => hFc q h) hFc (fun u9 t H1 locs ht hvm hr9 hB hz1 hk1 hS => ?_)
  obtain ⟨q4, q5, y6, y7, y8, y9, hP1, hK1, hD1⟩ := hB
  rw [ht] at hP1
  obtain ⟨hP, hD⟩ := xjoin (W := [(a0, .inr (5, [.int 0, .ref a4, .int 2, v24, .int 0, v26, v27, .int 0, v29, .int 0, v31, v32, .int 0, v34, v35, .ref a5, .int 4, .int 4, .int 0, .int 100, v41, .ref a6, .int 4, .int 4096, .ref a1, .ref a2, v44, v45, v46, v47, v48, v49])), (a1, .inl (cT 5, 8, .inr (.inr (.inr (.inr f50))))), (a2, .inl (cT 1, 8, .inl (upd f54 x7.toNatClampNeg 4))), (a3, .inl (cT 0, 4096, .inl (upd (upd (upd (upd f57 0 (vp_nar .byte (vp_nar .byte y6))) 1 (vp_nar .byte (vp_nar .byte y7))) 2 (vp_nar .byte (vp_nar .byte y8))) 3 (vp_nar .byte (vp_nar .byte y9))))), (a4, .inl (cT 4, 1024, .inr (.inr (.inr (.inr (va_up (va_up f62 0 (some q4)) 1 (some q5))))))), (a5, .inl (cT 0, 4096, .inl f65)), (a6, .inl (cT 0, 1024, .inl (upd (upd (upd (upd f70 0 (vp_nar .byte y6)) 1 (vp_nar .byte y7)) 2 (vp_nar .byte y8)) 3 (vp_nar .byte y9)))), (q4, .inr (6, [.int 0, .long 0, .int 0, .int 0, .int 0, .int 1])), (q5, .inr (6, [.int 0, .long 0, .int 0, .int 0, .int 0, .int 1]))]) hP hD [6, 0, 1, 2, 3, 4, 5] [] 0 rfl rfl (by decide) (by decide) hk1 hFc hP1 hD1
  generalize H1 = H at hP hS ⊢
  obtain ⟨hP9, hD9⟩ := xsub (wc := [(a0, .inr (5, [.int 0, .ref a4, .int 2, v24, .int 0, v26, v27, .int 0, v29, .int 0, v31, v32, .int 0, v34, v35, .ref a5, .int 4, .int 4, .int 0, .int 100, v41, .ref a6, .int 4, .int 4096, .ref a1, .ref a2, v44, v45, v46, v47, v48, v49])), (a1, .inl (cT 5, 8, .inr (.inr (.inr (.inr f50))))), (a2, .inl (cT 1, 8, .inl (upd f54 x7.toNatClampNeg 4))), (a3, .inl (cT 0, 4096, .inl (upd (upd (upd (upd f57 0 (vp_nar .byte (vp_nar .byte y6))) 1 (vp_nar .byte (vp_nar .byte y7))) 2 (vp_nar .byte (vp_nar .byte y8))) 3 (vp_nar .byte (vp_nar .byte y9))))), (a4, .inl (cT 4, 1024, .inr (.inr (.inr (.inr (va_up (va_up f62 0 (some q4)) 1 (some q5))))))), (a5, .inl (cT 0, 4096, .inl f65)), (a6, .inl (cT 0, 1024, .inl (upd (upd (upd (upd f70 0 (vp_nar .byte y6)) 1 (vp_nar .byte y7)) 2 (vp_nar .byte y8)) 3 (vp_nar .byte y9)))), (q4, .inr (6, [.int 0, .long 0, .int 0, .int 0, .int 0, .int 1])), (q5, .inr (6, [.int 0, .long 0, .int 0, .int 0, .int 0, .int 1]))]) hP hD [0, 1, 2, 3, 4, 5, 6, 7, 8] rfl rfl (by decide)
  refine W.widen (k := 2) (n := 12) (Nat.le_of_ble_eq_true rfl) (Nat.le_of_ble_eq_true rfl) ?_
  exact W.vret hx hb hr (fun t ht hW => ⟨⟨(), rfl, trivial, q4, q5, y6, y7, y8, y9, by rw [ht]; exact hP9, va_K.moved hW.alike hK, hD9⟩, hS.F ht⟩) hS.2.2 dM_two0_57
set_option maxHeartbeats 400000000 in
set_option maxRecDepth 100000 in
theorem cM_finish_65 (l : Launch) (hl9 : l.stackTraces = false) (D : va_G) (cT : Nat → ClassId) (aK aV : Nat → Nat) (sz : Nat) (a0 : Nat) (a1 : Nat) (a2 : Nat) (a3 : Nat) (a4 : Nat) (a5 : Nat) (a6 : Nat) (x7 : Int32) (x12 : Int32) (x17 : Int32) (v22 : Value) (v23 : Value) (v24 : Value) (v25 : Value) (v26 : Value) (v27 : Value) (v28 : Value) (v29 : Value) (v30 : Value) (v31 : Value) (v32 : Value) (v33 : Value) (v34 : Value) (v35 : Value) (v36 : Value) (v37 : Value) (v38 : Value) (v39 : Value) (v40 : Value) (v41 : Value) (v42 : Value) (v43 : Value) (v44 : Value) (v45 : Value) (v46 : Value) (v47 : Value) (v48 : Value) (f49 : Nat → Option Nat) (f53 : Nat → Int32) (f56 : Nat → Int32) (f61 : Nat → Option Nat) (f64 : Nat → Int32) (f69 : Nat → Int32) (h8 : ¬ x7 < 0) (h9 : ¬ 7 < x7) (h10 : x7 ≤ 7) (h11 : vp_in x7 8) (h13 : ¬ x12 < 0) (h14 : ¬ 7 < x12) (h15 : x12 ≤ 7) (h16 : vp_in x12 8) (h18 : ¬ x17 < 0) (h19 : ¬ 7 < x17) (h20 : x17 ≤ 7) (h21 : vp_in x17 8) (h50 : f49 x12.toNatClampNeg = some a3) (h51 : f49 x17.toNatClampNeg = some a5) (h52 : f49 x7.toNatClampNeg = some a5) (h54 : f53 x12.toNatClampNeg = 4) (h55 : f53 x17.toNatClampNeg = 4) (h57 : f56 0 = 110) (h58 : f56 1 = 117) (h59 : f56 2 = 108) (h60 : f56 3 = 108) (h62 : f61 0 = none) (h63 : f61 1 = none) (h65 : f64 0 = 110) (h66 : f64 1 = 117) (h67 : f64 2 = 108) (h68 : f64 3 = 108) : xMet l yM_finish wyM_finish 8 2 12 175 D cT aK aV sz [.ref a0, .int x7, .int 2, .int 9, .int x12, .int x17] [(a0, .inr (5, [v22, .ref a4, .int 0, v23, v24, v25, v26, v27, v28, v29, v30, v31, v32, v33, v34, v35, v36, v37, v38, v39, v40, .ref a6, v41, v42, .ref a1, .ref a2, v43, v44, v45, v46, v47, v48])), (a1, .inl (cT 5, 8, .inr (.inr (.inr (.inr f49))))), (a2, .inl (cT 1, 8, .inl f53)), (a3, .inl (cT 0, 4096, .inl f56)), (a4, .inl (cT 4, 1024, .inr (.inr (.inr (.inr f61))))), (a5, .inl (cT 0, 4096, .inl f64)), (a6, .inl (cT 0, 1024, .inl f69))] (fun A => va_Qv (fun _ : Unit => True) (fun _ t => ∃ (r1 : Nat) (r2 : Nat) (y5 : Int32) (y6 : Int32) (y7 : Int32) (y8 : Int32), xB D xcl cT A [(a0, .inr (5, [v22, .ref a4, .int 2, v23, v24, v25, v26, v27, v28, v29, v30, v31, v32, v33, v34, .ref a5, .int 4, .int 4, .int 0, .int 100, v40, .ref a6, .int 4, .int 4096, .ref a1, .ref a2, v43, v44, v45, v46, v47, v48])), (a1, .inl (cT 5, 8, .inr (.inr (.inr (.inr f49))))), (a2, .inl (cT 1, 8, .inl (upd f53 x7.toNatClampNeg 4))), (a3, .inl (cT 0, 4096, .inl f56)), (a4, .inl (cT 4, 1024, .inr (.inr (.inr (.inr (va_up (va_up f61 0 (some r1)) 1 (some r2))))))), (a5, .inl (cT 0, 4096, .inl (upd (upd (upd (upd f64 0 (vp_nar .byte (vp_nar .byte y5))) 1 (vp_nar .byte (vp_nar .byte y6))) 2 (vp_nar .byte (vp_nar .byte y7))) 3 (vp_nar .byte (vp_nar .byte y8))))), (a6, .inl (cT 0, 1024, .inl (upd (upd (upd (upd f69 0 (vp_nar .byte y5)) 1 (vp_nar .byte y6)) 2 (vp_nar .byte y7)) 3 (vp_nar .byte y8)))), (r1, .inr (6, [.int 0, .long 0, .int 0, .int 0, .int 0, .int 1])), (r2, .inr (6, [.int 0, .long 0, .int 0, .int 0, .int 0, .int 1]))] t) A) := by
  refine va_MetW (cc := prog_13_method_90_code) (maxL := 10) (ret := none) (hh := [(0, 128, 131, 83), (0, 128, 149, 86)]) (by decide) rfl ?_
  intro p e s m args below meth c s₁ B hml hv
  obtain ⟨rfl, hsz, hZ, hP, hK, hD0⟩ := hv
  have hx := B.exec
  have hb := B.bytes
  have hr := B.returns
  have hts := atoms_spec (ws := wyM_finish) B.pre
  have htx := fun w h => hts w (List.mem_cons_of_mem _ h)
  have hown : s.vm.findClass "ValueBenchModel" = some m.cls := findClass_of_methodNamed B.named
  have hlocks := B.notSynchronized
  subst hsz
  have hD := hD0.self (sz := s.heap.size)
  generalize hAe : va_A [(a0, .inr (5, [v22, .ref a4, .int 0, v23, v24, v25, v26, v27, v28, v29, v30, v31, v32, v33, v34, v35, v36, v37, v38, v39, v40, .ref a6, v41, v42, .ref a1, .ref a2, v43, v44, v45, v46, v47, v48])), (a1, .inl (cT 5, 8, .inr (.inr (.inr (.inr f49))))), (a2, .inl (cT 1, 8, .inl f53)), (a3, .inl (cT 0, 4096, .inl f56)), (a4, .inl (cT 4, 1024, .inr (.inr (.inr (.inr f61))))), (a5, .inl (cT 0, 4096, .inl f64)), (a6, .inl (cT 0, 1024, .inl f69))] s.heap.size = A at hD hZ ⊢
  have hA : ∀ q : Nat, s.heap.size ≤ q → A q := fun q h => by rw [← hAe]; exact Or.inr h
  have hS : va_S A s.heap s.heap [] := va_S.rf
  have hP : va_P D xcl [(a0, .inr (5, [v22, .ref a4, .int 0, v23, v24, v25, v26, v27, v28, v29, v30, v31, v32, v33, v34, v35, v36, v37, v38, v39, v40, .ref a6, v41, v42, .ref a1, .ref a2, v43, v44, v45, v46, v47, v48])), (a1, .inl (cT 5, 8, .inr (.inr (.inr (.inr f49))))), (a2, .inl (cT 1, 8, .inl f53)), (a3, .inl (cT 0, 4096, .inl f56)), (a4, .inl (cT 4, 1024, .inr (.inr (.inr (.inr f61))))), (a5, .inl (cT 0, 4096, .inl f64)), (a6, .inl (cT 0, 1024, .inl f69))] s.heap := hP
  have hl := lv_entry ([.ref a0, .int x7, .int 2, .int 9, .int x12, .int x17]) (n := 10) (Nat.le_of_ble_eq_true rfl)
  rw [lg_entry_eq]
  generalize (lg_sl ([.ref a0, .int x7, .int 2, .int 9, .int x12, .int x17]) ++ List.replicate (10 - (lg_sl ([.ref a0, .int x7, .int 2, .int 9, .int x12, .int x17])).length) Slot.unset).toArray = ls at hl ⊢
  have hl : lv_has ls 10 [(0, .ref a0), (1, .int x7), (2, .int 2), (3, .int 9), (4, .int x12), (5, .int x17)] := hl
  have htab := vx_table (x := yM_finish) B (hts _ List.mem_cons_self)
  refine lv_aload_n hx hb dM_finish_0 rfl (lv_at hl 0 rfl) ?_
  refine lv_iload hx hb dM_finish_1 (lv_at hl 4 rfl) ?_
  obtain ⟨hPc, hDc, hFc⟩ := xcut (wc := [(a0, .inr (5, [v22, .ref a4, .int 0, v23, v24, v25, v26, v27, v28, v29, v30, v31, v32, v33, v34, v35, v36, v37, v38, v39, v40, .ref a6, v41, v42, .ref a1, .ref a2, v43, v44, v45, v46, v47, v48])), (a1, .inl (cT 5, 8, .inr (.inr (.inr (.inr f49))))), (a2, .inl (cT 1, 8, .inl f53)), (a3, .inl (cT 0, 4096, .inl f56)), (a4, .inl (cT 4, 1024, .inr (.inr (.inr (.inr f61)))))]) hP hD hS hA [0, 1, 2, 3, 4] rfl rfl (by decide)
  refine va_callr (va_runV (C := "ValueBenchModel") (As := [.int x12]) (rest := []) ⟨hx, hb, hml, hown, htx⟩ (cM_register_0 l hl9 D cT aK aV s.heap.size a0 a1 a2 a3 a4 x12 v22 v23 v24 v25 v26 v27 v28 v29 v30 v31 v32 v33 v34 v35 v36 v37 v38 v39 v40 (.ref a6) v41 v42 v43 v44 v45 v46 v47 v48 f49 f53 f56 f61 h13 h14 h15 h16 (by first | rfl | exact h50 | exact h51 | exact h52 | exact h54 | exact h55 | exact h57 | exact h58 | exact h59 | exact h60 | exact h62 | exact h63 | exact h65 | exact h66 | exact h67 | exact h68) (by first | rfl | exact h50 | exact h51 | exact h52 | exact h54 | exact h55 | exact h57 | exact h58 | exact h59 | exact h60 | exact h62 | exact h63 | exact h65 | exact h66 | exact h67 | exact h68) (by first | rfl | exact h50 | exact h51 | exact h52 | exact h54 | exact h55 | exact h57 | exact h58 | exact h59 | exact h60 | exact h62 | exact h63 | exact h65 | exact h66 | exact h67 | exact h68) (by first | rfl | exact h50 | exact h51 | exact h52 | exact h54 | exact h55 | exact h57 | exact h58 | exact h59 | exact h60 | exact h62 | exact h63 | exact h65 | exact h66 | exact h67 | exact h68) (by first | rfl | exact h50 | exact h51 | exact h52 | exact h54 | exact h55 | exact h57 | exact h58 | exact h59 | exact h60 | exact h62 | exact h63 | exact h65 | exact h66 | exact h67 | exact h68) (by first | rfl | exact h50 | exact h51 | exact h52 | exact h54 | exact h55 | exact h57 | exact h58 | exact h59 | exact h60 | exact h62 | exact h63 | exact h65 | exact h66 | exact h67 | exact h68) (by first | rfl | exact h50 | exact h51 | exact h52 | exact h54 | exact h55 | exact h57 | exact h58 | exact h59 | exact h60 | exact h62 | exact h63 | exact h65 | exact h66 | exact h67 | exact h68)) ⟨callB_of 1 htx (xw_goodC kw_6_170) rfl rfl rfl (htx _ kw_1_5) (htx _ kw_6_167) ⟨by decide, by decide, by decide +kernel⟩ ⟨Nat.le_of_ble_eq_true rfl, Nat.le_of_ble_eq_true rfl⟩, (htx _ kw_6_169), (htx _ kp_M_register)⟩ ⟨xPre_blind, va_recv hK hP (ci := 5) rfl (q0 := 0) rfl, (fun U hU hW => ⟨rfl, xPre_of hZ hS hFc hPc hDc hK U hU hW⟩)⟩ rfl rfl hl.1 rfl (lv_room (Nat.le_of_ble_eq_true rfl)) dM_finish_3 ⟨Nat.le_of_ble_eq_true rfl, Nat.le_of_ble_eq_true rfl⟩) hS (fun q _ h => hFc q h) hFc (fun u9 r1 t H1 locs ht hvm hr9 hB hz1 hk1 hS => ?_)
  obtain ⟨hP1, hK1, hD1⟩ := hB
  rw [ht] at hP1
  obtain ⟨hP, hD⟩ := xjoin (W := [(a5, .inl (cT 0, 4096, .inl f64)), (a6, .inl (cT 0, 1024, .inl f69)), (a0, .inr (5, [v22, .ref a4, .int 1, v23, v24, v25, v26, v27, v28, v29, v30, v31, v32, v33, v34, .ref a3, .int 4, .int 4, .int 0, .int 100, v40, .ref a6, v41, v42, .ref a1, .ref a2, v43, v44, v45, v46, v47, v48])), (a1, .inl (cT 5, 8, .inr (.inr (.inr (.inr f49))))), (a2, .inl (cT 1, 8, .inl f53)), (a3, .inl (cT 0, 4096, .inl f56)), (a4, .inl (cT 4, 1024, .inr (.inr (.inr (.inr (va_up f61 0 (some r1))))))), (r1, .inr (6, [.int 0, .long 0, .int 0, .int 0, .int 0, .int 1]))]) hP hD [0, 1, 2, 3, 4] [5, 6] 2 rfl rfl (by decide) (by decide) hk1 hFc hP1 hD1
  generalize H1 = H at hP hS ⊢
  refine W.eq (g2 := F0 m 6 ls [.ref r1]) rfl ?_
  refine lv_astore (lv' := [(6, .ref r1), (0, .ref a0), (1, .int x7), (2, .int 2), (3, .int 9), (4, .int x12), (5, .int x17)]) hx hb dM_finish_6 hl (by decide) rfl (fun ls hl => ?_)
  refine lv_iload_n hx hb dM_finish_8 rfl (lv_at hl 3 rfl) ?_
  refine lv_iconst (v := 1) hx hb dM_finish_9 (by decide) ?_
  refine lv_icmp_ne (tgt := 17) hx hb dM_finish_10 (by decide) (fun _ => ?_) (fun h => ((by revert h; decide : False)).elim)
  refine lv_aload_n hx hb dM_finish_17 rfl (lv_at hl 1 rfl) ?_
  refine lv_iload hx hb dM_finish_18 (lv_at hl 6 rfl) ?_
  obtain ⟨hPc, hDc, hFc⟩ := xcut (wc := [(a0, .inr (5, [v22, .ref a4, .int 1, v23, v24, v25, v26, v27, v28, v29, v30, v31, v32, v33, v34, .ref a3, .int 4, .int 4, .int 0, .int 100, v40, .ref a6, v41, v42, .ref a1, .ref a2, v43, v44, v45, v46, v47, v48])), (a1, .inl (cT 5, 8, .inr (.inr (.inr (.inr f49))))), (a2, .inl (cT 1, 8, .inl f53)), (a5, .inl (cT 0, 4096, .inl f64)), (a4, .inl (cT 4, 1024, .inr (.inr (.inr (.inr (va_up f61 0 (some r1)))))))]) hP hD hS hA [2, 3, 4, 0, 6] rfl rfl (by decide)
  refine va_callr (va_runV (C := "ValueBenchModel") (As := [.int x17]) (rest := []) ⟨hx, hb, hml, hown, htx⟩ (cM_register_1 l hl9 D cT aK aV H.size a0 a1 a2 a5 a4 x17 v22 v23 v24 v25 v26 v27 v28 v29 v30 v31 v32 v33 v34 (.ref a3) (.int 4) (.int 4) (.int 0) (.int 100) v40 (.ref a6) v41 v42 v43 v44 v45 v46 v47 v48 f49 f53 f64 (va_up f61 0 (some r1)) h18 h19 h20 h21 (by first | rfl | exact h50 | exact h51 | exact h52 | exact h54 | exact h55 | exact h57 | exact h58 | exact h59 | exact h60 | exact h63 | exact h65 | exact h66 | exact h67 | exact h68) (by first | rfl | exact h50 | exact h51 | exact h52 | exact h54 | exact h55 | exact h57 | exact h58 | exact h59 | exact h60 | exact h63 | exact h65 | exact h66 | exact h67 | exact h68) (by first | rfl | exact h50 | exact h51 | exact h52 | exact h54 | exact h55 | exact h57 | exact h58 | exact h59 | exact h60 | exact h63 | exact h65 | exact h66 | exact h67 | exact h68) (by first | rfl | exact h50 | exact h51 | exact h52 | exact h54 | exact h55 | exact h57 | exact h58 | exact h59 | exact h60 | exact h63 | exact h65 | exact h66 | exact h67 | exact h68) (by first | rfl | exact h50 | exact h51 | exact h52 | exact h54 | exact h55 | exact h57 | exact h58 | exact h59 | exact h60 | exact h63 | exact h65 | exact h66 | exact h67 | exact h68) (by first | rfl | exact h50 | exact h51 | exact h52 | exact h54 | exact h55 | exact h57 | exact h58 | exact h59 | exact h60 | exact h63 | exact h65 | exact h66 | exact h67 | exact h68) (by first | rfl | exact h50 | exact h51 | exact h52 | exact h54 | exact h55 | exact h57 | exact h58 | exact h59 | exact h60 | exact h63 | exact h65 | exact h66 | exact h67 | exact h68)) ⟨callB_of 1 htx (xw_goodC kw_6_170) rfl rfl rfl (htx _ kw_1_5) (htx _ kw_6_167) ⟨by decide, by decide, by decide +kernel⟩ ⟨Nat.le_of_ble_eq_true rfl, Nat.le_of_ble_eq_true rfl⟩, (htx _ kw_6_169), (htx _ kp_M_register)⟩ ⟨xPre_blind, va_recv hK hP (ci := 5) rfl (q0 := 2) rfl, (fun U hU hW => ⟨rfl, xPre_of hZ hS hFc hPc hDc hK U hU hW⟩)⟩ rfl rfl hl.1 rfl (lv_room (Nat.le_of_ble_eq_true rfl)) dM_finish_20 ⟨Nat.le_of_ble_eq_true rfl, Nat.le_of_ble_eq_true rfl⟩) hS (fun q _ h => hFc q h) hFc (fun u9 r2 t H1 locs ht hvm hr9 hB hz1 hk1 hS => ?_)
  obtain ⟨hP1, hK1, hD1⟩ := hB
  rw [ht] at hP1
  obtain ⟨hP, hD⟩ := xjoin (W := [(a6, .inl (cT 0, 1024, .inl f69)), (a3, .inl (cT 0, 4096, .inl f56)), (r1, .inr (6, [.int 0, .long 0, .int 0, .int 0, .int 0, .int 1])), (a0, .inr (5, [v22, .ref a4, .int 2, v23, v24, v25, v26, v27, v28, v29, v30, v31, v32, v33, v34, .ref a5, .int 4, .int 4, .int 0, .int 100, v40, .ref a6, v41, v42, .ref a1, .ref a2, v43, v44, v45, v46, v47, v48])), (a1, .inl (cT 5, 8, .inr (.inr (.inr (.inr f49))))), (a2, .inl (cT 1, 8, .inl f53)), (a5, .inl (cT 0, 4096, .inl f64)), (a4, .inl (cT 4, 1024, .inr (.inr (.inr (.inr (va_up (va_up f61 0 (some r1)) 1 (some r2))))))), (r2, .inr (6, [.int 0, .long 0, .int 0, .int 0, .int 0, .int 1]))]) hP hD [2, 3, 4, 0, 6] [1, 5, 7] 3 rfl rfl (by decide) (by decide) hk1 hFc hP1 hD1
  generalize H1 = H at hP hS ⊢
  refine W.eq (g2 := F0 m 23 ls [.ref r2]) rfl ?_
  refine lv_astore (lv' := [(7, .ref r2), (6, .ref r1), (0, .ref a0), (1, .int x7), (2, .int 2), (3, .int 9), (4, .int x12), (5, .int x17)]) hx hb dM_finish_23 hl (by decide) rfl (fun ls hl => ?_)
  refine lv_iload_n hx hb dM_finish_25 rfl (lv_at hl 4 rfl) ?_
  refine lv_if_ne (tgt := 43) hx hb dM_finish_26 (by decide) (fun _ => ?_) (fun h => ((by revert h; decide : False)).elim)
  refine lv_iload_n hx hb dM_finish_43 rfl (lv_at hl 4 rfl) ?_
  refine lv_iconst (v := 1) hx hb dM_finish_44 (by decide) ?_
  refine lv_icmp_ne (tgt := 60) hx hb dM_finish_45 (by decide) (fun _ => ?_) (fun h => ((by revert h; decide : False)).elim)
  refine lv_iload_n hx hb dM_finish_60 rfl (lv_at hl 4 rfl) ?_
  refine lv_iconst (v := 2) hx hb dM_finish_61 (by decide) ?_
  refine lv_icmp_ne (tgt := 79) hx hb dM_finish_62 (by decide) (fun h => ((by revert h; decide : False)).elim) (fun _ => ?_)
  refine lv_aload_n hx hb dM_finish_65 rfl (lv_at hl 2 rfl) ?_
  refine lv_iload_n hx hb dM_finish_66 rfl (lv_at hl 5 rfl) ?_
  refine lv_aload hx hb dM_finish_67 (lv_at hl 1 rfl) ?_
  refine lv_aload hx hb dM_finish_69 (lv_at hl 0 rfl) ?_
  obtain ⟨hPc, hDc, hFc⟩ := xcut (wc := [(a0, .inr (5, [v22, .ref a4, .int 2, v23, v24, v25, v26, v27, v28, v29, v30, v31, v32, v33, v34, .ref a5, .int 4, .int 4, .int 0, .int 100, v40, .ref a6, v41, v42, .ref a1, .ref a2, v43, v44, v45, v46, v47, v48])), (r1, .inr (6, [.int 0, .long 0, .int 0, .int 0, .int 0, .int 1])), (r2, .inr (6, [.int 0, .long 0, .int 0, .int 0, .int 0, .int 1]))]) hP hD hS hA [3, 2, 8] rfl rfl (by decide)
  refine va_callr (va_runV (C := "ValueBenchModel") (As := [.int 9, .ref r1, .ref r2]) (rest := []) ⟨hx, hb, hml, hown, htx⟩ (cM_two1_9 l hl9 D cT aK aV H.size a0 r1 r2 v22 (.ref a4) (.int 2) v23 v24 v25 v26 v27 v28 v29 v30 v31 v32 v33 v34 (.ref a5) (.int 4) (.int 4) (.int 0) (.int 100) v40 (.ref a6) v41 v42 (.ref a1) (.ref a2) v43 v44 v45 v46 v47 v48 (.long 0) (.int 0) (.int 0) (.int 0) (.int 1) (.long 0) (.int 0) (.int 0) (.int 0) (.int 1)) ⟨callB_of 3 htx (xw_goodC kw_7_79) rfl rfl rfl (htx _ kw_1_5) (htx _ kw_7_76) ⟨by decide, by decide, by decide +kernel⟩ ⟨Nat.le_of_ble_eq_true rfl, Nat.le_of_ble_eq_true rfl⟩, (htx _ kw_7_78), (htx _ kp_M_two1)⟩ ⟨xPre_blind, va_recv hK hP (ci := 5) rfl (q0 := 3) rfl, (fun U hU hW => ⟨rfl, xPre_of hZ hS hFc hPc hDc hK U hU hW⟩)⟩ rfl rfl hl.1 rfl (lv_room (Nat.le_of_ble_eq_true rfl)) dM_finish_71 ⟨Nat.le_of_ble_eq_true rfl, Nat.le_of_ble_eq_true rfl⟩) hS (fun q _ h => hFc q h) hFc (fun u9 r3 t H1 locs ht hvm hr9 hB hz1 hk1 hS => ?_)
  obtain ⟨hra9, hP1, hK1, hD1⟩ := hB
  rw [ht] at hP1
  obtain ⟨hP, hD⟩ := xjoin (W := [(a6, .inl (cT 0, 1024, .inl f69)), (a3, .inl (cT 0, 4096, .inl f56)), (a1, .inl (cT 5, 8, .inr (.inr (.inr (.inr f49))))), (a2, .inl (cT 1, 8, .inl f53)), (a5, .inl (cT 0, 4096, .inl f64)), (a4, .inl (cT 4, 1024, .inr (.inr (.inr (.inr (va_up (va_up f61 0 (some r1)) 1 (some r2))))))), (a0, .inr (5, [v22, .ref a4, .int 2, v23, v24, v25, v26, v27, v28, v29, v30, v31, v32, v33, v34, .ref a5, .int 4, .int 4, .int 0, .int 100, v40, .ref a6, v41, v42, .ref a1, .ref a2, v43, v44, v45, v46, v47, v48])), (r1, .inr (6, [.int 0, .long 0, .int 0, .int 0, .int 0, .int 1])), (r2, .inr (6, [.int 0, .long 0, .int 0, .int 0, .int 0, .int 1]))]) hP hD [3, 2, 8] [0, 1, 4, 5, 6, 7] 6 rfl rfl (by decide) (by decide) hk1 hFc hP1 hD1
  generalize H1 = H at hP hS ⊢
  rw [hra9]
  refine W.eq (g2 := F0 m 74 ls [.ref r1]) rfl ?_
  refine lv_astore (lv' := [(8, .ref r1), (7, .ref r2), (6, .ref r1), (0, .ref a0), (1, .int x7), (2, .int 2), (3, .int 9), (4, .int x12), (5, .int x17)]) hx hb dM_finish_74 hl (by decide) rfl (fun ls hl => ?_)
  refine lv_goto (tgt := 119) hx hb dM_finish_76 (by decide) ?_
  refine lv_aload_n hx hb dM_finish_119 rfl (lv_at hl 3 rfl) ?_
  refine lv_iload_n hx hb dM_finish_120 rfl (lv_at hl 4 rfl) ?_
  refine lv_aload hx hb dM_finish_121 (lv_at hl 0 rfl) ?_
  obtain ⟨hPc, hDc, hFc⟩ := xcut (wc := [(a0, .inr (5, [v22, .ref a4, .int 2, v23, v24, v25, v26, v27, v28, v29, v30, v31, v32, v33, v34, .ref a5, .int 4, .int 4, .int 0, .int 100, v40, .ref a6, v41, v42, .ref a1, .ref a2, v43, v44, v45, v46, v47, v48])), (r1, .inr (6, [.int 0, .long 0, .int 0, .int 0, .int 0, .int 1])), (a6, .inl (cT 0, 1024, .inl f69)), (a1, .inl (cT 5, 8, .inr (.inr (.inr (.inr f49))))), (a5, .inl (cT 0, 4096, .inl f64)), (a2, .inl (cT 1, 8, .inl f53))]) hP hD hS hA [6, 7, 0, 2, 4, 3] rfl rfl (by decide)
  refine va_calli (va_runV (C := "ValueBenchModel") (As := [.int x7, .ref r1]) (rest := []) ⟨hx, hb, hml, hown, htx⟩ (cM_store_4 l hl9 D cT aK aV H.size a0 r1 a6 a1 a5 a2 x7 v22 (.ref a4) (.int 2) v23 v24 v25 v26 v27 v28 v29 v30 v31 v32 v33 v34 (.ref a5) (.int 4) (.int 4) (.int 0) (.int 100) v40 v41 v42 v43 v44 v45 v46 v47 v48 (.long 0) (.int 0) (.int 0) (.int 0) (.int 1) f69 f49 f64 f53 h8 h9 h10 h11 (by first | rfl | exact h50 | exact h51 | exact h52 | exact h54 | exact h55 | exact h57 | exact h58 | exact h59 | exact h60 | exact h65 | exact h66 | exact h67 | exact h68)) ⟨callB_of 2 htx (xw_goodC kw_6_124) rfl rfl rfl (htx _ kw_1_5) (htx _ kw_6_121) ⟨by decide, by decide, by decide +kernel⟩ ⟨Nat.le_of_ble_eq_true rfl, Nat.le_of_ble_eq_true rfl⟩, (htx _ kw_6_123), (htx _ kp_M_store)⟩ ⟨xPre_blind, va_recv hK hP (ci := 5) rfl (q0 := 6) rfl, (fun U hU hW => ⟨rfl, xPre_of hZ hS hFc hPc hDc hK U hU hW⟩)⟩ rfl rfl hl.1 rfl (lv_room (Nat.le_of_ble_eq_true rfl)) dM_finish_123 ⟨Nat.le_of_ble_eq_true rfl, Nat.le_of_ble_eq_true rfl⟩) hS (fun q _ h => hFc q h) hFc (fun r4 u9 t H1 locs ht hvm hr9 hB hz1 hk1 hS => ?_)
  obtain ⟨y5, y6, y7, y8, hP1, hK1, hD1⟩ := hB
  rw [ht] at hP1
  obtain ⟨hP, hD⟩ := xjoin (W := [(a3, .inl (cT 0, 4096, .inl f56)), (a4, .inl (cT 4, 1024, .inr (.inr (.inr (.inr (va_up (va_up f61 0 (some r1)) 1 (some r2))))))), (r2, .inr (6, [.int 0, .long 0, .int 0, .int 0, .int 0, .int 1])), (a0, .inr (5, [v22, .ref a4, .int 2, v23, v24, v25, v26, v27, v28, v29, v30, v31, v32, v33, v34, .ref a5, .int 4, .int 4, .int 0, .int 100, v40, .ref a6, .int 4, .int 4096, .ref a1, .ref a2, v43, v44, v45, v46, v47, v48])), (r1, .inr (6, [.int 0, .long 0, .int 0, .int 0, .int 0, .int 1])), (a6, .inl (cT 0, 1024, .inl (upd (upd (upd (upd f69 0 (vp_nar .byte y5)) 1 (vp_nar .byte y6)) 2 (vp_nar .byte y7)) 3 (vp_nar .byte y8)))), (a1, .inl (cT 5, 8, .inr (.inr (.inr (.inr f49))))), (a5, .inl (cT 0, 4096, .inl (upd (upd (upd (upd f64 0 (vp_nar .byte (vp_nar .byte y5))) 1 (vp_nar .byte (vp_nar .byte y6))) 2 (vp_nar .byte (vp_nar .byte y7))) 3 (vp_nar .byte (vp_nar .byte y8))))), (a2, .inl (cT 1, 8, .inl (upd f53 x7.toNatClampNeg 4)))]) hP hD [6, 7, 0, 2, 4, 3] [1, 5, 8] 3 rfl rfl (by decide) (by decide) hk1 hFc hP1 hD1
  generalize H1 = H at hP hS ⊢
  rw [hr9]
  refine W.eq (g2 := F0 m 126 ls [.int 4]) rfl ?_
  refine lv_istore (lv' := [(9, .int 4), (8, .ref r1), (7, .ref r2), (6, .ref r1), (0, .ref a0), (1, .int x7), (2, .int 2), (3, .int 9), (4, .int x12), (5, .int x17)]) hx hb dM_finish_126 hl (by decide) rfl (fun ls hl => ?_)
  refine lv_goto (tgt := 156) hx hb dM_finish_128 (by decide) ?_
  obtain ⟨hP9, hD9⟩ := xsub (wc := [(a0, .inr (5, [v22, .ref a4, .int 2, v23, v24, v25, v26, v27, v28, v29, v30, v31, v32, v33, v34, .ref a5, .int 4, .int 4, .int 0, .int 100, v40, .ref a6, .int 4, .int 4096, .ref a1, .ref a2, v43, v44, v45, v46, v47, v48])), (a1, .inl (cT 5, 8, .inr (.inr (.inr (.inr f49))))), (a2, .inl (cT 1, 8, .inl (upd f53 x7.toNatClampNeg 4))), (a3, .inl (cT 0, 4096, .inl f56)), (a4, .inl (cT 4, 1024, .inr (.inr (.inr (.inr (va_up (va_up f61 0 (some r1)) 1 (some r2))))))), (a5, .inl (cT 0, 4096, .inl (upd (upd (upd (upd f64 0 (vp_nar .byte (vp_nar .byte y5))) 1 (vp_nar .byte (vp_nar .byte y6))) 2 (vp_nar .byte (vp_nar .byte y7))) 3 (vp_nar .byte (vp_nar .byte y8))))), (a6, .inl (cT 0, 1024, .inl (upd (upd (upd (upd f69 0 (vp_nar .byte y5)) 1 (vp_nar .byte y6)) 2 (vp_nar .byte y7)) 3 (vp_nar .byte y8)))), (r1, .inr (6, [.int 0, .long 0, .int 0, .int 0, .int 0, .int 1])), (r2, .inr (6, [.int 0, .long 0, .int 0, .int 0, .int 0, .int 1]))]) hP hD [3, 6, 8, 0, 1, 7, 5, 4, 2] rfl rfl (by decide)
  refine W.widen (k := 2) (n := 12) (Nat.le_of_ble_eq_true rfl) (Nat.le_of_ble_eq_true rfl) ?_
  exact W.vret hx hb hr (fun t ht hW => ⟨⟨(), rfl, trivial, r1, r2, y5, y6, y7, y8, by rw [ht]; exact hP9, va_K.moved hW.alike hK, hD9⟩, hS.F ht⟩) hS.2.2 dM_finish_156
set_option maxHeartbeats 400000000 in
set_option maxRecDepth 100000 in
theorem cM_two0_33 (l : Launch) (hl9 : l.stackTraces = false) (D : va_G) (cT : Nat → ClassId) (aK aV : Nat → Nat) (sz : Nat) (a0 : Nat) (a1 : Nat) (a2 : Nat) (a3 : Nat) (a4 : Nat) (a5 : Nat) (a6 : Nat) (x7 : Int32) (x12 : Int32) (x17 : Int32) (v22 : Value) (v23 : Value) (v24 : Value) (v25 : Value) (v26 : Value) (v27 : Value) (v28 : Value) (v29 : Value) (v30 : Value) (v31 : Value) (v32 : Value) (v33 : Value) (v34 : Value) (v35 : Value) (v36 : Value) (v37 : Value) (v38 : Value) (v39 : Value) (v40 : Value) (v41 : Value) (v42 : Value) (v43 : Value) (v44 : Value) (v45 : Value) (v46 : Value) (v47 : Value) (v48 : Value) (v49 : Value) (f50 : Nat → Option Nat) (f54 : Nat → Int32) (f57 : Nat → Int32) (f62 : Nat → Option Nat) (f65 : Nat → Int32) (f70 : Nat → Int32) (h8 : ¬ x7 < 0) (h9 : ¬ 7 < x7) (h10 : x7 ≤ 7) (h11 : vp_in x7 8) (h13 : ¬ x12 < 0) (h14 : ¬ 7 < x12) (h15 : x12 ≤ 7) (h16 : vp_in x12 8) (h18 : ¬ x17 < 0) (h19 : ¬ 7 < x17) (h20 : x17 ≤ 7) (h21 : vp_in x17 8) (h51 : f50 x12.toNatClampNeg = some a3) (h52 : f50 x17.toNatClampNeg = some a5) (h53 : f50 x7.toNatClampNeg = some a5) (h55 : f54 x12.toNatClampNeg = 4) (h56 : f54 x17.toNatClampNeg = 4) (h58 : f57 0 = 110) (h59 : f57 1 = 117) (h60 : f57 2 = 108) (h61 : f57 3 = 108) (h63 : f62 0 = none) (h64 : f62 1 = none) (h66 : f65 0 = 110) (h67 : f65 1 = 117) (h68 : f65 2 = 108) (h69 : f65 3 = 108) : xMet l yM_two0 wyM_two0 9 2 12 204 D cT aK aV sz [.ref a0, .int x7, .int 9, .int x12, .int x17] [(a0, .inr (5, [v22, .ref a4, v23, v24, v25, v26, v27, v28, v29, v30, v31, v32, v33, v34, v35, v36, v37, v38, v39, v40, v41, .ref a6, v42, v43, .ref a1, .ref a2, v44, v45, v46, v47, v48, v49])), (a1, .inl (cT 5, 8, .inr (.inr (.inr (.inr f50))))), (a2, .inl (cT 1, 8, .inl f54)), (a3, .inl (cT 0, 4096, .inl f57)), (a4, .inl (cT 4, 1024, .inr (.inr (.inr (.inr f62))))), (a5, .inl (cT 0, 4096, .inl f65)), (a6, .inl (cT 0, 1024, .inl f70))] (fun A => va_Qv (fun _ : Unit => True) (fun _ t => ∃ (q4 : Nat) (q5 : Nat) (y6 : Int32) (y7 : Int32) (y8 : Int32) (y9 : Int32), xB D xcl cT A [(a0, .inr (5, [.int 0, .ref a4, .int 2, v24, .int 0, v26, v27, .int 0, v29, .int 0, v31, v32, .int 0, v34, v35, .ref a5, .int 4, .int 4, .int 0, .int 100, v41, .ref a6, .int 4, .int 4096, .ref a1, .ref a2, v44, v45, v46, v47, v48, v49])), (a1, .inl (cT 5, 8, .inr (.inr (.inr (.inr f50))))), (a2, .inl (cT 1, 8, .inl (upd f54 x7.toNatClampNeg 4))), (a3, .inl (cT 0, 4096, .inl f57)), (a4, .inl (cT 4, 1024, .inr (.inr (.inr (.inr (va_up (va_up f62 0 (some q4)) 1 (some q5))))))), (a5, .inl (cT 0, 4096, .inl (upd (upd (upd (upd f65 0 (vp_nar .byte (vp_nar .byte y6))) 1 (vp_nar .byte (vp_nar .byte y7))) 2 (vp_nar .byte (vp_nar .byte y8))) 3 (vp_nar .byte (vp_nar .byte y9))))), (a6, .inl (cT 0, 1024, .inl (upd (upd (upd (upd f70 0 (vp_nar .byte y6)) 1 (vp_nar .byte y7)) 2 (vp_nar .byte y8)) 3 (vp_nar .byte y9)))), (q4, .inr (6, [.int 0, .long 0, .int 0, .int 0, .int 0, .int 1])), (q5, .inr (6, [.int 0, .long 0, .int 0, .int 0, .int 0, .int 1]))] t) A) := by
  refine Met.ofW (cc := prog_13_method_93_code) (maxL := 5) (ret := none) (by decide) rfl ?_
  intro p e s m args below meth c s₁ B hml hv
  obtain ⟨rfl, hsz, hZ, hP, hK, hD0⟩ := hv
  have hx := B.exec
  have hb := B.bytes
  have hr := B.returns
  have hts := atoms_spec (ws := wyM_two0) B.pre
  have htx := fun w h => hts w (List.mem_cons_of_mem _ h)
  have hown : s.vm.findClass "ValueBenchModel" = some m.cls := findClass_of_methodNamed B.named
  have hlocks := B.notSynchronized
  subst hsz
  have hD := hD0.self (sz := s.heap.size)
  generalize hAe : va_A [(a0, .inr (5, [v22, .ref a4, v23, v24, v25, v26, v27, v28, v29, v30, v31, v32, v33, v34, v35, v36, v37, v38, v39, v40, v41, .ref a6, v42, v43, .ref a1, .ref a2, v44, v45, v46, v47, v48, v49])), (a1, .inl (cT 5, 8, .inr (.inr (.inr (.inr f50))))), (a2, .inl (cT 1, 8, .inl f54)), (a3, .inl (cT 0, 4096, .inl f57)), (a4, .inl (cT 4, 1024, .inr (.inr (.inr (.inr f62))))), (a5, .inl (cT 0, 4096, .inl f65)), (a6, .inl (cT 0, 1024, .inl f70))] s.heap.size = A at hD hZ ⊢
  have hA : ∀ q : Nat, s.heap.size ≤ q → A q := fun q h => by rw [← hAe]; exact Or.inr h
  have hS : va_S A s.heap s.heap [] := va_S.rf
  have hP : va_P D xcl [(a0, .inr (5, [v22, .ref a4, v23, v24, v25, v26, v27, v28, v29, v30, v31, v32, v33, v34, v35, v36, v37, v38, v39, v40, v41, .ref a6, v42, v43, .ref a1, .ref a2, v44, v45, v46, v47, v48, v49])), (a1, .inl (cT 5, 8, .inr (.inr (.inr (.inr f50))))), (a2, .inl (cT 1, 8, .inl f54)), (a3, .inl (cT 0, 4096, .inl f57)), (a4, .inl (cT 4, 1024, .inr (.inr (.inr (.inr f62))))), (a5, .inl (cT 0, 4096, .inl f65)), (a6, .inl (cT 0, 1024, .inl f70))] s.heap := hP
  have hl := lv_entry ([.ref a0, .int x7, .int 9, .int x12, .int x17]) (n := 5) (Nat.le_of_ble_eq_true rfl)
  rw [lg_entry_eq]
  generalize (lg_sl ([.ref a0, .int x7, .int 9, .int x12, .int x17]) ++ List.replicate (5 - (lg_sl ([.ref a0, .int x7, .int 9, .int x12, .int x17])).length) Slot.unset).toArray = ls at hl ⊢
  have hl : lv_has ls 5 [(0, .ref a0), (1, .int x7), (2, .int 9), (3, .int x12), (4, .int x17)] := hl
  refine lv_aload_n hx hb dM_two0_0 rfl (lv_at hl 0 rfl) ?_
  obtain ⟨hPc, hDc, hFc⟩ := xcut (wc := [(a0, .inr (5, [v22, .ref a4, v23, v24, v25, v26, v27, v28, v29, v30, v31, v32, v33, v34, v35, v36, v37, v38, v39, v40, v41, .ref a6, v42, v43, .ref a1, .ref a2, v44, v45, v46, v47, v48, v49]))]) hP hD hS hA [0] rfl rfl (by decide)
  refine va_callv (va_runV (C := "ValueBenchModel") (As := []) (rest := []) ⟨hx, hb, hml, hown, htx⟩ (cM_begin_0 l hl9 D cT aK aV s.heap.size a0 v22 (.ref a4) v23 v24 v25 v26 v27 v28 v29 v30 v31 v32 v33 v34 v35 v36 v37 v38 v39 v40 v41 (.ref a6) v42 v43 (.ref a1) (.ref a2) v44 v45 v46 v47 v48 v49) ⟨callB_of 0 htx (xw_goodC kw_5_209) rfl rfl rfl (htx _ kw_1_5) (htx _ kw_5_206) ⟨by decide, by decide, by decide +kernel⟩ ⟨Nat.le_of_ble_eq_true rfl, Nat.le_of_ble_eq_true rfl⟩, (htx _ kw_5_208), (htx _ kp_M_begin)⟩ ⟨xPre_blind, va_recv hK hP (ci := 5) rfl (q0 := 0) rfl, (fun U hU hW => ⟨rfl, xPre_of hZ hS hFc hPc hDc hK U hU hW⟩)⟩ rfl rfl hl.1 rfl (lv_room (Nat.le_of_ble_eq_true rfl)) dM_two0_1 ⟨Nat.le_of_ble_eq_true rfl, Nat.le_of_ble_eq_true rfl⟩) hS (fun q _ h => hFc q h) hFc (fun u9 t H1 locs ht hvm hr9 hB hz1 hk1 hS => ?_)
  obtain ⟨hP1, hK1, hD1⟩ := hB
  rw [ht] at hP1
  obtain ⟨hP, hD⟩ := xjoin (W := [(a1, .inl (cT 5, 8, .inr (.inr (.inr (.inr f50))))), (a2, .inl (cT 1, 8, .inl f54)), (a3, .inl (cT 0, 4096, .inl f57)), (a4, .inl (cT 4, 1024, .inr (.inr (.inr (.inr f62))))), (a5, .inl (cT 0, 4096, .inl f65)), (a6, .inl (cT 0, 1024, .inl f70)), (a0, .inr (5, [.int 0, .ref a4, .int 0, v24, .int 0, v26, v27, .int 0, v29, .int 0, v31, v32, .int 0, v34, v35, v36, v37, v38, v39, v40, v41, .ref a6, .int 0, .int 1000000000, .ref a1, .ref a2, v44, v45, v46, v47, v48, v49]))]) hP hD [0] [1, 2, 3, 4, 5, 6] 6 rfl rfl (by decide) (by decide) hk1 hFc hP1 hD1
  generalize H1 = H at hP hS ⊢
  refine lv_aload_n hx hb dM_two0_4 rfl (lv_at hl 0 rfl) ?_
  refine lv_iload_n hx hb dM_two0_5 rfl (lv_at hl 1 rfl) ?_
  obtain ⟨hPc, hDc, hFc⟩ := xcut (wc := []) hP hD hS hA [] rfl rfl (by decide)
  refine va_calli (va_runV (C := "ValueBenchModel") (As := [.int x7]) (rest := []) ⟨hx, hb, hml, hown, htx⟩ (cM_out_0 l hl9 D cT aK aV H.size a0 x7 h8 h9 h10 h11) ⟨callB_of 1 htx (xw_goodC kw_5_217) rfl rfl rfl (htx _ kw_1_5) (htx _ kw_5_214) ⟨by decide, by decide, by decide +kernel⟩ ⟨Nat.le_of_ble_eq_true rfl, Nat.le_of_ble_eq_true rfl⟩, (htx _ kw_5_216), (htx _ kp_M_out)⟩ ⟨xPre_blind, va_recv hK hP (ci := 5) rfl (q0 := 6) rfl, (fun U hU hW => ⟨rfl, xPre_of hZ hS hFc hPc hDc hK U hU hW⟩)⟩ rfl rfl hl.1 rfl (lv_room (Nat.le_of_ble_eq_true rfl)) dM_two0_6 ⟨Nat.le_of_ble_eq_true rfl, Nat.le_of_ble_eq_true rfl⟩) hS (fun q _ h => hFc q h) hFc (fun r1 u9 t H1 locs ht hvm hr9 hB hz1 hk1 hS => ?_)
  obtain ⟨hP1, hK1, hD1⟩ := hB
  rw [ht] at hP1
  obtain ⟨hP, hD⟩ := xjoin (W := [(a1, .inl (cT 5, 8, .inr (.inr (.inr (.inr f50))))), (a2, .inl (cT 1, 8, .inl f54)), (a3, .inl (cT 0, 4096, .inl f57)), (a4, .inl (cT 4, 1024, .inr (.inr (.inr (.inr f62))))), (a5, .inl (cT 0, 4096, .inl f65)), (a6, .inl (cT 0, 1024, .inl f70)), (a0, .inr (5, [.int 0, .ref a4, .int 0, v24, .int 0, v26, v27, .int 0, v29, .int 0, v31, v32, .int 0, v34, v35, v36, v37, v38, v39, v40, v41, .ref a6, .int 0, .int 1000000000, .ref a1, .ref a2, v44, v45, v46, v47, v48, v49]))]) hP hD [] [0, 1, 2, 3, 4, 5, 6] 7 rfl rfl (by decide) (by decide) hk1 hFc hP1 hD1
  generalize H1 = H at hP hS ⊢
  rw [hr9]
  refine W.eq (g2 := F0 m 9 ls [.int 0]) rfl ?_
  refine lv_if_ne (tgt := 39) hx hb dM_two0_9 (by decide) (fun h => ((by revert h; decide : False)).elim) (fun _ => ?_)
  refine lv_iload_n hx hb dM_two0_12 rfl (lv_at hl 2 rfl) ?_
  refine lv_if_lt (tgt := 39) hx hb dM_two0_13 (by decide) (fun h => ((by revert h; decide : False)).elim) (fun _ => ?_)
  refine lv_iload_n hx hb dM_two0_16 rfl (lv_at hl 2 rfl) ?_
  refine lv_bipush (v := 9) hx hb dM_two0_17 (by decide) ?_
  refine lv_icmp_gt (tgt := 39) hx hb dM_two0_19 (by decide) (fun h => ((by revert h; decide : False)).elim) (fun _ => ?_)
  refine lv_aload_n hx hb dM_two0_22 rfl (lv_at hl 0 rfl) ?_
  refine lv_iload_n hx hb dM_two0_23 rfl (lv_at hl 3 rfl) ?_
  obtain ⟨hPc, hDc, hFc⟩ := xcut (wc := []) hP hD hS hA [] rfl rfl (by decide)
  refine va_calli (va_runV (C := "ValueBenchModel") (As := [.int x12]) (rest := []) ⟨hx, hb, hml, hown, htx⟩ (cM_out_0 l hl9 D cT aK aV H.size a0 x12 h13 h14 h15 h16) ⟨callB_of 1 htx (xw_goodC kw_5_217) rfl rfl rfl (htx _ kw_1_5) (htx _ kw_5_214) ⟨by decide, by decide, by decide +kernel⟩ ⟨Nat.le_of_ble_eq_true rfl, Nat.le_of_ble_eq_true rfl⟩, (htx _ kw_5_216), (htx _ kp_M_out)⟩ ⟨xPre_blind, va_recv hK hP (ci := 5) rfl (q0 := 6) rfl, (fun U hU hW => ⟨rfl, xPre_of hZ hS hFc hPc hDc hK U hU hW⟩)⟩ rfl rfl hl.1 rfl (lv_room (Nat.le_of_ble_eq_true rfl)) dM_two0_24 ⟨Nat.le_of_ble_eq_true rfl, Nat.le_of_ble_eq_true rfl⟩) hS (fun q _ h => hFc q h) hFc (fun r2 u9 t H1 locs ht hvm hr9 hB hz1 hk1 hS => ?_)
  obtain ⟨hP1, hK1, hD1⟩ := hB
  rw [ht] at hP1
  obtain ⟨hP, hD⟩ := xjoin (W := [(a1, .inl (cT 5, 8, .inr (.inr (.inr (.inr f50))))), (a2, .inl (cT 1, 8, .inl f54)), (a3, .inl (cT 0, 4096, .inl f57)), (a4, .inl (cT 4, 1024, .inr (.inr (.inr (.inr f62))))), (a5, .inl (cT 0, 4096, .inl f65)), (a6, .inl (cT 0, 1024, .inl f70)), (a0, .inr (5, [.int 0, .ref a4, .int 0, v24, .int 0, v26, v27, .int 0, v29, .int 0, v31, v32, .int 0, v34, v35, v36, v37, v38, v39, v40, v41, .ref a6, .int 0, .int 1000000000, .ref a1, .ref a2, v44, v45, v46, v47, v48, v49]))]) hP hD [] [0, 1, 2, 3, 4, 5, 6] 7 rfl rfl (by decide) (by decide) hk1 hFc hP1 hD1
  generalize H1 = H at hP hS ⊢
  rw [hr9]
  refine W.eq (g2 := F0 m 27 ls [.int 0]) rfl ?_
  refine lv_if_ne (tgt := 39) hx hb dM_two0_27 (by decide) (fun h => ((by revert h; decide : False)).elim) (fun _ => ?_)
  refine lv_aload_n hx hb dM_two0_30 rfl (lv_at hl 0 rfl) ?_
  refine lv_iload hx hb dM_two0_31 (lv_at hl 4 rfl) ?_
  obtain ⟨hPc, hDc, hFc⟩ := xcut (wc := []) hP hD hS hA [] rfl rfl (by decide)
  refine va_calli (va_runV (C := "ValueBenchModel") (As := [.int x17]) (rest := []) ⟨hx, hb, hml, hown, htx⟩ (cM_out_0 l hl9 D cT aK aV H.size a0 x17 h18 h19 h20 h21) ⟨callB_of 1 htx (xw_goodC kw_5_217) rfl rfl rfl (htx _ kw_1_5) (htx _ kw_5_214) ⟨by decide, by decide, by decide +kernel⟩ ⟨Nat.le_of_ble_eq_true rfl, Nat.le_of_ble_eq_true rfl⟩, (htx _ kw_5_216), (htx _ kp_M_out)⟩ ⟨xPre_blind, va_recv hK hP (ci := 5) rfl (q0 := 6) rfl, (fun U hU hW => ⟨rfl, xPre_of hZ hS hFc hPc hDc hK U hU hW⟩)⟩ rfl rfl hl.1 rfl (lv_room (Nat.le_of_ble_eq_true rfl)) dM_two0_33 ⟨Nat.le_of_ble_eq_true rfl, Nat.le_of_ble_eq_true rfl⟩) hS (fun q _ h => hFc q h) hFc (fun r3 u9 t H1 locs ht hvm hr9 hB hz1 hk1 hS => ?_)
  obtain ⟨hP1, hK1, hD1⟩ := hB
  rw [ht] at hP1
  obtain ⟨hP, hD⟩ := xjoin (W := [(a1, .inl (cT 5, 8, .inr (.inr (.inr (.inr f50))))), (a2, .inl (cT 1, 8, .inl f54)), (a3, .inl (cT 0, 4096, .inl f57)), (a4, .inl (cT 4, 1024, .inr (.inr (.inr (.inr f62))))), (a5, .inl (cT 0, 4096, .inl f65)), (a6, .inl (cT 0, 1024, .inl f70)), (a0, .inr (5, [.int 0, .ref a4, .int 0, v24, .int 0, v26, v27, .int 0, v29, .int 0, v31, v32, .int 0, v34, v35, v36, v37, v38, v39, v40, v41, .ref a6, .int 0, .int 1000000000, .ref a1, .ref a2, v44, v45, v46, v47, v48, v49]))]) hP hD [] [0, 1, 2, 3, 4, 5, 6] 7 rfl rfl (by decide) (by decide) hk1 hFc hP1 hD1
  generalize H1 = H at hP hS ⊢
  rw [hr9]
  refine W.eq (g2 := F0 m 36 ls [.int 0]) rfl ?_
  refine lv_if_eq (tgt := 47) hx hb dM_two0_36 (by decide) (fun _ => ?_) (fun h => ((by revert h; decide : False)).elim)
  refine lv_aload_n hx hb dM_two0_47 rfl (lv_at hl 0 rfl) ?_
  refine lv_iload_n hx hb dM_two0_48 rfl (lv_at hl 1 rfl) ?_
  refine lv_iconst (v := 2) hx hb dM_two0_49 (by decide) ?_
  refine lv_iload_n hx hb dM_two0_50 rfl (lv_at hl 2 rfl) ?_
  refine lv_iload_n hx hb dM_two0_51 rfl (lv_at hl 3 rfl) ?_
  refine lv_iload hx hb dM_two0_52 (lv_at hl 4 rfl) ?_
  obtain ⟨hPc, hDc, hFc⟩ := xcut (wc := [(a0, .inr (5, [.int 0, .ref a4, .int 0, v24, .int 0, v26, v27, .int 0, v29, .int 0, v31, v32, .int 0, v34, v35, v36, v37, v38, v39, v40, v41, .ref a6, .int 0, .int 1000000000, .ref a1, .ref a2, v44, v45, v46, v47, v48, v49])), (a1, .inl (cT 5, 8, .inr (.inr (.inr (.inr f50))))), (a2, .inl (cT 1, 8, .inl f54)), (a3, .inl (cT 0, 4096, .inl f57)), (a4, .inl (cT 4, 1024, .inr (.inr (.inr (.inr f62))))), (a5, .inl (cT 0, 4096, .inl f65)), (a6, .inl (cT 0, 1024, .inl f70))]) hP hD hS hA [6, 0, 1, 2, 3, 4, 5] rfl rfl (by decide)
  refine va_callv (vx_runVW (C := "ValueBenchModel") (As := [.int x7, .int 2, .int 9, .int x12, .int x17]) (rest := []) ⟨hx, hb, hml, hown, htx⟩ (cM_finish_65 l hl9 D cT aK aV H.size a0 a1 a2 a3 a4 a5 a6 x7 x12 x17 (.int 0) v24 (.int 0) v26 v27 (.int 0) v29 (.int 0) v31 v32 (.int 0) v34 v35 v36 v37 v38 v39 v40 v41 (.int 0) (.int 1000000000) v44 v45 v46 v47 v48 v49 f50 f54 f57 f62 f65 f70 h8 h9 h10 h11 h13 h14 h15 h16 h18 h19 h20 h21 (by first | rfl | exact h51 | exact h52 | exact h53 | exact h55 | exact h56 | exact h58 | exact h59 | exact h60 | exact h61 | exact h63 | exact h64 | exact h66 | exact h67 | exact h68 | exact h69) (by first | rfl | exact h51 | exact h52 | exact h53 | exact h55 | exact h56 | exact h58 | exact h59 | exact h60 | exact h61 | exact h63 | exact h64 | exact h66 | exact h67 | exact h68 | exact h69) (by first | rfl | exact h51 | exact h52 | exact h53 | exact h55 | exact h56 | exact h58 | exact h59 | exact h60 | exact h61 | exact h63 | exact h64 | exact h66 | exact h67 | exact h68 | exact h69) (by first | rfl | exact h51 | exact h52 | exact h53 | exact h55 | exact h56 | exact h58 | exact h59 | exact h60 | exact h61 | exact h63 | exact h64 | exact h66 | exact h67 | exact h68 | exact h69) (by first | rfl | exact h51 | exact h52 | exact h53 | exact h55 | exact h56 | exact h58 | exact h59 | exact h60 | exact h61 | exact h63 | exact h64 | exact h66 | exact h67 | exact h68 | exact h69) (by first | rfl | exact h51 | exact h52 | exact h53 | exact h55 | exact h56 | exact h58 | exact h59 | exact h60 | exact h61 | exact h63 | exact h64 | exact h66 | exact h67 | exact h68 | exact h69) (by first | rfl | exact h51 | exact h52 | exact h53 | exact h55 | exact h56 | exact h58 | exact h59 | exact h60 | exact h61 | exact h63 | exact h64 | exact h66 | exact h67 | exact h68 | exact h69) (by first | rfl | exact h51 | exact h52 | exact h53 | exact h55 | exact h56 | exact h58 | exact h59 | exact h60 | exact h61 | exact h63 | exact h64 | exact h66 | exact h67 | exact h68 | exact h69) (by first | rfl | exact h51 | exact h52 | exact h53 | exact h55 | exact h56 | exact h58 | exact h59 | exact h60 | exact h61 | exact h63 | exact h64 | exact h66 | exact h67 | exact h68 | exact h69) (by first | rfl | exact h51 | exact h52 | exact h53 | exact h55 | exact h56 | exact h58 | exact h59 | exact h60 | exact h61 | exact h63 | exact h64 | exact h66 | exact h67 | exact h68 | exact h69) (by first | rfl | exact h51 | exact h52 | exact h53 | exact h55 | exact h56 | exact h58 | exact h59 | exact h60 | exact h61 | exact h63 | exact h64 | exact h66 | exact h67 | exact h68 | exact h69) (by first | rfl | exact h51 | exact h52 | exact h53 | exact h55 | exact h56 | exact h58 | exact h59 | exact h60 | exact h61 | exact h63 | exact h64 | exact h66 | exact h67 | exact h68 | exact h69) (by first | rfl | exact h51 | exact h52 | exact h53 | exact h55 | exact h56 | exact h58 | exact h59 | exact h60 | exact h61 | exact h63 | exact h64 | exact h66 | exact h67 | exact h68 | exact h69) (by first | rfl | exact h51 | exact h52 | exact h53 | exact h55 | exact h56 | exact h58 | exact h59 | exact h60 | exact h61 | exact h63 | exact h64 | exact h66 | exact h67 | exact h68 | exact h69) (by first | rfl | exact h51 | exact h52 | exact h53 | exact h55 | exact h56 | exact h58 | exact h59 | exact h60 | exact h61 | exact h63 | exact h64 | exact h66 | exact h67 | exact h68 | exact h69)) (xcVW 5 htx (xw_goodC kw_6_195) rfl rfl rfl (htx _ kw_1_5) (htx _ kw_6_192) ⟨by decide, by decide, by decide +kernel⟩ ⟨Nat.le_of_ble_eq_true rfl, Nat.le_of_ble_eq_true rfl⟩ (htx _ kw_6_194) (htx _ kp_M_finish)) ⟨xPre_blind, va_recv hK hP (ci := 5) rfl (q0 := 6) rfl, (fun U hU hW => ⟨rfl, xPre_of hZ hS hFc hPc hDc hK U hU hW⟩)⟩ rfl rfl hl.1 rfl (lv_room (Nat.le_of_ble_eq_true rfl)) dM_two0_54 ⟨Nat.le_of_ble_eq_true rfl, Nat.le_of_ble_eq_true rfl⟩) hS (fun q _ h => hFc q h) hFc (fun u9 t H1 locs ht hvm hr9 hB hz1 hk1 hS => ?_)
  obtain ⟨q4, q5, y6, y7, y8, y9, hP1, hK1, hD1⟩ := hB
  rw [ht] at hP1
  obtain ⟨hP, hD⟩ := xjoin (W := [(a0, .inr (5, [.int 0, .ref a4, .int 2, v24, .int 0, v26, v27, .int 0, v29, .int 0, v31, v32, .int 0, v34, v35, .ref a5, .int 4, .int 4, .int 0, .int 100, v41, .ref a6, .int 4, .int 4096, .ref a1, .ref a2, v44, v45, v46, v47, v48, v49])), (a1, .inl (cT 5, 8, .inr (.inr (.inr (.inr f50))))), (a2, .inl (cT 1, 8, .inl (upd f54 x7.toNatClampNeg 4))), (a3, .inl (cT 0, 4096, .inl f57)), (a4, .inl (cT 4, 1024, .inr (.inr (.inr (.inr (va_up (va_up f62 0 (some q4)) 1 (some q5))))))), (a5, .inl (cT 0, 4096, .inl (upd (upd (upd (upd f65 0 (vp_nar .byte (vp_nar .byte y6))) 1 (vp_nar .byte (vp_nar .byte y7))) 2 (vp_nar .byte (vp_nar .byte y8))) 3 (vp_nar .byte (vp_nar .byte y9))))), (a6, .inl (cT 0, 1024, .inl (upd (upd (upd (upd f70 0 (vp_nar .byte y6)) 1 (vp_nar .byte y7)) 2 (vp_nar .byte y8)) 3 (vp_nar .byte y9)))), (q4, .inr (6, [.int 0, .long 0, .int 0, .int 0, .int 0, .int 1])), (q5, .inr (6, [.int 0, .long 0, .int 0, .int 0, .int 0, .int 1]))]) hP hD [6, 0, 1, 2, 3, 4, 5] [] 0 rfl rfl (by decide) (by decide) hk1 hFc hP1 hD1
  generalize H1 = H at hP hS ⊢
  obtain ⟨hP9, hD9⟩ := xsub (wc := [(a0, .inr (5, [.int 0, .ref a4, .int 2, v24, .int 0, v26, v27, .int 0, v29, .int 0, v31, v32, .int 0, v34, v35, .ref a5, .int 4, .int 4, .int 0, .int 100, v41, .ref a6, .int 4, .int 4096, .ref a1, .ref a2, v44, v45, v46, v47, v48, v49])), (a1, .inl (cT 5, 8, .inr (.inr (.inr (.inr f50))))), (a2, .inl (cT 1, 8, .inl (upd f54 x7.toNatClampNeg 4))), (a3, .inl (cT 0, 4096, .inl f57)), (a4, .inl (cT 4, 1024, .inr (.inr (.inr (.inr (va_up (va_up f62 0 (some q4)) 1 (some q5))))))), (a5, .inl (cT 0, 4096, .inl (upd (upd (upd (upd f65 0 (vp_nar .byte (vp_nar .byte y6))) 1 (vp_nar .byte (vp_nar .byte y7))) 2 (vp_nar .byte (vp_nar .byte y8))) 3 (vp_nar .byte (vp_nar .byte y9))))), (a6, .inl (cT 0, 1024, .inl (upd (upd (upd (upd f70 0 (vp_nar .byte y6)) 1 (vp_nar .byte y7)) 2 (vp_nar .byte y8)) 3 (vp_nar .byte y9)))), (q4, .inr (6, [.int 0, .long 0, .int 0, .int 0, .int 0, .int 1])), (q5, .inr (6, [.int 0, .long 0, .int 0, .int 0, .int 0, .int 1]))]) hP hD [0, 1, 2, 3, 4, 5, 6, 7, 8] rfl rfl (by decide)
  refine W.widen (k := 2) (n := 12) (Nat.le_of_ble_eq_true rfl) (Nat.le_of_ble_eq_true rfl) ?_
  exact W.vret hx hb hr (fun t ht hW => ⟨⟨(), rfl, trivial, q4, q5, y6, y7, y8, y9, by rw [ht]; exact hP9, va_K.moved hW.alike hK, hD9⟩, hS.F ht⟩) hS.2.2 dM_two0_57
set_option maxHeartbeats 400000000 in
set_option maxRecDepth 100000 in
theorem cM_finish_66 (l : Launch) (hl9 : l.stackTraces = false) (D : va_G) (cT : Nat → ClassId) (aK aV : Nat → Nat) (sz : Nat) (a0 : Nat) (a1 : Nat) (a2 : Nat) (a3 : Nat) (a4 : Nat) (a5 : Nat) (x6 : Int32) (x11 : Int32) (x16 : Int32) (v21 : Value) (v22 : Value) (v23 : Value) (v24 : Value) (v25 : Value) (v26 : Value) (v27 : Value) (v28 : Value) (v29 : Value) (v30 : Value) (v31 : Value) (v32 : Value) (v33 : Value) (v34 : Value) (v35 : Value) (v36 : Value) (v37 : Value) (v38 : Value) (v39 : Value) (v40 : Value) (v41 : Value) (v42 : Value) (v43 : Value) (v44 : Value) (v45 : Value) (v46 : Value) (v47 : Value) (f48 : Nat → Option Nat) (f52 : Nat → Int32) (f55 : Nat → Int32) (f60 : Nat → Option Nat) (f63 : Nat → Int32) (h7 : ¬ x6 < 0) (h8 : ¬ 7 < x6) (h9 : x6 ≤ 7) (h10 : vp_in x6 8) (h12 : ¬ x11 < 0) (h13 : ¬ 7 < x11) (h14 : x11 ≤ 7) (h15 : vp_in x11 8) (h17 : ¬ x16 < 0) (h18 : ¬ 7 < x16) (h19 : x16 ≤ 7) (h20 : vp_in x16 8) (h49 : f48 x11.toNatClampNeg = some a3) (h50 : f48 x16.toNatClampNeg = some a3) (h51 : f48 x6.toNatClampNeg = some a3) (h53 : f52 x11.toNatClampNeg = 4) (h54 : f52 x16.toNatClampNeg = 4) (h56 : f55 0 = 110) (h57 : f55 1 = 117) (h58 : f55 2 = 108) (h59 : f55 3 = 108) (h61 : f60 0 = none) (h62 : f60 1 = none) : xMet l yM_finish wyM_finish 8 2 12 175 D cT aK aV sz [.ref a0, .int x6, .int 2, .int 9, .int x11, .int x16] [(a0, .inr (5, [v21, .ref a4, .int 0, v22, v23, v24, v25, v26, v27, v28, v29, v30, v31, v32, v33, v34, v35, v36, v37, v38, v39, .ref a5, v40, v41, .ref a1, .ref a2, v42, v43, v44, v45, v46, v47])), (a1, .inl (cT 5, 8, .inr (.inr (.inr (.inr f48))))), (a2, .inl (cT 1, 8, .inl f52)), (a3, .inl (cT 0, 4096, .inl f55)), (a4, .inl (cT 4, 1024, .inr (.inr (.inr (.inr f60))))), (a5, .inl (cT 0, 1024, .inl f63))] (fun A => va_Qv (fun _ : Unit => True) (fun _ t => ∃ (r1 : Nat) (r2 : Nat) (y5 : Int32) (y6 : Int32) (y7 : Int32) (y8 : Int32), xB D xcl cT A [(a0, .inr (5, [v21, .ref a4, .int 2, v22, v23, v24, v25, v26, v27, v28, v29, v30, v31, v32, v33, .ref a3, .int 4, .int 4, .int 0, .int 100, v39, .ref a5, .int 4, .int 4096, .ref a1, .ref a2, v42, v43, v44, v45, v46, v47])), (a1, .inl (cT 5, 8, .inr (.inr (.inr (.inr f48))))), (a2, .inl (cT 1, 8, .inl (upd f52 x6.toNatClampNeg 4))), (a3, .inl (cT 0, 4096, .inl (upd (upd (upd (upd f55 0 (vp_nar .byte (vp_nar .byte y5))) 1 (vp_nar .byte (vp_nar .byte y6))) 2 (vp_nar .byte (vp_nar .byte y7))) 3 (vp_nar .byte (vp_nar .byte y8))))), (a4, .inl (cT 4, 1024, .inr (.inr (.inr (.inr (va_up (va_up f60 0 (some r1)) 1 (some r2))))))), (a5, .inl (cT 0, 1024, .inl (upd (upd (upd (upd f63 0 (vp_nar .byte y5)) 1 (vp_nar .byte y6)) 2 (vp_nar .byte y7)) 3 (vp_nar .byte y8)))), (r1, .inr (6, [.int 0, .long 0, .int 0, .int 0, .int 0, .int 1])), (r2, .inr (6, [.int 0, .long 0, .int 0, .int 0, .int 0, .int 1]))] t) A) := by
  refine va_MetW (cc := prog_13_method_90_code) (maxL := 10) (ret := none) (hh := [(0, 128, 131, 83), (0, 128, 149, 86)]) (by decide) rfl ?_
  intro p e s m args below meth c s₁ B hml hv
  obtain ⟨rfl, hsz, hZ, hP, hK, hD0⟩ := hv
  have hx := B.exec
  have hb := B.bytes
  have hr := B.returns
  have hts := atoms_spec (ws := wyM_finish) B.pre
  have htx := fun w h => hts w (List.mem_cons_of_mem _ h)
  have hown : s.vm.findClass "ValueBenchModel" = some m.cls := findClass_of_methodNamed B.named
  have hlocks := B.notSynchronized
  subst hsz
  have hD := hD0.self (sz := s.heap.size)
  generalize hAe : va_A [(a0, .inr (5, [v21, .ref a4, .int 0, v22, v23, v24, v25, v26, v27, v28, v29, v30, v31, v32, v33, v34, v35, v36, v37, v38, v39, .ref a5, v40, v41, .ref a1, .ref a2, v42, v43, v44, v45, v46, v47])), (a1, .inl (cT 5, 8, .inr (.inr (.inr (.inr f48))))), (a2, .inl (cT 1, 8, .inl f52)), (a3, .inl (cT 0, 4096, .inl f55)), (a4, .inl (cT 4, 1024, .inr (.inr (.inr (.inr f60))))), (a5, .inl (cT 0, 1024, .inl f63))] s.heap.size = A at hD hZ ⊢
  have hA : ∀ q : Nat, s.heap.size ≤ q → A q := fun q h => by rw [← hAe]; exact Or.inr h
  have hS : va_S A s.heap s.heap [] := va_S.rf
  have hP : va_P D xcl [(a0, .inr (5, [v21, .ref a4, .int 0, v22, v23, v24, v25, v26, v27, v28, v29, v30, v31, v32, v33, v34, v35, v36, v37, v38, v39, .ref a5, v40, v41, .ref a1, .ref a2, v42, v43, v44, v45, v46, v47])), (a1, .inl (cT 5, 8, .inr (.inr (.inr (.inr f48))))), (a2, .inl (cT 1, 8, .inl f52)), (a3, .inl (cT 0, 4096, .inl f55)), (a4, .inl (cT 4, 1024, .inr (.inr (.inr (.inr f60))))), (a5, .inl (cT 0, 1024, .inl f63))] s.heap := hP
  have hl := lv_entry ([.ref a0, .int x6, .int 2, .int 9, .int x11, .int x16]) (n := 10) (Nat.le_of_ble_eq_true rfl)
  rw [lg_entry_eq]
  generalize (lg_sl ([.ref a0, .int x6, .int 2, .int 9, .int x11, .int x16]) ++ List.replicate (10 - (lg_sl ([.ref a0, .int x6, .int 2, .int 9, .int x11, .int x16])).length) Slot.unset).toArray = ls at hl ⊢
  have hl : lv_has ls 10 [(0, .ref a0), (1, .int x6), (2, .int 2), (3, .int 9), (4, .int x11), (5, .int x16)] := hl
  have htab := vx_table (x := yM_finish) B (hts _ List.mem_cons_self)
  refine lv_aload_n hx hb dM_finish_0 rfl (lv_at hl 0 rfl) ?_
  refine lv_iload hx hb dM_finish_1 (lv_at hl 4 rfl) ?_
  obtain ⟨hPc, hDc, hFc⟩ := xcut (wc := [(a0, .inr (5, [v21, .ref a4, .int 0, v22, v23, v24, v25, v26, v27, v28, v29, v30, v31, v32, v33, v34, v35, v36, v37, v38, v39, .ref a5, v40, v41, .ref a1, .ref a2, v42, v43, v44, v45, v46, v47])), (a1, .inl (cT 5, 8, .inr (.inr (.inr (.inr f48))))), (a2, .inl (cT 1, 8, .inl f52)), (a3, .inl (cT 0, 4096, .inl f55)), (a4, .inl (cT 4, 1024, .inr (.inr (.inr (.inr f60)))))]) hP hD hS hA [0, 1, 2, 3, 4] rfl rfl (by decide)
  refine va_callr (va_runV (C := "ValueBenchModel") (As := [.int x11]) (rest := []) ⟨hx, hb, hml, hown, htx⟩ (cM_register_0 l hl9 D cT aK aV s.heap.size a0 a1 a2 a3 a4 x11 v21 v22 v23 v24 v25 v26 v27 v28 v29 v30 v31 v32 v33 v34 v35 v36 v37 v38 v39 (.ref a5) v40 v41 v42 v43 v44 v45 v46 v47 f48 f52 f55 f60 h12 h13 h14 h15 (by first | rfl | exact h49 | exact h50 | exact h51 | exact h53 | exact h54 | exact h56 | exact h57 | exact h58 | exact h59 | exact h61 | exact h62) (by first | rfl | exact h49 | exact h50 | exact h51 | exact h53 | exact h54 | exact h56 | exact h57 | exact h58 | exact h59 | exact h61 | exact h62) (by first | rfl | exact h49 | exact h50 | exact h51 | exact h53 | exact h54 | exact h56 | exact h57 | exact h58 | exact h59 | exact h61 | exact h62) (by first | rfl | exact h49 | exact h50 | exact h51 | exact h53 | exact h54 | exact h56 | exact h57 | exact h58 | exact h59 | exact h61 | exact h62) (by first | rfl | exact h49 | exact h50 | exact h51 | exact h53 | exact h54 | exact h56 | exact h57 | exact h58 | exact h59 | exact h61 | exact h62) (by first | rfl | exact h49 | exact h50 | exact h51 | exact h53 | exact h54 | exact h56 | exact h57 | exact h58 | exact h59 | exact h61 | exact h62) (by first | rfl | exact h49 | exact h50 | exact h51 | exact h53 | exact h54 | exact h56 | exact h57 | exact h58 | exact h59 | exact h61 | exact h62)) ⟨callB_of 1 htx (xw_goodC kw_6_170) rfl rfl rfl (htx _ kw_1_5) (htx _ kw_6_167) ⟨by decide, by decide, by decide +kernel⟩ ⟨Nat.le_of_ble_eq_true rfl, Nat.le_of_ble_eq_true rfl⟩, (htx _ kw_6_169), (htx _ kp_M_register)⟩ ⟨xPre_blind, va_recv hK hP (ci := 5) rfl (q0 := 0) rfl, (fun U hU hW => ⟨rfl, xPre_of hZ hS hFc hPc hDc hK U hU hW⟩)⟩ rfl rfl hl.1 rfl (lv_room (Nat.le_of_ble_eq_true rfl)) dM_finish_3 ⟨Nat.le_of_ble_eq_true rfl, Nat.le_of_ble_eq_true rfl⟩) hS (fun q _ h => hFc q h) hFc (fun u9 r1 t H1 locs ht hvm hr9 hB hz1 hk1 hS => ?_)
  obtain ⟨hP1, hK1, hD1⟩ := hB
  rw [ht] at hP1
  obtain ⟨hP, hD⟩ := xjoin (W := [(a5, .inl (cT 0, 1024, .inl f63)), (a0, .inr (5, [v21, .ref a4, .int 1, v22, v23, v24, v25, v26, v27, v28, v29, v30, v31, v32, v33, .ref a3, .int 4, .int 4, .int 0, .int 100, v39, .ref a5, v40, v41, .ref a1, .ref a2, v42, v43, v44, v45, v46, v47])), (a1, .inl (cT 5, 8, .inr (.inr (.inr (.inr f48))))), (a2, .inl (cT 1, 8, .inl f52)), (a3, .inl (cT 0, 4096, .inl f55)), (a4, .inl (cT 4, 1024, .inr (.inr (.inr (.inr (va_up f60 0 (some r1))))))), (r1, .inr (6, [.int 0, .long 0, .int 0, .int 0, .int 0, .int 1]))]) hP hD [0, 1, 2, 3, 4] [5] 1 rfl rfl (by decide) (by decide) hk1 hFc hP1 hD1
  generalize H1 = H at hP hS ⊢
  refine W.eq (g2 := F0 m 6 ls [.ref r1]) rfl ?_
  refine lv_astore (lv' := [(6, .ref r1), (0, .ref a0), (1, .int x6), (2, .int 2), (3, .int 9), (4, .int x11), (5, .int x16)]) hx hb dM_finish_6 hl (by decide) rfl (fun ls hl => ?_)
  refine lv_iload_n hx hb dM_finish_8 rfl (lv_at hl 3 rfl) ?_
  refine lv_iconst (v := 1) hx hb dM_finish_9 (by decide) ?_
  refine lv_icmp_ne (tgt := 17) hx hb dM_finish_10 (by decide) (fun _ => ?_) (fun h => ((by revert h; decide : False)).elim)
  refine lv_aload_n hx hb dM_finish_17 rfl (lv_at hl 1 rfl) ?_
  refine lv_iload hx hb dM_finish_18 (lv_at hl 6 rfl) ?_
  obtain ⟨hPc, hDc, hFc⟩ := xcut (wc := [(a0, .inr (5, [v21, .ref a4, .int 1, v22, v23, v24, v25, v26, v27, v28, v29, v30, v31, v32, v33, .ref a3, .int 4, .int 4, .int 0, .int 100, v39, .ref a5, v40, v41, .ref a1, .ref a2, v42, v43, v44, v45, v46, v47])), (a1, .inl (cT 5, 8, .inr (.inr (.inr (.inr f48))))), (a2, .inl (cT 1, 8, .inl f52)), (a3, .inl (cT 0, 4096, .inl f55)), (a4, .inl (cT 4, 1024, .inr (.inr (.inr (.inr (va_up f60 0 (some r1)))))))]) hP hD hS hA [1, 2, 3, 4, 5] rfl rfl (by decide)
  refine va_callr (va_runV (C := "ValueBenchModel") (As := [.int x16]) (rest := []) ⟨hx, hb, hml, hown, htx⟩ (cM_register_1 l hl9 D cT aK aV H.size a0 a1 a2 a3 a4 x16 v21 v22 v23 v24 v25 v26 v27 v28 v29 v30 v31 v32 v33 (.ref a3) (.int 4) (.int 4) (.int 0) (.int 100) v39 (.ref a5) v40 v41 v42 v43 v44 v45 v46 v47 f48 f52 f55 (va_up f60 0 (some r1)) h17 h18 h19 h20 (by first | rfl | exact h49 | exact h50 | exact h51 | exact h53 | exact h54 | exact h56 | exact h57 | exact h58 | exact h59 | exact h62) (by first | rfl | exact h49 | exact h50 | exact h51 | exact h53 | exact h54 | exact h56 | exact h57 | exact h58 | exact h59 | exact h62) (by first | rfl | exact h49 | exact h50 | exact h51 | exact h53 | exact h54 | exact h56 | exact h57 | exact h58 | exact h59 | exact h62) (by first | rfl | exact h49 | exact h50 | exact h51 | exact h53 | exact h54 | exact h56 | exact h57 | exact h58 | exact h59 | exact h62) (by first | rfl | exact h49 | exact h50 | exact h51 | exact h53 | exact h54 | exact h56 | exact h57 | exact h58 | exact h59 | exact h62) (by first | rfl | exact h49 | exact h50 | exact h51 | exact h53 | exact h54 | exact h56 | exact h57 | exact h58 | exact h59 | exact h62) (by first | rfl | exact h49 | exact h50 | exact h51 | exact h53 | exact h54 | exact h56 | exact h57 | exact h58 | exact h59 | exact h62)) ⟨callB_of 1 htx (xw_goodC kw_6_170) rfl rfl rfl (htx _ kw_1_5) (htx _ kw_6_167) ⟨by decide, by decide, by decide +kernel⟩ ⟨Nat.le_of_ble_eq_true rfl, Nat.le_of_ble_eq_true rfl⟩, (htx _ kw_6_169), (htx _ kp_M_register)⟩ ⟨xPre_blind, va_recv hK hP (ci := 5) rfl (q0 := 1) rfl, (fun U hU hW => ⟨rfl, xPre_of hZ hS hFc hPc hDc hK U hU hW⟩)⟩ rfl rfl hl.1 rfl (lv_room (Nat.le_of_ble_eq_true rfl)) dM_finish_20 ⟨Nat.le_of_ble_eq_true rfl, Nat.le_of_ble_eq_true rfl⟩) hS (fun q _ h => hFc q h) hFc (fun u9 r2 t H1 locs ht hvm hr9 hB hz1 hk1 hS => ?_)
  obtain ⟨hP1, hK1, hD1⟩ := hB
  rw [ht] at hP1
  obtain ⟨hP, hD⟩ := xjoin (W := [(a5, .inl (cT 0, 1024, .inl f63)), (r1, .inr (6, [.int 0, .long 0, .int 0, .int 0, .int 0, .int 1])), (a0, .inr (5, [v21, .ref a4, .int 2, v22, v23, v24, v25, v26, v27, v28, v29, v30, v31, v32, v33, .ref a3, .int 4, .int 4, .int 0, .int 100, v39, .ref a5, v40, v41, .ref a1, .ref a2, v42, v43, v44, v45, v46, v47])), (a1, .inl (cT 5, 8, .inr (.inr (.inr (.inr f48))))), (a2, .inl (cT 1, 8, .inl f52)), (a3, .inl (cT 0, 4096, .inl f55)), (a4, .inl (cT 4, 1024, .inr (.inr (.inr (.inr (va_up (va_up f60 0 (some r1)) 1 (some r2))))))), (r2, .inr (6, [.int 0, .long 0, .int 0, .int 0, .int 0, .int 1]))]) hP hD [1, 2, 3, 4, 5] [0, 6] 2 rfl rfl (by decide) (by decide) hk1 hFc hP1 hD1
  generalize H1 = H at hP hS ⊢
  refine W.eq (g2 := F0 m 23 ls [.ref r2]) rfl ?_
  refine lv_astore (lv' := [(7, .ref r2), (6, .ref r1), (0, .ref a0), (1, .int x6), (2, .int 2), (3, .int 9), (4, .int x11), (5, .int x16)]) hx hb dM_finish_23 hl (by decide) rfl (fun ls hl => ?_)
  refine lv_iload_n hx hb dM_finish_25 rfl (lv_at hl 4 rfl) ?_
  refine lv_if_ne (tgt := 43) hx hb dM_finish_26 (by decide) (fun _ => ?_) (fun h => ((by revert h; decide : False)).elim)
  refine lv_iload_n hx hb dM_finish_43 rfl (lv_at hl 4 rfl) ?_
  refine lv_iconst (v := 1) hx hb dM_finish_44 (by decide) ?_
  refine lv_icmp_ne (tgt := 60) hx hb dM_finish_45 (by decide) (fun _ => ?_) (fun h => ((by revert h; decide : False)).elim)
  refine lv_iload_n hx hb dM_finish_60 rfl (lv_at hl 4 rfl) ?_
  refine lv_iconst (v := 2) hx hb dM_finish_61 (by decide) ?_
  refine lv_icmp_ne (tgt := 79) hx hb dM_finish_62 (by decide) (fun h => ((by revert h; decide : False)).elim) (fun _ => ?_)
  refine lv_aload_n hx hb dM_finish_65 rfl (lv_at hl 2 rfl) ?_
  refine lv_iload_n hx hb dM_finish_66 rfl (lv_at hl 5 rfl) ?_
  refine lv_aload hx hb dM_finish_67 (lv_at hl 1 rfl) ?_
  refine lv_aload hx hb dM_finish_69 (lv_at hl 0 rfl) ?_
  obtain ⟨hPc, hDc, hFc⟩ := xcut (wc := [(a0, .inr (5, [v21, .ref a4, .int 2, v22, v23, v24, v25, v26, v27, v28, v29, v30, v31, v32, v33, .ref a3, .int 4, .int 4, .int 0, .int 100, v39, .ref a5, v40, v41, .ref a1, .ref a2, v42, v43, v44, v45, v46, v47])), (r1, .inr (6, [.int 0, .long 0, .int 0, .int 0, .int 0, .int 1])), (r2, .inr (6, [.int 0, .long 0, .int 0, .int 0, .int 0, .int 1]))]) hP hD hS hA [2, 1, 7] rfl rfl (by decide)
  refine va_callr (va_runV (C := "ValueBenchModel") (As := [.int 9, .ref r1, .ref r2]) (rest := []) ⟨hx, hb, hml, hown, htx⟩ (cM_two1_9 l hl9 D cT aK aV H.size a0 r1 r2 v21 (.ref a4) (.int 2) v22 v23 v24 v25 v26 v27 v28 v29 v30 v31 v32 v33 (.ref a3) (.int 4) (.int 4) (.int 0) (.int 100) v39 (.ref a5) v40 v41 (.ref a1) (.ref a2) v42 v43 v44 v45 v46 v47 (.long 0) (.int 0) (.int 0) (.int 0) (.int 1) (.long 0) (.int 0) (.int 0) (.int 0) (.int 1)) ⟨callB_of 3 htx (xw_goodC kw_7_79) rfl rfl rfl (htx _ kw_1_5) (htx _ kw_7_76) ⟨by decide, by decide, by decide +kernel⟩ ⟨Nat.le_of_ble_eq_true rfl, Nat.le_of_ble_eq_true rfl⟩, (htx _ kw_7_78), (htx _ kp_M_two1)⟩ ⟨xPre_blind, va_recv hK hP (ci := 5) rfl (q0 := 2) rfl, (fun U hU hW => ⟨rfl, xPre_of hZ hS hFc hPc hDc hK U hU hW⟩)⟩ rfl rfl hl.1 rfl (lv_room (Nat.le_of_ble_eq_true rfl)) dM_finish_71 ⟨Nat.le_of_ble_eq_true rfl, Nat.le_of_ble_eq_true rfl⟩) hS (fun q _ h => hFc q h) hFc (fun u9 r3 t H1 locs ht hvm hr9 hB hz1 hk1 hS => ?_)
  obtain ⟨hra9, hP1, hK1, hD1⟩ := hB
  rw [ht] at hP1
  obtain ⟨hP, hD⟩ := xjoin (W := [(a5, .inl (cT 0, 1024, .inl f63)), (a1, .inl (cT 5, 8, .inr (.inr (.inr (.inr f48))))), (a2, .inl (cT 1, 8, .inl f52)), (a3, .inl (cT 0, 4096, .inl f55)), (a4, .inl (cT 4, 1024, .inr (.inr (.inr (.inr (va_up (va_up f60 0 (some r1)) 1 (some r2))))))), (a0, .inr (5, [v21, .ref a4, .int 2, v22, v23, v24, v25, v26, v27, v28, v29, v30, v31, v32, v33, .ref a3, .int 4, .int 4, .int 0, .int 100, v39, .ref a5, v40, v41, .ref a1, .ref a2, v42, v43, v44, v45, v46, v47])), (r1, .inr (6, [.int 0, .long 0, .int 0, .int 0, .int 0, .int 1])), (r2, .inr (6, [.int 0, .long 0, .int 0, .int 0, .int 0, .int 1]))]) hP hD [2, 1, 7] [0, 3, 4, 5, 6] 5 rfl rfl (by decide) (by decide) hk1 hFc hP1 hD1
  generalize H1 = H at hP hS ⊢
  rw [hra9]
  refine W.eq (g2 := F0 m 74 ls [.ref r1]) rfl ?_
  refine lv_astore (lv' := [(8, .ref r1), (7, .ref r2), (6, .ref r1), (0, .ref a0), (1, .int x6), (2, .int 2), (3, .int 9), (4, .int x11), (5, .int x16)]) hx hb dM_finish_74 hl (by decide) rfl (fun ls hl => ?_)
  refine lv_goto (tgt := 119) hx hb dM_finish_76 (by decide) ?_
  refine lv_aload_n hx hb dM_finish_119 rfl (lv_at hl 3 rfl) ?_
  refine lv_iload_n hx hb dM_finish_120 rfl (lv_at hl 4 rfl) ?_
  refine lv_aload hx hb dM_finish_121 (lv_at hl 0 rfl) ?_
  obtain ⟨hPc, hDc, hFc⟩ := xcut (wc := [(a0, .inr (5, [v21, .ref a4, .int 2, v22, v23, v24, v25, v26, v27, v28, v29, v30, v31, v32, v33, .ref a3, .int 4, .int 4, .int 0, .int 100, v39, .ref a5, v40, v41, .ref a1, .ref a2, v42, v43, v44, v45, v46, v47])), (r1, .inr (6, [.int 0, .long 0, .int 0, .int 0, .int 0, .int 1])), (a5, .inl (cT 0, 1024, .inl f63)), (a1, .inl (cT 5, 8, .inr (.inr (.inr (.inr f48))))), (a3, .inl (cT 0, 4096, .inl f55)), (a2, .inl (cT 1, 8, .inl f52))]) hP hD hS hA [5, 6, 0, 1, 3, 2] rfl rfl (by decide)
  refine va_calli (va_runV (C := "ValueBenchModel") (As := [.int x6, .ref r1]) (rest := []) ⟨hx, hb, hml, hown, htx⟩ (cM_store_4 l hl9 D cT aK aV H.size a0 r1 a5 a1 a3 a2 x6 v21 (.ref a4) (.int 2) v22 v23 v24 v25 v26 v27 v28 v29 v30 v31 v32 v33 (.ref a3) (.int 4) (.int 4) (.int 0) (.int 100) v39 v40 v41 v42 v43 v44 v45 v46 v47 (.long 0) (.int 0) (.int 0) (.int 0) (.int 1) f63 f48 f55 f52 h7 h8 h9 h10 (by first | rfl | exact h49 | exact h50 | exact h51 | exact h53 | exact h54 | exact h56 | exact h57 | exact h58 | exact h59)) ⟨callB_of 2 htx (xw_goodC kw_6_124) rfl rfl rfl (htx _ kw_1_5) (htx _ kw_6_121) ⟨by decide, by decide, by decide +kernel⟩ ⟨Nat.le_of_ble_eq_true rfl, Nat.le_of_ble_eq_true rfl⟩, (htx _ kw_6_123), (htx _ kp_M_store)⟩ ⟨xPre_blind, va_recv hK hP (ci := 5) rfl (q0 := 5) rfl, (fun U hU hW => ⟨rfl, xPre_of hZ hS hFc hPc hDc hK U hU hW⟩)⟩ rfl rfl hl.1 rfl (lv_room (Nat.le_of_ble_eq_true rfl)) dM_finish_123 ⟨Nat.le_of_ble_eq_true rfl, Nat.le_of_ble_eq_true rfl⟩) hS (fun q _ h => hFc q h) hFc (fun r4 u9 t H1 locs ht hvm hr9 hB hz1 hk1 hS => ?_)
  obtain ⟨y5, y6, y7, y8, hP1, hK1, hD1⟩ := hB
  rw [ht] at hP1
  obtain ⟨hP, hD⟩ := xjoin (W := [(a4, .inl (cT 4, 1024, .inr (.inr (.inr (.inr (va_up (va_up f60 0 (some r1)) 1 (some r2))))))), (r2, .inr (6, [.int 0, .long 0, .int 0, .int 0, .int 0, .int 1])), (a0, .inr (5, [v21, .ref a4, .int 2, v22, v23, v24, v25, v26, v27, v28, v29, v30, v31, v32, v33, .ref a3, .int 4, .int 4, .int 0, .int 100, v39, .ref a5, .int 4, .int 4096, .ref a1, .ref a2, v42, v43, v44, v45, v46, v47])), (r1, .inr (6, [.int 0, .long 0, .int 0, .int 0, .int 0, .int 1])), (a5, .inl (cT 0, 1024, .inl (upd (upd (upd (upd f63 0 (vp_nar .byte y5)) 1 (vp_nar .byte y6)) 2 (vp_nar .byte y7)) 3 (vp_nar .byte y8)))), (a1, .inl (cT 5, 8, .inr (.inr (.inr (.inr f48))))), (a3, .inl (cT 0, 4096, .inl (upd (upd (upd (upd f55 0 (vp_nar .byte (vp_nar .byte y5))) 1 (vp_nar .byte (vp_nar .byte y6))) 2 (vp_nar .byte (vp_nar .byte y7))) 3 (vp_nar .byte (vp_nar .byte y8))))), (a2, .inl (cT 1, 8, .inl (upd f52 x6.toNatClampNeg 4)))]) hP hD [5, 6, 0, 1, 3, 2] [4, 7] 2 rfl rfl (by decide) (by decide) hk1 hFc hP1 hD1
  generalize H1 = H at hP hS ⊢
  rw [hr9]
  refine W.eq (g2 := F0 m 126 ls [.int 4]) rfl ?_
  refine lv_istore (lv' := [(9, .int 4), (8, .ref r1), (7, .ref r2), (6, .ref r1), (0, .ref a0), (1, .int x6), (2, .int 2), (3, .int 9), (4, .int x11), (5, .int x16)]) hx hb dM_finish_126 hl (by decide) rfl (fun ls hl => ?_)
  refine lv_goto (tgt := 156) hx hb dM_finish_128 (by decide) ?_
  obtain ⟨hP9, hD9⟩ := xsub (wc := [(a0, .inr (5, [v21, .ref a4, .int 2, v22, v23, v24, v25, v26, v27, v28, v29, v30, v31, v32, v33, .ref a3, .int 4, .int 4, .int 0, .int 100, v39, .ref a5, .int 4, .int 4096, .ref a1, .ref a2, v42, v43, v44, v45, v46, v47])), (a1, .inl (cT 5, 8, .inr (.inr (.inr (.inr f48))))), (a2, .inl (cT 1, 8, .inl (upd f52 x6.toNatClampNeg 4))), (a3, .inl (cT 0, 4096, .inl (upd (upd (upd (upd f55 0 (vp_nar .byte (vp_nar .byte y5))) 1 (vp_nar .byte (vp_nar .byte y6))) 2 (vp_nar .byte (vp_nar .byte y7))) 3 (vp_nar .byte (vp_nar .byte y8))))), (a4, .inl (cT 4, 1024, .inr (.inr (.inr (.inr (va_up (va_up f60 0 (some r1)) 1 (some r2))))))), (a5, .inl (cT 0, 1024, .inl (upd (upd (upd (upd f63 0 (vp_nar .byte y5)) 1 (vp_nar .byte y6)) 2 (vp_nar .byte y7)) 3 (vp_nar .byte y8)))), (r1, .inr (6, [.int 0, .long 0, .int 0, .int 0, .int 0, .int 1])), (r2, .inr (6, [.int 0, .long 0, .int 0, .int 0, .int 0, .int 1]))]) hP hD [2, 5, 7, 6, 0, 4, 3, 1] rfl rfl (by decide)
  refine W.widen (k := 2) (n := 12) (Nat.le_of_ble_eq_true rfl) (Nat.le_of_ble_eq_true rfl) ?_
  exact W.vret hx hb hr (fun t ht hW => ⟨⟨(), rfl, trivial, r1, r2, y5, y6, y7, y8, by rw [ht]; exact hP9, va_K.moved hW.alike hK, hD9⟩, hS.F ht⟩) hS.2.2 dM_finish_156
set_option maxHeartbeats 400000000 in
set_option maxRecDepth 100000 in
theorem cM_two0_34 (l : Launch) (hl9 : l.stackTraces = false) (D : va_G) (cT : Nat → ClassId) (aK aV : Nat → Nat) (sz : Nat) (a0 : Nat) (a1 : Nat) (a2 : Nat) (a3 : Nat) (a4 : Nat) (a5 : Nat) (x6 : Int32) (x11 : Int32) (x16 : Int32) (v21 : Value) (v22 : Value) (v23 : Value) (v24 : Value) (v25 : Value) (v26 : Value) (v27 : Value) (v28 : Value) (v29 : Value) (v30 : Value) (v31 : Value) (v32 : Value) (v33 : Value) (v34 : Value) (v35 : Value) (v36 : Value) (v37 : Value) (v38 : Value) (v39 : Value) (v40 : Value) (v41 : Value) (v42 : Value) (v43 : Value) (v44 : Value) (v45 : Value) (v46 : Value) (v47 : Value) (v48 : Value) (f49 : Nat → Option Nat) (f53 : Nat → Int32) (f56 : Nat → Int32) (f61 : Nat → Option Nat) (f64 : Nat → Int32) (h7 : ¬ x6 < 0) (h8 : ¬ 7 < x6) (h9 : x6 ≤ 7) (h10 : vp_in x6 8) (h12 : ¬ x11 < 0) (h13 : ¬ 7 < x11) (h14 : x11 ≤ 7) (h15 : vp_in x11 8) (h17 : ¬ x16 < 0) (h18 : ¬ 7 < x16) (h19 : x16 ≤ 7) (h20 : vp_in x16 8) (h50 : f49 x11.toNatClampNeg = some a3) (h51 : f49 x16.toNatClampNeg = some a3) (h52 : f49 x6.toNatClampNeg = some a3) (h54 : f53 x11.toNatClampNeg = 4) (h55 : f53 x16.toNatClampNeg = 4) (h57 : f56 0 = 110) (h58 : f56 1 = 117) (h59 : f56 2 = 108) (h60 : f56 3 = 108) (h62 : f61 0 = none) (h63 : f61 1 = none) : xMet l yM_two0 wyM_two0 9 2 12 204 D cT aK aV sz [.ref a0, .int x6, .int 9, .int x11, .int x16] [(a0, .inr (5, [v21, .ref a4, v22, v23, v24, v25, v26, v27, v28, v29, v30, v31, v32, v33, v34, v35, v36, v37, v38, v39, v40, .ref a5, v41, v42, .ref a1, .ref a2, v43, v44, v45, v46, v47, v48])), (a1, .inl (cT 5, 8, .inr (.inr (.inr (.inr f49))))), (a2, .inl (cT 1, 8, .inl f53)), (a3, .inl (cT 0, 4096, .inl f56)), (a4, .inl (cT 4, 1024, .inr (.inr (.inr (.inr f61))))), (a5, .inl (cT 0, 1024, .inl f64))] (fun A => va_Qv (fun _ : Unit => True) (fun _ t => ∃ (q4 : Nat) (q5 : Nat) (y6 : Int32) (y7 : Int32) (y8 : Int32) (y9 : Int32), xB D xcl cT A [(a0, .inr (5, [.int 0, .ref a4, .int 2, v23, .int 0, v25, v26, .int 0, v28, .int 0, v30, v31, .int 0, v33, v34, .ref a3, .int 4, .int 4, .int 0, .int 100, v40, .ref a5, .int 4, .int 4096, .ref a1, .ref a2, v43, v44, v45, v46, v47, v48])), (a1, .inl (cT 5, 8, .inr (.inr (.inr (.inr f49))))), (a2, .inl (cT 1, 8, .inl (upd f53 x6.toNatClampNeg 4))), (a3, .inl (cT 0, 4096, .inl (upd (upd (upd (upd f56 0 (vp_nar .byte (vp_nar .byte y6))) 1 (vp_nar .byte (vp_nar .byte y7))) 2 (vp_nar .byte (vp_nar .byte y8))) 3 (vp_nar .byte (vp_nar .byte y9))))), (a4, .inl (cT 4, 1024, .inr (.inr (.inr (.inr (va_up (va_up f61 0 (some q4)) 1 (some q5))))))), (a5, .inl (cT 0, 1024, .inl (upd (upd (upd (upd f64 0 (vp_nar .byte y6)) 1 (vp_nar .byte y7)) 2 (vp_nar .byte y8)) 3 (vp_nar .byte y9)))), (q4, .inr (6, [.int 0, .long 0, .int 0, .int 0, .int 0, .int 1])), (q5, .inr (6, [.int 0, .long 0, .int 0, .int 0, .int 0, .int 1]))] t) A) := by
  refine Met.ofW (cc := prog_13_method_93_code) (maxL := 5) (ret := none) (by decide) rfl ?_
  intro p e s m args below meth c s₁ B hml hv
  obtain ⟨rfl, hsz, hZ, hP, hK, hD0⟩ := hv
  have hx := B.exec
  have hb := B.bytes
  have hr := B.returns
  have hts := atoms_spec (ws := wyM_two0) B.pre
  have htx := fun w h => hts w (List.mem_cons_of_mem _ h)
  have hown : s.vm.findClass "ValueBenchModel" = some m.cls := findClass_of_methodNamed B.named
  have hlocks := B.notSynchronized
  subst hsz
  have hD := hD0.self (sz := s.heap.size)
  generalize hAe : va_A [(a0, .inr (5, [v21, .ref a4, v22, v23, v24, v25, v26, v27, v28, v29, v30, v31, v32, v33, v34, v35, v36, v37, v38, v39, v40, .ref a5, v41, v42, .ref a1, .ref a2, v43, v44, v45, v46, v47, v48])), (a1, .inl (cT 5, 8, .inr (.inr (.inr (.inr f49))))), (a2, .inl (cT 1, 8, .inl f53)), (a3, .inl (cT 0, 4096, .inl f56)), (a4, .inl (cT 4, 1024, .inr (.inr (.inr (.inr f61))))), (a5, .inl (cT 0, 1024, .inl f64))] s.heap.size = A at hD hZ ⊢
  have hA : ∀ q : Nat, s.heap.size ≤ q → A q := fun q h => by rw [← hAe]; exact Or.inr h
  have hS : va_S A s.heap s.heap [] := va_S.rf
  have hP : va_P D xcl [(a0, .inr (5, [v21, .ref a4, v22, v23, v24, v25, v26, v27, v28, v29, v30, v31, v32, v33, v34, v35, v36, v37, v38, v39, v40, .ref a5, v41, v42, .ref a1, .ref a2, v43, v44, v45, v46, v47, v48])), (a1, .inl (cT 5, 8, .inr (.inr (.inr (.inr f49))))), (a2, .inl (cT 1, 8, .inl f53)), (a3, .inl (cT 0, 4096, .inl f56)), (a4, .inl (cT 4, 1024, .inr (.inr (.inr (.inr f61))))), (a5, .inl (cT 0, 1024, .inl f64))] s.heap := hP
  have hl := lv_entry ([.ref a0, .int x6, .int 9, .int x11, .int x16]) (n := 5) (Nat.le_of_ble_eq_true rfl)
  rw [lg_entry_eq]
  generalize (lg_sl ([.ref a0, .int x6, .int 9, .int x11, .int x16]) ++ List.replicate (5 - (lg_sl ([.ref a0, .int x6, .int 9, .int x11, .int x16])).length) Slot.unset).toArray = ls at hl ⊢
  have hl : lv_has ls 5 [(0, .ref a0), (1, .int x6), (2, .int 9), (3, .int x11), (4, .int x16)] := hl
  refine lv_aload_n hx hb dM_two0_0 rfl (lv_at hl 0 rfl) ?_
  obtain ⟨hPc, hDc, hFc⟩ := xcut (wc := [(a0, .inr (5, [v21, .ref a4, v22, v23, v24, v25, v26, v27, v28, v29, v30, v31, v32, v33, v34, v35, v36, v37, v38, v39, v40, .ref a5, v41, v42, .ref a1, .ref a2, v43, v44, v45, v46, v47, v48]))]) hP hD hS hA [0] rfl rfl (by decide)
  refine va_callv (va_runV (C := "ValueBenchModel") (As := []) (rest := []) ⟨hx, hb, hml, hown, htx⟩ (cM_begin_0 l hl9 D cT aK aV s.heap.size a0 v21 (.ref a4) v22 v23 v24 v25 v26 v27 v28 v29 v30 v31 v32 v33 v34 v35 v36 v37 v38 v39 v40 (.ref a5) v41 v42 (.ref a1) (.ref a2) v43 v44 v45 v46 v47 v48) ⟨callB_of 0 htx (xw_goodC kw_5_209) rfl rfl rfl (htx _ kw_1_5) (htx _ kw_5_206) ⟨by decide, by decide, by decide +kernel⟩ ⟨Nat.le_of_ble_eq_true rfl, Nat.le_of_ble_eq_true rfl⟩, (htx _ kw_5_208), (htx _ kp_M_begin)⟩ ⟨xPre_blind, va_recv hK hP (ci := 5) rfl (q0 := 0) rfl, (fun U hU hW => ⟨rfl, xPre_of hZ hS hFc hPc hDc hK U hU hW⟩)⟩ rfl rfl hl.1 rfl (lv_room (Nat.le_of_ble_eq_true rfl)) dM_two0_1 ⟨Nat.le_of_ble_eq_true rfl, Nat.le_of_ble_eq_true rfl⟩) hS (fun q _ h => hFc q h) hFc (fun u9 t H1 locs ht hvm hr9 hB hz1 hk1 hS => ?_)
  obtain ⟨hP1, hK1, hD1⟩ := hB
  rw [ht] at hP1
  obtain ⟨hP, hD⟩ := xjoin (W := [(a1, .inl (cT 5, 8, .inr (.inr (.inr (.inr f49))))), (a2, .inl (cT 1, 8, .inl f53)), (a3, .inl (cT 0, 4096, .inl f56)), (a4, .inl (cT 4, 1024, .inr (.inr (.inr (.inr f61))))), (a5, .inl (cT 0, 1024, .inl f64)), (a0, .inr (5, [.int 0, .ref a4, .int 0, v23, .int 0, v25, v26, .int 0, v28, .int 0, v30, v31, .int 0, v33, v34, v35, v36, v37, v38, v39, v40, .ref a5, .int 0, .int 1000000000, .ref a1, .ref a2, v43, v44, v45, v46, v47, v48]))]) hP hD [0] [1, 2, 3, 4, 5] 5 rfl rfl (by decide) (by decide) hk1 hFc hP1 hD1
  generalize H1 = H at hP hS ⊢
  refine lv_aload_n hx hb dM_two0_4 rfl (lv_at hl 0 rfl) ?_
  refine lv_iload_n hx hb dM_two0_5 rfl (lv_at hl 1 rfl) ?_
  obtain ⟨hPc, hDc, hFc⟩ := xcut (wc := []) hP hD hS hA [] rfl rfl (by decide)
  refine va_calli (va_runV (C := "ValueBenchModel") (As := [.int x6]) (rest := []) ⟨hx, hb, hml, hown, htx⟩ (cM_out_0 l hl9 D cT aK aV H.size a0 x6 h7 h8 h9 h10) ⟨callB_of 1 htx (xw_goodC kw_5_217) rfl rfl rfl (htx _ kw_1_5) (htx _ kw_5_214) ⟨by decide, by decide, by decide +kernel⟩ ⟨Nat.le_of_ble_eq_true rfl, Nat.le_of_ble_eq_true rfl⟩, (htx _ kw_5_216), (htx _ kp_M_out)⟩ ⟨xPre_blind, va_recv hK hP (ci := 5) rfl (q0 := 5) rfl, (fun U hU hW => ⟨rfl, xPre_of hZ hS hFc hPc hDc hK U hU hW⟩)⟩ rfl rfl hl.1 rfl (lv_room (Nat.le_of_ble_eq_true rfl)) dM_two0_6 ⟨Nat.le_of_ble_eq_true rfl, Nat.le_of_ble_eq_true rfl⟩) hS (fun q _ h => hFc q h) hFc (fun r1 u9 t H1 locs ht hvm hr9 hB hz1 hk1 hS => ?_)
  obtain ⟨hP1, hK1, hD1⟩ := hB
  rw [ht] at hP1
  obtain ⟨hP, hD⟩ := xjoin (W := [(a1, .inl (cT 5, 8, .inr (.inr (.inr (.inr f49))))), (a2, .inl (cT 1, 8, .inl f53)), (a3, .inl (cT 0, 4096, .inl f56)), (a4, .inl (cT 4, 1024, .inr (.inr (.inr (.inr f61))))), (a5, .inl (cT 0, 1024, .inl f64)), (a0, .inr (5, [.int 0, .ref a4, .int 0, v23, .int 0, v25, v26, .int 0, v28, .int 0, v30, v31, .int 0, v33, v34, v35, v36, v37, v38, v39, v40, .ref a5, .int 0, .int 1000000000, .ref a1, .ref a2, v43, v44, v45, v46, v47, v48]))]) hP hD [] [0, 1, 2, 3, 4, 5] 6 rfl rfl (by decide) (by decide) hk1 hFc hP1 hD1
  generalize H1 = H at hP hS ⊢
  rw [hr9]
  refine W.eq (g2 := F0 m 9 ls [.int 0]) rfl ?_
  refine lv_if_ne (tgt := 39) hx hb dM_two0_9 (by decide) (fun h => ((by revert h; decide : False)).elim) (fun _ => ?_)
  refine lv_iload_n hx hb dM_two0_12 rfl (lv_at hl 2 rfl) ?_
  refine lv_if_lt (tgt := 39) hx hb dM_two0_13 (by decide) (fun h => ((by revert h; decide : False)).elim) (fun _ => ?_)
  refine lv_iload_n hx hb dM_two0_16 rfl (lv_at hl 2 rfl) ?_
  refine lv_bipush (v := 9) hx hb dM_two0_17 (by decide) ?_
  refine lv_icmp_gt (tgt := 39) hx hb dM_two0_19 (by decide) (fun h => ((by revert h; decide : False)).elim) (fun _ => ?_)
  refine lv_aload_n hx hb dM_two0_22 rfl (lv_at hl 0 rfl) ?_
  refine lv_iload_n hx hb dM_two0_23 rfl (lv_at hl 3 rfl) ?_
  obtain ⟨hPc, hDc, hFc⟩ := xcut (wc := []) hP hD hS hA [] rfl rfl (by decide)
  refine va_calli (va_runV (C := "ValueBenchModel") (As := [.int x11]) (rest := []) ⟨hx, hb, hml, hown, htx⟩ (cM_out_0 l hl9 D cT aK aV H.size a0 x11 h12 h13 h14 h15) ⟨callB_of 1 htx (xw_goodC kw_5_217) rfl rfl rfl (htx _ kw_1_5) (htx _ kw_5_214) ⟨by decide, by decide, by decide +kernel⟩ ⟨Nat.le_of_ble_eq_true rfl, Nat.le_of_ble_eq_true rfl⟩, (htx _ kw_5_216), (htx _ kp_M_out)⟩ ⟨xPre_blind, va_recv hK hP (ci := 5) rfl (q0 := 5) rfl, (fun U hU hW => ⟨rfl, xPre_of hZ hS hFc hPc hDc hK U hU hW⟩)⟩ rfl rfl hl.1 rfl (lv_room (Nat.le_of_ble_eq_true rfl)) dM_two0_24 ⟨Nat.le_of_ble_eq_true rfl, Nat.le_of_ble_eq_true rfl⟩) hS (fun q _ h => hFc q h) hFc (fun r2 u9 t H1 locs ht hvm hr9 hB hz1 hk1 hS => ?_)
  obtain ⟨hP1, hK1, hD1⟩ := hB
  rw [ht] at hP1
  obtain ⟨hP, hD⟩ := xjoin (W := [(a1, .inl (cT 5, 8, .inr (.inr (.inr (.inr f49))))), (a2, .inl (cT 1, 8, .inl f53)), (a3, .inl (cT 0, 4096, .inl f56)), (a4, .inl (cT 4, 1024, .inr (.inr (.inr (.inr f61))))), (a5, .inl (cT 0, 1024, .inl f64)), (a0, .inr (5, [.int 0, .ref a4, .int 0, v23, .int 0, v25, v26, .int 0, v28, .int 0, v30, v31, .int 0, v33, v34, v35, v36, v37, v38, v39, v40, .ref a5, .int 0, .int 1000000000, .ref a1, .ref a2, v43, v44, v45, v46, v47, v48]))]) hP hD [] [0, 1, 2, 3, 4, 5] 6 rfl rfl (by decide) (by decide) hk1 hFc hP1 hD1
  generalize H1 = H at hP hS ⊢
  rw [hr9]
  refine W.eq (g2 := F0 m 27 ls [.int 0]) rfl ?_
  refine lv_if_ne (tgt := 39) hx hb dM_two0_27 (by decide) (fun h => ((by revert h; decide : False)).elim) (fun _ => ?_)
  refine lv_aload_n hx hb dM_two0_30 rfl (lv_at hl 0 rfl) ?_
  refine lv_iload hx hb dM_two0_31 (lv_at hl 4 rfl) ?_
  obtain ⟨hPc, hDc, hFc⟩ := xcut (wc := []) hP hD hS hA [] rfl rfl (by decide)
  refine va_calli (va_runV (C := "ValueBenchModel") (As := [.int x16]) (rest := []) ⟨hx, hb, hml, hown, htx⟩ (cM_out_0 l hl9 D cT aK aV H.size a0 x16 h17 h18 h19 h20) ⟨callB_of 1 htx (xw_goodC kw_5_217) rfl rfl rfl (htx _ kw_1_5) (htx _ kw_5_214) ⟨by decide, by decide, by decide +kernel⟩ ⟨Nat.le_of_ble_eq_true rfl, Nat.le_of_ble_eq_true rfl⟩, (htx _ kw_5_216), (htx _ kp_M_out)⟩ ⟨xPre_blind, va_recv hK hP (ci := 5) rfl (q0 := 5) rfl, (fun U hU hW => ⟨rfl, xPre_of hZ hS hFc hPc hDc hK U hU hW⟩)⟩ rfl rfl hl.1 rfl (lv_room (Nat.le_of_ble_eq_true rfl)) dM_two0_33 ⟨Nat.le_of_ble_eq_true rfl, Nat.le_of_ble_eq_true rfl⟩) hS (fun q _ h => hFc q h) hFc (fun r3 u9 t H1 locs ht hvm hr9 hB hz1 hk1 hS => ?_)
  obtain ⟨hP1, hK1, hD1⟩ := hB
  rw [ht] at hP1
  obtain ⟨hP, hD⟩ := xjoin (W := [(a1, .inl (cT 5, 8, .inr (.inr (.inr (.inr f49))))), (a2, .inl (cT 1, 8, .inl f53)), (a3, .inl (cT 0, 4096, .inl f56)), (a4, .inl (cT 4, 1024, .inr (.inr (.inr (.inr f61))))), (a5, .inl (cT 0, 1024, .inl f64)), (a0, .inr (5, [.int 0, .ref a4, .int 0, v23, .int 0, v25, v26, .int 0, v28, .int 0, v30, v31, .int 0, v33, v34, v35, v36, v37, v38, v39, v40, .ref a5, .int 0, .int 1000000000, .ref a1, .ref a2, v43, v44, v45, v46, v47, v48]))]) hP hD [] [0, 1, 2, 3, 4, 5] 6 rfl rfl (by decide) (by decide) hk1 hFc hP1 hD1
  generalize H1 = H at hP hS ⊢
  rw [hr9]
  refine W.eq (g2 := F0 m 36 ls [.int 0]) rfl ?_
  refine lv_if_eq (tgt := 47) hx hb dM_two0_36 (by decide) (fun _ => ?_) (fun h => ((by revert h; decide : False)).elim)
  refine lv_aload_n hx hb dM_two0_47 rfl (lv_at hl 0 rfl) ?_
  refine lv_iload_n hx hb dM_two0_48 rfl (lv_at hl 1 rfl) ?_
  refine lv_iconst (v := 2) hx hb dM_two0_49 (by decide) ?_
  refine lv_iload_n hx hb dM_two0_50 rfl (lv_at hl 2 rfl) ?_
  refine lv_iload_n hx hb dM_two0_51 rfl (lv_at hl 3 rfl) ?_
  refine lv_iload hx hb dM_two0_52 (lv_at hl 4 rfl) ?_
  obtain ⟨hPc, hDc, hFc⟩ := xcut (wc := [(a0, .inr (5, [.int 0, .ref a4, .int 0, v23, .int 0, v25, v26, .int 0, v28, .int 0, v30, v31, .int 0, v33, v34, v35, v36, v37, v38, v39, v40, .ref a5, .int 0, .int 1000000000, .ref a1, .ref a2, v43, v44, v45, v46, v47, v48])), (a1, .inl (cT 5, 8, .inr (.inr (.inr (.inr f49))))), (a2, .inl (cT 1, 8, .inl f53)), (a3, .inl (cT 0, 4096, .inl f56)), (a4, .inl (cT 4, 1024, .inr (.inr (.inr (.inr f61))))), (a5, .inl (cT 0, 1024, .inl f64))]) hP hD hS hA [5, 0, 1, 2, 3, 4] rfl rfl (by decide)
  refine va_callv (vx_runVW (C := "ValueBenchModel") (As := [.int x6, .int 2, .int 9, .int x11, .int x16]) (rest := []) ⟨hx, hb, hml, hown, htx⟩ (cM_finish_66 l hl9 D cT aK aV H.size a0 a1 a2 a3 a4 a5 x6 x11 x16 (.int 0) v23 (.int 0) v25 v26 (.int 0) v28 (.int 0) v30 v31 (.int 0) v33 v34 v35 v36 v37 v38 v39 v40 (.int 0) (.int 1000000000) v43 v44 v45 v46 v47 v48 f49 f53 f56 f61 f64 h7 h8 h9 h10 h12 h13 h14 h15 h17 h18 h19 h20 (by first | rfl | exact h50 | exact h51 | exact h52 | exact h54 | exact h55 | exact h57 | exact h58 | exact h59 | exact h60 | exact h62 | exact h63) (by first | rfl | exact h50 | exact h51 | exact h52 | exact h54 | exact h55 | exact h57 | exact h58 | exact h59 | exact h60 | exact h62 | exact h63) (by first | rfl | exact h50 | exact h51 | exact h52 | exact h54 | exact h55 | exact h57 | exact h58 | exact h59 | exact h60 | exact h62 | exact h63) (by first | rfl | exact h50 | exact h51 | exact h52 | exact h54 | exact h55 | exact h57 | exact h58 | exact h59 | exact h60 | exact h62 | exact h63) (by first | rfl | exact h50 | exact h51 | exact h52 | exact h54 | exact h55 | exact h57 | exact h58 | exact h59 | exact h60 | exact h62 | exact h63) (by first | rfl | exact h50 | exact h51 | exact h52 | exact h54 | exact h55 | exact h57 | exact h58 | exact h59 | exact h60 | exact h62 | exact h63) (by first | rfl | exact h50 | exact h51 | exact h52 | exact h54 | exact h55 | exact h57 | exact h58 | exact h59 | exact h60 | exact h62 | exact h63) (by first | rfl | exact h50 | exact h51 | exact h52 | exact h54 | exact h55 | exact h57 | exact h58 | exact h59 | exact h60 | exact h62 | exact h63) (by first | rfl | exact h50 | exact h51 | exact h52 | exact h54 | exact h55 | exact h57 | exact h58 | exact h59 | exact h60 | exact h62 | exact h63) (by first | rfl | exact h50 | exact h51 | exact h52 | exact h54 | exact h55 | exact h57 | exact h58 | exact h59 | exact h60 | exact h62 | exact h63) (by first | rfl | exact h50 | exact h51 | exact h52 | exact h54 | exact h55 | exact h57 | exact h58 | exact h59 | exact h60 | exact h62 | exact h63)) (xcVW 5 htx (xw_goodC kw_6_195) rfl rfl rfl (htx _ kw_1_5) (htx _ kw_6_192) ⟨by decide, by decide, by decide +kernel⟩ ⟨Nat.le_of_ble_eq_true rfl, Nat.le_of_ble_eq_true rfl⟩ (htx _ kw_6_194) (htx _ kp_M_finish)) ⟨xPre_blind, va_recv hK hP (ci := 5) rfl (q0 := 5) rfl, (fun U hU hW => ⟨rfl, xPre_of hZ hS hFc hPc hDc hK U hU hW⟩)⟩ rfl rfl hl.1 rfl (lv_room (Nat.le_of_ble_eq_true rfl)) dM_two0_54 ⟨Nat.le_of_ble_eq_true rfl, Nat.le_of_ble_eq_true rfl⟩) hS (fun q _ h => hFc q h) hFc (fun u9 t H1 locs ht hvm hr9 hB hz1 hk1 hS => ?_)
  obtain ⟨q4, q5, y6, y7, y8, y9, hP1, hK1, hD1⟩ := hB
  rw [ht] at hP1
  obtain ⟨hP, hD⟩ := xjoin (W := [(a0, .inr (5, [.int 0, .ref a4, .int 2, v23, .int 0, v25, v26, .int 0, v28, .int 0, v30, v31, .int 0, v33, v34, .ref a3, .int 4, .int 4, .int 0, .int 100, v40, .ref a5, .int 4, .int 4096, .ref a1, .ref a2, v43, v44, v45, v46, v47, v48])), (a1, .inl (cT 5, 8, .inr (.inr (.inr (.inr f49))))), (a2, .inl (cT 1, 8, .inl (upd f53 x6.toNatClampNeg 4))), (a3, .inl (cT 0, 4096, .inl (upd (upd (upd (upd f56 0 (vp_nar .byte (vp_nar .byte y6))) 1 (vp_nar .byte (vp_nar .byte y7))) 2 (vp_nar .byte (vp_nar .byte y8))) 3 (vp_nar .byte (vp_nar .byte y9))))), (a4, .inl (cT 4, 1024, .inr (.inr (.inr (.inr (va_up (va_up f61 0 (some q4)) 1 (some q5))))))), (a5, .inl (cT 0, 1024, .inl (upd (upd (upd (upd f64 0 (vp_nar .byte y6)) 1 (vp_nar .byte y7)) 2 (vp_nar .byte y8)) 3 (vp_nar .byte y9)))), (q4, .inr (6, [.int 0, .long 0, .int 0, .int 0, .int 0, .int 1])), (q5, .inr (6, [.int 0, .long 0, .int 0, .int 0, .int 0, .int 1]))]) hP hD [5, 0, 1, 2, 3, 4] [] 0 rfl rfl (by decide) (by decide) hk1 hFc hP1 hD1
  generalize H1 = H at hP hS ⊢
  obtain ⟨hP9, hD9⟩ := xsub (wc := [(a0, .inr (5, [.int 0, .ref a4, .int 2, v23, .int 0, v25, v26, .int 0, v28, .int 0, v30, v31, .int 0, v33, v34, .ref a3, .int 4, .int 4, .int 0, .int 100, v40, .ref a5, .int 4, .int 4096, .ref a1, .ref a2, v43, v44, v45, v46, v47, v48])), (a1, .inl (cT 5, 8, .inr (.inr (.inr (.inr f49))))), (a2, .inl (cT 1, 8, .inl (upd f53 x6.toNatClampNeg 4))), (a3, .inl (cT 0, 4096, .inl (upd (upd (upd (upd f56 0 (vp_nar .byte (vp_nar .byte y6))) 1 (vp_nar .byte (vp_nar .byte y7))) 2 (vp_nar .byte (vp_nar .byte y8))) 3 (vp_nar .byte (vp_nar .byte y9))))), (a4, .inl (cT 4, 1024, .inr (.inr (.inr (.inr (va_up (va_up f61 0 (some q4)) 1 (some q5))))))), (a5, .inl (cT 0, 1024, .inl (upd (upd (upd (upd f64 0 (vp_nar .byte y6)) 1 (vp_nar .byte y7)) 2 (vp_nar .byte y8)) 3 (vp_nar .byte y9)))), (q4, .inr (6, [.int 0, .long 0, .int 0, .int 0, .int 0, .int 1])), (q5, .inr (6, [.int 0, .long 0, .int 0, .int 0, .int 0, .int 1]))]) hP hD [0, 1, 2, 3, 4, 5, 6, 7] rfl rfl (by decide)
  refine W.widen (k := 2) (n := 12) (Nat.le_of_ble_eq_true rfl) (Nat.le_of_ble_eq_true rfl) ?_
  exact W.vret hx hb hr (fun t ht hW => ⟨⟨(), rfl, trivial, q4, q5, y6, y7, y8, y9, by rw [ht]; exact hP9, va_K.moved hW.alike hK, hD9⟩, hS.F ht⟩) hS.2.2 dM_two0_57
set_option maxHeartbeats 400000000 in
set_option maxRecDepth 100000 in
theorem cM_two0_35 (l : Launch) (hl9 : l.stackTraces = false) (D : va_G) (cT : Nat → ClassId) (aK aV : Nat → Nat) (sz : Nat) (a0 : Nat) (x1 : Int32) (x3 : Int32) (x4 : Int32) (x5 : Int32) (v6 : Value) (v7 : Value) (v8 : Value) (v9 : Value) (v10 : Value) (v11 : Value) (v12 : Value) (v13 : Value) (v14 : Value) (v15 : Value) (v16 : Value) (v17 : Value) (v18 : Value) (v19 : Value) (v20 : Value) (v21 : Value) (v22 : Value) (v23 : Value) (v24 : Value) (v25 : Value) (v26 : Value) (v27 : Value) (v28 : Value) (v29 : Value) (v30 : Value) (v31 : Value) (v32 : Value) (v33 : Value) (v34 : Value) (v35 : Value) (v36 : Value) (v37 : Value) (h2 : x1 < 0) : xMet l yM_two0 wyM_two0 2 0 0 40 D cT aK aV sz [.ref a0, .int x1, .int x3, .int x4, .int x5] [(a0, .inr (5, [v6, v7, v8, v9, v10, v11, v12, v13, v14, v15, v16, v17, v18, v19, v20, v21, v22, v23, v24, v25, v26, v27, v28, v29, v30, v31, v32, v33, v34, v35, v36, v37]))] (fun A => va_Qv (fun _ : Unit => True) (fun _ t => xB D xcl cT A [(a0, .inr (5, [.int 1, v7, .int 0, v9, .int 0, v11, v12, .int 0, v14, .int 0, v16, v17, .int 0, v19, v20, v21, v22, v23, v24, v25, v26, v27, .int 0, .int 1000000000, v30, v31, v32, v33, v34, v35, v36, v37]))] t) A) := by
  refine Met.ofW (cc := prog_13_method_93_code) (maxL := 5) (ret := none) (by decide) rfl ?_
  intro p e s m args below meth c s₁ B hml hv
  obtain ⟨rfl, hsz, hZ, hP, hK, hD0⟩ := hv
  have hx := B.exec
  have hb := B.bytes
  have hr := B.returns
  have hts := atoms_spec (ws := wyM_two0) B.pre
  have htx := fun w h => hts w (List.mem_cons_of_mem _ h)
  have hown : s.vm.findClass "ValueBenchModel" = some m.cls := findClass_of_methodNamed B.named
  have hlocks := B.notSynchronized
  subst hsz
  have hD := hD0.self (sz := s.heap.size)
  generalize hAe : va_A [(a0, .inr (5, [v6, v7, v8, v9, v10, v11, v12, v13, v14, v15, v16, v17, v18, v19, v20, v21, v22, v23, v24, v25, v26, v27, v28, v29, v30, v31, v32, v33, v34, v35, v36, v37]))] s.heap.size = A at hD hZ ⊢
  have hA : ∀ q : Nat, s.heap.size ≤ q → A q := fun q h => by rw [← hAe]; exact Or.inr h
  have hS : va_S A s.heap s.heap [] := va_S.rf
  have hP : va_P D xcl [(a0, .inr (5, [v6, v7, v8, v9, v10, v11, v12, v13, v14, v15, v16, v17, v18, v19, v20, v21, v22, v23, v24, v25, v26, v27, v28, v29, v30, v31, v32, v33, v34, v35, v36, v37]))] s.heap := hP
  have hl := lv_entry ([.ref a0, .int x1, .int x3, .int x4, .int x5]) (n := 5) (Nat.le_of_ble_eq_true rfl)
  rw [lg_entry_eq]
  generalize (lg_sl ([.ref a0, .int x1, .int x3, .int x4, .int x5]) ++ List.replicate (5 - (lg_sl ([.ref a0, .int x1, .int x3, .int x4, .int x5])).length) Slot.unset).toArray = ls at hl ⊢
  have hl : lv_has ls 5 [(0, .ref a0), (1, .int x1), (2, .int x3), (3, .int x4), (4, .int x5)] := hl
  refine lv_aload_n hx hb dM_two0_0 rfl (lv_at hl 0 rfl) ?_
  obtain ⟨hPc, hDc, hFc⟩ := xcut (wc := [(a0, .inr (5, [v6, v7, v8, v9, v10, v11, v12, v13, v14, v15, v16, v17, v18, v19, v20, v21, v22, v23, v24, v25, v26, v27, v28, v29, v30, v31, v32, v33, v34, v35, v36, v37]))]) hP hD hS hA [0] rfl rfl (by decide)
  refine va_callv (va_runV (C := "ValueBenchModel") (As := []) (rest := []) ⟨hx, hb, hml, hown, htx⟩ (cM_begin_0 l hl9 D cT aK aV s.heap.size a0 v6 v7 v8 v9 v10 v11 v12 v13 v14 v15 v16 v17 v18 v19 v20 v21 v22 v23 v24 v25 v26 v27 v28 v29 v30 v31 v32 v33 v34 v35 v36 v37) ⟨callB_of 0 htx (xw_goodC kw_5_209) rfl rfl rfl (htx _ kw_1_5) (htx _ kw_5_206) ⟨by decide, by decide, by decide +kernel⟩ ⟨Nat.le_of_ble_eq_true rfl, Nat.le_of_ble_eq_true rfl⟩, (htx _ kw_5_208), (htx _ kp_M_begin)⟩ ⟨xPre_blind, va_recv hK hP (ci := 5) rfl (q0 := 0) rfl, (fun U hU hW => ⟨rfl, xPre_of hZ hS hFc hPc hDc hK U hU hW⟩)⟩ rfl rfl hl.1 rfl (lv_room (Nat.le_of_ble_eq_true rfl)) dM_two0_1 ⟨Nat.le_of_ble_eq_true rfl, Nat.le_of_ble_eq_true rfl⟩) hS (fun q _ h => hFc q h) hFc (fun u9 t H1 locs ht hvm hr9 hB hz1 hk1 hS => ?_)
  obtain ⟨hP1, hK1, hD1⟩ := hB
  rw [ht] at hP1
  obtain ⟨hP, hD⟩ := xjoin (W := [(a0, .inr (5, [.int 0, v7, .int 0, v9, .int 0, v11, v12, .int 0, v14, .int 0, v16, v17, .int 0, v19, v20, v21, v22, v23, v24, v25, v26, v27, .int 0, .int 1000000000, v30, v31, v32, v33, v34, v35, v36, v37]))]) hP hD [0] [] 0 rfl rfl (by decide) (by decide) hk1 hFc hP1 hD1
  generalize H1 = H at hP hS ⊢
  refine lv_aload_n hx hb dM_two0_4 rfl (lv_at hl 0 rfl) ?_
  refine lv_iload_n hx hb dM_two0_5 rfl (lv_at hl 1 rfl) ?_
  obtain ⟨hPc, hDc, hFc⟩ := xcut (wc := []) hP hD hS hA [] rfl rfl (by decide)
  refine va_calli (va_runV (C := "ValueBenchModel") (As := [.int x1]) (rest := []) ⟨hx, hb, hml, hown, htx⟩ (cM_out_1 l hl9 D cT aK aV H.size a0 x1 h2) ⟨callB_of 1 htx (xw_goodC kw_5_217) rfl rfl rfl (htx _ kw_1_5) (htx _ kw_5_214) ⟨by decide, by decide, by decide +kernel⟩ ⟨Nat.le_of_ble_eq_true rfl, Nat.le_of_ble_eq_true rfl⟩, (htx _ kw_5_216), (htx _ kp_M_out)⟩ ⟨xPre_blind, va_recv hK hP (ci := 5) rfl (q0 := 0) rfl, (fun U hU hW => ⟨rfl, xPre_of hZ hS hFc hPc hDc hK U hU hW⟩)⟩ rfl rfl hl.1 rfl (lv_room (Nat.le_of_ble_eq_true rfl)) dM_two0_6 ⟨Nat.le_of_ble_eq_true rfl, Nat.le_of_ble_eq_true rfl⟩) hS (fun q _ h => hFc q h) hFc (fun r1 u9 t H1 locs ht hvm hr9 hB hz1 hk1 hS => ?_)
  obtain ⟨hP1, hK1, hD1⟩ := hB
  rw [ht] at hP1
  obtain ⟨hP, hD⟩ := xjoin (W := [(a0, .inr (5, [.int 0, v7, .int 0, v9, .int 0, v11, v12, .int 0, v14, .int 0, v16, v17, .int 0, v19, v20, v21, v22, v23, v24, v25, v26, v27, .int 0, .int 1000000000, v30, v31, v32, v33, v34, v35, v36, v37]))]) hP hD [] [0] 1 rfl rfl (by decide) (by decide) hk1 hFc hP1 hD1
  generalize H1 = H at hP hS ⊢
  rw [hr9]
  refine W.eq (g2 := F0 m 9 ls [.int 1]) rfl ?_
  refine lv_if_ne (tgt := 39) hx hb dM_two0_9 (by decide) (fun _ => ?_) (fun h => ((by revert h; decide : False)).elim)
  refine lv_aload_n hx hb dM_two0_39 rfl (lv_at hl 0 rfl) ?_
  refine lv_iconst (v := 1) hx hb dM_two0_40 (by decide) ?_
  refine va_put (D := D) (ci := 5) (v := .int 1) (ty := .int) (C := "ValueBenchModel") (T := TM) (N := 32) hx hb htx inM tyM tyM_ok nmM hown hK hP hD hS 0 rfl rfl 0 (by decide) (htx _ kw_5_87) (fun _ h9 => h9) rfl (by decide +kernel) rfl rfl (Nat.le_of_ble_eq_true rfl) dM_two0_41 (fun H locs hP hD hS => ?_)
  obtain ⟨hP, hD⟩ : xPD D xcl A [(a0, .inr (5, [.int 1, v7, .int 0, v9, .int 0, v11, v12, .int 0, v14, .int 0, v16, v17, .int 0, v19, v20, v21, v22, v23, v24, v25, v26, v27, .int 0, .int 1000000000, v30, v31, v32, v33, v34, v35, v36, v37]))] H := ⟨hP, hD⟩
  refine lv_goto (tgt := 57) hx hb dM_two0_44 (by decide) ?_
  obtain ⟨hP9, hD9⟩ := xsub (wc := [(a0, .inr (5, [.int 1, v7, .int 0, v9, .int 0, v11, v12, .int 0, v14, .int 0, v16, v17, .int 0, v19, v20, v21, v22, v23, v24, v25, v26, v27, .int 0, .int 1000000000, v30, v31, v32, v33, v34, v35, v36, v37]))]) hP hD [0] rfl rfl (by decide)
  refine W.widen (k := 0) (n := 0) (Nat.le_of_ble_eq_true rfl) (Nat.le_of_ble_eq_true rfl) ?_
  exact W.vret hx hb hr (fun t ht hW => ⟨⟨(), rfl, trivial, by rw [ht]; exact hP9, va_K.moved hW.alike hK, hD9⟩, hS.F ht⟩) hS.2.2 dM_two0_57
set_option maxHeartbeats 400000000 in
set_option maxRecDepth 100000 in
theorem cM_two0_36 (l : Launch) (hl9 : l.stackTraces = false) (D : va_G) (cT : Nat → ClassId) (aK aV : Nat → Nat) (sz : Nat) (a0 : Nat) (x1 : Int32) (x6 : Int32) (x8 : Int32) (x9 : Int32) (v10 : Value) (v11 : Value) (v12 : Value) (v13 : Value) (v14 : Value) (v15 : Value) (v16 : Value) (v17 : Value) (v18 : Value) (v19 : Value) (v20 : Value) (v21 : Value) (v22 : Value) (v23 : Value) (v24 : Value) (v25 : Value) (v26 : Value) (v27 : Value) (v28 : Value) (v29 : Value) (v30 : Value) (v31 : Value) (v32 : Value) (v33 : Value) (v34 : Value) (v35 : Value) (v36 : Value) (v37 : Value) (v38 : Value) (v39 : Value) (v40 : Value) (v41 : Value) (h2 : ¬ x1 < 0) (h3 : ¬ 7 < x1) (h4 : x1 ≤ 7) (h5 : vp_in x1 8) (h7 : x6 < 0) : xMet l yM_two0 wyM_two0 2 0 0 40 D cT aK aV sz [.ref a0, .int x1, .int x6, .int x8, .int x9] [(a0, .inr (5, [v10, v11, v12, v13, v14, v15, v16, v17, v18, v19, v20, v21, v22, v23, v24, v25, v26, v27, v28, v29, v30, v31, v32, v33, v34, v35, v36, v37, v38, v39, v40, v41]))] (fun A => va_Qv (fun _ : Unit => True) (fun _ t => xB D xcl cT A [(a0, .inr (5, [.int 1, v11, .int 0, v13, .int 0, v15, v16, .int 0, v18, .int 0, v20, v21, .int 0, v23, v24, v25, v26, v27, v28, v29, v30, v31, .int 0, .int 1000000000, v34, v35, v36, v37, v38, v39, v40, v41]))] t) A) := by
  refine Met.ofW (cc := prog_13_method_93_code) (maxL := 5) (ret := none) (by decide) rfl ?_
  intro p e s m args below meth c s₁ B hml hv
  obtain ⟨rfl, hsz, hZ, hP, hK, hD0⟩ := hv
  have hx := B.exec
  have hb := B.bytes
  have hr := B.returns
  have hts := atoms_spec (ws := wyM_two0) B.pre
  have htx := fun w h => hts w (List.mem_cons_of_mem _ h)
  have hown : s.vm.findClass "ValueBenchModel" = some m.cls := findClass_of_methodNamed B.named
  have hlocks := B.notSynchronized
  subst hsz
  have hD := hD0.self (sz := s.heap.size)
  generalize hAe : va_A [(a0, .inr (5, [v10, v11, v12, v13, v14, v15, v16, v17, v18, v19, v20, v21, v22, v23, v24, v25, v26, v27, v28, v29, v30, v31, v32, v33, v34, v35, v36, v37, v38, v39, v40, v41]))] s.heap.size = A at hD hZ ⊢
  have hA : ∀ q : Nat, s.heap.size ≤ q → A q := fun q h => by rw [← hAe]; exact Or.inr h
  have hS : va_S A s.heap s.heap [] := va_S.rf
  have hP : va_P D xcl [(a0, .inr (5, [v10, v11, v12, v13, v14, v15, v16, v17, v18, v19, v20, v21, v22, v23, v24, v25, v26, v27, v28, v29, v30, v31, v32, v33, v34, v35, v36, v37, v38, v39, v40, v41]))] s.heap := hP
  have hl := lv_entry ([.ref a0, .int x1, .int x6, .int x8, .int x9]) (n := 5) (Nat.le_of_ble_eq_true rfl)
  rw [lg_entry_eq]
  generalize (lg_sl ([.ref a0, .int x1, .int x6, .int x8, .int x9]) ++ List.replicate (5 - (lg_sl ([.ref a0, .int x1, .int x6, .int x8, .int x9])).length) Slot.unset).toArray = ls at hl ⊢
  have hl : lv_has ls 5 [(0, .ref a0), (1, .int x1), (2, .int x6), (3, .int x8), (4, .int x9)] := hl
  refine lv_aload_n hx hb dM_two0_0 rfl (lv_at hl 0 rfl) ?_
  obtain ⟨hPc, hDc, hFc⟩ := xcut (wc := [(a0, .inr (5, [v10, v11, v12, v13, v14, v15, v16, v17, v18, v19, v20, v21, v22, v23, v24, v25, v26, v27, v28, v29, v30, v31, v32, v33, v34, v35, v36, v37, v38, v39, v40, v41]))]) hP hD hS hA [0] rfl rfl (by decide)
  refine va_callv (va_runV (C := "ValueBenchModel") (As := []) (rest := []) ⟨hx, hb, hml, hown, htx⟩ (cM_begin_0 l hl9 D cT aK aV s.heap.size a0 v10 v11 v12 v13 v14 v15 v16 v17 v18 v19 v20 v21 v22 v23 v24 v25 v26 v27 v28 v29 v30 v31 v32 v33 v34 v35 v36 v37 v38 v39 v40 v41) ⟨callB_of 0 htx (xw_goodC kw_5_209) rfl rfl rfl (htx _ kw_1_5) (htx _ kw_5_206) ⟨by decide, by decide, by decide +kernel⟩ ⟨Nat.le_of_ble_eq_true rfl, Nat.le_of_ble_eq_true rfl⟩, (htx _ kw_5_208), (htx _ kp_M_begin)⟩ ⟨xPre_blind, va_recv hK hP (ci := 5) rfl (q0 := 0) rfl, (fun U hU hW => ⟨rfl, xPre_of hZ hS hFc hPc hDc hK U hU hW⟩)⟩ rfl rfl hl.1 rfl (lv_room (Nat.le_of_ble_eq_true rfl)) dM_two0_1 ⟨Nat.le_of_ble_eq_true rfl, Nat.le_of_ble_eq_true rfl⟩) hS (fun q _ h => hFc q h) hFc (fun u9 t H1 locs ht hvm hr9 hB hz1 hk1 hS => ?_)
  obtain ⟨hP1, hK1, hD1⟩ := hB
  rw [ht] at hP1
  obtain ⟨hP, hD⟩ := xjoin (W := [(a0, .inr (5, [.int 0, v11, .int 0, v13, .int 0, v15, v16, .int 0, v18, .int 0, v20, v21, .int 0, v23, v24, v25, v26, v27, v28, v29, v30, v31, .int 0, .int 1000000000, v34, v35, v36, v37, v38, v39, v40, v41]))]) hP hD [0] [] 0 rfl rfl (by decide) (by decide) hk1 hFc hP1 hD1
  generalize H1 = H at hP hS ⊢
  refine lv_aload_n hx hb dM_two0_4 rfl (lv_at hl 0 rfl) ?_
  refine lv_iload_n hx hb dM_two0_5 rfl (lv_at hl 1 rfl) ?_
  obtain ⟨hPc, hDc, hFc⟩ := xcut (wc := []) hP hD hS hA [] rfl rfl (by decide)
  refine va_calli (va_runV (C := "ValueBenchModel") (As := [.int x1]) (rest := []) ⟨hx, hb, hml, hown, htx⟩ (cM_out_0 l hl9 D cT aK aV H.size a0 x1 h2 h3 h4 h5) ⟨callB_of 1 htx (xw_goodC kw_5_217) rfl rfl rfl (htx _ kw_1_5) (htx _ kw_5_214) ⟨by decide, by decide, by decide +kernel⟩ ⟨Nat.le_of_ble_eq_true rfl, Nat.le_of_ble_eq_true rfl⟩, (htx _ kw_5_216), (htx _ kp_M_out)⟩ ⟨xPre_blind, va_recv hK hP (ci := 5) rfl (q0 := 0) rfl, (fun U hU hW => ⟨rfl, xPre_of hZ hS hFc hPc hDc hK U hU hW⟩)⟩ rfl rfl hl.1 rfl (lv_room (Nat.le_of_ble_eq_true rfl)) dM_two0_6 ⟨Nat.le_of_ble_eq_true rfl, Nat.le_of_ble_eq_true rfl⟩) hS (fun q _ h => hFc q h) hFc (fun r1 u9 t H1 locs ht hvm hr9 hB hz1 hk1 hS => ?_)
  obtain ⟨hP1, hK1, hD1⟩ := hB
  rw [ht] at hP1
  obtain ⟨hP, hD⟩ := xjoin (W := [(a0, .inr (5, [.int 0, v11, .int 0, v13, .int 0, v15, v16, .int 0, v18, .int 0, v20, v21, .int 0, v23, v24, v25, v26, v27, v28, v29, v30, v31, .int 0, .int 1000000000, v34, v35, v36, v37, v38, v39, v40, v41]))]) hP hD [] [0] 1 rfl rfl (by decide) (by decide) hk1 hFc hP1 hD1
  generalize H1 = H at hP hS ⊢
  rw [hr9]
  refine W.eq (g2 := F0 m 9 ls [.int 0]) rfl ?_
  refine lv_if_ne (tgt := 39) hx hb dM_two0_9 (by decide) (fun h => ((by revert h; decide : False)).elim) (fun _ => ?_)
  refine lv_iload_n hx hb dM_two0_12 rfl (lv_at hl 2 rfl) ?_
  refine lv_if_lt (tgt := 39) hx hb dM_two0_13 (by decide) (fun _ => ?_) (fun h => by first | exact absurd h h7 | exact absurd h7 h)
  refine lv_aload_n hx hb dM_two0_39 rfl (lv_at hl 0 rfl) ?_
  refine lv_iconst (v := 1) hx hb dM_two0_40 (by decide) ?_
  refine va_put (D := D) (ci := 5) (v := .int 1) (ty := .int) (C := "ValueBenchModel") (T := TM) (N := 32) hx hb htx inM tyM tyM_ok nmM hown hK hP hD hS 0 rfl rfl 0 (by decide) (htx _ kw_5_87) (fun _ h9 => h9) rfl (by decide +kernel) rfl rfl (Nat.le_of_ble_eq_true rfl) dM_two0_41 (fun H locs hP hD hS => ?_)
  obtain ⟨hP, hD⟩ : xPD D xcl A [(a0, .inr (5, [.int 1, v11, .int 0, v13, .int 0, v15, v16, .int 0, v18, .int 0, v20, v21, .int 0, v23, v24, v25, v26, v27, v28, v29, v30, v31, .int 0, .int 1000000000, v34, v35, v36, v37, v38, v39, v40, v41]))] H := ⟨hP, hD⟩
  refine lv_goto (tgt := 57) hx hb dM_two0_44 (by decide) ?_
  obtain ⟨hP9, hD9⟩ := xsub (wc := [(a0, .inr (5, [.int 1, v11, .int 0, v13, .int 0, v15, v16, .int 0, v18, .int 0, v20, v21, .int 0, v23, v24, v25, v26, v27, v28, v29, v30, v31, .int 0, .int 1000000000, v34, v35, v36, v37, v38, v39, v40, v41]))]) hP hD [0] rfl rfl (by decide)
  refine W.widen (k := 0) (n := 0) (Nat.le_of_ble_eq_true rfl) (Nat.le_of_ble_eq_true rfl) ?_
  exact W.vret hx hb hr (fun t ht hW => ⟨⟨(), rfl, trivial, by rw [ht]; exact hP9, va_K.moved hW.alike hK, hD9⟩, hS.F ht⟩) hS.2.2 dM_two0_57
set_option maxHeartbeats 400000000 in
set_option maxRecDepth 100000 in
theorem cM_two0_37 (l : Launch) (hl9 : l.stackTraces = false) (D : va_G) (cT : Nat → ClassId) (aK aV : Nat → Nat) (sz : Nat) (a0 : Nat) (x1 : Int32) (x5 : Int32) (x6 : Int32) (x7 : Int32) (v8 : Value) (v9 : Value) (v10 : Value) (v11 : Value) (v12 : Value) (v13 : Value) (v14 : Value) (v15 : Value) (v16 : Value) (v17 : Value) (v18 : Value) (v19 : Value) (v20 : Value) (v21 : Value) (v22 : Value) (v23 : Value) (v24 : Value) (v25 : Value) (v26 : Value) (v27 : Value) (v28 : Value) (v29 : Value) (v30 : Value) (v31 : Value) (v32 : Value) (v33 : Value) (v34 : Value) (v35 : Value) (v36 : Value) (v37 : Value) (v38 : Value) (v39 : Value) (h2 : ¬ x1 < 0) (h3 : 7 < x1) (h4 : ¬ x1 ≤ 7) : xMet l yM_two0 wyM_two0 2 0 0 40 D cT aK aV sz [.ref a0, .int x1, .int x5, .int x6, .int x7] [(a0, .inr (5, [v8, v9, v10, v11, v12, v13, v14, v15, v16, v17, v18, v19, v20, v21, v22, v23, v24, v25, v26, v27, v28, v29, v30, v31, v32, v33, v34, v35, v36, v37, v38, v39]))] (fun A => va_Qv (fun _ : Unit => True) (fun _ t => xB D xcl cT A [(a0, .inr (5, [.int 1, v9, .int 0, v11, .int 0, v13, v14, .int 0, v16, .int 0, v18, v19, .int 0, v21, v22, v23, v24, v25, v26, v27, v28, v29, .int 0, .int 1000000000, v32, v33, v34, v35, v36, v37, v38, v39]))] t) A) := by
  refine Met.ofW (cc := prog_13_method_93_code) (maxL := 5) (ret := none) (by decide) rfl ?_
  intro p e s m args below meth c s₁ B hml hv
  obtain ⟨rfl, hsz, hZ, hP, hK, hD0⟩ := hv
  have hx := B.exec
  have hb := B.bytes
  have hr := B.returns
  have hts := atoms_spec (ws := wyM_two0) B.pre
  have htx := fun w h => hts w (List.mem_cons_of_mem _ h)
  have hown : s.vm.findClass "ValueBenchModel" = some m.cls := findClass_of_methodNamed B.named
  have hlocks := B.notSynchronized
  subst hsz
  have hD := hD0.self (sz := s.heap.size)
  generalize hAe : va_A [(a0, .inr (5, [v8, v9, v10, v11, v12, v13, v14, v15, v16, v17, v18, v19, v20, v21, v22, v23, v24, v25, v26, v27, v28, v29, v30, v31, v32, v33, v34, v35, v36, v37, v38, v39]))] s.heap.size = A at hD hZ ⊢
  have hA : ∀ q : Nat, s.heap.size ≤ q → A q := fun q h => by rw [← hAe]; exact Or.inr h
  have hS : va_S A s.heap s.heap [] := va_S.rf
  have hP : va_P D xcl [(a0, .inr (5, [v8, v9, v10, v11, v12, v13, v14, v15, v16, v17, v18, v19, v20, v21, v22, v23, v24, v25, v26, v27, v28, v29, v30, v31, v32, v33, v34, v35, v36, v37, v38, v39]))] s.heap := hP
  have hl := lv_entry ([.ref a0, .int x1, .int x5, .int x6, .int x7]) (n := 5) (Nat.le_of_ble_eq_true rfl)
  rw [lg_entry_eq]
  generalize (lg_sl ([.ref a0, .int x1, .int x5, .int x6, .int x7]) ++ List.replicate (5 - (lg_sl ([.ref a0, .int x1, .int x5, .int x6, .int x7])).length) Slot.unset).toArray = ls at hl ⊢
  have hl : lv_has ls 5 [(0, .ref a0), (1, .int x1), (2, .int x5), (3, .int x6), (4, .int x7)] := hl
  refine lv_aload_n hx hb dM_two0_0 rfl (lv_at hl 0 rfl) ?_
  obtain ⟨hPc, hDc, hFc⟩ := xcut (wc := [(a0, .inr (5, [v8, v9, v10, v11, v12, v13, v14, v15, v16, v17, v18, v19, v20, v21, v22, v23, v24, v25, v26, v27, v28, v29, v30, v31, v32, v33, v34, v35, v36, v37, v38, v39]))]) hP hD hS hA [0] rfl rfl (by decide)
  refine va_callv (va_runV (C := "ValueBenchModel") (As := []) (rest := []) ⟨hx, hb, hml, hown, htx⟩ (cM_begin_0 l hl9 D cT aK aV s.heap.size a0 v8 v9 v10 v11 v12 v13 v14 v15 v16 v17 v18 v19 v20 v21 v22 v23 v24 v25 v26 v27 v28 v29 v30 v31 v32 v33 v34 v35 v36 v37 v38 v39) ⟨callB_of 0 htx (xw_goodC kw_5_209) rfl rfl rfl (htx _ kw_1_5) (htx _ kw_5_206) ⟨by decide, by decide, by decide +kernel⟩ ⟨Nat.le_of_ble_eq_true rfl, Nat.le_of_ble_eq_true rfl⟩, (htx _ kw_5_208), (htx _ kp_M_begin)⟩ ⟨xPre_blind, va_recv hK hP (ci := 5) rfl (q0 := 0) rfl, (fun U hU hW => ⟨rfl, xPre_of hZ hS hFc hPc hDc hK U hU hW⟩)⟩ rfl rfl hl.1 rfl (lv_room (Nat.le_of_ble_eq_true rfl)) dM_two0_1 ⟨Nat.le_of_ble_eq_true rfl, Nat.le_of_ble_eq_true rfl⟩) hS (fun q _ h => hFc q h) hFc (fun u9 t H1 locs ht hvm hr9 hB hz1 hk1 hS => ?_)
  obtain ⟨hP1, hK1, hD1⟩ := hB
  rw [ht] at hP1
  obtain ⟨hP, hD⟩ := xjoin (W := [(a0, .inr (5, [.int 0, v9, .int 0, v11, .int 0, v13, v14, .int 0, v16, .int 0, v18, v19, .int 0, v21, v22, v23, v24, v25, v26, v27, v28, v29, .int 0, .int 1000000000, v32, v33, v34, v35, v36, v37, v38, v39]))]) hP hD [0] [] 0 rfl rfl (by decide) (by decide) hk1 hFc hP1 hD1
  generalize H1 = H at hP hS ⊢
  refine lv_aload_n hx hb dM_two0_4 rfl (lv_at hl 0 rfl) ?_
  refine lv_iload_n hx hb dM_two0_5 rfl (lv_at hl 1 rfl) ?_
  obtain ⟨hPc, hDc, hFc⟩ := xcut (wc := []) hP hD hS hA [] rfl rfl (by decide)
  refine va_calli (va_runV (C := "ValueBenchModel") (As := [.int x1]) (rest := []) ⟨hx, hb, hml, hown, htx⟩ (cM_out_2 l hl9 D cT aK aV H.size a0 x1 h2 h3 h4) ⟨callB_of 1 htx (xw_goodC kw_5_217) rfl rfl rfl (htx _ kw_1_5) (htx _ kw_5_214) ⟨by decide, by decide, by decide +kernel⟩ ⟨Nat.le_of_ble_eq_true rfl, Nat.le_of_ble_eq_true rfl⟩, (htx _ kw_5_216), (htx _ kp_M_out)⟩ ⟨xPre_blind, va_recv hK hP (ci := 5) rfl (q0 := 0) rfl, (fun U hU hW => ⟨rfl, xPre_of hZ hS hFc hPc hDc hK U hU hW⟩)⟩ rfl rfl hl.1 rfl (lv_room (Nat.le_of_ble_eq_true rfl)) dM_two0_6 ⟨Nat.le_of_ble_eq_true rfl, Nat.le_of_ble_eq_true rfl⟩) hS (fun q _ h => hFc q h) hFc (fun r1 u9 t H1 locs ht hvm hr9 hB hz1 hk1 hS => ?_)
  obtain ⟨hP1, hK1, hD1⟩ := hB
  rw [ht] at hP1
  obtain ⟨hP, hD⟩ := xjoin (W := [(a0, .inr (5, [.int 0, v9, .int 0, v11, .int 0, v13, v14, .int 0, v16, .int 0, v18, v19, .int 0, v21, v22, v23, v24, v25, v26, v27, v28, v29, .int 0, .int 1000000000, v32, v33, v34, v35, v36, v37, v38, v39]))]) hP hD [] [0] 1 rfl rfl (by decide) (by decide) hk1 hFc hP1 hD1
  generalize H1 = H at hP hS ⊢
  rw [hr9]
  refine W.eq (g2 := F0 m 9 ls [.int 1]) rfl ?_
  refine lv_if_ne (tgt := 39) hx hb dM_two0_9 (by decide) (fun _ => ?_) (fun h => ((by revert h; decide : False)).elim)
  refine lv_aload_n hx hb dM_two0_39 rfl (lv_at hl 0 rfl) ?_
  refine lv_iconst (v := 1) hx hb dM_two0_40 (by decide) ?_
  refine va_put (D := D) (ci := 5) (v := .int 1) (ty := .int) (C := "ValueBenchModel") (T := TM) (N := 32) hx hb htx inM tyM tyM_ok nmM hown hK hP hD hS 0 rfl rfl 0 (by decide) (htx _ kw_5_87) (fun _ h9 => h9) rfl (by decide +kernel) rfl rfl (Nat.le_of_ble_eq_true rfl) dM_two0_41 (fun H locs hP hD hS => ?_)
  obtain ⟨hP, hD⟩ : xPD D xcl A [(a0, .inr (5, [.int 1, v9, .int 0, v11, .int 0, v13, v14, .int 0, v16, .int 0, v18, v19, .int 0, v21, v22, v23, v24, v25, v26, v27, v28, v29, .int 0, .int 1000000000, v32, v33, v34, v35, v36, v37, v38, v39]))] H := ⟨hP, hD⟩
  refine lv_goto (tgt := 57) hx hb dM_two0_44 (by decide) ?_
  obtain ⟨hP9, hD9⟩ := xsub (wc := [(a0, .inr (5, [.int 1, v9, .int 0, v11, .int 0, v13, v14, .int 0, v16, .int 0, v18, v19, .int 0, v21, v22, v23, v24, v25, v26, v27, v28, v29, .int 0, .int 1000000000, v32, v33, v34, v35, v36, v37, v38, v39]))]) hP hD [0] rfl rfl (by decide)
  refine W.widen (k := 0) (n := 0) (Nat.le_of_ble_eq_true rfl) (Nat.le_of_ble_eq_true rfl) ?_
  exact W.vret hx hb hr (fun t ht hW => ⟨⟨(), rfl, trivial, by rw [ht]; exact hP9, va_K.moved hW.alike hK, hD9⟩, hS.F ht⟩) hS.2.2 dM_two0_57
set_option maxHeartbeats 400000000 in
set_option maxRecDepth 100000 in
theorem cM_two0_38 (l : Launch) (hl9 : l.stackTraces = false) (D : va_G) (cT : Nat → ClassId) (aK aV : Nat → Nat) (sz : Nat) (a0 : Nat) (x1 : Int32) (x6 : Int32) (x10 : Int32) (x11 : Int32) (v12 : Value) (v13 : Value) (v14 : Value) (v15 : Value) (v16 : Value) (v17 : Value) (v18 : Value) (v19 : Value) (v20 : Value) (v21 : Value) (v22 : Value) (v23 : Value) (v24 : Value) (v25 : Value) (v26 : Value) (v27 : Value) (v28 : Value) (v29 : Value) (v30 : Value) (v31 : Value) (v32 : Value) (v33 : Value) (v34 : Value) (v35 : Value) (v36 : Value) (v37 : Value) (v38 : Value) (v39 : Value) (v40 : Value) (v41 : Value) (v42 : Value) (v43 : Value) (h2 : ¬ x1 < 0) (h3 : ¬ 7 < x1) (h4 : x1 ≤ 7) (h5 : vp_in x1 8) (h7 : ¬ x6 < 0) (h8 : 9 < x6) (h9 : ¬ x6 ≤ 9) : xMet l yM_two0 wyM_two0 2 0 0 40 D cT aK aV sz [.ref a0, .int x1, .int x6, .int x10, .int x11] [(a0, .inr (5, [v12, v13, v14, v15, v16, v17, v18, v19, v20, v21, v22, v23, v24, v25, v26, v27, v28, v29, v30, v31, v32, v33, v34, v35, v36, v37, v38, v39, v40, v41, v42, v43]))] (fun A => va_Qv (fun _ : Unit => True) (fun _ t => xB D xcl cT A [(a0, .inr (5, [.int 1, v13, .int 0, v15, .int 0, v17, v18, .int 0, v20, .int 0, v22, v23, .int 0, v25, v26, v27, v28, v29, v30, v31, v32, v33, .int 0, .int 1000000000, v36, v37, v38, v39, v40, v41, v42, v43]))] t) A) := by
  refine Met.ofW (cc := prog_13_method_93_code) (maxL := 5) (ret := none) (by decide) rfl ?_
  intro p e s m args below meth c s₁ B hml hv
  obtain ⟨rfl, hsz, hZ, hP, hK, hD0⟩ := hv
  have hx := B.exec
  have hb := B.bytes
  have hr := B.returns
  have hts := atoms_spec (ws := wyM_two0) B.pre
  have htx := fun w h => hts w (List.mem_cons_of_mem _ h)
  have hown : s.vm.findClass "ValueBenchModel" = some m.cls := findClass_of_methodNamed B.named
  have hlocks := B.notSynchronized
  subst hsz
  have hD := hD0.self (sz := s.heap.size)
  generalize hAe : va_A [(a0, .inr (5, [v12, v13, v14, v15, v16, v17, v18, v19, v20, v21, v22, v23, v24, v25, v26, v27, v28, v29, v30, v31, v32, v33, v34, v35, v36, v37, v38, v39, v40, v41, v42, v43]))] s.heap.size = A at hD hZ ⊢
  have hA : ∀ q : Nat, s.heap.size ≤ q → A q := fun q h => by rw [← hAe]; exact Or.inr h
  have hS : va_S A s.heap s.heap [] := va_S.rf
  have hP : va_P D xcl [(a0, .inr (5, [v12, v13, v14, v15, v16, v17, v18, v19, v20, v21, v22, v23, v24, v25, v26, v27, v28, v29, v30, v31, v32, v33, v34, v35, v36, v37, v38, v39, v40, v41, v42, v43]))] s.heap := hP
  have hl := lv_entry ([.ref a0, .int x1, .int x6, .int x10, .int x11]) (n := 5) (Nat.le_of_ble_eq_true rfl)
  rw [lg_entry_eq]
  generalize (lg_sl ([.ref a0, .int x1, .int x6, .int x10, .int x11]) ++ List.replicate (5 - (lg_sl ([.ref a0, .int x1, .int x6, .int x10, .int x11])).length) Slot.unset).toArray = ls at hl ⊢
  have hl : lv_has ls 5 [(0, .ref a0), (1, .int x1), (2, .int x6), (3, .int x10), (4, .int x11)] := hl
  refine lv_aload_n hx hb dM_two0_0 rfl (lv_at hl 0 rfl) ?_
  obtain ⟨hPc, hDc, hFc⟩ := xcut (wc := [(a0, .inr (5, [v12, v13, v14, v15, v16, v17, v18, v19, v20, v21, v22, v23, v24, v25, v26, v27, v28, v29, v30, v31, v32, v33, v34, v35, v36, v37, v38, v39, v40, v41, v42, v43]))]) hP hD hS hA [0] rfl rfl (by decide)
  refine va_callv (va_runV (C := "ValueBenchModel") (As := []) (rest := []) ⟨hx, hb, hml, hown, htx⟩ (cM_begin_0 l hl9 D cT aK aV s.heap.size a0 v12 v13 v14 v15 v16 v17 v18 v19 v20 v21 v22 v23 v24 v25 v26 v27 v28 v29 v30 v31 v32 v33 v34 v35 v36 v37 v38 v39 v40 v41 v42 v43) ⟨callB_of 0 htx (xw_goodC kw_5_209) rfl rfl rfl (htx _ kw_1_5) (htx _ kw_5_206) ⟨by decide, by decide, by decide +kernel⟩ ⟨Nat.le_of_ble_eq_true rfl, Nat.le_of_ble_eq_true rfl⟩, (htx _ kw_5_208), (htx _ kp_M_begin)⟩ ⟨xPre_blind, va_recv hK hP (ci := 5) rfl (q0 := 0) rfl, (fun U hU hW => ⟨rfl, xPre_of hZ hS hFc hPc hDc hK U hU hW⟩)⟩ rfl rfl hl.1 rfl (lv_room (Nat.le_of_ble_eq_true rfl)) dM_two0_1 ⟨Nat.le_of_ble_eq_true rfl, Nat.le_of_ble_eq_true rfl⟩) hS (fun q _ h => hFc q h) hFc (fun u9 t H1 locs ht hvm hr9 hB hz1 hk1 hS => ?_)
  obtain ⟨hP1, hK1, hD1⟩ := hB
  rw [ht] at hP1
  obtain ⟨hP, hD⟩ := xjoin (W := [(a0, .inr (5, [.int 0, v13, .int 0, v15, .int 0, v17, v18, .int 0, v20, .int 0, v22, v23, .int 0, v25, v26, v27, v28, v29, v30, v31, v32, v33, .int 0, .int 1000000000, v36, v37, v38, v39, v40, v41, v42, v43]))]) hP hD [0] [] 0 rfl rfl (by decide) (by decide) hk1 hFc hP1 hD1
  generalize H1 = H at hP hS ⊢
  refine lv_aload_n hx hb dM_two0_4 rfl (lv_at hl 0 rfl) ?_
  refine lv_iload_n hx hb dM_two0_5 rfl (lv_at hl 1 rfl) ?_
  obtain ⟨hPc, hDc, hFc⟩ := xcut (wc := []) hP hD hS hA [] rfl rfl (by decide)
  refine va_calli (va_runV (C := "ValueBenchModel") (As := [.int x1]) (rest := []) ⟨hx, hb, hml, hown, htx⟩ (cM_out_0 l hl9 D cT aK aV H.size a0 x1 h2 h3 h4 h5) ⟨callB_of 1 htx (xw_goodC kw_5_217) rfl rfl rfl (htx _ kw_1_5) (htx _ kw_5_214) ⟨by decide, by decide, by decide +kernel⟩ ⟨Nat.le_of_ble_eq_true rfl, Nat.le_of_ble_eq_true rfl⟩, (htx _ kw_5_216), (htx _ kp_M_out)⟩ ⟨xPre_blind, va_recv hK hP (ci := 5) rfl (q0 := 0) rfl, (fun U hU hW => ⟨rfl, xPre_of hZ hS hFc hPc hDc hK U hU hW⟩)⟩ rfl rfl hl.1 rfl (lv_room (Nat.le_of_ble_eq_true rfl)) dM_two0_6 ⟨Nat.le_of_ble_eq_true rfl, Nat.le_of_ble_eq_true rfl⟩) hS (fun q _ h => hFc q h) hFc (fun r1 u9 t H1 locs ht hvm hr9 hB hz1 hk1 hS => ?_)
  obtain ⟨hP1, hK1, hD1⟩ := hB
  rw [ht] at hP1
  obtain ⟨hP, hD⟩ := xjoin (W := [(a0, .inr (5, [.int 0, v13, .int 0, v15, .int 0, v17, v18, .int 0, v20, .int 0, v22, v23, .int 0, v25, v26, v27, v28, v29, v30, v31, v32, v33, .int 0, .int 1000000000, v36, v37, v38, v39, v40, v41, v42, v43]))]) hP hD [] [0] 1 rfl rfl (by decide) (by decide) hk1 hFc hP1 hD1
  generalize H1 = H at hP hS ⊢
  rw [hr9]
  refine W.eq (g2 := F0 m 9 ls [.int 0]) rfl ?_
  refine lv_if_ne (tgt := 39) hx hb dM_two0_9 (by decide) (fun h => ((by revert h; decide : False)).elim) (fun _ => ?_)
  refine lv_iload_n hx hb dM_two0_12 rfl (lv_at hl 2 rfl) ?_
  refine lv_if_lt (tgt := 39) hx hb dM_two0_13 (by decide) (fun h => by first | exact absurd h h7 | exact absurd h h8 | exact absurd h h9 | exact absurd h7 h | exact absurd h8 h | exact absurd h9 h) (fun _ => ?_)
  refine lv_iload_n hx hb dM_two0_16 rfl (lv_at hl 2 rfl) ?_
  refine lv_bipush (v := 9) hx hb dM_two0_17 (by decide) ?_
  refine lv_icmp_gt (tgt := 39) hx hb dM_two0_19 (by decide) (fun _ => ?_) (fun h => by first | exact absurd h h7 | exact absurd h h8 | exact absurd h h9 | exact absurd h7 h | exact absurd h8 h | exact absurd h9 h)
  refine lv_aload_n hx hb dM_two0_39 rfl (lv_at hl 0 rfl) ?_
  refine lv_iconst (v := 1) hx hb dM_two0_40 (by decide) ?_
  refine va_put (D := D) (ci := 5) (v := .int 1) (ty := .int) (C := "ValueBenchModel") (T := TM) (N := 32) hx hb htx inM tyM tyM_ok nmM hown hK hP hD hS 0 rfl rfl 0 (by decide) (htx _ kw_5_87) (fun _ h9 => h9) rfl (by decide +kernel) rfl rfl (Nat.le_of_ble_eq_true rfl) dM_two0_41 (fun H locs hP hD hS => ?_)
  obtain ⟨hP, hD⟩ : xPD D xcl A [(a0, .inr (5, [.int 1, v13, .int 0, v15, .int 0, v17, v18, .int 0, v20, .int 0, v22, v23, .int 0, v25, v26, v27, v28, v29, v30, v31, v32, v33, .int 0, .int 1000000000, v36, v37, v38, v39, v40, v41, v42, v43]))] H := ⟨hP, hD⟩
  refine lv_goto (tgt := 57) hx hb dM_two0_44 (by decide) ?_
  obtain ⟨hP9, hD9⟩ := xsub (wc := [(a0, .inr (5, [.int 1, v13, .int 0, v15, .int 0, v17, v18, .int 0, v20, .int 0, v22, v23, .int 0, v25, v26, v27, v28, v29, v30, v31, v32, v33, .int 0, .int 1000000000, v36, v37, v38, v39, v40, v41, v42, v43]))]) hP hD [0] rfl rfl (by decide)
  refine W.widen (k := 0) (n := 0) (Nat.le_of_ble_eq_true rfl) (Nat.le_of_ble_eq_true rfl) ?_
  exact W.vret hx hb hr (fun t ht hW => ⟨⟨(), rfl, trivial, by rw [ht]; exact hP9, va_K.moved hW.alike hK, hD9⟩, hS.F ht⟩) hS.2.2 dM_two0_57
set_option maxHeartbeats 400000000 in
set_option maxRecDepth 100000 in
theorem cM_finish_67 (l : Launch) (hl9 : l.stackTraces = false) (D : va_G) (cT : Nat → ClassId) (aK aV : Nat → Nat) (sz : Nat) (a0 : Nat) (a1 : Nat) (a2 : Nat) (a3 : Nat) (a4 : Nat) (a5 : Nat) (x6 : Int32) (x7 : Int32) (x8 : Int32) (x13 : Int32) (v18 : Value) (v19 : Value) (v20 : Value) (v21 : Value) (v22 : Value) (v23 : Value) (v24 : Value) (v25 : Value) (v26 : Value) (v27 : Value) (v28 : Value) (v29 : Value) (v30 : Value) (v31 : Value) (v32 : Value) (v33 : Value) (v34 : Value) (v35 : Value) (v36 : Value) (v37 : Value) (v38 : Value) (v39 : Value) (v40 : Value) (v41 : Value) (v42 : Value) (v43 : Value) (v44 : Value) (v45 : Value) (f46 : Nat → Option Nat) (f49 : Nat → Int32) (f52 : Nat → Int32) (f57 : Nat → Option Nat) (f60 : Nat → Int32) (h9 : ¬ x8 < 0) (h10 : ¬ 7 < x8) (h11 : x8 ≤ 7) (h12 : vp_in x8 8) (h14 : ¬ x13 < 0) (h15 : ¬ 7 < x13) (h16 : x13 ≤ 7) (h17 : vp_in x13 8) (h47 : f46 x8.toNatClampNeg = some a3) (h48 : f46 x13.toNatClampNeg = some a5) (h50 : f49 x8.toNatClampNeg = 4) (h51 : f49 x13.toNatClampNeg = 4) (h53 : f52 0 = 110) (h54 : f52 1 = 117) (h55 : f52 2 = 108) (h56 : f52 3 = 108) (h58 : f57 0 = none) (h59 : f57 1 = none) (h61 : f60 0 = 110) (h62 : f60 1 = 117) (h63 : f60 2 = 108) (h64 : f60 3 = 108) : xMet l yM_finish wyM_finish 8 3 18 175 D cT aK aV sz [.ref a0, .int x6, .int 3, .int x7, .int x8, .int x13] [(a0, .inr (5, [v18, .ref a4, .int 0, v19, v20, v21, v22, v23, v24, v25, v26, v27, v28, v29, v30, v31, v32, v33, v34, v35, v36, v37, v38, v39, .ref a1, .ref a2, v40, v41, v42, v43, v44, v45])), (a1, .inl (cT 5, 8, .inr (.inr (.inr (.inr f46))))), (a2, .inl (cT 1, 8, .inl f49)), (a3, .inl (cT 0, 4096, .inl f52)), (a4, .inl (cT 4, 1024, .inr (.inr (.inr (.inr f57))))), (a5, .inl (cT 0, 4096, .inl f60))] (fun A => va_Qv (fun _ : Unit => True) (fun _ t => ∃ (r1 : Nat) (r2 : Nat), xB D xcl cT A [(a0, .inr (5, [.int 2, .ref a4, .int 2, v19, v20, v21, v22, v23, .int 1, v25, v26, v27, v28, v29, v30, .ref a5, .int 4, .int 4, .int 0, .int 100, v36, v37, v38, v39, .ref a1, .ref a2, v40, v41, v42, v43, .int 1, v45])), (a1, .inl (cT 5, 8, .inr (.inr (.inr (.inr f46))))), (a2, .inl (cT 1, 8, .inl f49)), (a3, .inl (cT 0, 4096, .inl f52)), (a4, .inl (cT 4, 1024, .inr (.inr (.inr (.inr (va_up (va_up f57 0 (some r1)) 1 (some r2))))))), (a5, .inl (cT 0, 4096, .inl f60)), (r1, .inr (6, [.int 0, .long 0, .int 0, .int 0, .int 0, .int 1])), (r2, .inr (6, [.int 0, .long 0, .int 0, .int 0, .int 0, .int 1]))] t) A) := by
  refine va_MetW (cc := prog_13_method_90_code) (maxL := 10) (ret := none) (hh := [(0, 128, 131, 83), (0, 128, 149, 86)]) (by decide) rfl ?_
  intro p e s m args below meth c s₁ B hml hv
  obtain ⟨rfl, hsz, hZ, hP, hK, hD0⟩ := hv
  have hx := B.exec
  have hb := B.bytes
  have hr := B.returns
  have hts := atoms_spec (ws := wyM_finish) B.pre
  have htx := fun w h => hts w (List.mem_cons_of_mem _ h)
  have hown : s.vm.findClass "ValueBenchModel" = some m.cls := findClass_of_methodNamed B.named
  have hlocks := B.notSynchronized
  subst hsz
  have hD := hD0.self (sz := s.heap.size)
  generalize hAe : va_A [(a0, .inr (5, [v18, .ref a4, .int 0, v19, v20, v21, v22, v23, v24, v25, v26, v27, v28, v29, v30, v31, v32, v33, v34, v35, v36, v37, v38, v39, .ref a1, .ref a2, v40, v41, v42, v43, v44, v45])), (a1, .inl (cT 5, 8, .inr (.inr (.inr (.inr f46))))), (a2, .inl (cT 1, 8, .inl f49)), (a3, .inl (cT 0, 4096, .inl f52)), (a4, .inl (cT 4, 1024, .inr (.inr (.inr (.inr f57))))), (a5, .inl (cT 0, 4096, .inl f60))] s.heap.size = A at hD hZ ⊢
  have hA : ∀ q : Nat, s.heap.size ≤ q → A q := fun q h => by rw [← hAe]; exact Or.inr h
  have hS : va_S A s.heap s.heap [] := va_S.rf
  have hP : va_P D xcl [(a0, .inr (5, [v18, .ref a4, .int 0, v19, v20, v21, v22, v23, v24, v25, v26, v27, v28, v29, v30, v31, v32, v33, v34, v35, v36, v37, v38, v39, .ref a1, .ref a2, v40, v41, v42, v43, v44, v45])), (a1, .inl (cT 5, 8, .inr (.inr (.inr (.inr f46))))), (a2, .inl (cT 1, 8, .inl f49)), (a3, .inl (cT 0, 4096, .inl f52)), (a4, .inl (cT 4, 1024, .inr (.inr (.inr (.inr f57))))), (a5, .inl (cT 0, 4096, .inl f60))] s.heap := hP
  have hl := lv_entry ([.ref a0, .int x6, .int 3, .int x7, .int x8, .int x13]) (n := 10) (Nat.le_of_ble_eq_true rfl)
  rw [lg_entry_eq]
  generalize (lg_sl ([.ref a0, .int x6, .int 3, .int x7, .int x8, .int x13]) ++ List.replicate (10 - (lg_sl ([.ref a0, .int x6, .int 3, .int x7, .int x8, .int x13])).length) Slot.unset).toArray = ls at hl ⊢
  have hl : lv_has ls 10 [(0, .ref a0), (1, .int x6), (2, .int 3), (3, .int x7), (4, .int x8), (5, .int x13)] := hl
  have htab := vx_table (x := yM_finish) B (hts _ List.mem_cons_self)
  refine lv_aload_n hx hb dM_finish_0 rfl (lv_at hl 0 rfl) ?_
  refine lv_iload hx hb dM_finish_1 (lv_at hl 4 rfl) ?_
  obtain ⟨hPc, hDc, hFc⟩ := xcut (wc := [(a0, .inr (5, [v18, .ref a4, .int 0, v19, v20, v21, v22, v23, v24, v25, v26, v27, v28, v29, v30, v31, v32, v33, v34, v35, v36, v37, v38, v39, .ref a1, .ref a2, v40, v41, v42, v43, v44, v45])), (a1, .inl (cT 5, 8, .inr (.inr (.inr (.inr f46))))), (a2, .inl (cT 1, 8, .inl f49)), (a3, .inl (cT 0, 4096, .inl f52)), (a4, .inl (cT 4, 1024, .inr (.inr (.inr (.inr f57)))))]) hP hD hS hA [0, 1, 2, 3, 4] rfl rfl (by decide)
  refine va_callr (va_runV (C := "ValueBenchModel") (As := [.int x8]) (rest := []) ⟨hx, hb, hml, hown, htx⟩ (cM_register_0 l hl9 D cT aK aV s.heap.size a0 a1 a2 a3 a4 x8 v18 v19 v20 v21 v22 v23 v24 v25 v26 v27 v28 v29 v30 v31 v32 v33 v34 v35 v36 v37 v38 v39 v40 v41 v42 v43 v44 v45 f46 f49 f52 f57 h9 h10 h11 h12 (by first | rfl | exact h47 | exact h48 | exact h50 | exact h51 | exact h53 | exact h54 | exact h55 | exact h56 | exact h58 | exact h59 | exact h61 | exact h62 | exact h63 | exact h64) (by first | rfl | exact h47 | exact h48 | exact h50 | exact h51 | exact h53 | exact h54 | exact h55 | exact h56 | exact h58 | exact h59 | exact h61 | exact h62 | exact h63 | exact h64) (by first | rfl | exact h47 | exact h48 | exact h50 | exact h51 | exact h53 | exact h54 | exact h55 | exact h56 | exact h58 | exact h59 | exact h61 | exact h62 | exact h63 | exact h64) (by first | rfl | exact h47 | exact h48 | exact h50 | exact h51 | exact h53 | exact h54 | exact h55 | exact h56 | exact h58 | exact h59 | exact h61 | exact h62 | exact h63 | exact h64) (by first | rfl | exact h47 | exact h48 | exact h50 | exact h51 | exact h53 | exact h54 | exact h55 | exact h56 | exact h58 | exact h59 | exact h61 | exact h62 | exact h63 | exact h64) (by first | rfl | exact h47 | exact h48 | exact h50 | exact h51 | exact h53 | exact h54 | exact h55 | exact h56 | exact h58 | exact h59 | exact h61 | exact h62 | exact h63 | exact h64) (by first | rfl | exact h47 | exact h48 | exact h50 | exact h51 | exact h53 | exact h54 | exact h55 | exact h56 | exact h58 | exact h59 | exact h61 | exact h62 | exact h63 | exact h64)) ⟨callB_of 1 htx (xw_goodC kw_6_170) rfl rfl rfl (htx _ kw_1_5) (htx _ kw_6_167) ⟨by decide, by decide, by decide +kernel⟩ ⟨Nat.le_of_ble_eq_true rfl, Nat.le_of_ble_eq_true rfl⟩, (htx _ kw_6_169), (htx _ kp_M_register)⟩ ⟨xPre_blind, va_recv hK hP (ci := 5) rfl (q0 := 0) rfl, (fun U hU hW => ⟨rfl, xPre_of hZ hS hFc hPc hDc hK U hU hW⟩)⟩ rfl rfl hl.1 rfl (lv_room (Nat.le_of_ble_eq_true rfl)) dM_finish_3 ⟨Nat.le_of_ble_eq_true rfl, Nat.le_of_ble_eq_true rfl⟩) hS (fun q _ h => hFc q h) hFc (fun u9 r1 t H1 locs ht hvm hr9 hB hz1 hk1 hS => ?_)
  obtain ⟨hP1, hK1, hD1⟩ := hB
  rw [ht] at hP1
  obtain ⟨hP, hD⟩ := xjoin (W := [(a5, .inl (cT 0, 4096, .inl f60)), (a0, .inr (5, [v18, .ref a4, .int 1, v19, v20, v21, v22, v23, v24, v25, v26, v27, v28, v29, v30, .ref a3, .int 4, .int 4, .int 0, .int 100, v36, v37, v38, v39, .ref a1, .ref a2, v40, v41, v42, v43, v44, v45])), (a1, .inl (cT 5, 8, .inr (.inr (.inr (.inr f46))))), (a2, .inl (cT 1, 8, .inl f49)), (a3, .inl (cT 0, 4096, .inl f52)), (a4, .inl (cT 4, 1024, .inr (.inr (.inr (.inr (va_up f57 0 (some r1))))))), (r1, .inr (6, [.int 0, .long 0, .int 0, .int 0, .int 0, .int 1]))]) hP hD [0, 1, 2, 3, 4] [5] 1 rfl rfl (by decide) (by decide) hk1 hFc hP1 hD1
  generalize H1 = H at hP hS ⊢
  refine W.eq (g2 := F0 m 6 ls [.ref r1]) rfl ?_
  refine lv_astore (lv' := [(6, .ref r1), (0, .ref a0), (1, .int x6), (2, .int 3), (3, .int x7), (4, .int x8), (5, .int x13)]) hx hb dM_finish_6 hl (by decide) rfl (fun ls hl => ?_)
  refine lv_iload_n hx hb dM_finish_8 rfl (lv_at hl 3 rfl) ?_
  refine lv_iconst (v := 1) hx hb dM_finish_9 (by decide) ?_
  refine lv_icmp_ne (tgt := 17) hx hb dM_finish_10 (by decide) (fun _ => ?_) (fun h => ((by revert h; decide : False)).elim)
  refine lv_aload_n hx hb dM_finish_17 rfl (lv_at hl 1 rfl) ?_
  refine lv_iload hx hb dM_finish_18 (lv_at hl 6 rfl) ?_
  obtain ⟨hPc, hDc, hFc⟩ := xcut (wc := [(a0, .inr (5, [v18, .ref a4, .int 1, v19, v20, v21, v22, v23, v24, v25, v26, v27, v28, v29, v30, .ref a3, .int 4, .int 4, .int 0, .int 100, v36, v37, v38, v39, .ref a1, .ref a2, v40, v41, v42, v43, v44, v45])), (a1, .inl (cT 5, 8, .inr (.inr (.inr (.inr f46))))), (a2, .inl (cT 1, 8, .inl f49)), (a5, .inl (cT 0, 4096, .inl f60)), (a4, .inl (cT 4, 1024, .inr (.inr (.inr (.inr (va_up f57 0 (some r1)))))))]) hP hD hS hA [1, 2, 3, 0, 5] rfl rfl (by decide)
  refine va_callr (va_runV (C := "ValueBenchModel") (As := [.int x13]) (rest := []) ⟨hx, hb, hml, hown, htx⟩ (cM_register_3 l hl9 D cT aK aV H.size a0 a1 a2 a5 a4 x13 v18 v19 v20 v21 v22 v23 v24 v25 v26 v27 v28 v29 v30 (.ref a3) (.int 4) (.int 4) (.int 0) (.int 100) v36 v37 v38 v39 v40 v41 v42 v43 v44 v45 f46 f49 f60 (va_up f57 0 (some r1)) h14 h15 h16 h17 (by first | rfl | exact h47 | exact h48 | exact h50 | exact h51 | exact h53 | exact h54 | exact h55 | exact h56 | exact h59 | exact h61 | exact h62 | exact h63 | exact h64) (by first | rfl | exact h47 | exact h48 | exact h50 | exact h51 | exact h53 | exact h54 | exact h55 | exact h56 | exact h59 | exact h61 | exact h62 | exact h63 | exact h64) (by first | rfl | exact h47 | exact h48 | exact h50 | exact h51 | exact h53 | exact h54 | exact h55 | exact h56 | exact h59 | exact h61 | exact h62 | exact h63 | exact h64) (by first | rfl | exact h47 | exact h48 | exact h50 | exact h51 | exact h53 | exact h54 | exact h55 | exact h56 | exact h59 | exact h61 | exact h62 | exact h63 | exact h64) (by first | rfl | exact h47 | exact h48 | exact h50 | exact h51 | exact h53 | exact h54 | exact h55 | exact h56 | exact h59 | exact h61 | exact h62 | exact h63 | exact h64) (by first | rfl | exact h47 | exact h48 | exact h50 | exact h51 | exact h53 | exact h54 | exact h55 | exact h56 | exact h59 | exact h61 | exact h62 | exact h63 | exact h64) (by first | rfl | exact h47 | exact h48 | exact h50 | exact h51 | exact h53 | exact h54 | exact h55 | exact h56 | exact h59 | exact h61 | exact h62 | exact h63 | exact h64)) ⟨callB_of 1 htx (xw_goodC kw_6_170) rfl rfl rfl (htx _ kw_1_5) (htx _ kw_6_167) ⟨by decide, by decide, by decide +kernel⟩ ⟨Nat.le_of_ble_eq_true rfl, Nat.le_of_ble_eq_true rfl⟩, (htx _ kw_6_169), (htx _ kp_M_register)⟩ ⟨xPre_blind, va_recv hK hP (ci := 5) rfl (q0 := 1) rfl, (fun U hU hW => ⟨rfl, xPre_of hZ hS hFc hPc hDc hK U hU hW⟩)⟩ rfl rfl hl.1 rfl (lv_room (Nat.le_of_ble_eq_true rfl)) dM_finish_20 ⟨Nat.le_of_ble_eq_true rfl, Nat.le_of_ble_eq_true rfl⟩) hS (fun q _ h => hFc q h) hFc (fun u9 r2 t H1 locs ht hvm hr9 hB hz1 hk1 hS => ?_)
  obtain ⟨hP1, hK1, hD1⟩ := hB
  rw [ht] at hP1
  obtain ⟨hP, hD⟩ := xjoin (W := [(a3, .inl (cT 0, 4096, .inl f52)), (r1, .inr (6, [.int 0, .long 0, .int 0, .int 0, .int 0, .int 1])), (a0, .inr (5, [v18, .ref a4, .int 2, v19, v20, v21, v22, v23, v24, v25, v26, v27, v28, v29, v30, .ref a5, .int 4, .int 4, .int 0, .int 100, v36, v37, v38, v39, .ref a1, .ref a2, v40, v41, v42, v43, v44, v45])), (a1, .inl (cT 5, 8, .inr (.inr (.inr (.inr f46))))), (a2, .inl (cT 1, 8, .inl f49)), (a5, .inl (cT 0, 4096, .inl f60)), (a4, .inl (cT 4, 1024, .inr (.inr (.inr (.inr (va_up (va_up f57 0 (some r1)) 1 (some r2))))))), (r2, .inr (6, [.int 0, .long 0, .int 0, .int 0, .int 0, .int 1]))]) hP hD [1, 2, 3, 0, 5] [4, 6] 2 rfl rfl (by decide) (by decide) hk1 hFc hP1 hD1
  generalize H1 = H at hP hS ⊢
  refine W.eq (g2 := F0 m 23 ls [.ref r2]) rfl ?_
  refine lv_astore (lv' := [(7, .ref r2), (6, .ref r1), (0, .ref a0), (1, .int x6), (2, .int 3), (3, .int x7), (4, .int x8), (5, .int x13)]) hx hb dM_finish_23 hl (by decide) rfl (fun ls hl => ?_)
  refine lv_iload_n hx hb dM_finish_25 rfl (lv_at hl 4 rfl) ?_
  refine lv_if_ne (tgt := 43) hx hb dM_finish_26 (by decide) (fun _ => ?_) (fun h => ((by revert h; decide : False)).elim)
  refine lv_iload_n hx hb dM_finish_43 rfl (lv_at hl 4 rfl) ?_
  refine lv_iconst (v := 1) hx hb dM_finish_44 (by decide) ?_
  refine lv_icmp_ne (tgt := 60) hx hb dM_finish_45 (by decide) (fun _ => ?_) (fun h => ((by revert h; decide : False)).elim)
  refine lv_iload_n hx hb dM_finish_60 rfl (lv_at hl 4 rfl) ?_
  refine lv_iconst (v := 2) hx hb dM_finish_61 (by decide) ?_
  refine lv_icmp_ne (tgt := 79) hx hb dM_finish_62 (by decide) (fun _ => ?_) (fun h => ((by revert h; decide : False)).elim)
  refine lv_aload_n hx hb dM_finish_79 rfl (lv_at hl 2 rfl) ?_
  refine lv_aload hx hb dM_finish_80 (lv_at hl 1 rfl) ?_
  obtain ⟨hPc, hDc, hFc⟩ := xcut (wc := [(r1, .inr (6, [.int 0, .long 0, .int 0, .int 0, .int 0, .int 1])), (a0, .inr (5, [v18, .ref a4, .int 2, v19, v20, v21, v22, v23, v24, v25, v26, v27, v28, v29, v30, .ref a5, .int 4, .int 4, .int 0, .int 100, v36, v37, v38, v39, .ref a1, .ref a2, v40, v41, v42, v43, v44, v45]))]) hP hD hS hA [1, 2] rfl rfl (by decide)
  refine xx_thr (vx_runV (C := "ValueBenchModel") (As := [.ref r1]) (rest := []) ⟨hx, hb, hml, hown, htx⟩ (cM_array_0 l hl9 D cT aK aV H.size r1 a0 (.long 0) (.int 0) (.int 0) (.int 0) (.int 1) v18 (.ref a4) (.int 2) v19 v20 v21 v22 v23 v24 v25 v26 v27 v28 v29 v30 (.ref a5) (.int 4) (.int 4) (.int 0) (.int 100) v36 v37 v38 v39 (.ref a1) (.ref a2) v40 v41 v42 v43 v44 v45) ⟨callB_of 1 htx (xw_goodC kw_7_42) rfl rfl rfl (htx _ kw_1_5) (htx _ kw_7_39) ⟨by decide, by decide, by decide +kernel⟩ ⟨Nat.le_of_ble_eq_true rfl, Nat.le_of_ble_eq_true rfl⟩, (htx _ kw_7_41), (htx _ kp_M_array)⟩ ⟨xPre_blind, va_recv hK hP (ci := 5) rfl (q0 := 2) rfl, (fun U hU hW => ⟨rfl, xPre_of hZ hS hFc hPc hDc hK U hU hW⟩)⟩ rfl rfl hl.1 rfl (lv_room (Nat.le_of_ble_eq_true rfl)) dM_finish_82 ⟨Nat.le_of_ble_eq_true rfl, Nat.le_of_ble_eq_true rfl⟩) hS hFc (fun q _ h => hFc q h) (fun E ce q9 u9 t H1 locs ht hvm _ hB hz1 hk1 hS hce hcv hcl => ?_)
  obtain ⟨rfl, hP1, hK1, hD1⟩ := hB
  rw [ht] at hP1
  obtain ⟨hP, hD⟩ := xjoin (W := [(a3, .inl (cT 0, 4096, .inl f52)), (a1, .inl (cT 5, 8, .inr (.inr (.inr (.inr f46))))), (a2, .inl (cT 1, 8, .inl f49)), (a5, .inl (cT 0, 4096, .inl f60)), (a4, .inl (cT 4, 1024, .inr (.inr (.inr (.inr (va_up (va_up f57 0 (some r1)) 1 (some r2))))))), (r2, .inr (6, [.int 0, .long 0, .int 0, .int 0, .int 0, .int 1])), (r1, .inr (6, [.int 0, .long 0, .int 0, .int 0, .int 0, .int 1])), (a0, .inr (5, [v18, .ref a4, .int 2, v19, v20, v21, v22, v23, .int 1, v25, v26, v27, v28, v29, v30, .ref a5, .int 4, .int 4, .int 0, .int 100, v36, v37, v38, v39, .ref a1, .ref a2, v40, v41, v42, v43, v44, v45]))]) hP hD [1, 2] [0, 3, 4, 5, 6, 7] 6 rfl rfl (by decide) (by decide) hk1 hFc hP1 hD1
  generalize H1 = H at hP hS hce ⊢
  refine vx_catch (own := "ValueBenchModel") (name := "java/lang/ArithmeticException") (E := "java/lang/ArithmeticException") hown [] ⟨0, 128, 131, 83⟩ [⟨0, 128, 149, 86⟩] (by rw [htab]; rfl) (fun z hz => nomatch hz) (by decide) (by decide) (htx _ kw_6_94) ((hZ.2.2.2.2.2.1 _ (List.mem_of_getElem? (i := 3) rfl)).use rfl) hce hcv hcl ?_
  refine lv_astore (lv' := [(6, .ref q9), (7, .ref r2), (0, .ref a0), (1, .int x6), (2, .int 3), (3, .int x7), (4, .int x8), (5, .int x13)]) hx hb dM_finish_131 hl (by decide) rfl (fun ls hl => ?_)
  refine lv_aload_n hx hb dM_finish_133 rfl (lv_at hl 2 rfl) ?_
  refine lv_aload_n hx hb dM_finish_134 rfl (lv_at hl 2 rfl) ?_
  refine va_get (D := D) (ci := 5) (v := .int 1) (C := "ValueBenchModel") (T := TM) (N := 32) hx hb htx inM hown hK hP 7 rfl rfl 8 (by decide) (htx _ kw_5_95) (fun _ h9 => h9) rfl dM_finish_135 ?_
  refine va_put (D := D) (ci := 5) (v := .int 1) (ty := .int) (C := "ValueBenchModel") (T := TM) (N := 32) hx hb htx inM tyM tyM_ok nmM hown hK hP hD hS 7 rfl rfl 30 (by decide) (htx _ kw_5_117) (fun _ h9 => h9) rfl (by decide +kernel) rfl rfl (Nat.le_of_ble_eq_true rfl) dM_finish_138 (fun H locs hP hD hS => ?_)
  obtain ⟨hP, hD⟩ : xPD D xcl A [(a3, .inl (cT 0, 4096, .inl f52)), (a1, .inl (cT 5, 8, .inr (.inr (.inr (.inr f46))))), (a2, .inl (cT 1, 8, .inl f49)), (a5, .inl (cT 0, 4096, .inl f60)), (a4, .inl (cT 4, 1024, .inr (.inr (.inr (.inr (va_up (va_up f57 0 (some r1)) 1 (some r2))))))), (r2, .inr (6, [.int 0, .long 0, .int 0, .int 0, .int 0, .int 1])), (r1, .inr (6, [.int 0, .long 0, .int 0, .int 0, .int 0, .int 1])), (a0, .inr (5, [v18, .ref a4, .int 2, v19, v20, v21, v22, v23, .int 1, v25, v26, v27, v28, v29, v30, .ref a5, .int 4, .int 4, .int 0, .int 100, v36, v37, v38, v39, .ref a1, .ref a2, v40, v41, v42, v43, .int 1, v45]))] H := ⟨hP, hD⟩
  refine lv_aload_n hx hb dM_finish_141 rfl (lv_at hl 2 rfl) ?_
  refine lv_iconst (v := 2) hx hb dM_finish_142 (by decide) ?_
  refine va_put (D := D) (ci := 5) (v := .int 2) (ty := .int) (C := "ValueBenchModel") (T := TM) (N := 32) hx hb htx inM tyM tyM_ok nmM hown hK hP hD hS 7 rfl rfl 0 (by decide) (htx _ kw_5_87) (fun _ h9 => h9) rfl (by decide +kernel) rfl rfl (Nat.le_of_ble_eq_true rfl) dM_finish_143 (fun H locs hP hD hS => ?_)
  obtain ⟨hP, hD⟩ : xPD D xcl A [(a3, .inl (cT 0, 4096, .inl f52)), (a1, .inl (cT 5, 8, .inr (.inr (.inr (.inr f46))))), (a2, .inl (cT 1, 8, .inl f49)), (a5, .inl (cT 0, 4096, .inl f60)), (a4, .inl (cT 4, 1024, .inr (.inr (.inr (.inr (va_up (va_up f57 0 (some r1)) 1 (some r2))))))), (r2, .inr (6, [.int 0, .long 0, .int 0, .int 0, .int 0, .int 1])), (r1, .inr (6, [.int 0, .long 0, .int 0, .int 0, .int 0, .int 1])), (a0, .inr (5, [.int 2, .ref a4, .int 2, v19, v20, v21, v22, v23, .int 1, v25, v26, v27, v28, v29, v30, .ref a5, .int 4, .int 4, .int 0, .int 100, v36, v37, v38, v39, .ref a1, .ref a2, v40, v41, v42, v43, .int 1, v45]))] H := ⟨hP, hD⟩
  refine lv_goto (tgt := 156) hx hb dM_finish_146 (by decide) ?_
  obtain ⟨hP9, hD9⟩ := xsub (wc := [(a0, .inr (5, [.int 2, .ref a4, .int 2, v19, v20, v21, v22, v23, .int 1, v25, v26, v27, v28, v29, v30, .ref a5, .int 4, .int 4, .int 0, .int 100, v36, v37, v38, v39, .ref a1, .ref a2, v40, v41, v42, v43, .int 1, v45])), (a1, .inl (cT 5, 8, .inr (.inr (.inr (.inr f46))))), (a2, .inl (cT 1, 8, .inl f49)), (a3, .inl (cT 0, 4096, .inl f52)), (a4, .inl (cT 4, 1024, .inr (.inr (.inr (.inr (va_up (va_up f57 0 (some r1)) 1 (some r2))))))), (a5, .inl (cT 0, 4096, .inl f60)), (r1, .inr (6, [.int 0, .long 0, .int 0, .int 0, .int 0, .int 1])), (r2, .inr (6, [.int 0, .long 0, .int 0, .int 0, .int 0, .int 1]))]) hP hD [7, 1, 2, 0, 4, 3, 6, 5] rfl rfl (by decide)
  refine W.widen (k := 3) (n := 18) (Nat.le_of_ble_eq_true rfl) (Nat.le_of_ble_eq_true rfl) ?_
  exact W.vret hx hb hr (fun t ht hW => ⟨⟨(), rfl, trivial, r1, r2, by rw [ht]; exact hP9, va_K.moved hW.alike hK, hD9⟩, hS.F ht⟩) hS.2.2 dM_finish_156
set_option maxHeartbeats 400000000 in
set_option maxRecDepth 100000 in
theorem cM_sort0_0 (l : Launch) (hl9 : l.stackTraces = false) (D : va_G) (cT : Nat → ClassId) (aK aV : Nat → Nat) (sz : Nat) (a0 : Nat) (a1 : Nat) (a2 : Nat) (a3 : Nat) (a4 : Nat) (a5 : Nat) (x6 : Int32) (x11 : Int32) (x16 : Int32) (v21 : Value) (v22 : Value) (v23 : Value) (v24 : Value) (v25 : Value) (v26 : Value) (v27 : Value) (v28 : Value) (v29 : Value) (v30 : Value) (v31 : Value) (v32 : Value) (v33 : Value) (v34 : Value) (v35 : Value) (v36 : Value) (v37 : Value) (v38 : Value) (v39 : Value) (v40 : Value) (v41 : Value) (v42 : Value) (v43 : Value) (v44 : Value) (v45 : Value) (v46 : Value) (v47 : Value) (v48 : Value) (v49 : Value) (f50 : Nat → Option Nat) (f53 : Nat → Int32) (f56 : Nat → Int32) (f61 : Nat → Option Nat) (f64 : Nat → Int32) (h7 : ¬ x6 < 0) (h8 : ¬ 7 < x6) (h9 : x6 ≤ 7) (h10 : vp_in x6 8) (h12 : ¬ x11 < 0) (h13 : ¬ 7 < x11) (h14 : x11 ≤ 7) (h15 : vp_in x11 8) (h17 : ¬ x16 < 0) (h18 : ¬ 7 < x16) (h19 : x16 ≤ 7) (h20 : vp_in x16 8) (h51 : f50 x11.toNatClampNeg = some a3) (h52 : f50 x16.toNatClampNeg = some a5) (h54 : f53 x11.toNatClampNeg = 4) (h55 : f53 x16.toNatClampNeg = 4) (h57 : f56 0 = 110) (h58 : f56 1 = 117) (h59 : f56 2 = 108) (h60 : f56 3 = 108) (h62 : f61 0 = none) (h63 : f61 1 = none) (h65 : f64 0 = 110) (h66 : f64 1 = 117) (h67 : f64 2 = 108) (h68 : f64 3 = 108) : xMet l yM_sort0 wyM_sort0 9 3 18 204 D cT aK aV sz [.ref a0, .int x6, .int 0, .int x11, .int x16] [(a0, .inr (5, [v21, .ref a4, v22, v23, v24, v25, v26, v27, v28, v29, v30, v31, v32, v33, v34, v35, v36, v37, v38, v39, v40, v41, v42, v43, .ref a1, .ref a2, v44, v45, v46, v47, v48, v49])), (a1, .inl (cT 5, 8, .inr (.inr (.inr (.inr f50))))), (a2, .inl (cT 1, 8, .inl f53)), (a3, .inl (cT 0, 4096, .inl f56)), (a4, .inl (cT 4, 1024, .inr (.inr (.inr (.inr f61))))), (a5, .inl (cT 0, 4096, .inl f64))] (fun A => va_Qv (fun _ : Unit => True) (fun _ t => ∃ (q4 : Nat) (q5 : Nat), xB D xcl cT A [(a0, .inr (5, [.int 2, .ref a4, .int 2, v23, .int 0, v25, v26, .int 0, .int 1, .int 0, v30, v31, .int 0, v33, v34, .ref a5, .int 4, .int 4, .int 0, .int 100, v40, v41, .int 0, .int 1000000000, .ref a1, .ref a2, v44, v45, v46, v47, .int 1, v49])), (a1, .inl (cT 5, 8, .inr (.inr (.inr (.inr f50))))), (a2, .inl (cT 1, 8, .inl f53)), (a3, .inl (cT 0, 4096, .inl f56)), (a4, .inl (cT 4, 1024, .inr (.inr (.inr (.inr (va_up (va_up f61 0 (some q4)) 1 (some q5))))))), (a5, .inl (cT 0, 4096, .inl f64)), (q4, .inr (6, [.int 0, .long 0, .int 0, .int 0, .int 0, .int 1])), (q5, .inr (6, [.int 0, .long 0, .int 0, .int 0, .int 0, .int 1]))] t) A) := by
  refine Met.ofW (cc := prog_13_method_94_code) (maxL := 5) (ret := none) (by decide) rfl ?_
  intro p e s m args below meth c s₁ B hml hv
  obtain ⟨rfl, hsz, hZ, hP, hK, hD0⟩ := hv
  have hx := B.exec
  have hb := B.bytes
  have hr := B.returns
  have hts := atoms_spec (ws := wyM_sort0) B.pre
  have htx := fun w h => hts w (List.mem_cons_of_mem _ h)
  have hown : s.vm.findClass "ValueBenchModel" = some m.cls := findClass_of_methodNamed B.named
  have hlocks := B.notSynchronized
  subst hsz
  have hD := hD0.self (sz := s.heap.size)
  generalize hAe : va_A [(a0, .inr (5, [v21, .ref a4, v22, v23, v24, v25, v26, v27, v28, v29, v30, v31, v32, v33, v34, v35, v36, v37, v38, v39, v40, v41, v42, v43, .ref a1, .ref a2, v44, v45, v46, v47, v48, v49])), (a1, .inl (cT 5, 8, .inr (.inr (.inr (.inr f50))))), (a2, .inl (cT 1, 8, .inl f53)), (a3, .inl (cT 0, 4096, .inl f56)), (a4, .inl (cT 4, 1024, .inr (.inr (.inr (.inr f61))))), (a5, .inl (cT 0, 4096, .inl f64))] s.heap.size = A at hD hZ ⊢
  have hA : ∀ q : Nat, s.heap.size ≤ q → A q := fun q h => by rw [← hAe]; exact Or.inr h
  have hS : va_S A s.heap s.heap [] := va_S.rf
  have hP : va_P D xcl [(a0, .inr (5, [v21, .ref a4, v22, v23, v24, v25, v26, v27, v28, v29, v30, v31, v32, v33, v34, v35, v36, v37, v38, v39, v40, v41, v42, v43, .ref a1, .ref a2, v44, v45, v46, v47, v48, v49])), (a1, .inl (cT 5, 8, .inr (.inr (.inr (.inr f50))))), (a2, .inl (cT 1, 8, .inl f53)), (a3, .inl (cT 0, 4096, .inl f56)), (a4, .inl (cT 4, 1024, .inr (.inr (.inr (.inr f61))))), (a5, .inl (cT 0, 4096, .inl f64))] s.heap := hP
  have hl := lv_entry ([.ref a0, .int x6, .int 0, .int x11, .int x16]) (n := 5) (Nat.le_of_ble_eq_true rfl)
  rw [lg_entry_eq]
  generalize (lg_sl ([.ref a0, .int x6, .int 0, .int x11, .int x16]) ++ List.replicate (5 - (lg_sl ([.ref a0, .int x6, .int 0, .int x11, .int x16])).length) Slot.unset).toArray = ls at hl ⊢
  have hl : lv_has ls 5 [(0, .ref a0), (1, .int x6), (2, .int 0), (3, .int x11), (4, .int x16)] := hl
  refine lv_aload_n hx hb dM_sort0_0 rfl (lv_at hl 0 rfl) ?_
  obtain ⟨hPc, hDc, hFc⟩ := xcut (wc := [(a0, .inr (5, [v21, .ref a4, v22, v23, v24, v25, v26, v27, v28, v29, v30, v31, v32, v33, v34, v35, v36, v37, v38, v39, v40, v41, v42, v43, .ref a1, .ref a2, v44, v45, v46, v47, v48, v49]))]) hP hD hS hA [0] rfl rfl (by decide)
  refine va_callv (va_runV (C := "ValueBenchModel") (As := []) (rest := []) ⟨hx, hb, hml, hown, htx⟩ (cM_begin_0 l hl9 D cT aK aV s.heap.size a0 v21 (.ref a4) v22 v23 v24 v25 v26 v27 v28 v29 v30 v31 v32 v33 v34 v35 v36 v37 v38 v39 v40 v41 v42 v43 (.ref a1) (.ref a2) v44 v45 v46 v47 v48 v49) ⟨callB_of 0 htx (xw_goodC kw_5_209) rfl rfl rfl (htx _ kw_1_5) (htx _ kw_5_206) ⟨by decide, by decide, by decide +kernel⟩ ⟨Nat.le_of_ble_eq_true rfl, Nat.le_of_ble_eq_true rfl⟩, (htx _ kw_5_208), (htx _ kp_M_begin)⟩ ⟨xPre_blind, va_recv hK hP (ci := 5) rfl (q0 := 0) rfl, (fun U hU hW => ⟨rfl, xPre_of hZ hS hFc hPc hDc hK U hU hW⟩)⟩ rfl rfl hl.1 rfl (lv_room (Nat.le_of_ble_eq_true rfl)) dM_sort0_1 ⟨Nat.le_of_ble_eq_true rfl, Nat.le_of_ble_eq_true rfl⟩) hS (fun q _ h => hFc q h) hFc (fun u9 t H1 locs ht hvm hr9 hB hz1 hk1 hS => ?_)
  obtain ⟨hP1, hK1, hD1⟩ := hB
  rw [ht] at hP1
  obtain ⟨hP, hD⟩ := xjoin (W := [(a1, .inl (cT 5, 8, .inr (.inr (.inr (.inr f50))))), (a2, .inl (cT 1, 8, .inl f53)), (a3, .inl (cT 0, 4096, .inl f56)), (a4, .inl (cT 4, 1024, .inr (.inr (.inr (.inr f61))))), (a5, .inl (cT 0, 4096, .inl f64)), (a0, .inr (5, [.int 0, .ref a4, .int 0, v23, .int 0, v25, v26, .int 0, v28, .int 0, v30, v31, .int 0, v33, v34, v35, v36, v37, v38, v39, v40, v41, .int 0, .int 1000000000, .ref a1, .ref a2, v44, v45, v46, v47, v48, v49]))]) hP hD [0] [1, 2, 3, 4, 5] 5 rfl rfl (by decide) (by decide) hk1 hFc hP1 hD1
  generalize H1 = H at hP hS ⊢
  refine lv_aload_n hx hb dM_sort0_4 rfl (lv_at hl 0 rfl) ?_
  refine lv_iload_n hx hb dM_sort0_5 rfl (lv_at hl 1 rfl) ?_
  obtain ⟨hPc, hDc, hFc⟩ := xcut (wc := []) hP hD hS hA [] rfl rfl (by decide)
  refine va_calli (va_runV (C := "ValueBenchModel") (As := [.int x6]) (rest := []) ⟨hx, hb, hml, hown, htx⟩ (cM_out_0 l hl9 D cT aK aV H.size a0 x6 h7 h8 h9 h10) ⟨callB_of 1 htx (xw_goodC kw_5_217) rfl rfl rfl (htx _ kw_1_5) (htx _ kw_5_214) ⟨by decide, by decide, by decide +kernel⟩ ⟨Nat.le_of_ble_eq_true rfl, Nat.le_of_ble_eq_true rfl⟩, (htx _ kw_5_216), (htx _ kp_M_out)⟩ ⟨xPre_blind, va_recv hK hP (ci := 5) rfl (q0 := 5) rfl, (fun U hU hW => ⟨rfl, xPre_of hZ hS hFc hPc hDc hK U hU hW⟩)⟩ rfl rfl hl.1 rfl (lv_room (Nat.le_of_ble_eq_true rfl)) dM_sort0_6 ⟨Nat.le_of_ble_eq_true rfl, Nat.le_of_ble_eq_true rfl⟩) hS (fun q _ h => hFc q h) hFc (fun r1 u9 t H1 locs ht hvm hr9 hB hz1 hk1 hS => ?_)
  obtain ⟨hP1, hK1, hD1⟩ := hB
  rw [ht] at hP1
  obtain ⟨hP, hD⟩ := xjoin (W := [(a1, .inl (cT 5, 8, .inr (.inr (.inr (.inr f50))))), (a2, .inl (cT 1, 8, .inl f53)), (a3, .inl (cT 0, 4096, .inl f56)), (a4, .inl (cT 4, 1024, .inr (.inr (.inr (.inr f61))))), (a5, .inl (cT 0, 4096, .inl f64)), (a0, .inr (5, [.int 0, .ref a4, .int 0, v23, .int 0, v25, v26, .int 0, v28, .int 0, v30, v31, .int 0, v33, v34, v35, v36, v37, v38, v39, v40, v41, .int 0, .int 1000000000, .ref a1, .ref a2, v44, v45, v46, v47, v48, v49]))]) hP hD [] [0, 1, 2, 3, 4, 5] 6 rfl rfl (by decide) (by decide) hk1 hFc hP1 hD1
  generalize H1 = H at hP hS ⊢
  rw [hr9]
  refine W.eq (g2 := F0 m 9 ls [.int 0]) rfl ?_
  refine lv_if_ne (tgt := 38) hx hb dM_sort0_9 (by decide) (fun h => ((by revert h; decide : False)).elim) (fun _ => ?_)
  refine lv_iload_n hx hb dM_sort0_12 rfl (lv_at hl 2 rfl) ?_
  refine lv_if_lt (tgt := 38) hx hb dM_sort0_13 (by decide) (fun h => ((by revert h; decide : False)).elim) (fun _ => ?_)
  refine lv_iload_n hx hb dM_sort0_16 rfl (lv_at hl 2 rfl) ?_
  refine lv_iconst (v := 4) hx hb dM_sort0_17 (by decide) ?_
  refine lv_icmp_gt (tgt := 38) hx hb dM_sort0_18 (by decide) (fun h => ((by revert h; decide : False)).elim) (fun _ => ?_)
  refine lv_aload_n hx hb dM_sort0_21 rfl (lv_at hl 0 rfl) ?_
  refine lv_iload_n hx hb dM_sort0_22 rfl (lv_at hl 3 rfl) ?_
  obtain ⟨hPc, hDc, hFc⟩ := xcut (wc := []) hP hD hS hA [] rfl rfl (by decide)
  refine va_calli (va_runV (C := "ValueBenchModel") (As := [.int x11]) (rest := []) ⟨hx, hb, hml, hown, htx⟩ (cM_out_0 l hl9 D cT aK aV H.size a0 x11 h12 h13 h14 h15) ⟨callB_of 1 htx (xw_goodC kw_5_217) rfl rfl rfl (htx _ kw_1_5) (htx _ kw_5_214) ⟨by decide, by decide, by decide +kernel⟩ ⟨Nat.le_of_ble_eq_true rfl, Nat.le_of_ble_eq_true rfl⟩, (htx _ kw_5_216), (htx _ kp_M_out)⟩ ⟨xPre_blind, va_recv hK hP (ci := 5) rfl (q0 := 5) rfl, (fun U hU hW => ⟨rfl, xPre_of hZ hS hFc hPc hDc hK U hU hW⟩)⟩ rfl rfl hl.1 rfl (lv_room (Nat.le_of_ble_eq_true rfl)) dM_sort0_23 ⟨Nat.le_of_ble_eq_true rfl, Nat.le_of_ble_eq_true rfl⟩) hS (fun q _ h => hFc q h) hFc (fun r2 u9 t H1 locs ht hvm hr9 hB hz1 hk1 hS => ?_)
  obtain ⟨hP1, hK1, hD1⟩ := hB
  rw [ht] at hP1
  obtain ⟨hP, hD⟩ := xjoin (W := [(a1, .inl (cT 5, 8, .inr (.inr (.inr (.inr f50))))), (a2, .inl (cT 1, 8, .inl f53)), (a3, .inl (cT 0, 4096, .inl f56)), (a4, .inl (cT 4, 1024, .inr (.inr (.inr (.inr f61))))), (a5, .inl (cT 0, 4096, .inl f64)), (a0, .inr (5, [.int 0, .ref a4, .int 0, v23, .int 0, v25, v26, .int 0, v28, .int 0, v30, v31, .int 0, v33, v34, v35, v36, v37, v38, v39, v40, v41, .int 0, .int 1000000000, .ref a1, .ref a2, v44, v45, v46, v47, v48, v49]))]) hP hD [] [0, 1, 2, 3, 4, 5] 6 rfl rfl (by decide) (by decide) hk1 hFc hP1 hD1
  generalize H1 = H at hP hS ⊢
  rw [hr9]
  refine W.eq (g2 := F0 m 26 ls [.int 0]) rfl ?_
  refine lv_if_ne (tgt := 38) hx hb dM_sort0_26 (by decide) (fun h => ((by revert h; decide : False)).elim) (fun _ => ?_)
  refine lv_aload_n hx hb dM_sort0_29 rfl (lv_at hl 0 rfl) ?_
  refine lv_iload hx hb dM_sort0_30 (lv_at hl 4 rfl) ?_
  obtain ⟨hPc, hDc, hFc⟩ := xcut (wc := []) hP hD hS hA [] rfl rfl (by decide)
  refine va_calli (va_runV (C := "ValueBenchModel") (As := [.int x16]) (rest := []) ⟨hx, hb, hml, hown, htx⟩ (cM_out_0 l hl9 D cT aK aV H.size a0 x16 h17 h18 h19 h20) ⟨callB_of 1 htx (xw_goodC kw_5_217) rfl rfl rfl (htx _ kw_1_5) (htx _ kw_5_214) ⟨by decide, by decide, by decide +kernel⟩ ⟨Nat.le_of_ble_eq_true rfl, Nat.le_of_ble_eq_true rfl⟩, (htx _ kw_5_216), (htx _ kp_M_out)⟩ ⟨xPre_blind, va_recv hK hP (ci := 5) rfl (q0 := 5) rfl, (fun U hU hW => ⟨rfl, xPre_of hZ hS hFc hPc hDc hK U hU hW⟩)⟩ rfl rfl hl.1 rfl (lv_room (Nat.le_of_ble_eq_true rfl)) dM_sort0_32 ⟨Nat.le_of_ble_eq_true rfl, Nat.le_of_ble_eq_true rfl⟩) hS (fun q _ h => hFc q h) hFc (fun r3 u9 t H1 locs ht hvm hr9 hB hz1 hk1 hS => ?_)
  obtain ⟨hP1, hK1, hD1⟩ := hB
  rw [ht] at hP1
  obtain ⟨hP, hD⟩ := xjoin (W := [(a1, .inl (cT 5, 8, .inr (.inr (.inr (.inr f50))))), (a2, .inl (cT 1, 8, .inl f53)), (a3, .inl (cT 0, 4096, .inl f56)), (a4, .inl (cT 4, 1024, .inr (.inr (.inr (.inr f61))))), (a5, .inl (cT 0, 4096, .inl f64)), (a0, .inr (5, [.int 0, .ref a4, .int 0, v23, .int 0, v25, v26, .int 0, v28, .int 0, v30, v31, .int 0, v33, v34, v35, v36, v37, v38, v39, v40, v41, .int 0, .int 1000000000, .ref a1, .ref a2, v44, v45, v46, v47, v48, v49]))]) hP hD [] [0, 1, 2, 3, 4, 5] 6 rfl rfl (by decide) (by decide) hk1 hFc hP1 hD1
  generalize H1 = H at hP hS ⊢
  rw [hr9]
  refine W.eq (g2 := F0 m 35 ls [.int 0]) rfl ?_
  refine lv_if_eq (tgt := 46) hx hb dM_sort0_35 (by decide) (fun _ => ?_) (fun h => ((by revert h; decide : False)).elim)
  refine lv_aload_n hx hb dM_sort0_46 rfl (lv_at hl 0 rfl) ?_
  refine lv_iload_n hx hb dM_sort0_47 rfl (lv_at hl 1 rfl) ?_
  refine lv_iconst (v := 3) hx hb dM_sort0_48 (by decide) ?_
  refine lv_iload_n hx hb dM_sort0_49 rfl (lv_at hl 2 rfl) ?_
  refine lv_iload_n hx hb dM_sort0_50 rfl (lv_at hl 3 rfl) ?_
  refine lv_iload hx hb dM_sort0_51 (lv_at hl 4 rfl) ?_
  obtain ⟨hPc, hDc, hFc⟩ := xcut (wc := [(a0, .inr (5, [.int 0, .ref a4, .int 0, v23, .int 0, v25, v26, .int 0, v28, .int 0, v30, v31, .int 0, v33, v34, v35, v36, v37, v38, v39, v40, v41, .int 0, .int 1000000000, .ref a1, .ref a2, v44, v45, v46, v47, v48, v49])), (a1, .inl (cT 5, 8, .inr (.inr (.inr (.inr f50))))), (a2, .inl (cT 1, 8, .inl f53)), (a3, .inl (cT 0, 4096, .inl f56)), (a4, .inl (cT 4, 1024, .inr (.inr (.inr (.inr f61))))), (a5, .inl (cT 0, 4096, .inl f64))]) hP hD hS hA [5, 0, 1, 2, 3, 4] rfl rfl (by decide)
  refine va_callv (vx_runVW (C := "ValueBenchModel") (As := [.int x6, .int 3, .int 0, .int x11, .int x16]) (rest := []) ⟨hx, hb, hml, hown, htx⟩ (cM_finish_67 l hl9 D cT aK aV H.size a0 a1 a2 a3 a4 a5 x6 0 x11 x16 (.int 0) v23 (.int 0) v25 v26 (.int 0) v28 (.int 0) v30 v31 (.int 0) v33 v34 v35 v36 v37 v38 v39 v40 v41 (.int 0) (.int 1000000000) v44 v45 v46 v47 v48 v49 f50 f53 f56 f61 f64 h12 h13 h14 h15 h17 h18 h19 h20 (by first | rfl | exact h51 | exact h52 | exact h54 | exact h55 | exact h57 | exact h58 | exact h59 | exact h60 | exact h62 | exact h63 | exact h65 | exact h66 | exact h67 | exact h68) (by first | rfl | exact h51 | exact h52 | exact h54 | exact h55 | exact h57 | exact h58 | exact h59 | exact h60 | exact h62 | exact h63 | exact h65 | exact h66 | exact h67 | exact h68) (by first | rfl | exact h51 | exact h52 | exact h54 | exact h55 | exact h57 | exact h58 | exact h59 | exact h60 | exact h62 | exact h63 | exact h65 | exact h66 | exact h67 | exact h68) (by first | rfl | exact h51 | exact h52 | exact h54 | exact h55 | exact h57 | exact h58 | exact h59 | exact h60 | exact h62 | exact h63 | exact h65 | exact h66 | exact h67 | exact h68) (by first | rfl | exact h51 | exact h52 | exact h54 | exact h55 | exact h57 | exact h58 | exact h59 | exact h60 | exact h62 | exact h63 | exact h65 | exact h66 | exact h67 | exact h68) (by first | rfl | exact h51 | exact h52 | exact h54 | exact h55 | exact h57 | exact h58 | exact h59 | exact h60 | exact h62 | exact h63 | exact h65 | exact h66 | exact h67 | exact h68) (by first | rfl | exact h51 | exact h52 | exact h54 | exact h55 | exact h57 | exact h58 | exact h59 | exact h60 | exact h62 | exact h63 | exact h65 | exact h66 | exact h67 | exact h68) (by first | rfl | exact h51 | exact h52 | exact h54 | exact h55 | exact h57 | exact h58 | exact h59 | exact h60 | exact h62 | exact h63 | exact h65 | exact h66 | exact h67 | exact h68) (by first | rfl | exact h51 | exact h52 | exact h54 | exact h55 | exact h57 | exact h58 | exact h59 | exact h60 | exact h62 | exact h63 | exact h65 | exact h66 | exact h67 | exact h68) (by first | rfl | exact h51 | exact h52 | exact h54 | exact h55 | exact h57 | exact h58 | exact h59 | exact h60 | exact h62 | exact h63 | exact h65 | exact h66 | exact h67 | exact h68) (by first | rfl | exact h51 | exact h52 | exact h54 | exact h55 | exact h57 | exact h58 | exact h59 | exact h60 | exact h62 | exact h63 | exact h65 | exact h66 | exact h67 | exact h68) (by first | rfl | exact h51 | exact h52 | exact h54 | exact h55 | exact h57 | exact h58 | exact h59 | exact h60 | exact h62 | exact h63 | exact h65 | exact h66 | exact h67 | exact h68) (by first | rfl | exact h51 | exact h52 | exact h54 | exact h55 | exact h57 | exact h58 | exact h59 | exact h60 | exact h62 | exact h63 | exact h65 | exact h66 | exact h67 | exact h68) (by first | rfl | exact h51 | exact h52 | exact h54 | exact h55 | exact h57 | exact h58 | exact h59 | exact h60 | exact h62 | exact h63 | exact h65 | exact h66 | exact h67 | exact h68)) (xcVW 5 htx (xw_goodC kw_6_195) rfl rfl rfl (htx _ kw_1_5) (htx _ kw_6_192) ⟨by decide, by decide, by decide +kernel⟩ ⟨Nat.le_of_ble_eq_true rfl, Nat.le_of_ble_eq_true rfl⟩ (htx _ kw_6_194) (htx _ kp_M_finish)) ⟨xPre_blind, va_recv hK hP (ci := 5) rfl (q0 := 5) rfl, (fun U hU hW => ⟨rfl, xPre_of hZ hS hFc hPc hDc hK U hU hW⟩)⟩ rfl rfl hl.1 rfl (lv_room (Nat.le_of_ble_eq_true rfl)) dM_sort0_53 ⟨Nat.le_of_ble_eq_true rfl, Nat.le_of_ble_eq_true rfl⟩) hS (fun q _ h => hFc q h) hFc (fun u9 t H1 locs ht hvm hr9 hB hz1 hk1 hS => ?_)
  obtain ⟨q4, q5, hP1, hK1, hD1⟩ := hB
  rw [ht] at hP1
  obtain ⟨hP, hD⟩ := xjoin (W := [(a0, .inr (5, [.int 2, .ref a4, .int 2, v23, .int 0, v25, v26, .int 0, .int 1, .int 0, v30, v31, .int 0, v33, v34, .ref a5, .int 4, .int 4, .int 0, .int 100, v40, v41, .int 0, .int 1000000000, .ref a1, .ref a2, v44, v45, v46, v47, .int 1, v49])), (a1, .inl (cT 5, 8, .inr (.inr (.inr (.inr f50))))), (a2, .inl (cT 1, 8, .inl f53)), (a3, .inl (cT 0, 4096, .inl f56)), (a4, .inl (cT 4, 1024, .inr (.inr (.inr (.inr (va_up (va_up f61 0 (some q4)) 1 (some q5))))))), (a5, .inl (cT 0, 4096, .inl f64)), (q4, .inr (6, [.int 0, .long 0, .int 0, .int 0, .int 0, .int 1])), (q5, .inr (6, [.int 0, .long 0, .int 0, .int 0, .int 0, .int 1]))]) hP hD [5, 0, 1, 2, 3, 4] [] 0 rfl rfl (by decide) (by decide) hk1 hFc hP1 hD1
  generalize H1 = H at hP hS ⊢
  obtain ⟨hP9, hD9⟩ := xsub (wc := [(a0, .inr (5, [.int 2, .ref a4, .int 2, v23, .int 0, v25, v26, .int 0, .int 1, .int 0, v30, v31, .int 0, v33, v34, .ref a5, .int 4, .int 4, .int 0, .int 100, v40, v41, .int 0, .int 1000000000, .ref a1, .ref a2, v44, v45, v46, v47, .int 1, v49])), (a1, .inl (cT 5, 8, .inr (.inr (.inr (.inr f50))))), (a2, .inl (cT 1, 8, .inl f53)), (a3, .inl (cT 0, 4096, .inl f56)), (a4, .inl (cT 4, 1024, .inr (.inr (.inr (.inr (va_up (va_up f61 0 (some q4)) 1 (some q5))))))), (a5, .inl (cT 0, 4096, .inl f64)), (q4, .inr (6, [.int 0, .long 0, .int 0, .int 0, .int 0, .int 1])), (q5, .inr (6, [.int 0, .long 0, .int 0, .int 0, .int 0, .int 1]))]) hP hD [0, 1, 2, 3, 4, 5, 6, 7] rfl rfl (by decide)
  refine W.widen (k := 3) (n := 18) (Nat.le_of_ble_eq_true rfl) (Nat.le_of_ble_eq_true rfl) ?_
  exact W.vret hx hb hr (fun t ht hW => ⟨⟨(), rfl, trivial, q4, q5, by rw [ht]; exact hP9, va_K.moved hW.alike hK, hD9⟩, hS.F ht⟩) hS.2.2 dM_sort0_56
set_option maxHeartbeats 400000000 in
set_option maxRecDepth 100000 in
theorem cM_finish_68 (l : Launch) (hl9 : l.stackTraces = false) (D : va_G) (cT : Nat → ClassId) (aK aV : Nat → Nat) (sz : Nat) (a0 : Nat) (a1 : Nat) (a2 : Nat) (a3 : Nat) (a4 : Nat) (x5 : Int32) (x6 : Int32) (x7 : Int32) (x12 : Int32) (v17 : Value) (v18 : Value) (v19 : Value) (v20 : Value) (v21 : Value) (v22 : Value) (v23 : Value) (v24 : Value) (v25 : Value) (v26 : Value) (v27 : Value) (v28 : Value) (v29 : Value) (v30 : Value) (v31 : Value) (v32 : Value) (v33 : Value) (v34 : Value) (v35 : Value) (v36 : Value) (v37 : Value) (v38 : Value) (v39 : Value) (v40 : Value) (v41 : Value) (v42 : Value) (v43 : Value) (v44 : Value) (f45 : Nat → Option Nat) (f48 : Nat → Int32) (f51 : Nat → Int32) (f56 : Nat → Option Nat) (h8 : ¬ x7 < 0) (h9 : ¬ 7 < x7) (h10 : x7 ≤ 7) (h11 : vp_in x7 8) (h13 : ¬ x12 < 0) (h14 : ¬ 7 < x12) (h15 : x12 ≤ 7) (h16 : vp_in x12 8) (h46 : f45 x7.toNatClampNeg = some a3) (h47 : f45 x12.toNatClampNeg = some a3) (h49 : f48 x7.toNatClampNeg = 4) (h50 : f48 x12.toNatClampNeg = 4) (h52 : f51 0 = 110) (h53 : f51 1 = 117) (h54 : f51 2 = 108) (h55 : f51 3 = 108) (h57 : f56 0 = none) (h58 : f56 1 = none) : xMet l yM_finish wyM_finish 8 3 18 175 D cT aK aV sz [.ref a0, .int x5, .int 3, .int x6, .int x7, .int x12] [(a0, .inr (5, [v17, .ref a4, .int 0, v18, v19, v20, v21, v22, v23, v24, v25, v26, v27, v28, v29, v30, v31, v32, v33, v34, v35, v36, v37, v38, .ref a1, .ref a2, v39, v40, v41, v42, v43, v44])), (a1, .inl (cT 5, 8, .inr (.inr (.inr (.inr f45))))), (a2, .inl (cT 1, 8, .inl f48)), (a3, .inl (cT 0, 4096, .inl f51)), (a4, .inl (cT 4, 1024, .inr (.inr (.inr (.inr f56)))))] (fun A => va_Qv (fun _ : Unit => True) (fun _ t => ∃ (r1 : Nat) (r2 : Nat), xB D xcl cT A [(a0, .inr (5, [.int 2, .ref a4, .int 2, v18, v19, v20, v21, v22, .int 1, v24, v25, v26, v27, v28, v29, .ref a3, .int 4, .int 4, .int 0, .int 100, v35, v36, v37, v38, .ref a1, .ref a2, v39, v40, v41, v42, .int 1, v44])), (a1, .inl (cT 5, 8, .inr (.inr (.inr (.inr f45))))), (a2, .inl (cT 1, 8, .inl f48)), (a3, .inl (cT 0, 4096, .inl f51)), (a4, .inl (cT 4, 1024, .inr (.inr (.inr (.inr (va_up (va_up f56 0 (some r1)) 1 (some r2))))))), (r1, .inr (6, [.int 0, .long 0, .int 0, .int 0, .int 0, .int 1])), (r2, .inr (6, [.int 0, .long 0, .int 0, .int 0, .int 0, .int 1]))] t) A) := by
  refine va_MetW (cc := prog_13_method_90_code) (maxL := 10) (ret := none) (hh := [(0, 128, 131, 83), (0, 128, 149, 86)]) (by decide) rfl ?_
  intro p e s m args below meth c s₁ B hml hv
  obtain ⟨rfl, hsz, hZ, hP, hK, hD0⟩ := hv
  have hx := B.exec
  have hb := B.bytes
  have hr := B.returns
  have hts := atoms_spec (ws := wyM_finish) B.pre
  have htx := fun w h => hts w (List.mem_cons_of_mem _ h)
  have hown : s.vm.findClass "ValueBenchModel" = some m.cls := findClass_of_methodNamed B.named
  have hlocks := B.notSynchronized
  subst hsz
  have hD := hD0.self (sz := s.heap.size)
  generalize hAe : va_A [(a0, .inr (5, [v17, .ref a4, .int 0, v18, v19, v20, v21, v22, v23, v24, v25, v26, v27, v28, v29, v30, v31, v32, v33, v34, v35, v36, v37, v38, .ref a1, .ref a2, v39, v40, v41, v42, v43, v44])), (a1, .inl (cT 5, 8, .inr (.inr (.inr (.inr f45))))), (a2, .inl (cT 1, 8, .inl f48)), (a3, .inl (cT 0, 4096, .inl f51)), (a4, .inl (cT 4, 1024, .inr (.inr (.inr (.inr f56)))))] s.heap.size = A at hD hZ ⊢
  have hA : ∀ q : Nat, s.heap.size ≤ q → A q := fun q h => by rw [← hAe]; exact Or.inr h
  have hS : va_S A s.heap s.heap [] := va_S.rf
  have hP : va_P D xcl [(a0, .inr (5, [v17, .ref a4, .int 0, v18, v19, v20, v21, v22, v23, v24, v25, v26, v27, v28, v29, v30, v31, v32, v33, v34, v35, v36, v37, v38, .ref a1, .ref a2, v39, v40, v41, v42, v43, v44])), (a1, .inl (cT 5, 8, .inr (.inr (.inr (.inr f45))))), (a2, .inl (cT 1, 8, .inl f48)), (a3, .inl (cT 0, 4096, .inl f51)), (a4, .inl (cT 4, 1024, .inr (.inr (.inr (.inr f56)))))] s.heap := hP
  have hl := lv_entry ([.ref a0, .int x5, .int 3, .int x6, .int x7, .int x12]) (n := 10) (Nat.le_of_ble_eq_true rfl)
  rw [lg_entry_eq]
  generalize (lg_sl ([.ref a0, .int x5, .int 3, .int x6, .int x7, .int x12]) ++ List.replicate (10 - (lg_sl ([.ref a0, .int x5, .int 3, .int x6, .int x7, .int x12])).length) Slot.unset).toArray = ls at hl ⊢
  have hl : lv_has ls 10 [(0, .ref a0), (1, .int x5), (2, .int 3), (3, .int x6), (4, .int x7), (5, .int x12)] := hl
  have htab := vx_table (x := yM_finish) B (hts _ List.mem_cons_self)
  refine lv_aload_n hx hb dM_finish_0 rfl (lv_at hl 0 rfl) ?_
  refine lv_iload hx hb dM_finish_1 (lv_at hl 4 rfl) ?_
  obtain ⟨hPc, hDc, hFc⟩ := xcut (wc := [(a0, .inr (5, [v17, .ref a4, .int 0, v18, v19, v20, v21, v22, v23, v24, v25, v26, v27, v28, v29, v30, v31, v32, v33, v34, v35, v36, v37, v38, .ref a1, .ref a2, v39, v40, v41, v42, v43, v44])), (a1, .inl (cT 5, 8, .inr (.inr (.inr (.inr f45))))), (a2, .inl (cT 1, 8, .inl f48)), (a3, .inl (cT 0, 4096, .inl f51)), (a4, .inl (cT 4, 1024, .inr (.inr (.inr (.inr f56)))))]) hP hD hS hA [0, 1, 2, 3, 4] rfl rfl (by decide)
  refine va_callr (va_runV (C := "ValueBenchModel") (As := [.int x7]) (rest := []) ⟨hx, hb, hml, hown, htx⟩ (cM_register_0 l hl9 D cT aK aV s.heap.size a0 a1 a2 a3 a4 x7 v17 v18 v19 v20 v21 v22 v23 v24 v25 v26 v27 v28 v29 v30 v31 v32 v33 v34 v35 v36 v37 v38 v39 v40 v41 v42 v43 v44 f45 f48 f51 f56 h8 h9 h10 h11 (by first | rfl | exact h46 | exact h47 | exact h49 | exact h50 | exact h52 | exact h53 | exact h54 | exact h55 | exact h57 | exact h58) (by first | rfl | exact h46 | exact h47 | exact h49 | exact h50 | exact h52 | exact h53 | exact h54 | exact h55 | exact h57 | exact h58) (by first | rfl | exact h46 | exact h47 | exact h49 | exact h50 | exact h52 | exact h53 | exact h54 | exact h55 | exact h57 | exact h58) (by first | rfl | exact h46 | exact h47 | exact h49 | exact h50 | exact h52 | exact h53 | exact h54 | exact h55 | exact h57 | exact h58) (by first | rfl | exact h46 | exact h47 | exact h49 | exact h50 | exact h52 | exact h53 | exact h54 | exact h55 | exact h57 | exact h58) (by first | rfl | exact h46 | exact h47 | exact h49 | exact h50 | exact h52 | exact h53 | exact h54 | exact h55 | exact h57 | exact h58) (by first | rfl | exact h46 | exact h47 | exact h49 | exact h50 | exact h52 | exact h53 | exact h54 | exact h55 | exact h57 | exact h58)) ⟨callB_of 1 htx (xw_goodC kw_6_170) rfl rfl rfl (htx _ kw_1_5) (htx _ kw_6_167) ⟨by decide, by decide, by decide +kernel⟩ ⟨Nat.le_of_ble_eq_true rfl, Nat.le_of_ble_eq_true rfl⟩, (htx _ kw_6_169), (htx _ kp_M_register)⟩ ⟨xPre_blind, va_recv hK hP (ci := 5) rfl (q0 := 0) rfl, (fun U hU hW => ⟨rfl, xPre_of hZ hS hFc hPc hDc hK U hU hW⟩)⟩ rfl rfl hl.1 rfl (lv_room (Nat.le_of_ble_eq_true rfl)) dM_finish_3 ⟨Nat.le_of_ble_eq_true rfl, Nat.le_of_ble_eq_true rfl⟩) hS (fun q _ h => hFc q h) hFc (fun u9 r1 t H1 locs ht hvm hr9 hB hz1 hk1 hS => ?_)
  obtain ⟨hP1, hK1, hD1⟩ := hB
  rw [ht] at hP1
  obtain ⟨hP, hD⟩ := xjoin (W := [(a0, .inr (5, [v17, .ref a4, .int 1, v18, v19, v20, v21, v22, v23, v24, v25, v26, v27, v28, v29, .ref a3, .int 4, .int 4, .int 0, .int 100, v35, v36, v37, v38, .ref a1, .ref a2, v39, v40, v41, v42, v43, v44])), (a1, .inl (cT 5, 8, .inr (.inr (.inr (.inr f45))))), (a2, .inl (cT 1, 8, .inl f48)), (a3, .inl (cT 0, 4096, .inl f51)), (a4, .inl (cT 4, 1024, .inr (.inr (.inr (.inr (va_up f56 0 (some r1))))))), (r1, .inr (6, [.int 0, .long 0, .int 0, .int 0, .int 0, .int 1]))]) hP hD [0, 1, 2, 3, 4] [] 0 rfl rfl (by decide) (by decide) hk1 hFc hP1 hD1
  generalize H1 = H at hP hS ⊢
  refine W.eq (g2 := F0 m 6 ls [.ref r1]) rfl ?_
  refine lv_astore (lv' := [(6, .ref r1), (0, .ref a0), (1, .int x5), (2, .int 3), (3, .int x6), (4, .int x7), (5, .int x12)]) hx hb dM_finish_6 hl (by decide) rfl (fun ls hl => ?_)
  refine lv_iload_n hx hb dM_finish_8 rfl (lv_at hl 3 rfl) ?_
  refine lv_iconst (v := 1) hx hb dM_finish_9 (by decide) ?_
  refine lv_icmp_ne (tgt := 17) hx hb dM_finish_10 (by decide) (fun _ => ?_) (fun h => ((by revert h; decide : False)).elim)
  refine lv_aload_n hx hb dM_finish_17 rfl (lv_at hl 1 rfl) ?_
  refine lv_iload hx hb dM_finish_18 (lv_at hl 6 rfl) ?_
  obtain ⟨hPc, hDc, hFc⟩ := xcut (wc := [(a0, .inr (5, [v17, .ref a4, .int 1, v18, v19, v20, v21, v22, v23, v24, v25, v26, v27, v28, v29, .ref a3, .int 4, .int 4, .int 0, .int 100, v35, v36, v37, v38, .ref a1, .ref a2, v39, v40, v41, v42, v43, v44])), (a1, .inl (cT 5, 8, .inr (.inr (.inr (.inr f45))))), (a2, .inl (cT 1, 8, .inl f48)), (a3, .inl (cT 0, 4096, .inl f51)), (a4, .inl (cT 4, 1024, .inr (.inr (.inr (.inr (va_up f56 0 (some r1)))))))]) hP hD hS hA [0, 1, 2, 3, 4] rfl rfl (by decide)
  refine va_callr (va_runV (C := "ValueBenchModel") (As := [.int x12]) (rest := []) ⟨hx, hb, hml, hown, htx⟩ (cM_register_3 l hl9 D cT aK aV H.size a0 a1 a2 a3 a4 x12 v17 v18 v19 v20 v21 v22 v23 v24 v25 v26 v27 v28 v29 (.ref a3) (.int 4) (.int 4) (.int 0) (.int 100) v35 v36 v37 v38 v39 v40 v41 v42 v43 v44 f45 f48 f51 (va_up f56 0 (some r1)) h13 h14 h15 h16 (by first | rfl | exact h46 | exact h47 | exact h49 | exact h50 | exact h52 | exact h53 | exact h54 | exact h55 | exact h58) (by first | rfl | exact h46 | exact h47 | exact h49 | exact h50 | exact h52 | exact h53 | exact h54 | exact h55 | exact h58) (by first | rfl | exact h46 | exact h47 | exact h49 | exact h50 | exact h52 | exact h53 | exact h54 | exact h55 | exact h58) (by first | rfl | exact h46 | exact h47 | exact h49 | exact h50 | exact h52 | exact h53 | exact h54 | exact h55 | exact h58) (by first | rfl | exact h46 | exact h47 | exact h49 | exact h50 | exact h52 | exact h53 | exact h54 | exact h55 | exact h58) (by first | rfl | exact h46 | exact h47 | exact h49 | exact h50 | exact h52 | exact h53 | exact h54 | exact h55 | exact h58) (by first | rfl | exact h46 | exact h47 | exact h49 | exact h50 | exact h52 | exact h53 | exact h54 | exact h55 | exact h58)) ⟨callB_of 1 htx (xw_goodC kw_6_170) rfl rfl rfl (htx _ kw_1_5) (htx _ kw_6_167) ⟨by decide, by decide, by decide +kernel⟩ ⟨Nat.le_of_ble_eq_true rfl, Nat.le_of_ble_eq_true rfl⟩, (htx _ kw_6_169), (htx _ kp_M_register)⟩ ⟨xPre_blind, va_recv hK hP (ci := 5) rfl (q0 := 0) rfl, (fun U hU hW => ⟨rfl, xPre_of hZ hS hFc hPc hDc hK U hU hW⟩)⟩ rfl rfl hl.1 rfl (lv_room (Nat.le_of_ble_eq_true rfl)) dM_finish_20 ⟨Nat.le_of_ble_eq_true rfl, Nat.le_of_ble_eq_true rfl⟩) hS (fun q _ h => hFc q h) hFc (fun u9 r2 t H1 locs ht hvm hr9 hB hz1 hk1 hS => ?_)
  obtain ⟨hP1, hK1, hD1⟩ := hB
  rw [ht] at hP1
  obtain ⟨hP, hD⟩ := xjoin (W := [(r1, .inr (6, [.int 0, .long 0, .int 0, .int 0, .int 0, .int 1])), (a0, .inr (5, [v17, .ref a4, .int 2, v18, v19, v20, v21, v22, v23, v24, v25, v26, v27, v28, v29, .ref a3, .int 4, .int 4, .int 0, .int 100, v35, v36, v37, v38, .ref a1, .ref a2, v39, v40, v41, v42, v43, v44])), (a1, .inl (cT 5, 8, .inr (.inr (.inr (.inr f45))))), (a2, .inl (cT 1, 8, .inl f48)), (a3, .inl (cT 0, 4096, .inl f51)), (a4, .inl (cT 4, 1024, .inr (.inr (.inr (.inr (va_up (va_up f56 0 (some r1)) 1 (some r2))))))), (r2, .inr (6, [.int 0, .long 0, .int 0, .int 0, .int 0, .int 1]))]) hP hD [0, 1, 2, 3, 4] [5] 1 rfl rfl (by decide) (by decide) hk1 hFc hP1 hD1
  generalize H1 = H at hP hS ⊢
  refine W.eq (g2 := F0 m 23 ls [.ref r2]) rfl ?_
  refine lv_astore (lv' := [(7, .ref r2), (6, .ref r1), (0, .ref a0), (1, .int x5), (2, .int 3), (3, .int x6), (4, .int x7), (5, .int x12)]) hx hb dM_finish_23 hl (by decide) rfl (fun ls hl => ?_)
  refine lv_iload_n hx hb dM_finish_25 rfl (lv_at hl 4 rfl) ?_
  refine lv_if_ne (tgt := 43) hx hb dM_finish_26 (by decide) (fun _ => ?_) (fun h => ((by revert h; decide : False)).elim)
  refine lv_iload_n hx hb dM_finish_43 rfl (lv_at hl 4 rfl) ?_
  refine lv_iconst (v := 1) hx hb dM_finish_44 (by decide) ?_
  refine lv_icmp_ne (tgt := 60) hx hb dM_finish_45 (by decide) (fun _ => ?_) (fun h => ((by revert h; decide : False)).elim)
  refine lv_iload_n hx hb dM_finish_60 rfl (lv_at hl 4 rfl) ?_
  refine lv_iconst (v := 2) hx hb dM_finish_61 (by decide) ?_
  refine lv_icmp_ne (tgt := 79) hx hb dM_finish_62 (by decide) (fun _ => ?_) (fun h => ((by revert h; decide : False)).elim)
  refine lv_aload_n hx hb dM_finish_79 rfl (lv_at hl 2 rfl) ?_
  refine lv_aload hx hb dM_finish_80 (lv_at hl 1 rfl) ?_
  obtain ⟨hPc, hDc, hFc⟩ := xcut (wc := [(r1, .inr (6, [.int 0, .long 0, .int 0, .int 0, .int 0, .int 1])), (a0, .inr (5, [v17, .ref a4, .int 2, v18, v19, v20, v21, v22, v23, v24, v25, v26, v27, v28, v29, .ref a3, .int 4, .int 4, .int 0, .int 100, v35, v36, v37, v38, .ref a1, .ref a2, v39, v40, v41, v42, v43, v44]))]) hP hD hS hA [0, 1] rfl rfl (by decide)
  refine xx_thr (vx_runV (C := "ValueBenchModel") (As := [.ref r1]) (rest := []) ⟨hx, hb, hml, hown, htx⟩ (cM_array_0 l hl9 D cT aK aV H.size r1 a0 (.long 0) (.int 0) (.int 0) (.int 0) (.int 1) v17 (.ref a4) (.int 2) v18 v19 v20 v21 v22 v23 v24 v25 v26 v27 v28 v29 (.ref a3) (.int 4) (.int 4) (.int 0) (.int 100) v35 v36 v37 v38 (.ref a1) (.ref a2) v39 v40 v41 v42 v43 v44) ⟨callB_of 1 htx (xw_goodC kw_7_42) rfl rfl rfl (htx _ kw_1_5) (htx _ kw_7_39) ⟨by decide, by decide, by decide +kernel⟩ ⟨Nat.le_of_ble_eq_true rfl, Nat.le_of_ble_eq_true rfl⟩, (htx _ kw_7_41), (htx _ kp_M_array)⟩ ⟨xPre_blind, va_recv hK hP (ci := 5) rfl (q0 := 1) rfl, (fun U hU hW => ⟨rfl, xPre_of hZ hS hFc hPc hDc hK U hU hW⟩)⟩ rfl rfl hl.1 rfl (lv_room (Nat.le_of_ble_eq_true rfl)) dM_finish_82 ⟨Nat.le_of_ble_eq_true rfl, Nat.le_of_ble_eq_true rfl⟩) hS hFc (fun q _ h => hFc q h) (fun E ce q9 u9 t H1 locs ht hvm _ hB hz1 hk1 hS hce hcv hcl => ?_)
  obtain ⟨rfl, hP1, hK1, hD1⟩ := hB
  rw [ht] at hP1
  obtain ⟨hP, hD⟩ := xjoin (W := [(a1, .inl (cT 5, 8, .inr (.inr (.inr (.inr f45))))), (a2, .inl (cT 1, 8, .inl f48)), (a3, .inl (cT 0, 4096, .inl f51)), (a4, .inl (cT 4, 1024, .inr (.inr (.inr (.inr (va_up (va_up f56 0 (some r1)) 1 (some r2))))))), (r2, .inr (6, [.int 0, .long 0, .int 0, .int 0, .int 0, .int 1])), (r1, .inr (6, [.int 0, .long 0, .int 0, .int 0, .int 0, .int 1])), (a0, .inr (5, [v17, .ref a4, .int 2, v18, v19, v20, v21, v22, .int 1, v24, v25, v26, v27, v28, v29, .ref a3, .int 4, .int 4, .int 0, .int 100, v35, v36, v37, v38, .ref a1, .ref a2, v39, v40, v41, v42, v43, v44]))]) hP hD [0, 1] [2, 3, 4, 5, 6] 5 rfl rfl (by decide) (by decide) hk1 hFc hP1 hD1
  generalize H1 = H at hP hS hce ⊢
  refine vx_catch (own := "ValueBenchModel") (name := "java/lang/ArithmeticException") (E := "java/lang/ArithmeticException") hown [] ⟨0, 128, 131, 83⟩ [⟨0, 128, 149, 86⟩] (by rw [htab]; rfl) (fun z hz => nomatch hz) (by decide) (by decide) (htx _ kw_6_94) ((hZ.2.2.2.2.2.1 _ (List.mem_of_getElem? (i := 3) rfl)).use rfl) hce hcv hcl ?_
  refine lv_astore (lv' := [(6, .ref q9), (7, .ref r2), (0, .ref a0), (1, .int x5), (2, .int 3), (3, .int x6), (4, .int x7), (5, .int x12)]) hx hb dM_finish_131 hl (by decide) rfl (fun ls hl => ?_)
  refine lv_aload_n hx hb dM_finish_133 rfl (lv_at hl 2 rfl) ?_
  refine lv_aload_n hx hb dM_finish_134 rfl (lv_at hl 2 rfl) ?_
  refine va_get (D := D) (ci := 5) (v := .int 1) (C := "ValueBenchModel") (T := TM) (N := 32) hx hb htx inM hown hK hP 6 rfl rfl 8 (by decide) (htx _ kw_5_95) (fun _ h9 => h9) rfl dM_finish_135 ?_
  refine va_put (D := D) (ci := 5) (v := .int 1) (ty := .int) (C := "ValueBenchModel") (T := TM) (N := 32) hx hb htx inM tyM tyM_ok nmM hown hK hP hD hS 6 rfl rfl 30 (by decide) (htx _ kw_5_117) (fun _ h9 => h9) rfl (by decide +kernel) rfl rfl (Nat.le_of_ble_eq_true rfl) dM_finish_138 (fun H locs hP hD hS => ?_)
  obtain ⟨hP, hD⟩ : xPD D xcl A [(a1, .inl (cT 5, 8, .inr (.inr (.inr (.inr f45))))), (a2, .inl (cT 1, 8, .inl f48)), (a3, .inl (cT 0, 4096, .inl f51)), (a4, .inl (cT 4, 1024, .inr (.inr (.inr (.inr (va_up (va_up f56 0 (some r1)) 1 (some r2))))))), (r2, .inr (6, [.int 0, .long 0, .int 0, .int 0, .int 0, .int 1])), (r1, .inr (6, [.int 0, .long 0, .int 0, .int 0, .int 0, .int 1])), (a0, .inr (5, [v17, .ref a4, .int 2, v18, v19, v20, v21, v22, .int 1, v24, v25, v26, v27, v28, v29, .ref a3, .int 4, .int 4, .int 0, .int 100, v35, v36, v37, v38, .ref a1, .ref a2, v39, v40, v41, v42, .int 1, v44]))] H := ⟨hP, hD⟩
  refine lv_aload_n hx hb dM_finish_141 rfl (lv_at hl 2 rfl) ?_
  refine lv_iconst (v := 2) hx hb dM_finish_142 (by decide) ?_
  refine va_put (D := D) (ci := 5) (v := .int 2) (ty := .int) (C := "ValueBenchModel") (T := TM) (N := 32) hx hb htx inM tyM tyM_ok nmM hown hK hP hD hS 6 rfl rfl 0 (by decide) (htx _ kw_5_87) (fun _ h9 => h9) rfl (by decide +kernel) rfl rfl (Nat.le_of_ble_eq_true rfl) dM_finish_143 (fun H locs hP hD hS => ?_)
  obtain ⟨hP, hD⟩ : xPD D xcl A [(a1, .inl (cT 5, 8, .inr (.inr (.inr (.inr f45))))), (a2, .inl (cT 1, 8, .inl f48)), (a3, .inl (cT 0, 4096, .inl f51)), (a4, .inl (cT 4, 1024, .inr (.inr (.inr (.inr (va_up (va_up f56 0 (some r1)) 1 (some r2))))))), (r2, .inr (6, [.int 0, .long 0, .int 0, .int 0, .int 0, .int 1])), (r1, .inr (6, [.int 0, .long 0, .int 0, .int 0, .int 0, .int 1])), (a0, .inr (5, [.int 2, .ref a4, .int 2, v18, v19, v20, v21, v22, .int 1, v24, v25, v26, v27, v28, v29, .ref a3, .int 4, .int 4, .int 0, .int 100, v35, v36, v37, v38, .ref a1, .ref a2, v39, v40, v41, v42, .int 1, v44]))] H := ⟨hP, hD⟩
  refine lv_goto (tgt := 156) hx hb dM_finish_146 (by decide) ?_
  obtain ⟨hP9, hD9⟩ := xsub (wc := [(a0, .inr (5, [.int 2, .ref a4, .int 2, v18, v19, v20, v21, v22, .int 1, v24, v25, v26, v27, v28, v29, .ref a3, .int 4, .int 4, .int 0, .int 100, v35, v36, v37, v38, .ref a1, .ref a2, v39, v40, v41, v42, .int 1, v44])), (a1, .inl (cT 5, 8, .inr (.inr (.inr (.inr f45))))), (a2, .inl (cT 1, 8, .inl f48)), (a3, .inl (cT 0, 4096, .inl f51)), (a4, .inl (cT 4, 1024, .inr (.inr (.inr (.inr (va_up (va_up f56 0 (some r1)) 1 (some r2))))))), (r1, .inr (6, [.int 0, .long 0, .int 0, .int 0, .int 0, .int 1])), (r2, .inr (6, [.int 0, .long 0, .int 0, .int 0, .int 0, .int 1]))]) hP hD [6, 0, 1, 2, 3, 5, 4] rfl rfl (by decide)
  refine W.widen (k := 3) (n := 18) (Nat.le_of_ble_eq_true rfl) (Nat.le_of_ble_eq_true rfl) ?_
  exact W.vret hx hb hr (fun t ht hW => ⟨⟨(), rfl, trivial, r1, r2, by rw [ht]; exact hP9, va_K.moved hW.alike hK, hD9⟩, hS.F ht⟩) hS.2.2 dM_finish_156
set_option maxHeartbeats 400000000 in
set_option maxRecDepth 100000 in
theorem cM_sort0_1 (l : Launch) (hl9 : l.stackTraces = false) (D : va_G) (cT : Nat → ClassId) (aK aV : Nat → Nat) (sz : Nat) (a0 : Nat) (a1 : Nat) (a2 : Nat) (a3 : Nat) (a4 : Nat) (x5 : Int32) (x10 : Int32) (x15 : Int32) (v20 : Value) (v21 : Value) (v22 : Value) (v23 : Value) (v24 : Value) (v25 : Value) (v26 : Value) (v27 : Value) (v28 : Value) (v29 : Value) (v30 : Value) (v31 : Value) (v32 : Value) (v33 : Value) (v34 : Value) (v35 : Value) (v36 : Value) (v37 : Value) (v38 : Value) (v39 : Value) (v40 : Value) (v41 : Value) (v42 : Value) (v43 : Value) (v44 : Value) (v45 : Value) (v46 : Value) (v47 : Value) (v48 : Value) (f49 : Nat → Option Nat) (f52 : Nat → Int32) (f55 : Nat → Int32) (f60 : Nat → Option Nat) (h6 : ¬ x5 < 0) (h7 : ¬ 7 < x5) (h8 : x5 ≤ 7) (h9 : vp_in x5 8) (h11 : ¬ x10 < 0) (h12 : ¬ 7 < x10) (h13 : x10 ≤ 7) (h14 : vp_in x10 8) (h16 : ¬ x15 < 0) (h17 : ¬ 7 < x15) (h18 : x15 ≤ 7) (h19 : vp_in x15 8) (h50 : f49 x10.toNatClampNeg = some a3) (h51 : f49 x15.toNatClampNeg = some a3) (h53 : f52 x10.toNatClampNeg = 4) (h54 : f52 x15.toNatClampNeg = 4) (h56 : f55 0 = 110) (h57 : f55 1 = 117) (h58 : f55 2 = 108) (h59 : f55 3 = 108) (h61 : f60 0 = none) (h62 : f60 1 = none) : xMet l yM_sort0 wyM_sort0 9 3 18 204 D cT aK aV sz [.ref a0, .int x5, .int 0, .int x10, .int x15] [(a0, .inr (5, [v20, .ref a4, v21, v22, v23, v24, v25, v26, v27, v28, v29, v30, v31, v32, v33, v34, v35, v36, v37, v38, v39, v40, v41, v42, .ref a1, .ref a2, v43, v44, v45, v46, v47, v48])), (a1, .inl (cT 5, 8, .inr (.inr (.inr (.inr f49))))), (a2, .inl (cT 1, 8, .inl f52)), (a3, .inl (cT 0, 4096, .inl f55)), (a4, .inl (cT 4, 1024, .inr (.inr (.inr (.inr f60)))))] (fun A => va_Qv (fun _ : Unit => True) (fun _ t => ∃ (q4 : Nat) (q5 : Nat), xB D xcl cT A [(a0, .inr (5, [.int 2, .ref a4, .int 2, v22, .int 0, v24, v25, .int 0, .int 1, .int 0, v29, v30, .int 0, v32, v33, .ref a3, .int 4, .int 4, .int 0, .int 100, v39, v40, .int 0, .int 1000000000, .ref a1, .ref a2, v43, v44, v45, v46, .int 1, v48])), (a1, .inl (cT 5, 8, .inr (.inr (.inr (.inr f49))))), (a2, .inl (cT 1, 8, .inl f52)), (a3, .inl (cT 0, 4096, .inl f55)), (a4, .inl (cT 4, 1024, .inr (.inr (.inr (.inr (va_up (va_up f60 0 (some q4)) 1 (some q5))))))), (q4, .inr (6, [.int 0, .long 0, .int 0, .int 0, .int 0, .int 1])), (q5, .inr (6, [.int 0, .long 0, .int 0, .int 0, .int 0, .int 1]))] t) A) := by
  refine Met.ofW (cc := prog_13_method_94_code) (maxL := 5) (ret := none) (by decide) rfl ?_
  intro p e s m args below meth c s₁ B hml hv
  obtain ⟨rfl, hsz, hZ, hP, hK, hD0⟩ := hv
  have hx := B.exec
  have hb := B.bytes
  have hr := B.returns
  have hts := atoms_spec (ws := wyM_sort0) B.pre
  have htx := fun w h => hts w (List.mem_cons_of_mem _ h)
  have hown : s.vm.findClass "ValueBenchModel" = some m.cls := findClass_of_methodNamed B.named
  have hlocks := B.notSynchronized
  subst hsz
  have hD := hD0.self (sz := s.heap.size)
  generalize hAe : va_A [(a0, .inr (5, [v20, .ref a4, v21, v22, v23, v24, v25, v26, v27, v28, v29, v30, v31, v32, v33, v34, v35, v36, v37, v38, v39, v40, v41, v42, .ref a1, .ref a2, v43, v44, v45, v46, v47, v48])), (a1, .inl (cT 5, 8, .inr (.inr (.inr (.inr f49))))), (a2, .inl (cT 1, 8, .inl f52)), (a3, .inl (cT 0, 4096, .inl f55)), (a4, .inl (cT 4, 1024, .inr (.inr (.inr (.inr f60)))))] s.heap.size = A at hD hZ ⊢
  have hA : ∀ q : Nat, s.heap.size ≤ q → A q := fun q h => by rw [← hAe]; exact Or.inr h
  have hS : va_S A s.heap s.heap [] := va_S.rf
  have hP : va_P D xcl [(a0, .inr (5, [v20, .ref a4, v21, v22, v23, v24, v25, v26, v27, v28, v29, v30, v31, v32, v33, v34, v35, v36, v37, v38, v39, v40, v41, v42, .ref a1, .ref a2, v43, v44, v45, v46, v47, v48])), (a1, .inl (cT 5, 8, .inr (.inr (.inr (.inr f49))))), (a2, .inl (cT 1, 8, .inl f52)), (a3, .inl (cT 0, 4096, .inl f55)), (a4, .inl (cT 4, 1024, .inr (.inr (.inr (.inr f60)))))] s.heap := hP
  have hl := lv_entry ([.ref a0, .int x5, .int 0, .int x10, .int x15]) (n := 5) (Nat.le_of_ble_eq_true rfl)
  rw [lg_entry_eq]
  generalize (lg_sl ([.ref a0, .int x5, .int 0, .int x10, .int x15]) ++ List.replicate (5 - (lg_sl ([.ref a0, .int x5, .int 0, .int x10, .int x15])).length) Slot.unset).toArray = ls at hl ⊢
  have hl : lv_has ls 5 [(0, .ref a0), (1, .int x5), (2, .int 0), (3, .int x10), (4, .int x15)] := hl
  refine lv_aload_n hx hb dM_sort0_0 rfl (lv_at hl 0 rfl) ?_
  obtain ⟨hPc, hDc, hFc⟩ := xcut (wc := [(a0, .inr (5, [v20, .ref a4, v21, v22, v23, v24, v25, v26, v27, v28, v29, v30, v31, v32, v33, v34, v35, v36, v37, v38, v39, v40, v41, v42, .ref a1, .ref a2, v43, v44, v45, v46, v47, v48]))]) hP hD hS hA [0] rfl rfl (by decide)
  refine va_callv (va_runV (C := "ValueBenchModel") (As := []) (rest := []) ⟨hx, hb, hml, hown, htx⟩ (cM_begin_0 l hl9 D cT aK aV s.heap.size a0 v20 (.ref a4) v21 v22 v23 v24 v25 v26 v27 v28 v29 v30 v31 v32 v33 v34 v35 v36 v37 v38 v39 v40 v41 v42 (.ref a1) (.ref a2) v43 v44 v45 v46 v47 v48) ⟨callB_of 0 htx (xw_goodC kw_5_209) rfl rfl rfl (htx _ kw_1_5) (htx _ kw_5_206) ⟨by decide, by decide, by decide +kernel⟩ ⟨Nat.le_of_ble_eq_true rfl, Nat.le_of_ble_eq_true rfl⟩, (htx _ kw_5_208), (htx _ kp_M_begin)⟩ ⟨xPre_blind, va_recv hK hP (ci := 5) rfl (q0 := 0) rfl, (fun U hU hW => ⟨rfl, xPre_of hZ hS hFc hPc hDc hK U hU hW⟩)⟩ rfl rfl hl.1 rfl (lv_room (Nat.le_of_ble_eq_true rfl)) dM_sort0_1 ⟨Nat.le_of_ble_eq_true rfl, Nat.le_of_ble_eq_true rfl⟩) hS (fun q _ h => hFc q h) hFc (fun u9 t H1 locs ht hvm hr9 hB hz1 hk1 hS => ?_)
  obtain ⟨hP1, hK1, hD1⟩ := hB
  rw [ht] at hP1
  obtain ⟨hP, hD⟩ := xjoin (W := [(a1, .inl (cT 5, 8, .inr (.inr (.inr (.inr f49))))), (a2, .inl (cT 1, 8, .inl f52)), (a3, .inl (cT 0, 4096, .inl f55)), (a4, .inl (cT 4, 1024, .inr (.inr (.inr (.inr f60))))), (a0, .inr (5, [.int 0, .ref a4, .int 0, v22, .int 0, v24, v25, .int 0, v27, .int 0, v29, v30, .int 0, v32, v33, v34, v35, v36, v37, v38, v39, v40, .int 0, .int 1000000000, .ref a1, .ref a2, v43, v44, v45, v46, v47, v48]))]) hP hD [0] [1, 2, 3, 4] 4 rfl rfl (by decide) (by decide) hk1 hFc hP1 hD1
  generalize H1 = H at hP hS ⊢
  refine lv_aload_n hx hb dM_sort0_4 rfl (lv_at hl 0 rfl) ?_
  refine lv_iload_n hx hb dM_sort0_5 rfl (lv_at hl 1 rfl) ?_
  obtain ⟨hPc, hDc, hFc⟩ := xcut (wc := []) hP hD hS hA [] rfl rfl (by decide)
  refine va_calli (va_runV (C := "ValueBenchModel") (As := [.int x5]) (rest := []) ⟨hx, hb, hml, hown, htx⟩ (cM_out_0 l hl9 D cT aK aV H.size a0 x5 h6 h7 h8 h9) ⟨callB_of 1 htx (xw_goodC kw_5_217) rfl rfl rfl (htx _ kw_1_5) (htx _ kw_5_214) ⟨by decide, by decide, by decide +kernel⟩ ⟨Nat.le_of_ble_eq_true rfl, Nat.le_of_ble_eq_true rfl⟩, (htx _ kw_5_216), (htx _ kp_M_out)⟩ ⟨xPre_blind, va_recv hK hP (ci := 5) rfl (q0 := 4) rfl, (fun U hU hW => ⟨rfl, xPre_of hZ hS hFc hPc hDc hK U hU hW⟩)⟩ rfl rfl hl.1 rfl (lv_room (Nat.le_of_ble_eq_true rfl)) dM_sort0_6 ⟨Nat.le_of_ble_eq_true rfl, Nat.le_of_ble_eq_true rfl⟩) hS (fun q _ h => hFc q h) hFc (fun r1 u9 t H1 locs ht hvm hr9 hB hz1 hk1 hS => ?_)
  obtain ⟨hP1, hK1, hD1⟩ := hB
  rw [ht] at hP1
  obtain ⟨hP, hD⟩ := xjoin (W := [(a1, .inl (cT 5, 8, .inr (.inr (.inr (.inr f49))))), (a2, .inl (cT 1, 8, .inl f52)), (a3, .inl (cT 0, 4096, .inl f55)), (a4, .inl (cT 4, 1024, .inr (.inr (.inr (.inr f60))))), (a0, .inr (5, [.int 0, .ref a4, .int 0, v22, .int 0, v24, v25, .int 0, v27, .int 0, v29, v30, .int 0, v32, v33, v34, v35, v36, v37, v38, v39, v40, .int 0, .int 1000000000, .ref a1, .ref a2, v43, v44, v45, v46, v47, v48]))]) hP hD [] [0, 1, 2, 3, 4] 5 rfl rfl (by decide) (by decide) hk1 hFc hP1 hD1
  generalize H1 = H at hP hS ⊢
  rw [hr9]
  refine W.eq (g2 := F0 m 9 ls [.int 0]) rfl ?_
  refine lv_if_ne (tgt := 38) hx hb dM_sort0_9 (by decide) (fun h => ((by revert h; decide : False)).elim) (fun _ => ?_)
  refine lv_iload_n hx hb dM_sort0_12 rfl (lv_at hl 2 rfl) ?_
  refine lv_if_lt (tgt := 38) hx hb dM_sort0_13 (by decide) (fun h => ((by revert h; decide : False)).elim) (fun _ => ?_)
  refine lv_iload_n hx hb dM_sort0_16 rfl (lv_at hl 2 rfl) ?_
  refine lv_iconst (v := 4) hx hb dM_sort0_17 (by decide) ?_
  refine lv_icmp_gt (tgt := 38) hx hb dM_sort0_18 (by decide) (fun h => ((by revert h; decide : False)).elim) (fun _ => ?_)
  refine lv_aload_n hx hb dM_sort0_21 rfl (lv_at hl 0 rfl) ?_
  refine lv_iload_n hx hb dM_sort0_22 rfl (lv_at hl 3 rfl) ?_
  obtain ⟨hPc, hDc, hFc⟩ := xcut (wc := []) hP hD hS hA [] rfl rfl (by decide)
  refine va_calli (va_runV (C := "ValueBenchModel") (As := [.int x10]) (rest := []) ⟨hx, hb, hml, hown, htx⟩ (cM_out_0 l hl9 D cT aK aV H.size a0 x10 h11 h12 h13 h14) ⟨callB_of 1 htx (xw_goodC kw_5_217) rfl rfl rfl (htx _ kw_1_5) (htx _ kw_5_214) ⟨by decide, by decide, by decide +kernel⟩ ⟨Nat.le_of_ble_eq_true rfl, Nat.le_of_ble_eq_true rfl⟩, (htx _ kw_5_216), (htx _ kp_M_out)⟩ ⟨xPre_blind, va_recv hK hP (ci := 5) rfl (q0 := 4) rfl, (fun U hU hW => ⟨rfl, xPre_of hZ hS hFc hPc hDc hK U hU hW⟩)⟩ rfl rfl hl.1 rfl (lv_room (Nat.le_of_ble_eq_true rfl)) dM_sort0_23 ⟨Nat.le_of_ble_eq_true rfl, Nat.le_of_ble_eq_true rfl⟩) hS (fun q _ h => hFc q h) hFc (fun r2 u9 t H1 locs ht hvm hr9 hB hz1 hk1 hS => ?_)
  obtain ⟨hP1, hK1, hD1⟩ := hB
  rw [ht] at hP1
  obtain ⟨hP, hD⟩ := xjoin (W := [(a1, .inl (cT 5, 8, .inr (.inr (.inr (.inr f49))))), (a2, .inl (cT 1, 8, .inl f52)), (a3, .inl (cT 0, 4096, .inl f55)), (a4, .inl (cT 4, 1024, .inr (.inr (.inr (.inr f60))))), (a0, .inr (5, [.int 0, .ref a4, .int 0, v22, .int 0, v24, v25, .int 0, v27, .int 0, v29, v30, .int 0, v32, v33, v34, v35, v36, v37, v38, v39, v40, .int 0, .int 1000000000, .ref a1, .ref a2, v43, v44, v45, v46, v47, v48]))]) hP hD [] [0, 1, 2, 3, 4] 5 rfl rfl (by decide) (by decide) hk1 hFc hP1 hD1
  generalize H1 = H at hP hS ⊢
  rw [hr9]
  refine W.eq (g2 := F0 m 26 ls [.int 0]) rfl ?_
  refine lv_if_ne (tgt := 38) hx hb dM_sort0_26 (by decide) (fun h => ((by revert h; decide : False)).elim) (fun _ => ?_)
  refine lv_aload_n hx hb dM_sort0_29 rfl (lv_at hl 0 rfl) ?_
  refine lv_iload hx hb dM_sort0_30 (lv_at hl 4 rfl) ?_
  obtain ⟨hPc, hDc, hFc⟩ := xcut (wc := []) hP hD hS hA [] rfl rfl (by decide)
  refine va_calli (va_runV (C := "ValueBenchModel") (As := [.int x15]) (rest := []) ⟨hx, hb, hml, hown, htx⟩ (cM_out_0 l hl9 D cT aK aV H.size a0 x15 h16 h17 h18 h19) ⟨callB_of 1 htx (xw_goodC kw_5_217) rfl rfl rfl (htx _ kw_1_5) (htx _ kw_5_214) ⟨by decide, by decide, by decide +kernel⟩ ⟨Nat.le_of_ble_eq_true rfl, Nat.le_of_ble_eq_true rfl⟩, (htx _ kw_5_216), (htx _ kp_M_out)⟩ ⟨xPre_blind, va_recv hK hP (ci := 5) rfl (q0 := 4) rfl, (fun U hU hW => ⟨rfl, xPre_of hZ hS hFc hPc hDc hK U hU hW⟩)⟩ rfl rfl hl.1 rfl (lv_room (Nat.le_of_ble_eq_true rfl)) dM_sort0_32 ⟨Nat.le_of_ble_eq_true rfl, Nat.le_of_ble_eq_true rfl⟩) hS (fun q _ h => hFc q h) hFc (fun r3 u9 t H1 locs ht hvm hr9 hB hz1 hk1 hS => ?_)
  obtain ⟨hP1, hK1, hD1⟩ := hB
  rw [ht] at hP1
  obtain ⟨hP, hD⟩ := xjoin (W := [(a1, .inl (cT 5, 8, .inr (.inr (.inr (.inr f49))))), (a2, .inl (cT 1, 8, .inl f52)), (a3, .inl (cT 0, 4096, .inl f55)), (a4, .inl (cT 4, 1024, .inr (.inr (.inr (.inr f60))))), (a0, .inr (5, [.int 0, .ref a4, .int 0, v22, .int 0, v24, v25, .int 0, v27, .int 0, v29, v30, .int 0, v32, v33, v34, v35, v36, v37, v38, v39, v40, .int 0, .int 1000000000, .ref a1, .ref a2, v43, v44, v45, v46, v47, v48]))]) hP hD [] [0, 1, 2, 3, 4] 5 rfl rfl (by decide) (by decide) hk1 hFc hP1 hD1
  generalize H1 = H at hP hS ⊢
  rw [hr9]
  refine W.eq (g2 := F0 m 35 ls [.int 0]) rfl ?_
  refine lv_if_eq (tgt := 46) hx hb dM_sort0_35 (by decide) (fun _ => ?_) (fun h => ((by revert h; decide : False)).elim)
  refine lv_aload_n hx hb dM_sort0_46 rfl (lv_at hl 0 rfl) ?_
  refine lv_iload_n hx hb dM_sort0_47 rfl (lv_at hl 1 rfl) ?_
  refine lv_iconst (v := 3) hx hb dM_sort0_48 (by decide) ?_
  refine lv_iload_n hx hb dM_sort0_49 rfl (lv_at hl 2 rfl) ?_
  refine lv_iload_n hx hb dM_sort0_50 rfl (lv_at hl 3 rfl) ?_
  refine lv_iload hx hb dM_sort0_51 (lv_at hl 4 rfl) ?_
  obtain ⟨hPc, hDc, hFc⟩ := xcut (wc := [(a0, .inr (5, [.int 0, .ref a4, .int 0, v22, .int 0, v24, v25, .int 0, v27, .int 0, v29, v30, .int 0, v32, v33, v34, v35, v36, v37, v38, v39, v40, .int 0, .int 1000000000, .ref a1, .ref a2, v43, v44, v45, v46, v47, v48])), (a1, .inl (cT 5, 8, .inr (.inr (.inr (.inr f49))))), (a2, .inl (cT 1, 8, .inl f52)), (a3, .inl (cT 0, 4096, .inl f55)), (a4, .inl (cT 4, 1024, .inr (.inr (.inr (.inr f60)))))]) hP hD hS hA [4, 0, 1, 2, 3] rfl rfl (by decide)
  refine va_callv (vx_runVW (C := "ValueBenchModel") (As := [.int x5, .int 3, .int 0, .int x10, .int x15]) (rest := []) ⟨hx, hb, hml, hown, htx⟩ (cM_finish_68 l hl9 D cT aK aV H.size a0 a1 a2 a3 a4 x5 0 x10 x15 (.int 0) v22 (.int 0) v24 v25 (.int 0) v27 (.int 0) v29 v30 (.int 0) v32 v33 v34 v35 v36 v37 v38 v39 v40 (.int 0) (.int 1000000000) v43 v44 v45 v46 v47 v48 f49 f52 f55 f60 h11 h12 h13 h14 h16 h17 h18 h19 (by first | rfl | exact h50 | exact h51 | exact h53 | exact h54 | exact h56 | exact h57 | exact h58 | exact h59 | exact h61 | exact h62) (by first | rfl | exact h50 | exact h51 | exact h53 | exact h54 | exact h56 | exact h57 | exact h58 | exact h59 | exact h61 | exact h62) (by first | rfl | exact h50 | exact h51 | exact h53 | exact h54 | exact h56 | exact h57 | exact h58 | exact h59 | exact h61 | exact h62) (by first | rfl | exact h50 | exact h51 | exact h53 | exact h54 | exact h56 | exact h57 | exact h58 | exact h59 | exact h61 | exact h62) (by first | rfl | exact h50 | exact h51 | exact h53 | exact h54 | exact h56 | exact h57 | exact h58 | exact h59 | exact h61 | exact h62) (by first | rfl | exact h50 | exact h51 | exact h53 | exact h54 | exact h56 | exact h57 | exact h58 | exact h59 | exact h61 | exact h62) (by first | rfl | exact h50 | exact h51 | exact h53 | exact h54 | exact h56 | exact h57 | exact h58 | exact h59 | exact h61 | exact h62) (by first | rfl | exact h50 | exact h51 | exact h53 | exact h54 | exact h56 | exact h57 | exact h58 | exact h59 | exact h61 | exact h62) (by first | rfl | exact h50 | exact h51 | exact h53 | exact h54 | exact h56 | exact h57 | exact h58 | exact h59 | exact h61 | exact h62) (by first | rfl | exact h50 | exact h51 | exact h53 | exact h54 | exact h56 | exact h57 | exact h58 | exact h59 | exact h61 | exact h62)) (xcVW 5 htx (xw_goodC kw_6_195) rfl rfl rfl (htx _ kw_1_5) (htx _ kw_6_192) ⟨by decide, by decide, by decide +kernel⟩ ⟨Nat.le_of_ble_eq_true rfl, Nat.le_of_ble_eq_true rfl⟩ (htx _ kw_6_194) (htx _ kp_M_finish)) ⟨xPre_blind, va_recv hK hP (ci := 5) rfl (q0 := 4) rfl, (fun U hU hW => ⟨rfl, xPre_of hZ hS hFc hPc hDc hK U hU hW⟩)⟩ rfl rfl hl.1 rfl (lv_room (Nat.le_of_ble_eq_true rfl)) dM_sort0_53 ⟨Nat.le_of_ble_eq_true rfl, Nat.le_of_ble_eq_true rfl⟩) hS (fun q _ h => hFc q h) hFc (fun u9 t H1 locs ht hvm hr9 hB hz1 hk1 hS => ?_)
  obtain ⟨q4, q5, hP1, hK1, hD1⟩ := hB
  rw [ht] at hP1
  obtain ⟨hP, hD⟩ := xjoin (W := [(a0, .inr (5, [.int 2, .ref a4, .int 2, v22, .int 0, v24, v25, .int 0, .int 1, .int 0, v29, v30, .int 0, v32, v33, .ref a3, .int 4, .int 4, .int 0, .int 100, v39, v40, .int 0, .int 1000000000, .ref a1, .ref a2, v43, v44, v45, v46, .int 1, v48])), (a1, .inl (cT 5, 8, .inr (.inr (.inr (.inr f49))))), (a2, .inl (cT 1, 8, .inl f52)), (a3, .inl (cT 0, 4096, .inl f55)), (a4, .inl (cT 4, 1024, .inr (.inr (.inr (.inr (va_up (va_up f60 0 (some q4)) 1 (some q5))))))), (q4, .inr (6, [.int 0, .long 0, .int 0, .int 0, .int 0, .int 1])), (q5, .inr (6, [.int 0, .long 0, .int 0, .int 0, .int 0, .int 1]))]) hP hD [4, 0, 1, 2, 3] [] 0 rfl rfl (by decide) (by decide) hk1 hFc hP1 hD1
  generalize H1 = H at hP hS ⊢
  obtain ⟨hP9, hD9⟩ := xsub (wc := [(a0, .inr (5, [.int 2, .ref a4, .int 2, v22, .int 0, v24, v25, .int 0, .int 1, .int 0, v29, v30, .int 0, v32, v33, .ref a3, .int 4, .int 4, .int 0, .int 100, v39, v40, .int 0, .int 1000000000, .ref a1, .ref a2, v43, v44, v45, v46, .int 1, v48])), (a1, .inl (cT 5, 8, .inr (.inr (.inr (.inr f49))))), (a2, .inl (cT 1, 8, .inl f52)), (a3, .inl (cT 0, 4096, .inl f55)), (a4, .inl (cT 4, 1024, .inr (.inr (.inr (.inr (va_up (va_up f60 0 (some q4)) 1 (some q5))))))), (q4, .inr (6, [.int 0, .long 0, .int 0, .int 0, .int 0, .int 1])), (q5, .inr (6, [.int 0, .long 0, .int 0, .int 0, .int 0, .int 1]))]) hP hD [0, 1, 2, 3, 4, 5, 6] rfl rfl (by decide)
  refine W.widen (k := 3) (n := 18) (Nat.le_of_ble_eq_true rfl) (Nat.le_of_ble_eq_true rfl) ?_
  exact W.vret hx hb hr (fun t ht hW => ⟨⟨(), rfl, trivial, q4, q5, by rw [ht]; exact hP9, va_K.moved hW.alike hK, hD9⟩, hS.F ht⟩) hS.2.2 dM_sort0_56
set_option maxHeartbeats 400000000 in
set_option maxRecDepth 100000 in
theorem cM_sort0_2 (l : Launch) (hl9 : l.stackTraces = false) (D : va_G) (cT : Nat → ClassId) (aK aV : Nat → Nat) (sz : Nat) (a0 : Nat) (a1 : Nat) (a2 : Nat) (a3 : Nat) (a4 : Nat) (a5 : Nat) (x6 : Int32) (x11 : Int32) (x16 : Int32) (v21 : Value) (v22 : Value) (v23 : Value) (v24 : Value) (v25 : Value) (v26 : Value) (v27 : Value) (v28 : Value) (v29 : Value) (v30 : Value) (v31 : Value) (v32 : Value) (v33 : Value) (v34 : Value) (v35 : Value) (v36 : Value) (v37 : Value) (v38 : Value) (v39 : Value) (v40 : Value) (v41 : Value) (v42 : Value) (v43 : Value) (v44 : Value) (v45 : Value) (v46 : Value) (v47 : Value) (v48 : Value) (v49 : Value) (f50 : Nat → Option Nat) (f53 : Nat → Int32) (f56 : Nat → Int32) (f61 : Nat → Option Nat) (f64 : Nat → Int32) (h7 : ¬ x6 < 0) (h8 : ¬ 7 < x6) (h9 : x6 ≤ 7) (h10 : vp_in x6 8) (h12 : ¬ x11 < 0) (h13 : ¬ 7 < x11) (h14 : x11 ≤ 7) (h15 : vp_in x11 8) (h17 : ¬ x16 < 0) (h18 : ¬ 7 < x16) (h19 : x16 ≤ 7) (h20 : vp_in x16 8) (h51 : f50 x11.toNatClampNeg = some a3) (h52 : f50 x16.toNatClampNeg = some a5) (h54 : f53 x11.toNatClampNeg = 4) (h55 : f53 x16.toNatClampNeg = 4) (h57 : f56 0 = 110) (h58 : f56 1 = 117) (h59 : f56 2 = 108) (h60 : f56 3 = 108) (h62 : f61 0 = none) (h63 : f61 1 = none) (h65 : f64 0 = 110) (h66 : f64 1 = 117) (h67 : f64 2 = 108) (h68 : f64 3 = 108) : xMet l yM_sort0 wyM_sort0 9 3 18 204 D cT aK aV sz [.ref a0, .int x6, .int 1, .int x11, .int x16] [(a0, .inr (5, [v21, .ref a4, v22, v23, v24, v25, v26, v27, v28, v29, v30, v31, v32, v33, v34, v35, v36, v37, v38, v39, v40, v41, v42, v43, .ref a1, .ref a2, v44, v45, v46, v47, v48, v49])), (a1, .inl (cT 5, 8, .inr (.inr (.inr (.inr f50))))), (a2, .inl (cT 1, 8, .inl f53)), (a3, .inl (cT 0, 4096, .inl f56)), (a4, .inl (cT 4, 1024, .inr (.inr (.inr (.inr f61))))), (a5, .inl (cT 0, 4096, .inl f64))] (fun A => va_Qv (fun _ : Unit => True) (fun _ t => ∃ (q4 : Nat) (q5 : Nat), xB D xcl cT A [(a0, .inr (5, [.int 2, .ref a4, .int 2, v23, .int 0, v25, v26, .int 0, .int 1, .int 0, v30, v31, .int 0, v33, v34, .ref a5, .int 4, .int 4, .int 0, .int 100, v40, v41, .int 0, .int 1000000000, .ref a1, .ref a2, v44, v45, v46, v47, .int 1, v49])), (a1, .inl (cT 5, 8, .inr (.inr (.inr (.inr f50))))), (a2, .inl (cT 1, 8, .inl f53)), (a3, .inl (cT 0, 4096, .inl f56)), (a4, .inl (cT 4, 1024, .inr (.inr (.inr (.inr (va_up (va_up f61 0 (some q4)) 1 (some q5))))))), (a5, .inl (cT 0, 4096, .inl f64)), (q4, .inr (6, [.int 0, .long 0, .int 0, .int 0, .int 0, .int 1])), (q5, .inr (6, [.int 0, .long 0, .int 0, .int 0, .int 0, .int 1]))] t) A) := by
  refine Met.ofW (cc := prog_13_method_94_code) (maxL := 5) (ret := none) (by decide) rfl ?_
  intro p e s m args below meth c s₁ B hml hv
  obtain ⟨rfl, hsz, hZ, hP, hK, hD0⟩ := hv
  have hx := B.exec
  have hb := B.bytes
  have hr := B.returns
  have hts := atoms_spec (ws := wyM_sort0) B.pre
  have htx := fun w h => hts w (List.mem_cons_of_mem _ h)
  have hown : s.vm.findClass "ValueBenchModel" = some m.cls := findClass_of_methodNamed B.named
  have hlocks := B.notSynchronized
  subst hsz
  have hD := hD0.self (sz := s.heap.size)
  generalize hAe : va_A [(a0, .inr (5, [v21, .ref a4, v22, v23, v24, v25, v26, v27, v28, v29, v30, v31, v32, v33, v34, v35, v36, v37, v38, v39, v40, v41, v42, v43, .ref a1, .ref a2, v44, v45, v46, v47, v48, v49])), (a1, .inl (cT 5, 8, .inr (.inr (.inr (.inr f50))))), (a2, .inl (cT 1, 8, .inl f53)), (a3, .inl (cT 0, 4096, .inl f56)), (a4, .inl (cT 4, 1024, .inr (.inr (.inr (.inr f61))))), (a5, .inl (cT 0, 4096, .inl f64))] s.heap.size = A at hD hZ ⊢
  have hA : ∀ q : Nat, s.heap.size ≤ q → A q := fun q h => by rw [← hAe]; exact Or.inr h
  have hS : va_S A s.heap s.heap [] := va_S.rf
  have hP : va_P D xcl [(a0, .inr (5, [v21, .ref a4, v22, v23, v24, v25, v26, v27, v28, v29, v30, v31, v32, v33, v34, v35, v36, v37, v38, v39, v40, v41, v42, v43, .ref a1, .ref a2, v44, v45, v46, v47, v48, v49])), (a1, .inl (cT 5, 8, .inr (.inr (.inr (.inr f50))))), (a2, .inl (cT 1, 8, .inl f53)), (a3, .inl (cT 0, 4096, .inl f56)), (a4, .inl (cT 4, 1024, .inr (.inr (.inr (.inr f61))))), (a5, .inl (cT 0, 4096, .inl f64))] s.heap := hP
  have hl := lv_entry ([.ref a0, .int x6, .int 1, .int x11, .int x16]) (n := 5) (Nat.le_of_ble_eq_true rfl)
  rw [lg_entry_eq]
  generalize (lg_sl ([.ref a0, .int x6, .int 1, .int x11, .int x16]) ++ List.replicate (5 - (lg_sl ([.ref a0, .int x6, .int 1, .int x11, .int x16])).length) Slot.unset).toArray = ls at hl ⊢
  have hl : lv_has ls 5 [(0, .ref a0), (1, .int x6), (2, .int 1), (3, .int x11), (4, .int x16)] := hl
  refine lv_aload_n hx hb dM_sort0_0 rfl (lv_at hl 0 rfl) ?_
  obtain ⟨hPc, hDc, hFc⟩ := xcut (wc := [(a0, .inr (5, [v21, .ref a4, v22, v23, v24, v25, v26, v27, v28, v29, v30, v31, v32, v33, v34, v35, v36, v37, v38, v39, v40, v41, v42, v43, .ref a1, .ref a2, v44, v45, v46, v47, v48, v49]))]) hP hD hS hA [0] rfl rfl (by decide)
  refine va_callv (va_runV (C := "ValueBenchModel") (As := []) (rest := []) ⟨hx, hb, hml, hown, htx⟩ (cM_begin_0 l hl9 D cT aK aV s.heap.size a0 v21 (.ref a4) v22 v23 v24 v25 v26 v27 v28 v29 v30 v31 v32 v33 v34 v35 v36 v37 v38 v39 v40 v41 v42 v43 (.ref a1) (.ref a2) v44 v45 v46 v47 v48 v49) ⟨callB_of 0 htx (xw_goodC kw_5_209) rfl rfl rfl (htx _ kw_1_5) (htx _ kw_5_206) ⟨by decide, by decide, by decide +kernel⟩ ⟨Nat.le_of_ble_eq_true rfl, Nat.le_of_ble_eq_true rfl⟩, (htx _ kw_5_208), (htx _ kp_M_begin)⟩ ⟨xPre_blind, va_recv hK hP (ci := 5) rfl (q0 := 0) rfl, (fun U hU hW => ⟨rfl, xPre_of hZ hS hFc hPc hDc hK U hU hW⟩)⟩ rfl rfl hl.1 rfl (lv_room (Nat.le_of_ble_eq_true rfl)) dM_sort0_1 ⟨Nat.le_of_ble_eq_true rfl, Nat.le_of_ble_eq_true rfl⟩) hS (fun q _ h => hFc q h) hFc (fun u9 t H1 locs ht hvm hr9 hB hz1 hk1 hS => ?_)
  obtain ⟨hP1, hK1, hD1⟩ := hB
  rw [ht] at hP1
  obtain ⟨hP, hD⟩ := xjoin (W := [(a1, .inl (cT 5, 8, .inr (.inr (.inr (.inr f50))))), (a2, .inl (cT 1, 8, .inl f53)), (a3, .inl (cT 0, 4096, .inl f56)), (a4, .inl (cT 4, 1024, .inr (.inr (.inr (.inr f61))))), (a5, .inl (cT 0, 4096, .inl f64)), (a0, .inr (5, [.int 0, .ref a4, .int 0, v23, .int 0, v25, v26, .int 0, v28, .int 0, v30, v31, .int 0, v33, v34, v35, v36, v37, v38, v39, v40, v41, .int 0, .int 1000000000, .ref a1, .ref a2, v44, v45, v46, v47, v48, v49]))]) hP hD [0] [1, 2, 3, 4, 5] 5 rfl rfl (by decide) (by decide) hk1 hFc hP1 hD1
  generalize H1 = H at hP hS ⊢
  refine lv_aload_n hx hb dM_sort0_4 rfl (lv_at hl 0 rfl) ?_
  refine lv_iload_n hx hb dM_sort0_5 rfl (lv_at hl 1 rfl) ?_
  obtain ⟨hPc, hDc, hFc⟩ := xcut (wc := []) hP hD hS hA [] rfl rfl (by decide)
  refine va_calli (va_runV (C := "ValueBenchModel") (As := [.int x6]) (rest := []) ⟨hx, hb, hml, hown, htx⟩ (cM_out_0 l hl9 D cT aK aV H.size a0 x6 h7 h8 h9 h10) ⟨callB_of 1 htx (xw_goodC kw_5_217) rfl rfl rfl (htx _ kw_1_5) (htx _ kw_5_214) ⟨by decide, by decide, by decide +kernel⟩ ⟨Nat.le_of_ble_eq_true rfl, Nat.le_of_ble_eq_true rfl⟩, (htx _ kw_5_216), (htx _ kp_M_out)⟩ ⟨xPre_blind, va_recv hK hP (ci := 5) rfl (q0 := 5) rfl, (fun U hU hW => ⟨rfl, xPre_of hZ hS hFc hPc hDc hK U hU hW⟩)⟩ rfl rfl hl.1 rfl (lv_room (Nat.le_of_ble_eq_true rfl)) dM_sort0_6 ⟨Nat.le_of_ble_eq_true rfl, Nat.le_of_ble_eq_true rfl⟩) hS (fun q _ h => hFc q h) hFc (fun r1 u9 t H1 locs ht hvm hr9 hB hz1 hk1 hS => ?_)
  obtain ⟨hP1, hK1, hD1⟩ := hB
  rw [ht] at hP1
  obtain ⟨hP, hD⟩ := xjoin (W := [(a1, .inl (cT 5, 8, .inr (.inr (.inr (.inr f50))))), (a2, .inl (cT 1, 8, .inl f53)), (a3, .inl (cT 0, 4096, .inl f56)), (a4, .inl (cT 4, 1024, .inr (.inr (.inr (.inr f61))))), (a5, .inl (cT 0, 4096, .inl f64)), (a0, .inr (5, [.int 0, .ref a4, .int 0, v23, .int 0, v25, v26, .int 0, v28, .int 0, v30, v31, .int 0, v33, v34, v35, v36, v37, v38, v39, v40, v41, .int 0, .int 1000000000, .ref a1, .ref a2, v44, v45, v46, v47, v48, v49]))]) hP hD [] [0, 1, 2, 3, 4, 5] 6 rfl rfl (by decide) (by decide) hk1 hFc hP1 hD1
  generalize H1 = H at hP hS ⊢
  rw [hr9]
  refine W.eq (g2 := F0 m 9 ls [.int 0]) rfl ?_
  refine lv_if_ne (tgt := 38) hx hb dM_sort0_9 (by decide) (fun h => ((by revert h; decide : False)).elim) (fun _ => ?_)
  refine lv_iload_n hx hb dM_sort0_12 rfl (lv_at hl 2 rfl) ?_
  refine lv_if_lt (tgt := 38) hx hb dM_sort0_13 (by decide) (fun h => ((by revert h; decide : False)).elim) (fun _ => ?_)
  refine lv_iload_n hx hb dM_sort0_16 rfl (lv_at hl 2 rfl) ?_
  refine lv_iconst (v := 4) hx hb dM_sort0_17 (by decide) ?_
  refine lv_icmp_gt (tgt := 38) hx hb dM_sort0_18 (by decide) (fun h => ((by revert h; decide : False)).elim) (fun _ => ?_)
  refine lv_aload_n hx hb dM_sort0_21 rfl (lv_at hl 0 rfl) ?_
  refine lv_iload_n hx hb dM_sort0_22 rfl (lv_at hl 3 rfl) ?_
  obtain ⟨hPc, hDc, hFc⟩ := xcut (wc := []) hP hD hS hA [] rfl rfl (by decide)
  refine va_calli (va_runV (C := "ValueBenchModel") (As := [.int x11]) (rest := []) ⟨hx, hb, hml, hown, htx⟩ (cM_out_0 l hl9 D cT aK aV H.size a0 x11 h12 h13 h14 h15) ⟨callB_of 1 htx (xw_goodC kw_5_217) rfl rfl rfl (htx _ kw_1_5) (htx _ kw_5_214) ⟨by decide, by decide, by decide +kernel⟩ ⟨Nat.le_of_ble_eq_true rfl, Nat.le_of_ble_eq_true rfl⟩, (htx _ kw_5_216), (htx _ kp_M_out)⟩ ⟨xPre_blind, va_recv hK hP (ci := 5) rfl (q0 := 5) rfl, (fun U hU hW => ⟨rfl, xPre_of hZ hS hFc hPc hDc hK U hU hW⟩)⟩ rfl rfl hl.1 rfl (lv_room (Nat.le_of_ble_eq_true rfl)) dM_sort0_23 ⟨Nat.le_of_ble_eq_true rfl, Nat.le_of_ble_eq_true rfl⟩) hS (fun q _ h => hFc q h) hFc (fun r2 u9 t H1 locs ht hvm hr9 hB hz1 hk1 hS => ?_)
  obtain ⟨hP1, hK1, hD1⟩ := hB
  rw [ht] at hP1
  obtain ⟨hP, hD⟩ := xjoin (W := [(a1, .inl (cT 5, 8, .inr (.inr (.inr (.inr f50))))), (a2, .inl (cT 1, 8, .inl f53)), (a3, .inl (cT 0, 4096, .inl f56)), (a4, .inl (cT 4, 1024, .inr (.inr (.inr (.inr f61))))), (a5, .inl (cT 0, 4096, .inl f64)), (a0, .inr (5, [.int 0, .ref a4, .int 0, v23, .int 0, v25, v26, .int 0, v28, .int 0, v30, v31, .int 0, v33, v34, v35, v36, v37, v38, v39, v40, v41, .int 0, .int 1000000000, .ref a1, .ref a2, v44, v45, v46, v47, v48, v49]))]) hP hD [] [0, 1, 2, 3, 4, 5] 6 rfl rfl (by decide) (by decide) hk1 hFc hP1 hD1
  generalize H1 = H at hP hS ⊢
  rw [hr9]
  refine W.eq (g2 := F0 m 26 ls [.int 0]) rfl ?_
  refine lv_if_ne (tgt := 38) hx hb dM_sort0_26 (by decide) (fun h => ((by revert h; decide : False)).elim) (fun _ => ?_)
  refine lv_aload_n hx hb dM_sort0_29 rfl (lv_at hl 0 rfl) ?_
  refine lv_iload hx hb dM_sort0_30 (lv_at hl 4 rfl) ?_
  obtain ⟨hPc, hDc, hFc⟩ := xcut (wc := []) hP hD hS hA [] rfl rfl (by decide)
  refine va_calli (va_runV (C := "ValueBenchModel") (As := [.int x16]) (rest := []) ⟨hx, hb, hml, hown, htx⟩ (cM_out_0 l hl9 D cT aK aV H.size a0 x16 h17 h18 h19 h20) ⟨callB_of 1 htx (xw_goodC kw_5_217) rfl rfl rfl (htx _ kw_1_5) (htx _ kw_5_214) ⟨by decide, by decide, by decide +kernel⟩ ⟨Nat.le_of_ble_eq_true rfl, Nat.le_of_ble_eq_true rfl⟩, (htx _ kw_5_216), (htx _ kp_M_out)⟩ ⟨xPre_blind, va_recv hK hP (ci := 5) rfl (q0 := 5) rfl, (fun U hU hW => ⟨rfl, xPre_of hZ hS hFc hPc hDc hK U hU hW⟩)⟩ rfl rfl hl.1 rfl (lv_room (Nat.le_of_ble_eq_true rfl)) dM_sort0_32 ⟨Nat.le_of_ble_eq_true rfl, Nat.le_of_ble_eq_true rfl⟩) hS (fun q _ h => hFc q h) hFc (fun r3 u9 t H1 locs ht hvm hr9 hB hz1 hk1 hS => ?_)
  obtain ⟨hP1, hK1, hD1⟩ := hB
  rw [ht] at hP1
  obtain ⟨hP, hD⟩ := xjoin (W := [(a1, .inl (cT 5, 8, .inr (.inr (.inr (.inr f50))))), (a2, .inl (cT 1, 8, .inl f53)), (a3, .inl (cT 0, 4096, .inl f56)), (a4, .inl (cT 4, 1024, .inr (.inr (.inr (.inr f61))))), (a5, .inl (cT 0, 4096, .inl f64)), (a0, .inr (5, [.int 0, .ref a4, .int 0, v23, .int 0, v25, v26, .int 0, v28, .int 0, v30, v31, .int 0, v33, v34, v35, v36, v37, v38, v39, v40, v41, .int 0, .int 1000000000, .ref a1, .ref a2, v44, v45, v46, v47, v48, v49]))]) hP hD [] [0, 1, 2, 3, 4, 5] 6 rfl rfl (by decide) (by decide) hk1 hFc hP1 hD1
  generalize H1 = H at hP hS ⊢
  rw [hr9]
  refine W.eq (g2 := F0 m 35 ls [.int 0]) rfl ?_
  refine lv_if_eq (tgt := 46) hx hb dM_sort0_35 (by decide) (fun _ => ?_) (fun h => ((by revert h; decide : False)).elim)
  refine lv_aload_n hx hb dM_sort0_46 rfl (lv_at hl 0 rfl) ?_
  refine lv_iload_n hx hb dM_sort0_47 rfl (lv_at hl 1 rfl) ?_
  refine lv_iconst (v := 3) hx hb dM_sort0_48 (by decide) ?_
  refine lv_iload_n hx hb dM_sort0_49 rfl (lv_at hl 2 rfl) ?_
  refine lv_iload_n hx hb dM_sort0_50 rfl (lv_at hl 3 rfl) ?_
  refine lv_iload hx hb dM_sort0_51 (lv_at hl 4 rfl) ?_
  obtain ⟨hPc, hDc, hFc⟩ := xcut (wc := [(a0, .inr (5, [.int 0, .ref a4, .int 0, v23, .int 0, v25, v26, .int 0, v28, .int 0, v30, v31, .int 0, v33, v34, v35, v36, v37, v38, v39, v40, v41, .int 0, .int 1000000000, .ref a1, .ref a2, v44, v45, v46, v47, v48, v49])), (a1, .inl (cT 5, 8, .inr (.inr (.inr (.inr f50))))), (a2, .inl (cT 1, 8, .inl f53)), (a3, .inl (cT 0, 4096, .inl f56)), (a4, .inl (cT 4, 1024, .inr (.inr (.inr (.inr f61))))), (a5, .inl (cT 0, 4096, .inl f64))]) hP hD hS hA [5, 0, 1, 2, 3, 4] rfl rfl (by decide)
  refine va_callv (vx_runVW (C := "ValueBenchModel") (As := [.int x6, .int 3, .int 1, .int x11, .int x16]) (rest := []) ⟨hx, hb, hml, hown, htx⟩ (cM_finish_67 l hl9 D cT aK aV H.size a0 a1 a2 a3 a4 a5 x6 1 x11 x16 (.int 0) v23 (.int 0) v25 v26 (.int 0) v28 (.int 0) v30 v31 (.int 0) v33 v34 v35 v36 v37 v38 v39 v40 v41 (.int 0) (.int 1000000000) v44 v45 v46 v47 v48 v49 f50 f53 f56 f61 f64 h12 h13 h14 h15 h17 h18 h19 h20 (by first | rfl | exact h51 | exact h52 | exact h54 | exact h55 | exact h57 | exact h58 | exact h59 | exact h60 | exact h62 | exact h63 | exact h65 | exact h66 | exact h67 | exact h68) (by first | rfl | exact h51 | exact h52 | exact h54 | exact h55 | exact h57 | exact h58 | exact h59 | exact h60 | exact h62 | exact h63 | exact h65 | exact h66 | exact h67 | exact h68) (by first | rfl | exact h51 | exact h52 | exact h54 | exact h55 | exact h57 | exact h58 | exact h59 | exact h60 | exact h62 | exact h63 | exact h65 | exact h66 | exact h67 | exact h68) (by first | rfl | exact h51 | exact h52 | exact h54 | exact h55 | exact h57 | exact h58 | exact h59 | exact h60 | exact h62 | exact h63 | exact h65 | exact h66 | exact h67 | exact h68) (by first | rfl | exact h51 | exact h52 | exact h54 | exact h55 | exact h57 | exact h58 | exact h59 | exact h60 | exact h62 | exact h63 | exact h65 | exact h66 | exact h67 | exact h68) (by first | rfl | exact h51 | exact h52 | exact h54 | exact h55 | exact h57 | exact h58 | exact h59 | exact h60 | exact h62 | exact h63 | exact h65 | exact h66 | exact h67 | exact h68) (by first | rfl | exact h51 | exact h52 | exact h54 | exact h55 | exact h57 | exact h58 | exact h59 | exact h60 | exact h62 | exact h63 | exact h65 | exact h66 | exact h67 | exact h68) (by first | rfl | exact h51 | exact h52 | exact h54 | exact h55 | exact h57 | exact h58 | exact h59 | exact h60 | exact h62 | exact h63 | exact h65 | exact h66 | exact h67 | exact h68) (by first | rfl | exact h51 | exact h52 | exact h54 | exact h55 | exact h57 | exact h58 | exact h59 | exact h60 | exact h62 | exact h63 | exact h65 | exact h66 | exact h67 | exact h68) (by first | rfl | exact h51 | exact h52 | exact h54 | exact h55 | exact h57 | exact h58 | exact h59 | exact h60 | exact h62 | exact h63 | exact h65 | exact h66 | exact h67 | exact h68) (by first | rfl | exact h51 | exact h52 | exact h54 | exact h55 | exact h57 | exact h58 | exact h59 | exact h60 | exact h62 | exact h63 | exact h65 | exact h66 | exact h67 | exact h68) (by first | rfl | exact h51 | exact h52 | exact h54 | exact h55 | exact h57 | exact h58 | exact h59 | exact h60 | exact h62 | exact h63 | exact h65 | exact h66 | exact h67 | exact h68) (by first | rfl | exact h51 | exact h52 | exact h54 | exact h55 | exact h57 | exact h58 | exact h59 | exact h60 | exact h62 | exact h63 | exact h65 | exact h66 | exact h67 | exact h68) (by first | rfl | exact h51 | exact h52 | exact h54 | exact h55 | exact h57 | exact h58 | exact h59 | exact h60 | exact h62 | exact h63 | exact h65 | exact h66 | exact h67 | exact h68)) (xcVW 5 htx (xw_goodC kw_6_195) rfl rfl rfl (htx _ kw_1_5) (htx _ kw_6_192) ⟨by decide, by decide, by decide +kernel⟩ ⟨Nat.le_of_ble_eq_true rfl, Nat.le_of_ble_eq_true rfl⟩ (htx _ kw_6_194) (htx _ kp_M_finish)) ⟨xPre_blind, va_recv hK hP (ci := 5) rfl (q0 := 5) rfl, (fun U hU hW => ⟨rfl, xPre_of hZ hS hFc hPc hDc hK U hU hW⟩)⟩ rfl rfl hl.1 rfl (lv_room (Nat.le_of_ble_eq_true rfl)) dM_sort0_53 ⟨Nat.le_of_ble_eq_true rfl, Nat.le_of_ble_eq_true rfl⟩) hS (fun q _ h => hFc q h) hFc (fun u9 t H1 locs ht hvm hr9 hB hz1 hk1 hS => ?_)
  obtain ⟨q4, q5, hP1, hK1, hD1⟩ := hB
  rw [ht] at hP1
  obtain ⟨hP, hD⟩ := xjoin (W := [(a0, .inr (5, [.int 2, .ref a4, .int 2, v23, .int 0, v25, v26, .int 0, .int 1, .int 0, v30, v31, .int 0, v33, v34, .ref a5, .int 4, .int 4, .int 0, .int 100, v40, v41, .int 0, .int 1000000000, .ref a1, .ref a2, v44, v45, v46, v47, .int 1, v49])), (a1, .inl (cT 5, 8, .inr (.inr (.inr (.inr f50))))), (a2, .inl (cT 1, 8, .inl f53)), (a3, .inl (cT 0, 4096, .inl f56)), (a4, .inl (cT 4, 1024, .inr (.inr (.inr (.inr (va_up (va_up f61 0 (some q4)) 1 (some q5))))))), (a5, .inl (cT 0, 4096, .inl f64)), (q4, .inr (6, [.int 0, .long 0, .int 0, .int 0, .int 0, .int 1])), (q5, .inr (6, [.int 0, .long 0, .int 0, .int 0, .int 0, .int 1]))]) hP hD [5, 0, 1, 2, 3, 4] [] 0 rfl rfl (by decide) (by decide) hk1 hFc hP1 hD1
  generalize H1 = H at hP hS ⊢
  obtain ⟨hP9, hD9⟩ := xsub (wc := [(a0, .inr (5, [.int 2, .ref a4, .int 2, v23, .int 0, v25, v26, .int 0, .int 1, .int 0, v30, v31, .int 0, v33, v34, .ref a5, .int 4, .int 4, .int 0, .int 100, v40, v41, .int 0, .int 1000000000, .ref a1, .ref a2, v44, v45, v46, v47, .int 1, v49])), (a1, .inl (cT 5, 8, .inr (.inr (.inr (.inr f50))))), (a2, .inl (cT 1, 8, .inl f53)), (a3, .inl (cT 0, 4096, .inl f56)), (a4, .inl (cT 4, 1024, .inr (.inr (.inr (.inr (va_up (va_up f61 0 (some q4)) 1 (some q5))))))), (a5, .inl (cT 0, 4096, .inl f64)), (q4, .inr (6, [.int 0, .long 0, .int 0, .int 0, .int 0, .int 1])), (q5, .inr (6, [.int 0, .long 0, .int 0, .int 0, .int 0, .int 1]))]) hP hD [0, 1, 2, 3, 4, 5, 6, 7] rfl rfl (by decide)
  refine W.widen (k := 3) (n := 18) (Nat.le_of_ble_eq_true rfl) (Nat.le_of_ble_eq_true rfl) ?_
  exact W.vret hx hb hr (fun t ht hW => ⟨⟨(), rfl, trivial, q4, q5, by rw [ht]; exact hP9, va_K.moved hW.alike hK, hD9⟩, hS.F ht⟩) hS.2.2 dM_sort0_56
set_option maxHeartbeats 400000000 in
set_option maxRecDepth 100000 in
theorem cM_sort0_3 (l : Launch) (hl9 : l.stackTraces = false) (D : va_G) (cT : Nat → ClassId) (aK aV : Nat → Nat) (sz : Nat) (a0 : Nat) (a1 : Nat) (a2 : Nat) (a3 : Nat) (a4 : Nat) (x5 : Int32) (x10 : Int32) (x15 : Int32) (v20 : Value) (v21 : Value) (v22 : Value) (v23 : Value) (v24 : Value) (v25 : Value) (v26 : Value) (v27 : Value) (v28 : Value) (v29 : Value) (v30 : Value) (v31 : Value) (v32 : Value) (v33 : Value) (v34 : Value) (v35 : Value) (v36 : Value) (v37 : Value) (v38 : Value) (v39 : Value) (v40 : Value) (v41 : Value) (v42 : Value) (v43 : Value) (v44 : Value) (v45 : Value) (v46 : Value) (v47 : Value) (v48 : Value) (f49 : Nat → Option Nat) (f52 : Nat → Int32) (f55 : Nat → Int32) (f60 : Nat → Option Nat) (h6 : ¬ x5 < 0) (h7 : ¬ 7 < x5) (h8 : x5 ≤ 7) (h9 : vp_in x5 8) (h11 : ¬ x10 < 0) (h12 : ¬ 7 < x10) (h13 : x10 ≤ 7) (h14 : vp_in x10 8) (h16 : ¬ x15 < 0) (h17 : ¬ 7 < x15) (h18 : x15 ≤ 7) (h19 : vp_in x15 8) (h50 : f49 x10.toNatClampNeg = some a3) (h51 : f49 x15.toNatClampNeg = some a3) (h53 : f52 x10.toNatClampNeg = 4) (h54 : f52 x15.toNatClampNeg = 4) (h56 : f55 0 = 110) (h57 : f55 1 = 117) (h58 : f55 2 = 108) (h59 : f55 3 = 108) (h61 : f60 0 = none) (h62 : f60 1 = none) : xMet l yM_sort0 wyM_sort0 9 3 18 204 D cT aK aV sz [.ref a0, .int x5, .int 1, .int x10, .int x15] [(a0, .inr (5, [v20, .ref a4, v21, v22, v23, v24, v25, v26, v27, v28, v29, v30, v31, v32, v33, v34, v35, v36, v37, v38, v39, v40, v41, v42, .ref a1, .ref a2, v43, v44, v45, v46, v47, v48])), (a1, .inl (cT 5, 8, .inr (.inr (.inr (.inr f49))))), (a2, .inl (cT 1, 8, .inl f52)), (a3, .inl (cT 0, 4096, .inl f55)), (a4, .inl (cT 4, 1024, .inr (.inr (.inr (.inr f60)))))] (fun A => va_Qv (fun _ : Unit => True) (fun _ t => ∃ (q4 : Nat) (q5 : Nat), xB D xcl cT A [(a0, .inr (5, [.int 2, .ref a4, .int 2, v22, .int 0, v24, v25, .int 0, .int 1, .int 0, v29, v30, .int 0, v32, v33, .ref a3, .int 4, .int 4, .int 0, .int 100, v39, v40, .int 0, .int 1000000000, .ref a1, .ref a2, v43, v44, v45, v46, .int 1, v48])), (a1, .inl (cT 5, 8, .inr (.inr (.inr (.inr f49))))), (a2, .inl (cT 1, 8, .inl f52)), (a3, .inl (cT 0, 4096, .inl f55)), (a4, .inl (cT 4, 1024, .inr (.inr (.inr (.inr (va_up (va_up f60 0 (some q4)) 1 (some q5))))))), (q4, .inr (6, [.int 0, .long 0, .int 0, .int 0, .int 0, .int 1])), (q5, .inr (6, [.int 0, .long 0, .int 0, .int 0, .int 0, .int 1]))] t) A) := by
  refine Met.ofW (cc := prog_13_method_94_code) (maxL := 5) (ret := none) (by decide) rfl ?_
  intro p e s m args below meth c s₁ B hml hv
  obtain ⟨rfl, hsz, hZ, hP, hK, hD0⟩ := hv
  have hx := B.exec
  have hb := B.bytes
  have hr := B.returns
  have hts := atoms_spec (ws := wyM_sort0) B.pre
  have htx := fun w h => hts w (List.mem_cons_of_mem _ h)
  have hown : s.vm.findClass "ValueBenchModel" = some m.cls := findClass_of_methodNamed B.named
  have hlocks := B.notSynchronized
  subst hsz
  have hD := hD0.self (sz := s.heap.size)
  generalize hAe : va_A [(a0, .inr (5, [v20, .ref a4, v21, v22, v23, v24, v25, v26, v27, v28, v29, v30, v31, v32, v33, v34, v35, v36, v37, v38, v39, v40, v41, v42, .ref a1, .ref a2, v43, v44, v45, v46, v47, v48])), (a1, .inl (cT 5, 8, .inr (.inr (.inr (.inr f49))))), (a2, .inl (cT 1, 8, .inl f52)), (a3, .inl (cT 0, 4096, .inl f55)), (a4, .inl (cT 4, 1024, .inr (.inr (.inr (.inr f60)))))] s.heap.size = A at hD hZ ⊢
  have hA : ∀ q : Nat, s.heap.size ≤ q → A q := fun q h => by rw [← hAe]; exact Or.inr h
  have hS : va_S A s.heap s.heap [] := va_S.rf
  have hP : va_P D xcl [(a0, .inr (5, [v20, .ref a4, v21, v22, v23, v24, v25, v26, v27, v28, v29, v30, v31, v32, v33, v34, v35, v36, v37, v38, v39, v40, v41, v42, .ref a1, .ref a2, v43, v44, v45, v46, v47, v48])), (a1, .inl (cT 5, 8, .inr (.inr (.inr (.inr f49))))), (a2, .inl (cT 1, 8, .inl f52)), (a3, .inl (cT 0, 4096, .inl f55)), (a4, .inl (cT 4, 1024, .inr (.inr (.inr (.inr f60)))))] s.heap := hP
  have hl := lv_entry ([.ref a0, .int x5, .int 1, .int x10, .int x15]) (n := 5) (Nat.le_of_ble_eq_true rfl)
  rw [lg_entry_eq]
  generalize (lg_sl ([.ref a0, .int x5, .int 1, .int x10, .int x15]) ++ List.replicate (5 - (lg_sl ([.ref a0, .int x5, .int 1, .int x10, .int x15])).length) Slot.unset).toArray = ls at hl ⊢
  have hl : lv_has ls 5 [(0, .ref a0), (1, .int x5), (2, .int 1), (3, .int x10), (4, .int x15)] := hl
  refine lv_aload_n hx hb dM_sort0_0 rfl (lv_at hl 0 rfl) ?_
  obtain ⟨hPc, hDc, hFc⟩ := xcut (wc := [(a0, .inr (5, [v20, .ref a4, v21, v22, v23, v24, v25, v26, v27, v28, v29, v30, v31, v32, v33, v34, v35, v36, v37, v38, v39, v40, v41, v42, .ref a1, .ref a2, v43, v44, v45, v46, v47, v48]))]) hP hD hS hA [0] rfl rfl (by decide)
  refine va_callv (va_runV (C := "ValueBenchModel") (As := []) (rest := []) ⟨hx, hb, hml, hown, htx⟩ (cM_begin_0 l hl9 D cT aK aV s.heap.size a0 v20 (.ref a4) v21 v22 v23 v24 v25 v26 v27 v28 v29 v30 v31 v32 v33 v34 v35 v36 v37 v38 v39 v40 v41 v42 (.ref a1) (.ref a2) v43 v44 v45 v46 v47 v48) ⟨callB_of 0 htx (xw_goodC kw_5_209) rfl rfl rfl (htx _ kw_1_5) (htx _ kw_5_206) ⟨by decide, by decide, by decide +kernel⟩ ⟨Nat.le_of_ble_eq_true rfl, Nat.le_of_ble_eq_true rfl⟩, (htx _ kw_5_208), (htx _ kp_M_begin)⟩ ⟨xPre_blind, va_recv hK hP (ci := 5) rfl (q0 := 0) rfl, (fun U hU hW => ⟨rfl, xPre_of hZ hS hFc hPc hDc hK U hU hW⟩)⟩ rfl rfl hl.1 rfl (lv_room (Nat.le_of_ble_eq_true rfl)) dM_sort0_1 ⟨Nat.le_of_ble_eq_true rfl, Nat.le_of_ble_eq_true rfl⟩) hS (fun q _ h => hFc q h) hFc (fun u9 t H1 locs ht hvm hr9 hB hz1 hk1 hS => ?_)
  obtain ⟨hP1, hK1, hD1⟩ := hB
  rw [ht] at hP1
  obtain ⟨hP, hD⟩ := xjoin (W := [(a1, .inl (cT 5, 8, .inr (.inr (.inr (.inr f49))))), (a2, .inl (cT 1, 8, .inl f52)), (a3, .inl (cT 0, 4096, .inl f55)), (a4, .inl (cT 4, 1024, .inr (.inr (.inr (.inr f60))))), (a0, .inr (5, [.int 0, .ref a4, .int 0, v22, .int 0, v24, v25, .int 0, v27, .int 0, v29, v30, .int 0, v32, v33, v34, v35, v36, v37, v38, v39, v40, .int 0, .int 1000000000, .ref a1, .ref a2, v43, v44, v45, v46, v47, v48]))]) hP hD [0] [1, 2, 3, 4] 4 rfl rfl (by decide) (by decide) hk1 hFc hP1 hD1
  generalize H1 = H at hP hS ⊢
  refine lv_aload_n hx hb dM_sort0_4 rfl (lv_at hl 0 rfl) ?_
  refine lv_iload_n hx hb dM_sort0_5 rfl (lv_at hl 1 rfl) ?_
  obtain ⟨hPc, hDc, hFc⟩ := xcut (wc := []) hP hD hS hA [] rfl rfl (by decide)
  refine va_calli (va_runV (C := "ValueBenchModel") (As := [.int x5]) (rest := []) ⟨hx, hb, hml, hown, htx⟩ (cM_out_0 l hl9 D cT aK aV H.size a0 x5 h6 h7 h8 h9) ⟨callB_of 1 htx (xw_goodC kw_5_217) rfl rfl rfl (htx _ kw_1_5) (htx _ kw_5_214) ⟨by decide, by decide, by decide +kernel⟩ ⟨Nat.le_of_ble_eq_true rfl, Nat.le_of_ble_eq_true rfl⟩, (htx _ kw_5_216), (htx _ kp_M_out)⟩ ⟨xPre_blind, va_recv hK hP (ci := 5) rfl (q0 := 4) rfl, (fun U hU hW => ⟨rfl, xPre_of hZ hS hFc hPc hDc hK U hU hW⟩)⟩ rfl rfl hl.1 rfl (lv_room (Nat.le_of_ble_eq_true rfl)) dM_sort0_6 ⟨Nat.le_of_ble_eq_true rfl, Nat.le_of_ble_eq_true rfl⟩) hS (fun q _ h => hFc q h) hFc (fun r1 u9 t H1 locs ht hvm hr9 hB hz1 hk1 hS => ?_)
  obtain ⟨hP1, hK1, hD1⟩ := hB
  rw [ht] at hP1
  obtain ⟨hP, hD⟩ := xjoin (W := [(a1, .inl (cT 5, 8, .inr (.inr (.inr (.inr f49))))), (a2, .inl (cT 1, 8, .inl f52)), (a3, .inl (cT 0, 4096, .inl f55)), (a4, .inl (cT 4, 1024, .inr (.inr (.inr (.inr f60))))), (a0, .inr (5, [.int 0, .ref a4, .int 0, v22, .int 0, v24, v25, .int 0, v27, .int 0, v29, v30, .int 0, v32, v33, v34, v35, v36, v37, v38, v39, v40, .int 0, .int 1000000000, .ref a1, .ref a2, v43, v44, v45, v46, v47, v48]))]) hP hD [] [0, 1, 2, 3, 4] 5 rfl rfl (by decide) (by decide) hk1 hFc hP1 hD1
  generalize H1 = H at hP hS ⊢
  rw [hr9]
  refine W.eq (g2 := F0 m 9 ls [.int 0]) rfl ?_
  refine lv_if_ne (tgt := 38) hx hb dM_sort0_9 (by decide) (fun h => ((by revert h; decide : False)).elim) (fun _ => ?_)
  refine lv_iload_n hx hb dM_sort0_12 rfl (lv_at hl 2 rfl) ?_
  refine lv_if_lt (tgt := 38) hx hb dM_sort0_13 (by decide) (fun h => ((by revert h; decide : False)).elim) (fun _ => ?_)
  refine lv_iload_n hx hb dM_sort0_16 rfl (lv_at hl 2 rfl) ?_
  refine lv_iconst (v := 4) hx hb dM_sort0_17 (by decide) ?_
  refine lv_icmp_gt (tgt := 38) hx hb dM_sort0_18 (by decide) (fun h => ((by revert h; decide : False)).elim) (fun _ => ?_)
  refine lv_aload_n hx hb dM_sort0_21 rfl (lv_at hl 0 rfl) ?_
  refine lv_iload_n hx hb dM_sort0_22 rfl (lv_at hl 3 rfl) ?_
  obtain ⟨hPc, hDc, hFc⟩ := xcut (wc := []) hP hD hS hA [] rfl rfl (by decide)
  refine va_calli (va_runV (C := "ValueBenchModel") (As := [.int x10]) (rest := []) ⟨hx, hb, hml, hown, htx⟩ (cM_out_0 l hl9 D cT aK aV H.size a0 x10 h11 h12 h13 h14) ⟨callB_of 1 htx (xw_goodC kw_5_217) rfl rfl rfl (htx _ kw_1_5) (htx _ kw_5_214) ⟨by decide, by decide, by decide +kernel⟩ ⟨Nat.le_of_ble_eq_true rfl, Nat.le_of_ble_eq_true rfl⟩, (htx _ kw_5_216), (htx _ kp_M_out)⟩ ⟨xPre_blind, va_recv hK hP (ci := 5) rfl (q0 := 4) rfl, (fun U hU hW => ⟨rfl, xPre_of hZ hS hFc hPc hDc hK U hU hW⟩)⟩ rfl rfl hl.1 rfl (lv_room (Nat.le_of_ble_eq_true rfl)) dM_sort0_23 ⟨Nat.le_of_ble_eq_true rfl, Nat.le_of_ble_eq_true rfl⟩) hS (fun q _ h => hFc q h) hFc (fun r2 u9 t H1 locs ht hvm hr9 hB hz1 hk1 hS => ?_)
  obtain ⟨hP1, hK1, hD1⟩ := hB
  rw [ht] at hP1
  obtain ⟨hP, hD⟩ := xjoin (W := [(a1, .inl (cT 5, 8, .inr (.inr (.inr (.inr f49))))), (a2, .inl (cT 1, 8, .inl f52)), (a3, .inl (cT 0, 4096, .inl f55)), (a4, .inl (cT 4, 1024, .inr (.inr (.inr (.inr f60))))), (a0, .inr (5, [.int 0, .ref a4, .int 0, v22, .int 0, v24, v25, .int 0, v27, .int 0, v29, v30, .int 0, v32, v33, v34, v35, v36, v37, v38, v39, v40, .int 0, .int 1000000000, .ref a1, .ref a2, v43, v44, v45, v46, v47, v48]))]) hP hD [] [0, 1, 2, 3, 4] 5 rfl rfl (by decide) (by decide) hk1 hFc hP1 hD1
  generalize H1 = H at hP hS ⊢
  rw [hr9]
  refine W.eq (g2 := F0 m 26 ls [.int 0]) rfl ?_
  refine lv_if_ne (tgt := 38) hx hb dM_sort0_26 (by decide) (fun h => ((by revert h; decide : False)).elim) (fun _ => ?_)
  refine lv_aload_n hx hb dM_sort0_29 rfl (lv_at hl 0 rfl) ?_
  refine lv_iload hx hb dM_sort0_30 (lv_at hl 4 rfl) ?_
  obtain ⟨hPc, hDc, hFc⟩ := xcut (wc := []) hP hD hS hA [] rfl rfl (by decide)
  refine va_calli (va_runV (C := "ValueBenchModel") (As := [.int x15]) (rest := []) ⟨hx, hb, hml, hown, htx⟩ (cM_out_0 l hl9 D cT aK aV H.size a0 x15 h16 h17 h18 h19) ⟨callB_of 1 htx (xw_goodC kw_5_217) rfl rfl rfl (htx _ kw_1_5) (htx _ kw_5_214) ⟨by decide, by decide, by decide +kernel⟩ ⟨Nat.le_of_ble_eq_true rfl, Nat.le_of_ble_eq_true rfl⟩, (htx _ kw_5_216), (htx _ kp_M_out)⟩ ⟨xPre_blind, va_recv hK hP (ci := 5) rfl (q0 := 4) rfl, (fun U hU hW => ⟨rfl, xPre_of hZ hS hFc hPc hDc hK U hU hW⟩)⟩ rfl rfl hl.1 rfl (lv_room (Nat.le_of_ble_eq_true rfl)) dM_sort0_32 ⟨Nat.le_of_ble_eq_true rfl, Nat.le_of_ble_eq_true rfl⟩) hS (fun q _ h => hFc q h) hFc (fun r3 u9 t H1 locs ht hvm hr9 hB hz1 hk1 hS => ?_)
  obtain ⟨hP1, hK1, hD1⟩ := hB
  rw [ht] at hP1
  obtain ⟨hP, hD⟩ := xjoin (W := [(a1, .inl (cT 5, 8, .inr (.inr (.inr (.inr f49))))), (a2, .inl (cT 1, 8, .inl f52)), (a3, .inl (cT 0, 4096, .inl f55)), (a4, .inl (cT 4, 1024, .inr (.inr (.inr (.inr f60))))), (a0, .inr (5, [.int 0, .ref a4, .int 0, v22, .int 0, v24, v25, .int 0, v27, .int 0, v29, v30, .int 0, v32, v33, v34, v35, v36, v37, v38, v39, v40, .int 0, .int 1000000000, .ref a1, .ref a2, v43, v44, v45, v46, v47, v48]))]) hP hD [] [0, 1, 2, 3, 4] 5 rfl rfl (by decide) (by decide) hk1 hFc hP1 hD1
  generalize H1 = H at hP hS ⊢
  rw [hr9]
  refine W.eq (g2 := F0 m 35 ls [.int 0]) rfl ?_
  refine lv_if_eq (tgt := 46) hx hb dM_sort0_35 (by decide) (fun _ => ?_) (fun h => ((by revert h; decide : False)).elim)
  refine lv_aload_n hx hb dM_sort0_46 rfl (lv_at hl 0 rfl) ?_
  refine lv_iload_n hx hb dM_sort0_47 rfl (lv_at hl 1 rfl) ?_
  refine lv_iconst (v := 3) hx hb dM_sort0_48 (by decide) ?_
  refine lv_iload_n hx hb dM_sort0_49 rfl (lv_at hl 2 rfl) ?_
  refine lv_iload_n hx hb dM_sort0_50 rfl (lv_at hl 3 rfl) ?_
  refine lv_iload hx hb dM_sort0_51 (lv_at hl 4 rfl) ?_
  obtain ⟨hPc, hDc, hFc⟩ := xcut (wc := [(a0, .inr (5, [.int 0, .ref a4, .int 0, v22, .int 0, v24, v25, .int 0, v27, .int 0, v29, v30, .int 0, v32, v33, v34, v35, v36, v37, v38, v39, v40, .int 0, .int 1000000000, .ref a1, .ref a2, v43, v44, v45, v46, v47, v48])), (a1, .inl (cT 5, 8, .inr (.inr (.inr (.inr f49))))), (a2, .inl (cT 1, 8, .inl f52)), (a3, .inl (cT 0, 4096, .inl f55)), (a4, .inl (cT 4, 1024, .inr (.inr (.inr (.inr f60)))))]) hP hD hS hA [4, 0, 1, 2, 3] rfl rfl (by decide)
  refine va_callv (vx_runVW (C := "ValueBenchModel") (As := [.int x5, .int 3, .int 1, .int x10, .int x15]) (rest := []) ⟨hx, hb, hml, hown, htx⟩ (cM_finish_68 l hl9 D cT aK aV H.size a0 a1 a2 a3 a4 x5 1 x10 x15 (.int 0) v22 (.int 0) v24 v25 (.int 0) v27 (.int 0) v29 v30 (.int 0) v32 v33 v34 v35 v36 v37 v38 v39 v40 (.int 0) (.int 1000000000) v43 v44 v45 v46 v47 v48 f49 f52 f55 f60 h11 h12 h13 h14 h16 h17 h18 h19 (by first | rfl | exact h50 | exact h51 | exact h53 | exact h54 | exact h56 | exact h57 | exact h58 | exact h59 | exact h61 | exact h62) (by first | rfl | exact h50 | exact h51 | exact h53 | exact h54 | exact h56 | exact h57 | exact h58 | exact h59 | exact h61 | exact h62) (by first | rfl | exact h50 | exact h51 | exact h53 | exact h54 | exact h56 | exact h57 | exact h58 | exact h59 | exact h61 | exact h62) (by first | rfl | exact h50 | exact h51 | exact h53 | exact h54 | exact h56 | exact h57 | exact h58 | exact h59 | exact h61 | exact h62) (by first | rfl | exact h50 | exact h51 | exact h53 | exact h54 | exact h56 | exact h57 | exact h58 | exact h59 | exact h61 | exact h62) (by first | rfl | exact h50 | exact h51 | exact h53 | exact h54 | exact h56 | exact h57 | exact h58 | exact h59 | exact h61 | exact h62) (by first | rfl | exact h50 | exact h51 | exact h53 | exact h54 | exact h56 | exact h57 | exact h58 | exact h59 | exact h61 | exact h62) (by first | rfl | exact h50 | exact h51 | exact h53 | exact h54 | exact h56 | exact h57 | exact h58 | exact h59 | exact h61 | exact h62) (by first | rfl | exact h50 | exact h51 | exact h53 | exact h54 | exact h56 | exact h57 | exact h58 | exact h59 | exact h61 | exact h62) (by first | rfl | exact h50 | exact h51 | exact h53 | exact h54 | exact h56 | exact h57 | exact h58 | exact h59 | exact h61 | exact h62)) (xcVW 5 htx (xw_goodC kw_6_195) rfl rfl rfl (htx _ kw_1_5) (htx _ kw_6_192) ⟨by decide, by decide, by decide +kernel⟩ ⟨Nat.le_of_ble_eq_true rfl, Nat.le_of_ble_eq_true rfl⟩ (htx _ kw_6_194) (htx _ kp_M_finish)) ⟨xPre_blind, va_recv hK hP (ci := 5) rfl (q0 := 4) rfl, (fun U hU hW => ⟨rfl, xPre_of hZ hS hFc hPc hDc hK U hU hW⟩)⟩ rfl rfl hl.1 rfl (lv_room (Nat.le_of_ble_eq_true rfl)) dM_sort0_53 ⟨Nat.le_of_ble_eq_true rfl, Nat.le_of_ble_eq_true rfl⟩) hS (fun q _ h => hFc q h) hFc (fun u9 t H1 locs ht hvm hr9 hB hz1 hk1 hS => ?_)
  obtain ⟨q4, q5, hP1, hK1, hD1⟩ := hB
  rw [ht] at hP1
  obtain ⟨hP, hD⟩ := xjoin (W := [(a0, .inr (5, [.int 2, .ref a4, .int 2, v22, .int 0, v24, v25, .int 0, .int 1, .int 0, v29, v30, .int 0, v32, v33, .ref a3, .int 4, .int 4, .int 0, .int 100, v39, v40, .int 0, .int 1000000000, .ref a1, .ref a2, v43, v44, v45, v46, .int 1, v48])), (a1, .inl (cT 5, 8, .inr (.inr (.inr (.inr f49))))), (a2, .inl (cT 1, 8, .inl f52)), (a3, .inl (cT 0, 4096, .inl f55)), (a4, .inl (cT 4, 1024, .inr (.inr (.inr (.inr (va_up (va_up f60 0 (some q4)) 1 (some q5))))))), (q4, .inr (6, [.int 0, .long 0, .int 0, .int 0, .int 0, .int 1])), (q5, .inr (6, [.int 0, .long 0, .int 0, .int 0, .int 0, .int 1]))]) hP hD [4, 0, 1, 2, 3] [] 0 rfl rfl (by decide) (by decide) hk1 hFc hP1 hD1
  generalize H1 = H at hP hS ⊢
  obtain ⟨hP9, hD9⟩ := xsub (wc := [(a0, .inr (5, [.int 2, .ref a4, .int 2, v22, .int 0, v24, v25, .int 0, .int 1, .int 0, v29, v30, .int 0, v32, v33, .ref a3, .int 4, .int 4, .int 0, .int 100, v39, v40, .int 0, .int 1000000000, .ref a1, .ref a2, v43, v44, v45, v46, .int 1, v48])), (a1, .inl (cT 5, 8, .inr (.inr (.inr (.inr f49))))), (a2, .inl (cT 1, 8, .inl f52)), (a3, .inl (cT 0, 4096, .inl f55)), (a4, .inl (cT 4, 1024, .inr (.inr (.inr (.inr (va_up (va_up f60 0 (some q4)) 1 (some q5))))))), (q4, .inr (6, [.int 0, .long 0, .int 0, .int 0, .int 0, .int 1])), (q5, .inr (6, [.int 0, .long 0, .int 0, .int 0, .int 0, .int 1]))]) hP hD [0, 1, 2, 3, 4, 5, 6] rfl rfl (by decide)
  refine W.widen (k := 3) (n := 18) (Nat.le_of_ble_eq_true rfl) (Nat.le_of_ble_eq_true rfl) ?_
  exact W.vret hx hb hr (fun t ht hW => ⟨⟨(), rfl, trivial, q4, q5, by rw [ht]; exact hP9, va_K.moved hW.alike hK, hD9⟩, hS.F ht⟩) hS.2.2 dM_sort0_56
set_option maxHeartbeats 400000000 in
set_option maxRecDepth 100000 in
theorem cM_sort0_4 (l : Launch) (hl9 : l.stackTraces = false) (D : va_G) (cT : Nat → ClassId) (aK aV : Nat → Nat) (sz : Nat) (a0 : Nat) (a1 : Nat) (a2 : Nat) (a3 : Nat) (a4 : Nat) (a5 : Nat) (x6 : Int32) (x11 : Int32) (x16 : Int32) (v21 : Value) (v22 : Value) (v23 : Value) (v24 : Value) (v25 : Value) (v26 : Value) (v27 : Value) (v28 : Value) (v29 : Value) (v30 : Value) (v31 : Value) (v32 : Value) (v33 : Value) (v34 : Value) (v35 : Value) (v36 : Value) (v37 : Value) (v38 : Value) (v39 : Value) (v40 : Value) (v41 : Value) (v42 : Value) (v43 : Value) (v44 : Value) (v45 : Value) (v46 : Value) (v47 : Value) (v48 : Value) (v49 : Value) (f50 : Nat → Option Nat) (f53 : Nat → Int32) (f56 : Nat → Int32) (f61 : Nat → Option Nat) (f64 : Nat → Int32) (h7 : ¬ x6 < 0) (h8 : ¬ 7 < x6) (h9 : x6 ≤ 7) (h10 : vp_in x6 8) (h12 : ¬ x11 < 0) (h13 : ¬ 7 < x11) (h14 : x11 ≤ 7) (h15 : vp_in x11 8) (h17 : ¬ x16 < 0) (h18 : ¬ 7 < x16) (h19 : x16 ≤ 7) (h20 : vp_in x16 8) (h51 : f50 x11.toNatClampNeg = some a3) (h52 : f50 x16.toNatClampNeg = some a5) (h54 : f53 x11.toNatClampNeg = 4) (h55 : f53 x16.toNatClampNeg = 4) (h57 : f56 0 = 110) (h58 : f56 1 = 117) (h59 : f56 2 = 108) (h60 : f56 3 = 108) (h62 : f61 0 = none) (h63 : f61 1 = none) (h65 : f64 0 = 110) (h66 : f64 1 = 117) (h67 : f64 2 = 108) (h68 : f64 3 = 108) : xMet l yM_sort0 wyM_sort0 9 3 18 204 D cT aK aV sz [.ref a0, .int x6, .int 2, .int x11, .int x16] [(a0, .inr (5, [v21, .ref a4, v22, v23, v24, v25, v26, v27, v28, v29, v30, v31, v32, v33, v34, v35, v36, v37, v38, v39, v40, v41, v42, v43, .ref a1, .ref a2, v44, v45, v46, v47, v48, v49])), (a1, .inl (cT 5, 8, .inr (.inr (.inr (.inr f50))))), (a2, .inl (cT 1, 8, .inl f53)), (a3, .inl (cT 0, 4096, .inl f56)), (a4, .inl (cT 4, 1024, .inr (.inr (.inr (.inr f61))))), (a5, .inl (cT 0, 4096, .inl f64))] (fun A => va_Qv (fun _ : Unit => True) (fun _ t => ∃ (q4 : Nat) (q5 : Nat), xB D xcl cT A [(a0, .inr (5, [.int 2, .ref a4, .int 2, v23, .int 0, v25, v26, .int 0, .int 1, .int 0, v30, v31, .int 0, v33, v34, .ref a5, .int 4, .int 4, .int 0, .int 100, v40, v41, .int 0, .int 1000000000, .ref a1, .ref a2, v44, v45, v46, v47, .int 1, v49])), (a1, .inl (cT 5, 8, .inr (.inr (.inr (.inr f50))))), (a2, .inl (cT 1, 8, .inl f53)), (a3, .inl (cT 0, 4096, .inl f56)), (a4, .inl (cT 4, 1024, .inr (.inr (.inr (.inr (va_up (va_up f61 0 (some q4)) 1 (some q5))))))), (a5, .inl (cT 0, 4096, .inl f64)), (q4, .inr (6, [.int 0, .long 0, .int 0, .int 0, .int 0, .int 1])), (q5, .inr (6, [.int 0, .long 0, .int 0, .int 0, .int 0, .int 1]))] t) A) := by
  refine Met.ofW (cc := prog_13_method_94_code) (maxL := 5) (ret := none) (by decide) rfl ?_
  intro p e s m args below meth c s₁ B hml hv
  obtain ⟨rfl, hsz, hZ, hP, hK, hD0⟩ := hv
  have hx := B.exec
  have hb := B.bytes
  have hr := B.returns
  have hts := atoms_spec (ws := wyM_sort0) B.pre
  have htx := fun w h => hts w (List.mem_cons_of_mem _ h)
  have hown : s.vm.findClass "ValueBenchModel" = some m.cls := findClass_of_methodNamed B.named
  have hlocks := B.notSynchronized
  subst hsz
  have hD := hD0.self (sz := s.heap.size)
  generalize hAe : va_A [(a0, .inr (5, [v21, .ref a4, v22, v23, v24, v25, v26, v27, v28, v29, v30, v31, v32, v33, v34, v35, v36, v37, v38, v39, v40, v41, v42, v43, .ref a1, .ref a2, v44, v45, v46, v47, v48, v49])), (a1, .inl (cT 5, 8, .inr (.inr (.inr (.inr f50))))), (a2, .inl (cT 1, 8, .inl f53)), (a3, .inl (cT 0, 4096, .inl f56)), (a4, .inl (cT 4, 1024, .inr (.inr (.inr (.inr f61))))), (a5, .inl (cT 0, 4096, .inl f64))] s.heap.size = A at hD hZ ⊢
  have hA : ∀ q : Nat, s.heap.size ≤ q → A q := fun q h => by rw [← hAe]; exact Or.inr h
  have hS : va_S A s.heap s.heap [] := va_S.rf
  have hP : va_P D xcl [(a0, .inr (5, [v21, .ref a4, v22, v23, v24, v25, v26, v27, v28, v29, v30, v31, v32, v33, v34, v35, v36, v37, v38, v39, v40, v41, v42, v43, .ref a1, .ref a2, v44, v45, v46, v47, v48, v49])), (a1, .inl (cT 5, 8, .inr (.inr (.inr (.inr f50))))), (a2, .inl (cT 1, 8, .inl f53)), (a3, .inl (cT 0, 4096, .inl f56)), (a4, .inl (cT 4, 1024, .inr (.inr (.inr (.inr f61))))), (a5, .inl (cT 0, 4096, .inl f64))] s.heap := hP
  have hl := lv_entry ([.ref a0, .int x6, .int 2, .int x11, .int x16]) (n := 5) (Nat.le_of_ble_eq_true rfl)
  rw [lg_entry_eq]
  generalize (lg_sl ([.ref a0, .int x6, .int 2, .int x11, .int x16]) ++ List.replicate (5 - (lg_sl ([.ref a0, .int x6, .int 2, .int x11, .int x16])).length) Slot.unset).toArray = ls at hl ⊢
  have hl : lv_has ls 5 [(0, .ref a0), (1, .int x6), (2, .int 2), (3, .int x11), (4, .int x16)] := hl
  refine lv_aload_n hx hb dM_sort0_0 rfl (lv_at hl 0 rfl) ?_
  obtain ⟨hPc, hDc, hFc⟩ := xcut (wc := [(a0, .inr (5, [v21, .ref a4, v22, v23, v24, v25, v26, v27, v28, v29, v30, v31, v32, v33, v34, v35, v36, v37, v38, v39, v40, v41, v42, v43, .ref a1, .ref a2, v44, v45, v46, v47, v48, v49]))]) hP hD hS hA [0] rfl rfl (by decide)
  refine va_callv (va_runV (C := "ValueBenchModel") (As := []) (rest := []) ⟨hx, hb, hml, hown, htx⟩ (cM_begin_0 l hl9 D cT aK aV s.heap.size a0 v21 (.ref a4) v22 v23 v24 v25 v26 v27 v28 v29 v30 v31 v32 v33 v34 v35 v36 v37 v38 v39 v40 v41 v42 v43 (.ref a1) (.ref a2) v44 v45 v46 v47 v48 v49) ⟨callB_of 0 htx (xw_goodC kw_5_209) rfl rfl rfl (htx _ kw_1_5) (htx _ kw_5_206) ⟨by decide, by decide, by decide +kernel⟩ ⟨Nat.le_of_ble_eq_true rfl, Nat.le_of_ble_eq_true rfl⟩, (htx _ kw_5_208), (htx _ kp_M_begin)⟩ ⟨xPre_blind, va_recv hK hP (ci := 5) rfl (q0 := 0) rfl, (fun U hU hW => ⟨rfl, xPre_of hZ hS hFc hPc hDc hK U hU hW⟩)⟩ rfl rfl hl.1 rfl (lv_room (Nat.le_of_ble_eq_true rfl)) dM_sort0_1 ⟨Nat.le_of_ble_eq_true rfl, Nat.le_of_ble_eq_true rfl⟩) hS (fun q _ h => hFc q h) hFc (fun u9 t H1 locs ht hvm hr9 hB hz1 hk1 hS => ?_)
  obtain ⟨hP1, hK1, hD1⟩ := hB
  rw [ht] at hP1
  obtain ⟨hP, hD⟩ := xjoin (W := [(a1, .inl (cT 5, 8, .inr (.inr (.inr (.inr f50))))), (a2, .inl (cT 1, 8, .inl f53)), (a3, .inl (cT 0, 4096, .inl f56)), (a4, .inl (cT 4, 1024, .inr (.inr (.inr (.inr f61))))), (a5, .inl (cT 0, 4096, .inl f64)), (a0, .inr (5, [.int 0, .ref a4, .int 0, v23, .int 0, v25, v26, .int 0, v28, .int 0, v30, v31, .int 0, v33, v34, v35, v36, v37, v38, v39, v40, v41, .int 0, .int 1000000000, .ref a1, .ref a2, v44, v45, v46, v47, v48, v49]))]) hP hD [0] [1, 2, 3, 4, 5] 5 rfl rfl (by decide) (by decide) hk1 hFc hP1 hD1
  generalize H1 = H at hP hS ⊢
  refine lv_aload_n hx hb dM_sort0_4 rfl (lv_at hl 0 rfl) ?_
  refine lv_iload_n hx hb dM_sort0_5 rfl (lv_at hl 1 rfl) ?_
  obtain ⟨hPc, hDc, hFc⟩ := xcut (wc := []) hP hD hS hA [] rfl rfl (by decide)
  refine va_calli (va_runV (C := "ValueBenchModel") (As := [.int x6]) (rest := []) ⟨hx, hb, hml, hown, htx⟩ (cM_out_0 l hl9 D cT aK aV H.size a0 x6 h7 h8 h9 h10) ⟨callB_of 1 htx (xw_goodC kw_5_217) rfl rfl rfl (htx _ kw_1_5) (htx _ kw_5_214) ⟨by decide, by decide, by decide +kernel⟩ ⟨Nat.le_of_ble_eq_true rfl, Nat.le_of_ble_eq_true rfl⟩, (htx _ kw_5_216), (htx _ kp_M_out)⟩ ⟨xPre_blind, va_recv hK hP (ci := 5) rfl (q0 := 5) rfl, (fun U hU hW => ⟨rfl, xPre_of hZ hS hFc hPc hDc hK U hU hW⟩)⟩ rfl rfl hl.1 rfl (lv_room (Nat.le_of_ble_eq_true rfl)) dM_sort0_6 ⟨Nat.le_of_ble_eq_true rfl, Nat.le_of_ble_eq_true rfl⟩) hS (fun q _ h => hFc q h) hFc (fun r1 u9 t H1 locs ht hvm hr9 hB hz1 hk1 hS => ?_)
  obtain ⟨hP1, hK1, hD1⟩ := hB
  rw [ht] at hP1
  obtain ⟨hP, hD⟩ := xjoin (W := [(a1, .inl (cT 5, 8, .inr (.inr (.inr (.inr f50))))), (a2, .inl (cT 1, 8, .inl f53)), (a3, .inl (cT 0, 4096, .inl f56)), (a4, .inl (cT 4, 1024, .inr (.inr (.inr (.inr f61))))), (a5, .inl (cT 0, 4096, .inl f64)), (a0, .inr (5, [.int 0, .ref a4, .int 0, v23, .int 0, v25, v26, .int 0, v28, .int 0, v30, v31, .int 0, v33, v34, v35, v36, v37, v38, v39, v40, v41, .int 0, .int 1000000000, .ref a1, .ref a2, v44, v45, v46, v47, v48, v49]))]) hP hD [] [0, 1, 2, 3, 4, 5] 6 rfl rfl (by decide) (by decide) hk1 hFc hP1 hD1
  generalize H1 = H at hP hS ⊢
  rw [hr9]
  refine W.eq (g2 := F0 m 9 ls [.int 0]) rfl ?_
  refine lv_if_ne (tgt := 38) hx hb dM_sort0_9 (by decide) (fun h => ((by revert h; decide : False)).elim) (fun _ => ?_)
  refine lv_iload_n hx hb dM_sort0_12 rfl (lv_at hl 2 rfl) ?_
  refine lv_if_lt (tgt := 38) hx hb dM_sort0_13 (by decide) (fun h => ((by revert h; decide : False)).elim) (fun _ => ?_)
  refine lv_iload_n hx hb dM_sort0_16 rfl (lv_at hl 2 rfl) ?_
  refine lv_iconst (v := 4) hx hb dM_sort0_17 (by decide) ?_
  refine lv_icmp_gt (tgt := 38) hx hb dM_sort0_18 (by decide) (fun h => ((by revert h; decide : False)).elim) (fun _ => ?_)
  refine lv_aload_n hx hb dM_sort0_21 rfl (lv_at hl 0 rfl) ?_
  refine lv_iload_n hx hb dM_sort0_22 rfl (lv_at hl 3 rfl) ?_
  obtain ⟨hPc, hDc, hFc⟩ := xcut (wc := []) hP hD hS hA [] rfl rfl (by decide)
  refine va_calli (va_runV (C := "ValueBenchModel") (As := [.int x11]) (rest := []) ⟨hx, hb, hml, hown, htx⟩ (cM_out_0 l hl9 D cT aK aV H.size a0 x11 h12 h13 h14 h15) ⟨callB_of 1 htx (xw_goodC kw_5_217) rfl rfl rfl (htx _ kw_1_5) (htx _ kw_5_214) ⟨by decide, by decide, by decide +kernel⟩ ⟨Nat.le_of_ble_eq_true rfl, Nat.le_of_ble_eq_true rfl⟩, (htx _ kw_5_216), (htx _ kp_M_out)⟩ ⟨xPre_blind, va_recv hK hP (ci := 5) rfl (q0 := 5) rfl, (fun U hU hW => ⟨rfl, xPre_of hZ hS hFc hPc hDc hK U hU hW⟩)⟩ rfl rfl hl.1 rfl (lv_room (Nat.le_of_ble_eq_true rfl)) dM_sort0_23 ⟨Nat.le_of_ble_eq_true rfl, Nat.le_of_ble_eq_true rfl⟩) hS (fun q _ h => hFc q h) hFc (fun r2 u9 t H1 locs ht hvm hr9 hB hz1 hk1 hS => ?_)
  obtain ⟨hP1, hK1, hD1⟩ := hB
  rw [ht] at hP1
  obtain ⟨hP, hD⟩ := xjoin (W := [(a1, .inl (cT 5, 8, .inr (.inr (.inr (.inr f50))))), (a2, .inl (cT 1, 8, .inl f53)), (a3, .inl (cT 0, 4096, .inl f56)), (a4, .inl (cT 4, 1024, .inr (.inr (.inr (.inr f61))))), (a5, .inl (cT 0, 4096, .inl f64)), (a0, .inr (5, [.int 0, .ref a4, .int 0, v23, .int 0, v25, v26, .int 0, v28, .int 0, v30, v31, .int 0, v33, v34, v35, v36, v37, v38, v39, v40, v41, .int 0, .int 1000000000, .ref a1, .ref a2, v44, v45, v46, v47, v48, v49]))]) hP hD [] [0, 1, 2, 3, 4, 5] 6 rfl rfl (by decide) (by decide) hk1 hFc hP1 hD1
  generalize H1 = H at hP hS ⊢
  rw [hr9]
  refine W.eq (g2 := F0 m 26 ls [.int 0]) rfl ?_
  refine lv_if_ne (tgt := 38) hx hb dM_sort0_26 (by decide) (fun h => ((by revert h; decide : False)).elim) (fun _ => ?_)
  refine lv_aload_n hx hb dM_sort0_29 rfl (lv_at hl 0 rfl) ?_
  refine lv_iload hx hb dM_sort0_30 (lv_at hl 4 rfl) ?_
  obtain ⟨hPc, hDc, hFc⟩ := xcut (wc := []) hP hD hS hA [] rfl rfl (by decide)
  refine va_calli (va_runV (C := "ValueBenchModel") (As := [.int x16]) (rest := []) ⟨hx, hb, hml, hown, htx⟩ (cM_out_0 l hl9 D cT aK aV H.size a0 x16 h17 h18 h19 h20) ⟨callB_of 1 htx (xw_goodC kw_5_217) rfl rfl rfl (htx _ kw_1_5) (htx _ kw_5_214) ⟨by decide, by decide, by decide +kernel⟩ ⟨Nat.le_of_ble_eq_true rfl, Nat.le_of_ble_eq_true rfl⟩, (htx _ kw_5_216), (htx _ kp_M_out)⟩ ⟨xPre_blind, va_recv hK hP (ci := 5) rfl (q0 := 5) rfl, (fun U hU hW => ⟨rfl, xPre_of hZ hS hFc hPc hDc hK U hU hW⟩)⟩ rfl rfl hl.1 rfl (lv_room (Nat.le_of_ble_eq_true rfl)) dM_sort0_32 ⟨Nat.le_of_ble_eq_true rfl, Nat.le_of_ble_eq_true rfl⟩) hS (fun q _ h => hFc q h) hFc (fun r3 u9 t H1 locs ht hvm hr9 hB hz1 hk1 hS => ?_)
  obtain ⟨hP1, hK1, hD1⟩ := hB
  rw [ht] at hP1
  obtain ⟨hP, hD⟩ := xjoin (W := [(a1, .inl (cT 5, 8, .inr (.inr (.inr (.inr f50))))), (a2, .inl (cT 1, 8, .inl f53)), (a3, .inl (cT 0, 4096, .inl f56)), (a4, .inl (cT 4, 1024, .inr (.inr (.inr (.inr f61))))), (a5, .inl (cT 0, 4096, .inl f64)), (a0, .inr (5, [.int 0, .ref a4, .int 0, v23, .int 0, v25, v26, .int 0, v28, .int 0, v30, v31, .int 0, v33, v34, v35, v36, v37, v38, v39, v40, v41, .int 0, .int 1000000000, .ref a1, .ref a2, v44, v45, v46, v47, v48, v49]))]) hP hD [] [0, 1, 2, 3, 4, 5] 6 rfl rfl (by decide) (by decide) hk1 hFc hP1 hD1
  generalize H1 = H at hP hS ⊢
  rw [hr9]
  refine W.eq (g2 := F0 m 35 ls [.int 0]) rfl ?_
  refine lv_if_eq (tgt := 46) hx hb dM_sort0_35 (by decide) (fun _ => ?_) (fun h => ((by revert h; decide : False)).elim)
  refine lv_aload_n hx hb dM_sort0_46 rfl (lv_at hl 0 rfl) ?_
  refine lv_iload_n hx hb dM_sort0_47 rfl (lv_at hl 1 rfl) ?_
  refine lv_iconst (v := 3) hx hb dM_sort0_48 (by decide) ?_
  refine lv_iload_n hx hb dM_sort0_49 rfl (lv_at hl 2 rfl) ?_
  refine lv_iload_n hx hb dM_sort0_50 rfl (lv_at hl 3 rfl) ?_
  refine lv_iload hx hb dM_sort0_51 (lv_at hl 4 rfl) ?_
  obtain ⟨hPc, hDc, hFc⟩ := xcut (wc := [(a0, .inr (5, [.int 0, .ref a4, .int 0, v23, .int 0, v25, v26, .int 0, v28, .int 0, v30, v31, .int 0, v33, v34, v35, v36, v37, v38, v39, v40, v41, .int 0, .int 1000000000, .ref a1, .ref a2, v44, v45, v46, v47, v48, v49])), (a1, .inl (cT 5, 8, .inr (.inr (.inr (.inr f50))))), (a2, .inl (cT 1, 8, .inl f53)), (a3, .inl (cT 0, 4096, .inl f56)), (a4, .inl (cT 4, 1024, .inr (.inr (.inr (.inr f61))))), (a5, .inl (cT 0, 4096, .inl f64))]) hP hD hS hA [5, 0, 1, 2, 3, 4] rfl rfl (by decide)
  refine va_callv (vx_runVW (C := "ValueBenchModel") (As := [.int x6, .int 3, .int 2, .int x11, .int x16]) (rest := []) ⟨hx, hb, hml, hown, htx⟩ (cM_finish_67 l hl9 D cT aK aV H.size a0 a1 a2 a3 a4 a5 x6 2 x11 x16 (.int 0) v23 (.int 0) v25 v26 (.int 0) v28 (.int 0) v30 v31 (.int 0) v33 v34 v35 v36 v37 v38 v39 v40 v41 (.int 0) (.int 1000000000) v44 v45 v46 v47 v48 v49 f50 f53 f56 f61 f64 h12 h13 h14 h15 h17 h18 h19 h20 (by first | rfl | exact h51 | exact h52 | exact h54 | exact h55 | exact h57 | exact h58 | exact h59 | exact h60 | exact h62 | exact h63 | exact h65 | exact h66 | exact h67 | exact h68) (by first | rfl | exact h51 | exact h52 | exact h54 | exact h55 | exact h57 | exact h58 | exact h59 | exact h60 | exact h62 | exact h63 | exact h65 | exact h66 | exact h67 | exact h68) (by first | rfl | exact h51 | exact h52 | exact h54 | exact h55 | exact h57 | exact h58 | exact h59 | exact h60 | exact h62 | exact h63 | exact h65 | exact h66 | exact h67 | exact h68) (by first | rfl | exact h51 | exact h52 | exact h54 | exact h55 | exact h57 | exact h58 | exact h59 | exact h60 | exact h62 | exact h63 | exact h65 | exact h66 | exact h67 | exact h68) (by first | rfl | exact h51 | exact h52 | exact h54 | exact h55 | exact h57 | exact h58 | exact h59 | exact h60 | exact h62 | exact h63 | exact h65 | exact h66 | exact h67 | exact h68) (by first | rfl | exact h51 | exact h52 | exact h54 | exact h55 | exact h57 | exact h58 | exact h59 | exact h60 | exact h62 | exact h63 | exact h65 | exact h66 | exact h67 | exact h68) (by first | rfl | exact h51 | exact h52 | exact h54 | exact h55 | exact h57 | exact h58 | exact h59 | exact h60 | exact h62 | exact h63 | exact h65 | exact h66 | exact h67 | exact h68) (by first | rfl | exact h51 | exact h52 | exact h54 | exact h55 | exact h57 | exact h58 | exact h59 | exact h60 | exact h62 | exact h63 | exact h65 | exact h66 | exact h67 | exact h68) (by first | rfl | exact h51 | exact h52 | exact h54 | exact h55 | exact h57 | exact h58 | exact h59 | exact h60 | exact h62 | exact h63 | exact h65 | exact h66 | exact h67 | exact h68) (by first | rfl | exact h51 | exact h52 | exact h54 | exact h55 | exact h57 | exact h58 | exact h59 | exact h60 | exact h62 | exact h63 | exact h65 | exact h66 | exact h67 | exact h68) (by first | rfl | exact h51 | exact h52 | exact h54 | exact h55 | exact h57 | exact h58 | exact h59 | exact h60 | exact h62 | exact h63 | exact h65 | exact h66 | exact h67 | exact h68) (by first | rfl | exact h51 | exact h52 | exact h54 | exact h55 | exact h57 | exact h58 | exact h59 | exact h60 | exact h62 | exact h63 | exact h65 | exact h66 | exact h67 | exact h68) (by first | rfl | exact h51 | exact h52 | exact h54 | exact h55 | exact h57 | exact h58 | exact h59 | exact h60 | exact h62 | exact h63 | exact h65 | exact h66 | exact h67 | exact h68) (by first | rfl | exact h51 | exact h52 | exact h54 | exact h55 | exact h57 | exact h58 | exact h59 | exact h60 | exact h62 | exact h63 | exact h65 | exact h66 | exact h67 | exact h68)) (xcVW 5 htx (xw_goodC kw_6_195) rfl rfl rfl (htx _ kw_1_5) (htx _ kw_6_192) ⟨by decide, by decide, by decide +kernel⟩ ⟨Nat.le_of_ble_eq_true rfl, Nat.le_of_ble_eq_true rfl⟩ (htx _ kw_6_194) (htx _ kp_M_finish)) ⟨xPre_blind, va_recv hK hP (ci := 5) rfl (q0 := 5) rfl, (fun U hU hW => ⟨rfl, xPre_of hZ hS hFc hPc hDc hK U hU hW⟩)⟩ rfl rfl hl.1 rfl (lv_room (Nat.le_of_ble_eq_true rfl)) dM_sort0_53 ⟨Nat.le_of_ble_eq_true rfl, Nat.le_of_ble_eq_true rfl⟩) hS (fun q _ h => hFc q h) hFc (fun u9 t H1 locs ht hvm hr9 hB hz1 hk1 hS => ?_)
  obtain ⟨q4, q5, hP1, hK1, hD1⟩ := hB
  rw [ht] at hP1
  obtain ⟨hP, hD⟩ := xjoin (W := [(a0, .inr (5, [.int 2, .ref a4, .int 2, v23, .int 0, v25, v26, .int 0, .int 1, .int 0, v30, v31, .int 0, v33, v34, .ref a5, .int 4, .int 4, .int 0, .int 100, v40, v41, .int 0, .int 1000000000, .ref a1, .ref a2, v44, v45, v46, v47, .int 1, v49])), (a1, .inl (cT 5, 8, .inr (.inr (.inr (.inr f50))))), (a2, .inl (cT 1, 8, .inl f53)), (a3, .inl (cT 0, 4096, .inl f56)), (a4, .inl (cT 4, 1024, .inr (.inr (.inr (.inr (va_up (va_up f61 0 (some q4)) 1 (some q5))))))), (a5, .inl (cT 0, 4096, .inl f64)), (q4, .inr (6, [.int 0, .long 0, .int 0, .int 0, .int 0, .int 1])), (q5, .inr (6, [.int 0, .long 0, .int 0, .int 0, .int 0, .int 1]))]) hP hD [5, 0, 1, 2, 3, 4] [] 0 rfl rfl (by decide) (by decide) hk1 hFc hP1 hD1
  generalize H1 = H at hP hS ⊢
  obtain ⟨hP9, hD9⟩ := xsub (wc := [(a0, .inr (5, [.int 2, .ref a4, .int 2, v23, .int 0, v25, v26, .int 0, .int 1, .int 0, v30, v31, .int 0, v33, v34, .ref a5, .int 4, .int 4, .int 0, .int 100, v40, v41, .int 0, .int 1000000000, .ref a1, .ref a2, v44, v45, v46, v47, .int 1, v49])), (a1, .inl (cT 5, 8, .inr (.inr (.inr (.inr f50))))), (a2, .inl (cT 1, 8, .inl f53)), (a3, .inl (cT 0, 4096, .inl f56)), (a4, .inl (cT 4, 1024, .inr (.inr (.inr (.inr (va_up (va_up f61 0 (some q4)) 1 (some q5))))))), (a5, .inl (cT 0, 4096, .inl f64)), (q4, .inr (6, [.int 0, .long 0, .int 0, .int 0, .int 0, .int 1])), (q5, .inr (6, [.int 0, .long 0, .int 0, .int 0, .int 0, .int 1]))]) hP hD [0, 1, 2, 3, 4, 5, 6, 7] rfl rfl (by decide)
  refine W.widen (k := 3) (n := 18) (Nat.le_of_ble_eq_true rfl) (Nat.le_of_ble_eq_true rfl) ?_
  exact W.vret hx hb hr (fun t ht hW => ⟨⟨(), rfl, trivial, q4, q5, by rw [ht]; exact hP9, va_K.moved hW.alike hK, hD9⟩, hS.F ht⟩) hS.2.2 dM_sort0_56
set_option maxHeartbeats 400000000 in
set_option maxRecDepth 100000 in
theorem cM_sort0_5 (l : Launch) (hl9 : l.stackTraces = false) (D : va_G) (cT : Nat → ClassId) (aK aV : Nat → Nat) (sz : Nat) (a0 : Nat) (a1 : Nat) (a2 : Nat) (a3 : Nat) (a4 : Nat) (x5 : Int32) (x10 : Int32) (x15 : Int32) (v20 : Value) (v21 : Value) (v22 : Value) (v23 : Value) (v24 : Value) (v25 : Value) (v26 : Value) (v27 : Value) (v28 : Value) (v29 : Value) (v30 : Value) (v31 : Value) (v32 : Value) (v33 : Value) (v34 : Value) (v35 : Value) (v36 : Value) (v37 : Value) (v38 : Value) (v39 : Value) (v40 : Value) (v41 : Value) (v42 : Value) (v43 : Value) (v44 : Value) (v45 : Value) (v46 : Value) (v47 : Value) (v48 : Value) (f49 : Nat → Option Nat) (f52 : Nat → Int32) (f55 : Nat → Int32) (f60 : Nat → Option Nat) (h6 : ¬ x5 < 0) (h7 : ¬ 7 < x5) (h8 : x5 ≤ 7) (h9 : vp_in x5 8) (h11 : ¬ x10 < 0) (h12 : ¬ 7 < x10) (h13 : x10 ≤ 7) (h14 : vp_in x10 8) (h16 : ¬ x15 < 0) (h17 : ¬ 7 < x15) (h18 : x15 ≤ 7) (h19 : vp_in x15 8) (h50 : f49 x10.toNatClampNeg = some a3) (h51 : f49 x15.toNatClampNeg = some a3) (h53 : f52 x10.toNatClampNeg = 4) (h54 : f52 x15.toNatClampNeg = 4) (h56 : f55 0 = 110) (h57 : f55 1 = 117) (h58 : f55 2 = 108) (h59 : f55 3 = 108) (h61 : f60 0 = none) (h62 : f60 1 = none) : xMet l yM_sort0 wyM_sort0 9 3 18 204 D cT aK aV sz [.ref a0, .int x5, .int 2, .int x10, .int x15] [(a0, .inr (5, [v20, .ref a4, v21, v22, v23, v24, v25, v26, v27, v28, v29, v30, v31, v32, v33, v34, v35, v36, v37, v38, v39, v40, v41, v42, .ref a1, .ref a2, v43, v44, v45, v46, v47, v48])), (a1, .inl (cT 5, 8, .inr (.inr (.inr (.inr f49))))), (a2, .inl (cT 1, 8, .inl f52)), (a3, .inl (cT 0, 4096, .inl f55)), (a4, .inl (cT 4, 1024, .inr (.inr (.inr (.inr f60)))))] (fun A => va_Qv (fun _ : Unit => True) (fun _ t => ∃ (q4 : Nat) (q5 : Nat), xB D xcl cT A [(a0, .inr (5, [.int 2, .ref a4, .int 2, v22, .int 0, v24, v25, .int 0, .int 1, .int 0, v29, v30, .int 0, v32, v33, .ref a3, .int 4, .int 4, .int 0, .int 100, v39, v40, .int 0, .int 1000000000, .ref a1, .ref a2, v43, v44, v45, v46, .int 1, v48])), (a1, .inl (cT 5, 8, .inr (.inr (.inr (.inr f49))))), (a2, .inl (cT 1, 8, .inl f52)), (a3, .inl (cT 0, 4096, .inl f55)), (a4, .inl (cT 4, 1024, .inr (.inr (.inr (.inr (va_up (va_up f60 0 (some q4)) 1 (some q5))))))), (q4, .inr (6, [.int 0, .long 0, .int 0, .int 0, .int 0, .int 1])), (q5, .inr (6, [.int 0, .long 0, .int 0, .int 0, .int 0, .int 1]))] t) A) := by
  refine Met.ofW (cc := prog_13_method_94_code) (maxL := 5) (ret := none) (by decide) rfl ?_
  intro p e s m args below meth c s₁ B hml hv
  obtain ⟨rfl, hsz, hZ, hP, hK, hD0⟩ := hv
  have hx := B.exec
  have hb := B.bytes
  have hr := B.returns
  have hts := atoms_spec (ws := wyM_sort0) B.pre
  have htx := fun w h => hts w (List.mem_cons_of_mem _ h)
  have hown : s.vm.findClass "ValueBenchModel" = some m.cls := findClass_of_methodNamed B.named
  have hlocks := B.notSynchronized
  subst hsz
  have hD := hD0.self (sz := s.heap.size)
  generalize hAe : va_A [(a0, .inr (5, [v20, .ref a4, v21, v22, v23, v24, v25, v26, v27, v28, v29, v30, v31, v32, v33, v34, v35, v36, v37, v38, v39, v40, v41, v42, .ref a1, .ref a2, v43, v44, v45, v46, v47, v48])), (a1, .inl (cT 5, 8, .inr (.inr (.inr (.inr f49))))), (a2, .inl (cT 1, 8, .inl f52)), (a3, .inl (cT 0, 4096, .inl f55)), (a4, .inl (cT 4, 1024, .inr (.inr (.inr (.inr f60)))))] s.heap.size = A at hD hZ ⊢
  have hA : ∀ q : Nat, s.heap.size ≤ q → A q := fun q h => by rw [← hAe]; exact Or.inr h
  have hS : va_S A s.heap s.heap [] := va_S.rf
  have hP : va_P D xcl [(a0, .inr (5, [v20, .ref a4, v21, v22, v23, v24, v25, v26, v27, v28, v29, v30, v31, v32, v33, v34, v35, v36, v37, v38, v39, v40, v41, v42, .ref a1, .ref a2, v43, v44, v45, v46, v47, v48])), (a1, .inl (cT 5, 8, .inr (.inr (.inr (.inr f49))))), (a2, .inl (cT 1, 8, .inl f52)), (a3, .inl (cT 0, 4096, .inl f55)), (a4, .inl (cT 4, 1024, .inr (.inr (.inr (.inr f60)))))] s.heap := hP
  have hl := lv_entry ([.ref a0, .int x5, .int 2, .int x10, .int x15]) (n := 5) (Nat.le_of_ble_eq_true rfl)
  rw [lg_entry_eq]
  generalize (lg_sl ([.ref a0, .int x5, .int 2, .int x10, .int x15]) ++ List.replicate (5 - (lg_sl ([.ref a0, .int x5, .int 2, .int x10, .int x15])).length) Slot.unset).toArray = ls at hl ⊢
  have hl : lv_has ls 5 [(0, .ref a0), (1, .int x5), (2, .int 2), (3, .int x10), (4, .int x15)] := hl
  refine lv_aload_n hx hb dM_sort0_0 rfl (lv_at hl 0 rfl) ?_
  obtain ⟨hPc, hDc, hFc⟩ := xcut (wc := [(a0, .inr (5, [v20, .ref a4, v21, v22, v23, v24, v25, v26, v27, v28, v29, v30, v31, v32, v33, v34, v35, v36, v37, v38, v39, v40, v41, v42, .ref a1, .ref a2, v43, v44, v45, v46, v47, v48]))]) hP hD hS hA [0] rfl rfl (by decide)
  refine va_callv (va_runV (C := "ValueBenchModel") (As := []) (rest := []) ⟨hx, hb, hml, hown, htx⟩ (cM_begin_0 l hl9 D cT aK aV s.heap.size a0 v20 (.ref a4) v21 v22 v23 v24 v25 v26 v27 v28 v29 v30 v31 v32 v33 v34 v35 v36 v37 v38 v39 v40 v41 v42 (.ref a1) (.ref a2) v43 v44 v45 v46 v47 v48) ⟨callB_of 0 htx (xw_goodC kw_5_209) rfl rfl rfl (htx _ kw_1_5) (htx _ kw_5_206) ⟨by decide, by decide, by decide +kernel⟩ ⟨Nat.le_of_ble_eq_true rfl, Nat.le_of_ble_eq_true rfl⟩, (htx _ kw_5_208), (htx _ kp_M_begin)⟩ ⟨xPre_blind, va_recv hK hP (ci := 5) rfl (q0 := 0) rfl, (fun U hU hW => ⟨rfl, xPre_of hZ hS hFc hPc hDc hK U hU hW⟩)⟩ rfl rfl hl.1 rfl (lv_room (Nat.le_of_ble_eq_true rfl)) dM_sort0_1 ⟨Nat.le_of_ble_eq_true rfl, Nat.le_of_ble_eq_true rfl⟩) hS (fun q _ h => hFc q h) hFc (fun u9 t H1 locs ht hvm hr9 hB hz1 hk1 hS => ?_)
  obtain ⟨hP1, hK1, hD1⟩ := hB
  rw [ht] at hP1
  obtain ⟨hP, hD⟩ := xjoin (W := [(a1, .inl (cT 5, 8, .inr (.inr (.inr (.inr f49))))), (a2, .inl (cT 1, 8, .inl f52)), (a3, .inl (cT 0, 4096, .inl f55)), (a4, .inl (cT 4, 1024, .inr (.inr (.inr (.inr f60))))), (a0, .inr (5, [.int 0, .ref a4, .int 0, v22, .int 0, v24, v25, .int 0, v27, .int 0, v29, v30, .int 0, v32, v33, v34, v35, v36, v37, v38, v39, v40, .int 0, .int 1000000000, .ref a1, .ref a2, v43, v44, v45, v46, v47, v48]))]) hP hD [0] [1, 2, 3, 4] 4 rfl rfl (by decide) (by decide) hk1 hFc hP1 hD1
  generalize H1 = H at hP hS ⊢
  refine lv_aload_n hx hb dM_sort0_4 rfl (lv_at hl 0 rfl) ?_
  refine lv_iload_n hx hb dM_sort0_5 rfl (lv_at hl 1 rfl) ?_
  obtain ⟨hPc, hDc, hFc⟩ := xcut (wc := []) hP hD hS hA [] rfl rfl (by decide)
  refine va_calli (va_runV (C := "ValueBenchModel") (As := [.int x5]) (rest := []) ⟨hx, hb, hml, hown, htx⟩ (cM_out_0 l hl9 D cT aK aV H.size a0 x5 h6 h7 h8 h9) ⟨callB_of 1 htx (xw_goodC kw_5_217) rfl rfl rfl (htx _ kw_1_5) (htx _ kw_5_214) ⟨by decide, by decide, by decide +kernel⟩ ⟨Nat.le_of_ble_eq_true rfl, Nat.le_of_ble_eq_true rfl⟩, (htx _ kw_5_216), (htx _ kp_M_out)⟩ ⟨xPre_blind, va_recv hK hP (ci := 5) rfl (q0 := 4) rfl, (fun U hU hW => ⟨rfl, xPre_of hZ hS hFc hPc hDc hK U hU hW⟩)⟩ rfl rfl hl.1 rfl (lv_room (Nat.le_of_ble_eq_true rfl)) dM_sort0_6 ⟨Nat.le_of_ble_eq_true rfl, Nat.le_of_ble_eq_true rfl⟩) hS (fun q _ h => hFc q h) hFc (fun r1 u9 t H1 locs ht hvm hr9 hB hz1 hk1 hS => ?_)
  obtain ⟨hP1, hK1, hD1⟩ := hB
  rw [ht] at hP1
  obtain ⟨hP, hD⟩ := xjoin (W := [(a1, .inl (cT 5, 8, .inr (.inr (.inr (.inr f49))))), (a2, .inl (cT 1, 8, .inl f52)), (a3, .inl (cT 0, 4096, .inl f55)), (a4, .inl (cT 4, 1024, .inr (.inr (.inr (.inr f60))))), (a0, .inr (5, [.int 0, .ref a4, .int 0, v22, .int 0, v24, v25, .int 0, v27, .int 0, v29, v30, .int 0, v32, v33, v34, v35, v36, v37, v38, v39, v40, .int 0, .int 1000000000, .ref a1, .ref a2, v43, v44, v45, v46, v47, v48]))]) hP hD [] [0, 1, 2, 3, 4] 5 rfl rfl (by decide) (by decide) hk1 hFc hP1 hD1
  generalize H1 = H at hP hS ⊢
  rw [hr9]
  refine W.eq (g2 := F0 m 9 ls [.int 0]) rfl ?_
  refine lv_if_ne (tgt := 38) hx hb dM_sort0_9 (by decide) (fun h => ((by revert h; decide : False)).elim) (fun _ => ?_)
  refine lv_iload_n hx hb dM_sort0_12 rfl (lv_at hl 2 rfl) ?_
  refine lv_if_lt (tgt := 38) hx hb dM_sort0_13 (by decide) (fun h => ((by revert h; decide : False)).elim) (fun _ => ?_)
  refine lv_iload_n hx hb dM_sort0_16 rfl (lv_at hl 2 rfl) ?_
  refine lv_iconst (v := 4) hx hb dM_sort0_17 (by decide) ?_
  refine lv_icmp_gt (tgt := 38) hx hb dM_sort0_18 (by decide) (fun h => ((by revert h; decide : False)).elim) (fun _ => ?_)
  refine lv_aload_n hx hb dM_sort0_21 rfl (lv_at hl 0 rfl) ?_
  refine lv_iload_n hx hb dM_sort0_22 rfl (lv_at hl 3 rfl) ?_
  obtain ⟨hPc, hDc, hFc⟩ := xcut (wc := []) hP hD hS hA [] rfl rfl (by decide)
  refine va_calli (va_runV (C := "ValueBenchModel") (As := [.int x10]) (rest := []) ⟨hx, hb, hml, hown, htx⟩ (cM_out_0 l hl9 D cT aK aV H.size a0 x10 h11 h12 h13 h14) ⟨callB_of 1 htx (xw_goodC kw_5_217) rfl rfl rfl (htx _ kw_1_5) (htx _ kw_5_214) ⟨by decide, by decide, by decide +kernel⟩ ⟨Nat.le_of_ble_eq_true rfl, Nat.le_of_ble_eq_true rfl⟩, (htx _ kw_5_216), (htx _ kp_M_out)⟩ ⟨xPre_blind, va_recv hK hP (ci := 5) rfl (q0 := 4) rfl, (fun U hU hW => ⟨rfl, xPre_of hZ hS hFc hPc hDc hK U hU hW⟩)⟩ rfl rfl hl.1 rfl (lv_room (Nat.le_of_ble_eq_true rfl)) dM_sort0_23 ⟨Nat.le_of_ble_eq_true rfl, Nat.le_of_ble_eq_true rfl⟩) hS (fun q _ h => hFc q h) hFc (fun r2 u9 t H1 locs ht hvm hr9 hB hz1 hk1 hS => ?_)
  obtain ⟨hP1, hK1, hD1⟩ := hB
  rw [ht] at hP1
  obtain ⟨hP, hD⟩ := xjoin (W := [(a1, .inl (cT 5, 8, .inr (.inr (.inr (.inr f49))))), (a2, .inl (cT 1, 8, .inl f52)), (a3, .inl (cT 0, 4096, .inl f55)), (a4, .inl (cT 4, 1024, .inr (.inr (.inr (.inr f60))))), (a0, .inr (5, [.int 0, .ref a4, .int 0, v22, .int 0, v24, v25, .int 0, v27, .int 0, v29, v30, .int 0, v32, v33, v34, v35, v36, v37, v38, v39, v40, .int 0, .int 1000000000, .ref a1, .ref a2, v43, v44, v45, v46, v47, v48]))]) hP hD [] [0, 1, 2, 3, 4] 5 rfl rfl (by decide) (by decide) hk1 hFc hP1 hD1
  generalize H1 = H at hP hS ⊢
  rw [hr9]
  refine W.eq (g2 := F0 m 26 ls [.int 0]) rfl ?_
  refine lv_if_ne (tgt := 38) hx hb dM_sort0_26 (by decide) (fun h => ((by revert h; decide : False)).elim) (fun _ => ?_)
  refine lv_aload_n hx hb dM_sort0_29 rfl (lv_at hl 0 rfl) ?_
  refine lv_iload hx hb dM_sort0_30 (lv_at hl 4 rfl) ?_
  obtain ⟨hPc, hDc, hFc⟩ := xcut (wc := []) hP hD hS hA [] rfl rfl (by decide)
  refine va_calli (va_runV (C := "ValueBenchModel") (As := [.int x15]) (rest := []) ⟨hx, hb, hml, hown, htx⟩ (cM_out_0 l hl9 D cT aK aV H.size a0 x15 h16 h17 h18 h19) ⟨callB_of 1 htx (xw_goodC kw_5_217) rfl rfl rfl (htx _ kw_1_5) (htx _ kw_5_214) ⟨by decide, by decide, by decide +kernel⟩ ⟨Nat.le_of_ble_eq_true rfl, Nat.le_of_ble_eq_true rfl⟩, (htx _ kw_5_216), (htx _ kp_M_out)⟩ ⟨xPre_blind, va_recv hK hP (ci := 5) rfl (q0 := 4) rfl, (fun U hU hW => ⟨rfl, xPre_of hZ hS hFc hPc hDc hK U hU hW⟩)⟩ rfl rfl hl.1 rfl (lv_room (Nat.le_of_ble_eq_true rfl)) dM_sort0_32 ⟨Nat.le_of_ble_eq_true rfl, Nat.le_of_ble_eq_true rfl⟩) hS (fun q _ h => hFc q h) hFc (fun r3 u9 t H1 locs ht hvm hr9 hB hz1 hk1 hS => ?_)
  obtain ⟨hP1, hK1, hD1⟩ := hB
  rw [ht] at hP1
  obtain ⟨hP, hD⟩ := xjoin (W := [(a1, .inl (cT 5, 8, .inr (.inr (.inr (.inr f49))))), (a2, .inl (cT 1, 8, .inl f52)), (a3, .inl (cT 0, 4096, .inl f55)), (a4, .inl (cT 4, 1024, .inr (.inr (.inr (.inr f60))))), (a0, .inr (5, [.int 0, .ref a4, .int 0, v22, .int 0, v24, v25, .int 0, v27, .int 0, v29, v30, .int 0, v32, v33, v34, v35, v36, v37, v38, v39, v40, .int 0, .int 1000000000, .ref a1, .ref a2, v43, v44, v45, v46, v47, v48]))]) hP hD [] [0, 1, 2, 3, 4] 5 rfl rfl (by decide) (by decide) hk1 hFc hP1 hD1
  generalize H1 = H at hP hS ⊢
  rw [hr9]
  refine W.eq (g2 := F0 m 35 ls [.int 0]) rfl ?_
  refine lv_if_eq (tgt := 46) hx hb dM_sort0_35 (by decide) (fun _ => ?_) (fun h => ((by revert h; decide : False)).elim)
  refine lv_aload_n hx hb dM_sort0_46 rfl (lv_at hl 0 rfl) ?_
  refine lv_iload_n hx hb dM_sort0_47 rfl (lv_at hl 1 rfl) ?_
  refine lv_iconst (v := 3) hx hb dM_sort0_48 (by decide) ?_
  refine lv_iload_n hx hb dM_sort0_49 rfl (lv_at hl 2 rfl) ?_
  refine lv_iload_n hx hb dM_sort0_50 rfl (lv_at hl 3 rfl) ?_
  refine lv_iload hx hb dM_sort0_51 (lv_at hl 4 rfl) ?_
  obtain ⟨hPc, hDc, hFc⟩ := xcut (wc := [(a0, .inr (5, [.int 0, .ref a4, .int 0, v22, .int 0, v24, v25, .int 0, v27, .int 0, v29, v30, .int 0, v32, v33, v34, v35, v36, v37, v38, v39, v40, .int 0, .int 1000000000, .ref a1, .ref a2, v43, v44, v45, v46, v47, v48])), (a1, .inl (cT 5, 8, .inr (.inr (.inr (.inr f49))))), (a2, .inl (cT 1, 8, .inl f52)), (a3, .inl (cT 0, 4096, .inl f55)), (a4, .inl (cT 4, 1024, .inr (.inr (.inr (.inr f60)))))]) hP hD hS hA [4, 0, 1, 2, 3] rfl rfl (by decide)
  refine va_callv (vx_runVW (C := "ValueBenchModel") (As := [.int x5, .int 3, .int 2, .int x10, .int x15]) (rest := []) ⟨hx, hb, hml, hown, htx⟩ (cM_finish_68 l hl9 D cT aK aV H.size a0 a1 a2 a3 a4 x5 2 x10 x15 (.int 0) v22 (.int 0) v24 v25 (.int 0) v27 (.int 0) v29 v30 (.int 0) v32 v33 v34 v35 v36 v37 v38 v39 v40 (.int 0) (.int 1000000000) v43 v44 v45 v46 v47 v48 f49 f52 f55 f60 h11 h12 h13 h14 h16 h17 h18 h19 (by first | rfl | exact h50 | exact h51 | exact h53 | exact h54 | exact h56 | exact h57 | exact h58 | exact h59 | exact h61 | exact h62) (by first | rfl | exact h50 | exact h51 | exact h53 | exact h54 | exact h56 | exact h57 | exact h58 | exact h59 | exact h61 | exact h62) (by first | rfl | exact h50 | exact h51 | exact h53 | exact h54 | exact h56 | exact h57 | exact h58 | exact h59 | exact h61 | exact h62) (by first | rfl | exact h50 | exact h51 | exact h53 | exact h54 | exact h56 | exact h57 | exact h58 | exact h59 | exact h61 | exact h62) (by first | rfl | exact h50 | exact h51 | exact h53 | exact h54 | exact h56 | exact h57 | exact h58 | exact h59 | exact h61 | exact h62) (by first | rfl | exact h50 | exact h51 | exact h53 | exact h54 | exact h56 | exact h57 | exact h58 | exact h59 | exact h61 | exact h62) (by first | rfl | exact h50 | exact h51 | exact h53 | exact h54 | exact h56 | exact h57 | exact h58 | exact h59 | exact h61 | exact h62) (by first | rfl | exact h50 | exact h51 | exact h53 | exact h54 | exact h56 | exact h57 | exact h58 | exact h59 | exact h61 | exact h62) (by first | rfl | exact h50 | exact h51 | exact h53 | exact h54 | exact h56 | exact h57 | exact h58 | exact h59 | exact h61 | exact h62) (by first | rfl | exact h50 | exact h51 | exact h53 | exact h54 | exact h56 | exact h57 | exact h58 | exact h59 | exact h61 | exact h62)) (xcVW 5 htx (xw_goodC kw_6_195) rfl rfl rfl (htx _ kw_1_5) (htx _ kw_6_192) ⟨by decide, by decide, by decide +kernel⟩ ⟨Nat.le_of_ble_eq_true rfl, Nat.le_of_ble_eq_true rfl⟩ (htx _ kw_6_194) (htx _ kp_M_finish)) ⟨xPre_blind, va_recv hK hP (ci := 5) rfl (q0 := 4) rfl, (fun U hU hW => ⟨rfl, xPre_of hZ hS hFc hPc hDc hK U hU hW⟩)⟩ rfl rfl hl.1 rfl (lv_room (Nat.le_of_ble_eq_true rfl)) dM_sort0_53 ⟨Nat.le_of_ble_eq_true rfl, Nat.le_of_ble_eq_true rfl⟩) hS (fun q _ h => hFc q h) hFc (fun u9 t H1 locs ht hvm hr9 hB hz1 hk1 hS => ?_)
  obtain ⟨q4, q5, hP1, hK1, hD1⟩ := hB
  rw [ht] at hP1
  obtain ⟨hP, hD⟩ := xjoin (W := [(a0, .inr (5, [.int 2, .ref a4, .int 2, v22, .int 0, v24, v25, .int 0, .int 1, .int 0, v29, v30, .int 0, v32, v33, .ref a3, .int 4, .int 4, .int 0, .int 100, v39, v40, .int 0, .int 1000000000, .ref a1, .ref a2, v43, v44, v45, v46, .int 1, v48])), (a1, .inl (cT 5, 8, .inr (.inr (.inr (.inr f49))))), (a2, .inl (cT 1, 8, .inl f52)), (a3, .inl (cT 0, 4096, .inl f55)), (a4, .inl (cT 4, 1024, .inr (.inr (.inr (.inr (va_up (va_up f60 0 (some q4)) 1 (some q5))))))), (q4, .inr (6, [.int 0, .long 0, .int 0, .int 0, .int 0, .int 1])), (q5, .inr (6, [.int 0, .long 0, .int 0, .int 0, .int 0, .int 1]))]) hP hD [4, 0, 1, 2, 3] [] 0 rfl rfl (by decide) (by decide) hk1 hFc hP1 hD1
  generalize H1 = H at hP hS ⊢
  obtain ⟨hP9, hD9⟩ := xsub (wc := [(a0, .inr (5, [.int 2, .ref a4, .int 2, v22, .int 0, v24, v25, .int 0, .int 1, .int 0, v29, v30, .int 0, v32, v33, .ref a3, .int 4, .int 4, .int 0, .int 100, v39, v40, .int 0, .int 1000000000, .ref a1, .ref a2, v43, v44, v45, v46, .int 1, v48])), (a1, .inl (cT 5, 8, .inr (.inr (.inr (.inr f49))))), (a2, .inl (cT 1, 8, .inl f52)), (a3, .inl (cT 0, 4096, .inl f55)), (a4, .inl (cT 4, 1024, .inr (.inr (.inr (.inr (va_up (va_up f60 0 (some q4)) 1 (some q5))))))), (q4, .inr (6, [.int 0, .long 0, .int 0, .int 0, .int 0, .int 1])), (q5, .inr (6, [.int 0, .long 0, .int 0, .int 0, .int 0, .int 1]))]) hP hD [0, 1, 2, 3, 4, 5, 6] rfl rfl (by decide)
  refine W.widen (k := 3) (n := 18) (Nat.le_of_ble_eq_true rfl) (Nat.le_of_ble_eq_true rfl) ?_
  exact W.vret hx hb hr (fun t ht hW => ⟨⟨(), rfl, trivial, q4, q5, by rw [ht]; exact hP9, va_K.moved hW.alike hK, hD9⟩, hS.F ht⟩) hS.2.2 dM_sort0_56
set_option maxHeartbeats 400000000 in
set_option maxRecDepth 100000 in
theorem cM_sort0_6 (l : Launch) (hl9 : l.stackTraces = false) (D : va_G) (cT : Nat → ClassId) (aK aV : Nat → Nat) (sz : Nat) (a0 : Nat) (a1 : Nat) (a2 : Nat) (a3 : Nat) (a4 : Nat) (a5 : Nat) (x6 : Int32) (x11 : Int32) (x16 : Int32) (v21 : Value) (v22 : Value) (v23 : Value) (v24 : Value) (v25 : Value) (v26 : Value) (v27 : Value) (v28 : Value) (v29 : Value) (v30 : Value) (v31 : Value) (v32 : Value) (v33 : Value) (v34 : Value) (v35 : Value) (v36 : Value) (v37 : Value) (v38 : Value) (v39 : Value) (v40 : Value) (v41 : Value) (v42 : Value) (v43 : Value) (v44 : Value) (v45 : Value) (v46 : Value) (v47 : Value) (v48 : Value) (v49 : Value) (f50 : Nat → Option Nat) (f53 : Nat → Int32) (f56 : Nat → Int32) (f61 : Nat → Option Nat) (f64 : Nat → Int32) (h7 : ¬ x6 < 0) (h8 : ¬ 7 < x6) (h9 : x6 ≤ 7) (h10 : vp_in x6 8) (h12 : ¬ x11 < 0) (h13 : ¬ 7 < x11) (h14 : x11 ≤ 7) (h15 : vp_in x11 8) (h17 : ¬ x16 < 0) (h18 : ¬ 7 < x16) (h19 : x16 ≤ 7) (h20 : vp_in x16 8) (h51 : f50 x11.toNatClampNeg = some a3) (h52 : f50 x16.toNatClampNeg = some a5) (h54 : f53 x11.toNatClampNeg = 4) (h55 : f53 x16.toNatClampNeg = 4) (h57 : f56 0 = 110) (h58 : f56 1 = 117) (h59 : f56 2 = 108) (h60 : f56 3 = 108) (h62 : f61 0 = none) (h63 : f61 1 = none) (h65 : f64 0 = 110) (h66 : f64 1 = 117) (h67 : f64 2 = 108) (h68 : f64 3 = 108) : xMet l yM_sort0 wyM_sort0 9 3 18 204 D cT aK aV sz [.ref a0, .int x6, .int 3, .int x11, .int x16] [(a0, .inr (5, [v21, .ref a4, v22, v23, v24, v25, v26, v27, v28, v29, v30, v31, v32, v33, v34, v35, v36, v37, v38, v39, v40, v41, v42, v43, .ref a1, .ref a2, v44, v45, v46, v47, v48, v49])), (a1, .inl (cT 5, 8, .inr (.inr (.inr (.inr f50))))), (a2, .inl (cT 1, 8, .inl f53)), (a3, .inl (cT 0, 4096, .inl f56)), (a4, .inl (cT 4, 1024, .inr (.inr (.inr (.inr f61))))), (a5, .inl (cT 0, 4096, .inl f64))] (fun A => va_Qv (fun _ : Unit => True) (fun _ t => ∃ (q4 : Nat) (q5 : Nat), xB D xcl cT A [(a0, .inr (5, [.int 2, .ref a4, .int 2, v23, .int 0, v25, v26, .int 0, .int 1, .int 0, v30, v31, .int 0, v33, v34, .ref a5, .int 4, .int 4, .int 0, .int 100, v40, v41, .int 0, .int 1000000000, .ref a1, .ref a2, v44, v45, v46, v47, .int 1, v49])), (a1, .inl (cT 5, 8, .inr (.inr (.inr (.inr f50))))), (a2, .inl (cT 1, 8, .inl f53)), (a3, .inl (cT 0, 4096, .inl f56)), (a4, .inl (cT 4, 1024, .inr (.inr (.inr (.inr (va_up (va_up f61 0 (some q4)) 1 (some q5))))))), (a5, .inl (cT 0, 4096, .inl f64)), (q4, .inr (6, [.int 0, .long 0, .int 0, .int 0, .int 0, .int 1])), (q5, .inr (6, [.int 0, .long 0, .int 0, .int 0, .int 0, .int 1]))] t) A) := by
  refine Met.ofW (cc := prog_13_method_94_code) (maxL := 5) (ret := none) (by decide) rfl ?_
  intro p e s m args below meth c s₁ B hml hv
  obtain ⟨rfl, hsz, hZ, hP, hK, hD0⟩ := hv
  have hx := B.exec
  have hb := B.bytes
  have hr := B.returns
  have hts := atoms_spec (ws := wyM_sort0) B.pre
  have htx := fun w h => hts w (List.mem_cons_of_mem _ h)
  have hown : s.vm.findClass "ValueBenchModel" = some m.cls := findClass_of_methodNamed B.named
  have hlocks := B.notSynchronized
  subst hsz
  have hD := hD0.self (sz := s.heap.size)
  generalize hAe : va_A [(a0, .inr (5, [v21, .ref a4, v22, v23, v24, v25, v26, v27, v28, v29, v30, v31, v32, v33, v34, v35, v36, v37, v38, v39, v40, v41, v42, v43, .ref a1, .ref a2, v44, v45, v46, v47, v48, v49])), (a1, .inl (cT 5, 8, .inr (.inr (.inr (.inr f50))))), (a2, .inl (cT 1, 8, .inl f53)), (a3, .inl (cT 0, 4096, .inl f56)), (a4, .inl (cT 4, 1024, .inr (.inr (.inr (.inr f61))))), (a5, .inl (cT 0, 4096, .inl f64))] s.heap.size = A at hD hZ ⊢
  have hA : ∀ q : Nat, s.heap.size ≤ q → A q := fun q h => by rw [← hAe]; exact Or.inr h
  have hS : va_S A s.heap s.heap [] := va_S.rf
  have hP : va_P D xcl [(a0, .inr (5, [v21, .ref a4, v22, v23, v24, v25, v26, v27, v28, v29, v30, v31, v32, v33, v34, v35, v36, v37, v38, v39, v40, v41, v42, v43, .ref a1, .ref a2, v44, v45, v46, v47, v48, v49])), (a1, .inl (cT 5, 8, .inr (.inr (.inr (.inr f50))))), (a2, .inl (cT 1, 8, .inl f53)), (a3, .inl (cT 0, 4096, .inl f56)), (a4, .inl (cT 4, 1024, .inr (.inr (.inr (.inr f61))))), (a5, .inl (cT 0, 4096, .inl f64))] s.heap := hP
  have hl := lv_entry ([.ref a0, .int x6, .int 3, .int x11, .int x16]) (n := 5) (Nat.le_of_ble_eq_true rfl)
  rw [lg_entry_eq]
  generalize (lg_sl ([.ref a0, .int x6, .int 3, .int x11, .int x16]) ++ List.replicate (5 - (lg_sl ([.ref a0, .int x6, .int 3, .int x11, .int x16])).length) Slot.unset).toArray = ls at hl ⊢
  have hl : lv_has ls 5 [(0, .ref a0), (1, .int x6), (2, .int 3), (3, .int x11), (4, .int x16)] := hl
  refine lv_aload_n hx hb dM_sort0_0 rfl (lv_at hl 0 rfl) ?_
  obtain ⟨hPc, hDc, hFc⟩ := xcut (wc := [(a0, .inr (5, [v21, .ref a4, v22, v23, v24, v25, v26, v27, v28, v29, v30, v31, v32, v33, v34, v35, v36, v37, v38, v39, v40, v41, v42, v43, .ref a1, .ref a2, v44, v45, v46, v47, v48, v49]))]) hP hD hS hA [0] rfl rfl (by decide)
  refine va_callv (va_runV (C := "ValueBenchModel") (As := []) (rest := []) ⟨hx, hb, hml, hown, htx⟩ (cM_begin_0 l hl9 D cT aK aV s.heap.size a0 v21 (.ref a4) v22 v23 v24 v25 v26 v27 v28 v29 v30 v31 v32 v33 v34 v35 v36 v37 v38 v39 v40 v41 v42 v43 (.ref a1) (.ref a2) v44 v45 v46 v47 v48 v49) ⟨callB_of 0 htx (xw_goodC kw_5_209) rfl rfl rfl (htx _ kw_1_5) (htx _ kw_5_206) ⟨by decide, by decide, by decide +kernel⟩ ⟨Nat.le_of_ble_eq_true rfl, Nat.le_of_ble_eq_true rfl⟩, (htx _ kw_5_208), (htx _ kp_M_begin)⟩ ⟨xPre_blind, va_recv hK hP (ci := 5) rfl (q0 := 0) rfl, (fun U hU hW => ⟨rfl, xPre_of hZ hS hFc hPc hDc hK U hU hW⟩)⟩ rfl rfl hl.1 rfl (lv_room (Nat.le_of_ble_eq_true rfl)) dM_sort0_1 ⟨Nat.le_of_ble_eq_true rfl, Nat.le_of_ble_eq_true rfl⟩) hS (fun q _ h => hFc q h) hFc (fun u9 t H1 locs ht hvm hr9 hB hz1 hk1 hS => ?_)
  obtain ⟨hP1, hK1, hD1⟩ := hB
  rw [ht] at hP1
  obtain ⟨hP, hD⟩ := xjoin (W := [(a1, .inl (cT 5, 8, .inr (.inr (.inr (.inr f50))))), (a2, .inl (cT 1, 8, .inl f53)), (a3, .inl (cT 0, 4096, .inl f56)), (a4, .inl (cT 4, 1024, .inr (.inr (.inr (.inr f61))))), (a5, .inl (cT 0, 4096, .inl f64)), (a0, .inr (5, [.int 0, .ref a4, .int 0, v23, .int 0, v25, v26, .int 0, v28, .int 0, v30, v31, .int 0, v33, v34, v35, v36, v37, v38, v39, v40, v41, .int 0, .int 1000000000, .ref a1, .ref a2, v44, v45, v46, v47, v48, v49]))]) hP hD [0] [1, 2, 3, 4, 5] 5 rfl rfl (by decide) (by decide) hk1 hFc hP1 hD1
  generalize H1 = H at hP hS ⊢
  refine lv_aload_n hx hb dM_sort0_4 rfl (lv_at hl 0 rfl) ?_
  refine lv_iload_n hx hb dM_sort0_5 rfl (lv_at hl 1 rfl) ?_
  obtain ⟨hPc, hDc, hFc⟩ := xcut (wc := []) hP hD hS hA [] rfl rfl (by decide)
  refine va_calli (va_runV (C := "ValueBenchModel") (As := [.int x6]) (rest := []) ⟨hx, hb, hml, hown, htx⟩ (cM_out_0 l hl9 D cT aK aV H.size a0 x6 h7 h8 h9 h10) ⟨callB_of 1 htx (xw_goodC kw_5_217) rfl rfl rfl (htx _ kw_1_5) (htx _ kw_5_214) ⟨by decide, by decide, by decide +kernel⟩ ⟨Nat.le_of_ble_eq_true rfl, Nat.le_of_ble_eq_true rfl⟩, (htx _ kw_5_216), (htx _ kp_M_out)⟩ ⟨xPre_blind, va_recv hK hP (ci := 5) rfl (q0 := 5) rfl, (fun U hU hW => ⟨rfl, xPre_of hZ hS hFc hPc hDc hK U hU hW⟩)⟩ rfl rfl hl.1 rfl (lv_room (Nat.le_of_ble_eq_true rfl)) dM_sort0_6 ⟨Nat.le_of_ble_eq_true rfl, Nat.le_of_ble_eq_true rfl⟩) hS (fun q _ h => hFc q h) hFc (fun r1 u9 t H1 locs ht hvm hr9 hB hz1 hk1 hS => ?_)
  obtain ⟨hP1, hK1, hD1⟩ := hB
  rw [ht] at hP1
  obtain ⟨hP, hD⟩ := xjoin (W := [(a1, .inl (cT 5, 8, .inr (.inr (.inr (.inr f50))))), (a2, .inl (cT 1, 8, .inl f53)), (a3, .inl (cT 0, 4096, .inl f56)), (a4, .inl (cT 4, 1024, .inr (.inr (.inr (.inr f61))))), (a5, .inl (cT 0, 4096, .inl f64)), (a0, .inr (5, [.int 0, .ref a4, .int 0, v23, .int 0, v25, v26, .int 0, v28, .int 0, v30, v31, .int 0, v33, v34, v35, v36, v37, v38, v39, v40, v41, .int 0, .int 1000000000, .ref a1, .ref a2, v44, v45, v46, v47, v48, v49]))]) hP hD [] [0, 1, 2, 3, 4, 5] 6 rfl rfl (by decide) (by decide) hk1 hFc hP1 hD1
  generalize H1 = H at hP hS ⊢
  rw [hr9]
  refine W.eq (g2 := F0 m 9 ls [.int 0]) rfl ?_
  refine lv_if_ne (tgt := 38) hx hb dM_sort0_9 (by decide) (fun h => ((by revert h; decide : False)).elim) (fun _ => ?_)
  refine lv_iload_n hx hb dM_sort0_12 rfl (lv_at hl 2 rfl) ?_
  refine lv_if_lt (tgt := 38) hx hb dM_sort0_13 (by decide) (fun h => ((by revert h; decide : False)).elim) (fun _ => ?_)
  refine lv_iload_n hx hb dM_sort0_16 rfl (lv_at hl 2 rfl) ?_
  refine lv_iconst (v := 4) hx hb dM_sort0_17 (by decide) ?_
  refine lv_icmp_gt (tgt := 38) hx hb dM_sort0_18 (by decide) (fun h => ((by revert h; decide : False)).elim) (fun _ => ?_)
  refine lv_aload_n hx hb dM_sort0_21 rfl (lv_at hl 0 rfl) ?_
  refine lv_iload_n hx hb dM_sort0_22 rfl (lv_at hl 3 rfl) ?_
  obtain ⟨hPc, hDc, hFc⟩ := xcut (wc := []) hP hD hS hA [] rfl rfl (by decide)
  refine va_calli (va_runV (C := "ValueBenchModel") (As := [.int x11]) (rest := []) ⟨hx, hb, hml, hown, htx⟩ (cM_out_0 l hl9 D cT aK aV H.size a0 x11 h12 h13 h14 h15) ⟨callB_of 1 htx (xw_goodC kw_5_217) rfl rfl rfl (htx _ kw_1_5) (htx _ kw_5_214) ⟨by decide, by decide, by decide +kernel⟩ ⟨Nat.le_of_ble_eq_true rfl, Nat.le_of_ble_eq_true rfl⟩, (htx _ kw_5_216), (htx _ kp_M_out)⟩ ⟨xPre_blind, va_recv hK hP (ci := 5) rfl (q0 := 5) rfl, (fun U hU hW => ⟨rfl, xPre_of hZ hS hFc hPc hDc hK U hU hW⟩)⟩ rfl rfl hl.1 rfl (lv_room (Nat.le_of_ble_eq_true rfl)) dM_sort0_23 ⟨Nat.le_of_ble_eq_true rfl, Nat.le_of_ble_eq_true rfl⟩) hS (fun q _ h => hFc q h) hFc (fun r2 u9 t H1 locs ht hvm hr9 hB hz1 hk1 hS => ?_)
  obtain ⟨hP1, hK1, hD1⟩ := hB
  rw [ht] at hP1
  obtain ⟨hP, hD⟩ := xjoin (W := [(a1, .inl (cT 5, 8, .inr (.inr (.inr (.inr f50))))), (a2, .inl (cT 1, 8, .inl f53)), (a3, .inl (cT 0, 4096, .inl f56)), (a4, .inl (cT 4, 1024, .inr (.inr (.inr (.inr f61))))), (a5, .inl (cT 0, 4096, .inl f64)), (a0, .inr (5, [.int 0, .ref a4, .int 0, v23, .int 0, v25, v26, .int 0, v28, .int 0, v30, v31, .int 0, v33, v34, v35, v36, v37, v38, v39, v40, v41, .int 0, .int 1000000000, .ref a1, .ref a2, v44, v45, v46, v47, v48, v49]))]) hP hD [] [0, 1, 2, 3, 4, 5] 6 rfl rfl (by decide) (by decide) hk1 hFc hP1 hD1
  generalize H1 = H at hP hS ⊢
  rw [hr9]
  refine W.eq (g2 := F0 m 26 ls [.int 0]) rfl ?_
  refine lv_if_ne (tgt := 38) hx hb dM_sort0_26 (by decide) (fun h => ((by revert h; decide : False)).elim) (fun _ => ?_)
  refine lv_aload_n hx hb dM_sort0_29 rfl (lv_at hl 0 rfl) ?_
  refine lv_iload hx hb dM_sort0_30 (lv_at hl 4 rfl) ?_
  obtain ⟨hPc, hDc, hFc⟩ := xcut (wc := []) hP hD hS hA [] rfl rfl (by decide)
  refine va_calli (va_runV (C := "ValueBenchModel") (As := [.int x16]) (rest := []) ⟨hx, hb, hml, hown, htx⟩ (cM_out_0 l hl9 D cT aK aV H.size a0 x16 h17 h18 h19 h20) ⟨callB_of 1 htx (xw_goodC kw_5_217) rfl rfl rfl (htx _ kw_1_5) (htx _ kw_5_214) ⟨by decide, by decide, by decide +kernel⟩ ⟨Nat.le_of_ble_eq_true rfl, Nat.le_of_ble_eq_true rfl⟩, (htx _ kw_5_216), (htx _ kp_M_out)⟩ ⟨xPre_blind, va_recv hK hP (ci := 5) rfl (q0 := 5) rfl, (fun U hU hW => ⟨rfl, xPre_of hZ hS hFc hPc hDc hK U hU hW⟩)⟩ rfl rfl hl.1 rfl (lv_room (Nat.le_of_ble_eq_true rfl)) dM_sort0_32 ⟨Nat.le_of_ble_eq_true rfl, Nat.le_of_ble_eq_true rfl⟩) hS (fun q _ h => hFc q h) hFc (fun r3 u9 t H1 locs ht hvm hr9 hB hz1 hk1 hS => ?_)
  obtain ⟨hP1, hK1, hD1⟩ := hB
  rw [ht] at hP1
  obtain ⟨hP, hD⟩ := xjoin (W := [(a1, .inl (cT 5, 8, .inr (.inr (.inr (.inr f50))))), (a2, .inl (cT 1, 8, .inl f53)), (a3, .inl (cT 0, 4096, .inl f56)), (a4, .inl (cT 4, 1024, .inr (.inr (.inr (.inr f61))))), (a5, .inl (cT 0, 4096, .inl f64)), (a0, .inr (5, [.int 0, .ref a4, .int 0, v23, .int 0, v25, v26, .int 0, v28, .int 0, v30, v31, .int 0, v33, v34, v35, v36, v37, v38, v39, v40, v41, .int 0, .int 1000000000, .ref a1, .ref a2, v44, v45, v46, v47, v48, v49]))]) hP hD [] [0, 1, 2, 3, 4, 5] 6 rfl rfl (by decide) (by decide) hk1 hFc hP1 hD1
  generalize H1 = H at hP hS ⊢
  rw [hr9]
  refine W.eq (g2 := F0 m 35 ls [.int 0]) rfl ?_
  refine lv_if_eq (tgt := 46) hx hb dM_sort0_35 (by decide) (fun _ => ?_) (fun h => ((by revert h; decide : False)).elim)
  refine lv_aload_n hx hb dM_sort0_46 rfl (lv_at hl 0 rfl) ?_
  refine lv_iload_n hx hb dM_sort0_47 rfl (lv_at hl 1 rfl) ?_
  refine lv_iconst (v := 3) hx hb dM_sort0_48 (by decide) ?_
  refine lv_iload_n hx hb dM_sort0_49 rfl (lv_at hl 2 rfl) ?_
  refine lv_iload_n hx hb dM_sort0_50 rfl (lv_at hl 3 rfl) ?_
  refine lv_iload hx hb dM_sort0_51 (lv_at hl 4 rfl) ?_
  obtain ⟨hPc, hDc, hFc⟩ := xcut (wc := [(a0, .inr (5, [.int 0, .ref a4, .int 0, v23, .int 0, v25, v26, .int 0, v28, .int 0, v30, v31, .int 0, v33, v34, v35, v36, v37, v38, v39, v40, v41, .int 0, .int 1000000000, .ref a1, .ref a2, v44, v45, v46, v47, v48, v49])), (a1, .inl (cT 5, 8, .inr (.inr (.inr (.inr f50))))), (a2, .inl (cT 1, 8, .inl f53)), (a3, .inl (cT 0, 4096, .inl f56)), (a4, .inl (cT 4, 1024, .inr (.inr (.inr (.inr f61))))), (a5, .inl (cT 0, 4096, .inl f64))]) hP hD hS hA [5, 0, 1, 2, 3, 4] rfl rfl (by decide)
  refine va_callv (vx_runVW (C := "ValueBenchModel") (As := [.int x6, .int 3, .int 3, .int x11, .int x16]) (rest := []) ⟨hx, hb, hml, hown, htx⟩ (cM_finish_67 l hl9 D cT aK aV H.size a0 a1 a2 a3 a4 a5 x6 3 x11 x16 (.int 0) v23 (.int 0) v25 v26 (.int 0) v28 (.int 0) v30 v31 (.int 0) v33 v34 v35 v36 v37 v38 v39 v40 v41 (.int 0) (.int 1000000000) v44 v45 v46 v47 v48 v49 f50 f53 f56 f61 f64 h12 h13 h14 h15 h17 h18 h19 h20 (by first | rfl | exact h51 | exact h52 | exact h54 | exact h55 | exact h57 | exact h58 | exact h59 | exact h60 | exact h62 | exact h63 | exact h65 | exact h66 | exact h67 | exact h68) (by first | rfl | exact h51 | exact h52 | exact h54 | exact h55 | exact h57 | exact h58 | exact h59 | exact h60 | exact h62 | exact h63 | exact h65 | exact h66 | exact h67 | exact h68) (by first | rfl | exact h51 | exact h52 | exact h54 | exact h55 | exact h57 | exact h58 | exact h59 | exact h60 | exact h62 | exact h63 | exact h65 | exact h66 | exact h67 | exact h68) (by first | rfl | exact h51 | exact h52 | exact h54 | exact h55 | exact h57 | exact h58 | exact h59 | exact h60 | exact h62 | exact h63 | exact h65 | exact h66 | exact h67 | exact h68) (by first | rfl | exact h51 | exact h52 | exact h54 | exact h55 | exact h57 | exact h58 | exact h59 | exact h60 | exact h62 | exact h63 | exact h65 | exact h66 | exact h67 | exact h68) (by first | rfl | exact h51 | exact h52 | exact h54 | exact h55 | exact h57 | exact h58 | exact h59 | exact h60 | exact h62 | exact h63 | exact h65 | exact h66 | exact h67 | exact h68) (by first | rfl | exact h51 | exact h52 | exact h54 | exact h55 | exact h57 | exact h58 | exact h59 | exact h60 | exact h62 | exact h63 | exact h65 | exact h66 | exact h67 | exact h68) (by first | rfl | exact h51 | exact h52 | exact h54 | exact h55 | exact h57 | exact h58 | exact h59 | exact h60 | exact h62 | exact h63 | exact h65 | exact h66 | exact h67 | exact h68) (by first | rfl | exact h51 | exact h52 | exact h54 | exact h55 | exact h57 | exact h58 | exact h59 | exact h60 | exact h62 | exact h63 | exact h65 | exact h66 | exact h67 | exact h68) (by first | rfl | exact h51 | exact h52 | exact h54 | exact h55 | exact h57 | exact h58 | exact h59 | exact h60 | exact h62 | exact h63 | exact h65 | exact h66 | exact h67 | exact h68) (by first | rfl | exact h51 | exact h52 | exact h54 | exact h55 | exact h57 | exact h58 | exact h59 | exact h60 | exact h62 | exact h63 | exact h65 | exact h66 | exact h67 | exact h68) (by first | rfl | exact h51 | exact h52 | exact h54 | exact h55 | exact h57 | exact h58 | exact h59 | exact h60 | exact h62 | exact h63 | exact h65 | exact h66 | exact h67 | exact h68) (by first | rfl | exact h51 | exact h52 | exact h54 | exact h55 | exact h57 | exact h58 | exact h59 | exact h60 | exact h62 | exact h63 | exact h65 | exact h66 | exact h67 | exact h68) (by first | rfl | exact h51 | exact h52 | exact h54 | exact h55 | exact h57 | exact h58 | exact h59 | exact h60 | exact h62 | exact h63 | exact h65 | exact h66 | exact h67 | exact h68)) (xcVW 5 htx (xw_goodC kw_6_195) rfl rfl rfl (htx _ kw_1_5) (htx _ kw_6_192) ⟨by decide, by decide, by decide +kernel⟩ ⟨Nat.le_of_ble_eq_true rfl, Nat.le_of_ble_eq_true rfl⟩ (htx _ kw_6_194) (htx _ kp_M_finish)) ⟨xPre_blind, va_recv hK hP (ci := 5) rfl (q0 := 5) rfl, (fun U hU hW => ⟨rfl, xPre_of hZ hS hFc hPc hDc hK U hU hW⟩)⟩ rfl rfl hl.1 rfl (lv_room (Nat.le_of_ble_eq_true rfl)) dM_sort0_53 ⟨Nat.le_of_ble_eq_true rfl, Nat.le_of_ble_eq_true rfl⟩) hS (fun q _ h => hFc q h) hFc (fun u9 t H1 locs ht hvm hr9 hB hz1 hk1 hS => ?_)
  obtain ⟨q4, q5, hP1, hK1, hD1⟩ := hB
  rw [ht] at hP1
  obtain ⟨hP, hD⟩ := xjoin (W := [(a0, .inr (5, [.int 2, .ref a4, .int 2, v23, .int 0, v25, v26, .int 0, .int 1, .int 0, v30, v31, .int 0, v33, v34, .ref a5, .int 4, .int 4, .int 0, .int 100, v40, v41, .int 0, .int 1000000000, .ref a1, .ref a2, v44, v45, v46, v47, .int 1, v49])), (a1, .inl (cT 5, 8, .inr (.inr (.inr (.inr f50))))), (a2, .inl (cT 1, 8, .inl f53)), (a3, .inl (cT 0, 4096, .inl f56)), (a4, .inl (cT 4, 1024, .inr (.inr (.inr (.inr (va_up (va_up f61 0 (some q4)) 1 (some q5))))))), (a5, .inl (cT 0, 4096, .inl f64)), (q4, .inr (6, [.int 0, .long 0, .int 0, .int 0, .int 0, .int 1])), (q5, .inr (6, [.int 0, .long 0, .int 0, .int 0, .int 0, .int 1]))]) hP hD [5, 0, 1, 2, 3, 4] [] 0 rfl rfl (by decide) (by decide) hk1 hFc hP1 hD1
  generalize H1 = H at hP hS ⊢
  obtain ⟨hP9, hD9⟩ := xsub (wc := [(a0, .inr (5, [.int 2, .ref a4, .int 2, v23, .int 0, v25, v26, .int 0, .int 1, .int 0, v30, v31, .int 0, v33, v34, .ref a5, .int 4, .int 4, .int 0, .int 100, v40, v41, .int 0, .int 1000000000, .ref a1, .ref a2, v44, v45, v46, v47, .int 1, v49])), (a1, .inl (cT 5, 8, .inr (.inr (.inr (.inr f50))))), (a2, .inl (cT 1, 8, .inl f53)), (a3, .inl (cT 0, 4096, .inl f56)), (a4, .inl (cT 4, 1024, .inr (.inr (.inr (.inr (va_up (va_up f61 0 (some q4)) 1 (some q5))))))), (a5, .inl (cT 0, 4096, .inl f64)), (q4, .inr (6, [.int 0, .long 0, .int 0, .int 0, .int 0, .int 1])), (q5, .inr (6, [.int 0, .long 0, .int 0, .int 0, .int 0, .int 1]))]) hP hD [0, 1, 2, 3, 4, 5, 6, 7] rfl rfl (by decide)
  refine W.widen (k := 3) (n := 18) (Nat.le_of_ble_eq_true rfl) (Nat.le_of_ble_eq_true rfl) ?_
  exact W.vret hx hb hr (fun t ht hW => ⟨⟨(), rfl, trivial, q4, q5, by rw [ht]; exact hP9, va_K.moved hW.alike hK, hD9⟩, hS.F ht⟩) hS.2.2 dM_sort0_56
set_option maxHeartbeats 400000000 in
set_option maxRecDepth 100000 in
theorem cM_sort0_7 (l : Launch) (hl9 : l.stackTraces = false) (D : va_G) (cT : Nat → ClassId) (aK aV : Nat → Nat) (sz : Nat) (a0 : Nat) (a1 : Nat) (a2 : Nat) (a3 : Nat) (a4 : Nat) (x5 : Int32) (x10 : Int32) (x15 : Int32) (v20 : Value) (v21 : Value) (v22 : Value) (v23 : Value) (v24 : Value) (v25 : Value) (v26 : Value) (v27 : Value) (v28 : Value) (v29 : Value) (v30 : Value) (v31 : Value) (v32 : Value) (v33 : Value) (v34 : Value) (v35 : Value) (v36 : Value) (v37 : Value) (v38 : Value) (v39 : Value) (v40 : Value) (v41 : Value) (v42 : Value) (v43 : Value) (v44 : Value) (v45 : Value) (v46 : Value) (v47 : Value) (v48 : Value) (f49 : Nat → Option Nat) (f52 : Nat → Int32) (f55 : Nat → Int32) (f60 : Nat → Option Nat) (h6 : ¬ x5 < 0) (h7 : ¬ 7 < x5) (h8 : x5 ≤ 7) (h9 : vp_in x5 8) (h11 : ¬ x10 < 0) (h12 : ¬ 7 < x10) (h13 : x10 ≤ 7) (h14 : vp_in x10 8) (h16 : ¬ x15 < 0) (h17 : ¬ 7 < x15) (h18 : x15 ≤ 7) (h19 : vp_in x15 8) (h50 : f49 x10.toNatClampNeg = some a3) (h51 : f49 x15.toNatClampNeg = some a3) (h53 : f52 x10.toNatClampNeg = 4) (h54 : f52 x15.toNatClampNeg = 4) (h56 : f55 0 = 110) (h57 : f55 1 = 117) (h58 : f55 2 = 108) (h59 : f55 3 = 108) (h61 : f60 0 = none) (h62 : f60 1 = none) : xMet l yM_sort0 wyM_sort0 9 3 18 204 D cT aK aV sz [.ref a0, .int x5, .int 3, .int x10, .int x15] [(a0, .inr (5, [v20, .ref a4, v21, v22, v23, v24, v25, v26, v27, v28, v29, v30, v31, v32, v33, v34, v35, v36, v37, v38, v39, v40, v41, v42, .ref a1, .ref a2, v43, v44, v45, v46, v47, v48])), (a1, .inl (cT 5, 8, .inr (.inr (.inr (.inr f49))))), (a2, .inl (cT 1, 8, .inl f52)), (a3, .inl (cT 0, 4096, .inl f55)), (a4, .inl (cT 4, 1024, .inr (.inr (.inr (.inr f60)))))] (fun A => va_Qv (fun _ : Unit => True) (fun _ t => ∃ (q4 : Nat) (q5 : Nat), xB D xcl cT A [(a0, .inr (5, [.int 2, .ref a4, .int 2, v22, .int 0, v24, v25, .int 0, .int 1, .int 0, v29, v30, .int 0, v32, v33, .ref a3, .int 4, .int 4, .int 0, .int 100, v39, v40, .int 0, .int 1000000000, .ref a1, .ref a2, v43, v44, v45, v46, .int 1, v48])), (a1, .inl (cT 5, 8, .inr (.inr (.inr (.inr f49))))), (a2, .inl (cT 1, 8, .inl f52)), (a3, .inl (cT 0, 4096, .inl f55)), (a4, .inl (cT 4, 1024, .inr (.inr (.inr (.inr (va_up (va_up f60 0 (some q4)) 1 (some q5))))))), (q4, .inr (6, [.int 0, .long 0, .int 0, .int 0, .int 0, .int 1])), (q5, .inr (6, [.int 0, .long 0, .int 0, .int 0, .int 0, .int 1]))] t) A) := by
  refine Met.ofW (cc := prog_13_method_94_code) (maxL := 5) (ret := none) (by decide) rfl ?_
  intro p e s m args below meth c s₁ B hml hv
  obtain ⟨rfl, hsz, hZ, hP, hK, hD0⟩ := hv
  have hx := B.exec
  have hb := B.bytes
  have hr := B.returns
  have hts := atoms_spec (ws := wyM_sort0) B.pre
  have htx := fun w h => hts w (List.mem_cons_of_mem _ h)
  have hown : s.vm.findClass "ValueBenchModel" = some m.cls := findClass_of_methodNamed B.named
  have hlocks := B.notSynchronized
  subst hsz
  have hD := hD0.self (sz := s.heap.size)
  generalize hAe : va_A [(a0, .inr (5, [v20, .ref a4, v21, v22, v23, v24, v25, v26, v27, v28, v29, v30, v31, v32, v33, v34, v35, v36, v37, v38, v39, v40, v41, v42, .ref a1, .ref a2, v43, v44, v45, v46, v47, v48])), (a1, .inl (cT 5, 8, .inr (.inr (.inr (.inr f49))))), (a2, .inl (cT 1, 8, .inl f52)), (a3, .inl (cT 0, 4096, .inl f55)), (a4, .inl (cT 4, 1024, .inr (.inr (.inr (.inr f60)))))] s.heap.size = A at hD hZ ⊢
  have hA : ∀ q : Nat, s.heap.size ≤ q → A q := fun q h => by rw [← hAe]; exact Or.inr h
  have hS : va_S A s.heap s.heap [] := va_S.rf
  have hP : va_P D xcl [(a0, .inr (5, [v20, .ref a4, v21, v22, v23, v24, v25, v26, v27, v28, v29, v30, v31, v32, v33, v34, v35, v36, v37, v38, v39, v40, v41, v42, .ref a1, .ref a2, v43, v44, v45, v46, v47, v48])), (a1, .inl (cT 5, 8, .inr (.inr (.inr (.inr f49))))), (a2, .inl (cT 1, 8, .inl f52)), (a3, .inl (cT 0, 4096, .inl f55)), (a4, .inl (cT 4, 1024, .inr (.inr (.inr (.inr f60)))))] s.heap := hP
  have hl := lv_entry ([.ref a0, .int x5, .int 3, .int x10, .int x15]) (n := 5) (Nat.le_of_ble_eq_true rfl)
  rw [lg_entry_eq]
  generalize (lg_sl ([.ref a0, .int x5, .int 3, .int x10, .int x15]) ++ List.replicate (5 - (lg_sl ([.ref a0, .int x5, .int 3, .int x10, .int x15])).length) Slot.unset).toArray = ls at hl ⊢
  have hl : lv_has ls 5 [(0, .ref a0), (1, .int x5), (2, .int 3), (3, .int x10), (4, .int x15)] := hl
  refine lv_aload_n hx hb dM_sort0_0 rfl (lv_at hl 0 rfl) ?_
  obtain ⟨hPc, hDc, hFc⟩ := xcut (wc := [(a0, .inr (5, [v20, .ref a4, v21, v22, v23, v24, v25, v26, v27, v28, v29, v30, v31, v32, v33, v34, v35, v36, v37, v38, v39, v40, v41, v42, .ref a1, .ref a2, v43, v44, v45, v46, v47, v48]))]) hP hD hS hA [0] rfl rfl (by decide)
  refine va_callv (va_runV (C := "ValueBenchModel") (As := []) (rest := []) ⟨hx, hb, hml, hown, htx⟩ (cM_begin_0 l hl9 D cT aK aV s.heap.size a0 v20 (.ref a4) v21 v22 v23 v24 v25 v26 v27 v28 v29 v30 v31 v32 v33 v34 v35 v36 v37 v38 v39 v40 v41 v42 (.ref a1) (.ref a2) v43 v44 v45 v46 v47 v48) ⟨callB_of 0 htx (xw_goodC kw_5_209) rfl rfl rfl (htx _ kw_1_5) (htx _ kw_5_206) ⟨by decide, by decide, by decide +kernel⟩ ⟨Nat.le_of_ble_eq_true rfl, Nat.le_of_ble_eq_true rfl⟩, (htx _ kw_5_208), (htx _ kp_M_begin)⟩ ⟨xPre_blind, va_recv hK hP (ci := 5) rfl (q0 := 0) rfl, (fun U hU hW => ⟨rfl, xPre_of hZ hS hFc hPc hDc hK U hU hW⟩)⟩ rfl rfl hl.1 rfl (lv_room (Nat.le_of_ble_eq_true rfl)) dM_sort0_1 ⟨Nat.le_of_ble_eq_true rfl, Nat.le_of_ble_eq_true rfl⟩) hS (fun q _ h => hFc q h) hFc (fun u9 t H1 locs ht hvm hr9 hB hz1 hk1 hS => ?_)
  obtain ⟨hP1, hK1, hD1⟩ := hB
  rw [ht] at hP1
  obtain ⟨hP, hD⟩ := xjoin (W := [(a1, .inl (cT 5, 8, .inr (.inr (.inr (.inr f49))))), (a2, .inl (cT 1, 8, .inl f52)), (a3, .inl (cT 0, 4096, .inl f55)), (a4, .inl (cT 4, 1024, .inr (.inr (.inr (.inr f60))))), (a0, .inr (5, [.int 0, .ref a4, .int 0, v22, .int 0, v24, v25, .int 0, v27, .int 0, v29, v30, .int 0, v32, v33, v34, v35, v36, v37, v38, v39, v40, .int 0, .int 1000000000, .ref a1, .ref a2, v43, v44, v45, v46, v47, v48]))]) hP hD [0] [1, 2, 3, 4] 4 rfl rfl (by decide) (by decide) hk1 hFc hP1 hD1
  generalize H1 = H at hP hS ⊢
  refine lv_aload_n hx hb dM_sort0_4 rfl (lv_at hl 0 rfl) ?_
  refine lv_iload_n hx hb dM_sort0_5 rfl (lv_at hl 1 rfl) ?_
  obtain ⟨hPc, hDc, hFc⟩ := xcut (wc := []) hP hD hS hA [] rfl rfl (by decide)
  refine va_calli (va_runV (C := "ValueBenchModel") (As := [.int x5]) (rest := []) ⟨hx, hb, hml, hown, htx⟩ (cM_out_0 l hl9 D cT aK aV H.size a0 x5 h6 h7 h8 h9) ⟨callB_of 1 htx (xw_goodC kw_5_217) rfl rfl rfl (htx _ kw_1_5) (htx _ kw_5_214) ⟨by decide, by decide, by decide +kernel⟩ ⟨Nat.le_of_ble_eq_true rfl, Nat.le_of_ble_eq_true rfl⟩, (htx _ kw_5_216), (htx _ kp_M_out)⟩ ⟨xPre_blind, va_recv hK hP (ci := 5) rfl (q0 := 4) rfl, (fun U hU hW => ⟨rfl, xPre_of hZ hS hFc hPc hDc hK U hU hW⟩)⟩ rfl rfl hl.1 rfl (lv_room (Nat.le_of_ble_eq_true rfl)) dM_sort0_6 ⟨Nat.le_of_ble_eq_true rfl, Nat.le_of_ble_eq_true rfl⟩) hS (fun q _ h => hFc q h) hFc (fun r1 u9 t H1 locs ht hvm hr9 hB hz1 hk1 hS => ?_)
  obtain ⟨hP1, hK1, hD1⟩ := hB
  rw [ht] at hP1
  obtain ⟨hP, hD⟩ := xjoin (W := [(a1, .inl (cT 5, 8, .inr (.inr (.inr (.inr f49))))), (a2, .inl (cT 1, 8, .inl f52)), (a3, .inl (cT 0, 4096, .inl f55)), (a4, .inl (cT 4, 1024, .inr (.inr (.inr (.inr f60))))), (a0, .inr (5, [.int 0, .ref a4, .int 0, v22, .int 0, v24, v25, .int 0, v27, .int 0, v29, v30, .int 0, v32, v33, v34, v35, v36, v37, v38, v39, v40, .int 0, .int 1000000000, .ref a1, .ref a2, v43, v44, v45, v46, v47, v48]))]) hP hD [] [0, 1, 2, 3, 4] 5 rfl rfl (by decide) (by decide) hk1 hFc hP1 hD1
  generalize H1 = H at hP hS ⊢
  rw [hr9]
  refine W.eq (g2 := F0 m 9 ls [.int 0]) rfl ?_
  refine lv_if_ne (tgt := 38) hx hb dM_sort0_9 (by decide) (fun h => ((by revert h; decide : False)).elim) (fun _ => ?_)
  refine lv_iload_n hx hb dM_sort0_12 rfl (lv_at hl 2 rfl) ?_
  refine lv_if_lt (tgt := 38) hx hb dM_sort0_13 (by decide) (fun h => ((by revert h; decide : False)).elim) (fun _ => ?_)
  refine lv_iload_n hx hb dM_sort0_16 rfl (lv_at hl 2 rfl) ?_
  refine lv_iconst (v := 4) hx hb dM_sort0_17 (by decide) ?_
  refine lv_icmp_gt (tgt := 38) hx hb dM_sort0_18 (by decide) (fun h => ((by revert h; decide : False)).elim) (fun _ => ?_)
  refine lv_aload_n hx hb dM_sort0_21 rfl (lv_at hl 0 rfl) ?_
  refine lv_iload_n hx hb dM_sort0_22 rfl (lv_at hl 3 rfl) ?_
  obtain ⟨hPc, hDc, hFc⟩ := xcut (wc := []) hP hD hS hA [] rfl rfl (by decide)
  refine va_calli (va_runV (C := "ValueBenchModel") (As := [.int x10]) (rest := []) ⟨hx, hb, hml, hown, htx⟩ (cM_out_0 l hl9 D cT aK aV H.size a0 x10 h11 h12 h13 h14) ⟨callB_of 1 htx (xw_goodC kw_5_217) rfl rfl rfl (htx _ kw_1_5) (htx _ kw_5_214) ⟨by decide, by decide, by decide +kernel⟩ ⟨Nat.le_of_ble_eq_true rfl, Nat.le_of_ble_eq_true rfl⟩, (htx _ kw_5_216), (htx _ kp_M_out)⟩ ⟨xPre_blind, va_recv hK hP (ci := 5) rfl (q0 := 4) rfl, (fun U hU hW => ⟨rfl, xPre_of hZ hS hFc hPc hDc hK U hU hW⟩)⟩ rfl rfl hl.1 rfl (lv_room (Nat.le_of_ble_eq_true rfl)) dM_sort0_23 ⟨Nat.le_of_ble_eq_true rfl, Nat.le_of_ble_eq_true rfl⟩) hS (fun q _ h => hFc q h) hFc (fun r2 u9 t H1 locs ht hvm hr9 hB hz1 hk1 hS => ?_)
  obtain ⟨hP1, hK1, hD1⟩ := hB
  rw [ht] at hP1
  obtain ⟨hP, hD⟩ := xjoin (W := [(a1, .inl (cT 5, 8, .inr (.inr (.inr (.inr f49))))), (a2, .inl (cT 1, 8, .inl f52)), (a3, .inl (cT 0, 4096, .inl f55)), (a4, .inl (cT 4, 1024, .inr (.inr (.inr (.inr f60))))), (a0, .inr (5, [.int 0, .ref a4, .int 0, v22, .int 0, v24, v25, .int 0, v27, .int 0, v29, v30, .int 0, v32, v33, v34, v35, v36, v37, v38, v39, v40, .int 0, .int 1000000000, .ref a1, .ref a2, v43, v44, v45, v46, v47, v48]))]) hP hD [] [0, 1, 2, 3, 4] 5 rfl rfl (by decide) (by decide) hk1 hFc hP1 hD1
  generalize H1 = H at hP hS ⊢
  rw [hr9]
  refine W.eq (g2 := F0 m 26 ls [.int 0]) rfl ?_
  refine lv_if_ne (tgt := 38) hx hb dM_sort0_26 (by decide) (fun h => ((by revert h; decide : False)).elim) (fun _ => ?_)
  refine lv_aload_n hx hb dM_sort0_29 rfl (lv_at hl 0 rfl) ?_
  refine lv_iload hx hb dM_sort0_30 (lv_at hl 4 rfl) ?_
  obtain ⟨hPc, hDc, hFc⟩ := xcut (wc := []) hP hD hS hA [] rfl rfl (by decide)
  refine va_calli (va_runV (C := "ValueBenchModel") (As := [.int x15]) (rest := []) ⟨hx, hb, hml, hown, htx⟩ (cM_out_0 l hl9 D cT aK aV H.size a0 x15 h16 h17 h18 h19) ⟨callB_of 1 htx (xw_goodC kw_5_217) rfl rfl rfl (htx _ kw_1_5) (htx _ kw_5_214) ⟨by decide, by decide, by decide +kernel⟩ ⟨Nat.le_of_ble_eq_true rfl, Nat.le_of_ble_eq_true rfl⟩, (htx _ kw_5_216), (htx _ kp_M_out)⟩ ⟨xPre_blind, va_recv hK hP (ci := 5) rfl (q0 := 4) rfl, (fun U hU hW => ⟨rfl, xPre_of hZ hS hFc hPc hDc hK U hU hW⟩)⟩ rfl rfl hl.1 rfl (lv_room (Nat.le_of_ble_eq_true rfl)) dM_sort0_32 ⟨Nat.le_of_ble_eq_true rfl, Nat.le_of_ble_eq_true rfl⟩) hS (fun q _ h => hFc q h) hFc (fun r3 u9 t H1 locs ht hvm hr9 hB hz1 hk1 hS => ?_)
  obtain ⟨hP1, hK1, hD1⟩ := hB
  rw [ht] at hP1
  obtain ⟨hP, hD⟩ := xjoin (W := [(a1, .inl (cT 5, 8, .inr (.inr (.inr (.inr f49))))), (a2, .inl (cT 1, 8, .inl f52)), (a3, .inl (cT 0, 4096, .inl f55)), (a4, .inl (cT 4, 1024, .inr (.inr (.inr (.inr f60))))), (a0, .inr (5, [.int 0, .ref a4, .int 0, v22, .int 0, v24, v25, .int 0, v27, .int 0, v29, v30, .int 0, v32, v33, v34, v35, v36, v37, v38, v39, v40, .int 0, .int 1000000000, .ref a1, .ref a2, v43, v44, v45, v46, v47, v48]))]) hP hD [] [0, 1, 2, 3, 4] 5 rfl rfl (by decide) (by decide) hk1 hFc hP1 hD1
  generalize H1 = H at hP hS ⊢
  rw [hr9]
  refine W.eq (g2 := F0 m 35 ls [.int 0]) rfl ?_
  refine lv_if_eq (tgt := 46) hx hb dM_sort0_35 (by decide) (fun _ => ?_) (fun h => ((by revert h; decide : False)).elim)
  refine lv_aload_n hx hb dM_sort0_46 rfl (lv_at hl 0 rfl) ?_
  refine lv_iload_n hx hb dM_sort0_47 rfl (lv_at hl 1 rfl) ?_
  refine lv_iconst (v := 3) hx hb dM_sort0_48 (by decide) ?_
  refine lv_iload_n hx hb dM_sort0_49 rfl (lv_at hl 2 rfl) ?_
  refine lv_iload_n hx hb dM_sort0_50 rfl (lv_at hl 3 rfl) ?_
  refine lv_iload hx hb dM_sort0_51 (lv_at hl 4 rfl) ?_
  obtain ⟨hPc, hDc, hFc⟩ := xcut (wc := [(a0, .inr (5, [.int 0, .ref a4, .int 0, v22, .int 0, v24, v25, .int 0, v27, .int 0, v29, v30, .int 0, v32, v33, v34, v35, v36, v37, v38, v39, v40, .int 0, .int 1000000000, .ref a1, .ref a2, v43, v44, v45, v46, v47, v48])), (a1, .inl (cT 5, 8, .inr (.inr (.inr (.inr f49))))), (a2, .inl (cT 1, 8, .inl f52)), (a3, .inl (cT 0, 4096, .inl f55)), (a4, .inl (cT 4, 1024, .inr (.inr (.inr (.inr f60)))))]) hP hD hS hA [4, 0, 1, 2, 3] rfl rfl (by decide)
  refine va_callv (vx_runVW (C := "ValueBenchModel") (As := [.int x5, .int 3, .int 3, .int x10, .int x15]) (rest := []) ⟨hx, hb, hml, hown, htx⟩ (cM_finish_68 l hl9 D cT aK aV H.size a0 a1 a2 a3 a4 x5 3 x10 x15 (.int 0) v22 (.int 0) v24 v25 (.int 0) v27 (.int 0) v29 v30 (.int 0) v32 v33 v34 v35 v36 v37 v38 v39 v40 (.int 0) (.int 1000000000) v43 v44 v45 v46 v47 v48 f49 f52 f55 f60 h11 h12 h13 h14 h16 h17 h18 h19 (by first | rfl | exact h50 | exact h51 | exact h53 | exact h54 | exact h56 | exact h57 | exact h58 | exact h59 | exact h61 | exact h62) (by first | rfl | exact h50 | exact h51 | exact h53 | exact h54 | exact h56 | exact h57 | exact h58 | exact h59 | exact h61 | exact h62) (by first | rfl | exact h50 | exact h51 | exact h53 | exact h54 | exact h56 | exact h57 | exact h58 | exact h59 | exact h61 | exact h62) (by first | rfl | exact h50 | exact h51 | exact h53 | exact h54 | exact h56 | exact h57 | exact h58 | exact h59 | exact h61 | exact h62) (by first | rfl | exact h50 | exact h51 | exact h53 | exact h54 | exact h56 | exact h57 | exact h58 | exact h59 | exact h61 | exact h62) (by first | rfl | exact h50 | exact h51 | exact h53 | exact h54 | exact h56 | exact h57 | exact h58 | exact h59 | exact h61 | exact h62) (by first | rfl | exact h50 | exact h51 | exact h53 | exact h54 | exact h56 | exact h57 | exact h58 | exact h59 | exact h61 | exact h62) (by first | rfl | exact h50 | exact h51 | exact h53 | exact h54 | exact h56 | exact h57 | exact h58 | exact h59 | exact h61 | exact h62) (by first | rfl | exact h50 | exact h51 | exact h53 | exact h54 | exact h56 | exact h57 | exact h58 | exact h59 | exact h61 | exact h62) (by first | rfl | exact h50 | exact h51 | exact h53 | exact h54 | exact h56 | exact h57 | exact h58 | exact h59 | exact h61 | exact h62)) (xcVW 5 htx (xw_goodC kw_6_195) rfl rfl rfl (htx _ kw_1_5) (htx _ kw_6_192) ⟨by decide, by decide, by decide +kernel⟩ ⟨Nat.le_of_ble_eq_true rfl, Nat.le_of_ble_eq_true rfl⟩ (htx _ kw_6_194) (htx _ kp_M_finish)) ⟨xPre_blind, va_recv hK hP (ci := 5) rfl (q0 := 4) rfl, (fun U hU hW => ⟨rfl, xPre_of hZ hS hFc hPc hDc hK U hU hW⟩)⟩ rfl rfl hl.1 rfl (lv_room (Nat.le_of_ble_eq_true rfl)) dM_sort0_53 ⟨Nat.le_of_ble_eq_true rfl, Nat.le_of_ble_eq_true rfl⟩) hS (fun q _ h => hFc q h) hFc (fun u9 t H1 locs ht hvm hr9 hB hz1 hk1 hS => ?_)
  obtain ⟨q4, q5, hP1, hK1, hD1⟩ := hB
  rw [ht] at hP1
  obtain ⟨hP, hD⟩ := xjoin (W := [(a0, .inr (5, [.int 2, .ref a4, .int 2, v22, .int 0, v24, v25, .int 0, .int 1, .int 0, v29, v30, .int 0, v32, v33, .ref a3, .int 4, .int 4, .int 0, .int 100, v39, v40, .int 0, .int 1000000000, .ref a1, .ref a2, v43, v44, v45, v46, .int 1, v48])), (a1, .inl (cT 5, 8, .inr (.inr (.inr (.inr f49))))), (a2, .inl (cT 1, 8, .inl f52)), (a3, .inl (cT 0, 4096, .inl f55)), (a4, .inl (cT 4, 1024, .inr (.inr (.inr (.inr (va_up (va_up f60 0 (some q4)) 1 (some q5))))))), (q4, .inr (6, [.int 0, .long 0, .int 0, .int 0, .int 0, .int 1])), (q5, .inr (6, [.int 0, .long 0, .int 0, .int 0, .int 0, .int 1]))]) hP hD [4, 0, 1, 2, 3] [] 0 rfl rfl (by decide) (by decide) hk1 hFc hP1 hD1
  generalize H1 = H at hP hS ⊢
  obtain ⟨hP9, hD9⟩ := xsub (wc := [(a0, .inr (5, [.int 2, .ref a4, .int 2, v22, .int 0, v24, v25, .int 0, .int 1, .int 0, v29, v30, .int 0, v32, v33, .ref a3, .int 4, .int 4, .int 0, .int 100, v39, v40, .int 0, .int 1000000000, .ref a1, .ref a2, v43, v44, v45, v46, .int 1, v48])), (a1, .inl (cT 5, 8, .inr (.inr (.inr (.inr f49))))), (a2, .inl (cT 1, 8, .inl f52)), (a3, .inl (cT 0, 4096, .inl f55)), (a4, .inl (cT 4, 1024, .inr (.inr (.inr (.inr (va_up (va_up f60 0 (some q4)) 1 (some q5))))))), (q4, .inr (6, [.int 0, .long 0, .int 0, .int 0, .int 0, .int 1])), (q5, .inr (6, [.int 0, .long 0, .int 0, .int 0, .int 0, .int 1]))]) hP hD [0, 1, 2, 3, 4, 5, 6] rfl rfl (by decide)
  refine W.widen (k := 3) (n := 18) (Nat.le_of_ble_eq_true rfl) (Nat.le_of_ble_eq_true rfl) ?_
  exact W.vret hx hb hr (fun t ht hW => ⟨⟨(), rfl, trivial, q4, q5, by rw [ht]; exact hP9, va_K.moved hW.alike hK, hD9⟩, hS.F ht⟩) hS.2.2 dM_sort0_56
set_option maxHeartbeats 400000000 in
set_option maxRecDepth 100000 in
theorem cM_sort0_8 (l : Launch) (hl9 : l.stackTraces = false) (D : va_G) (cT : Nat → ClassId) (aK aV : Nat → Nat) (sz : Nat) (a0 : Nat) (a1 : Nat) (a2 : Nat) (a3 : Nat) (a4 : Nat) (a5 : Nat) (x6 : Int32) (x11 : Int32) (x16 : Int32) (v21 : Value) (v22 : Value) (v23 : Value) (v24 : Value) (v25 : Value) (v26 : Value) (v27 : Value) (v28 : Value) (v29 : Value) (v30 : Value) (v31 : Value) (v32 : Value) (v33 : Value) (v34 : Value) (v35 : Value) (v36 : Value) (v37 : Value) (v38 : Value) (v39 : Value) (v40 : Value) (v41 : Value) (v42 : Value) (v43 : Value) (v44 : Value) (v45 : Value) (v46 : Value) (v47 : Value) (v48 : Value) (v49 : Value) (f50 : Nat → Option Nat) (f53 : Nat → Int32) (f56 : Nat → Int32) (f61 : Nat → Option Nat) (f64 : Nat → Int32) (h7 : ¬ x6 < 0) (h8 : ¬ 7 < x6) (h9 : x6 ≤ 7) (h10 : vp_in x6 8) (h12 : ¬ x11 < 0) (h13 : ¬ 7 < x11) (h14 : x11 ≤ 7) (h15 : vp_in x11 8) (h17 : ¬ x16 < 0) (h18 : ¬ 7 < x16) (h19 : x16 ≤ 7) (h20 : vp_in x16 8) (h51 : f50 x11.toNatClampNeg = some a3) (h52 : f50 x16.toNatClampNeg = some a5) (h54 : f53 x11.toNatClampNeg = 4) (h55 : f53 x16.toNatClampNeg = 4) (h57 : f56 0 = 110) (h58 : f56 1 = 117) (h59 : f56 2 = 108) (h60 : f56 3 = 108) (h62 : f61 0 = none) (h63 : f61 1 = none) (h65 : f64 0 = 110) (h66 : f64 1 = 117) (h67 : f64 2 = 108) (h68 : f64 3 = 108) : xMet l yM_sort0 wyM_sort0 9 3 18 204 D cT aK aV sz [.ref a0, .int x6, .int 4, .int x11, .int x16] [(a0, .inr (5, [v21, .ref a4, v22, v23, v24, v25, v26, v27, v28, v29, v30, v31, v32, v33, v34, v35, v36, v37, v38, v39, v40, v41, v42, v43, .ref a1, .ref a2, v44, v45, v46, v47, v48, v49])), (a1, .inl (cT 5, 8, .inr (.inr (.inr (.inr f50))))), (a2, .inl (cT 1, 8, .inl f53)), (a3, .inl (cT 0, 4096, .inl f56)), (a4, .inl (cT 4, 1024, .inr (.inr (.inr (.inr f61))))), (a5, .inl (cT 0, 4096, .inl f64))] (fun A => va_Qv (fun _ : Unit => True) (fun _ t => ∃ (q4 : Nat) (q5 : Nat), xB D xcl cT A [(a0, .inr (5, [.int 2, .ref a4, .int 2, v23, .int 0, v25, v26, .int 0, .int 1, .int 0, v30, v31, .int 0, v33, v34, .ref a5, .int 4, .int 4, .int 0, .int 100, v40, v41, .int 0, .int 1000000000, .ref a1, .ref a2, v44, v45, v46, v47, .int 1, v49])), (a1, .inl (cT 5, 8, .inr (.inr (.inr (.inr f50))))), (a2, .inl (cT 1, 8, .inl f53)), (a3, .inl (cT 0, 4096, .inl f56)), (a4, .inl (cT 4, 1024, .inr (.inr (.inr (.inr (va_up (va_up f61 0 (some q4)) 1 (some q5))))))), (a5, .inl (cT 0, 4096, .inl f64)), (q4, .inr (6, [.int 0, .long 0, .int 0, .int 0, .int 0, .int 1])), (q5, .inr (6, [.int 0, .long 0, .int 0, .int 0, .int 0, .int 1]))] t) A) := by
  refine Met.ofW (cc := prog_13_method_94_code) (maxL := 5) (ret := none) (by decide) rfl ?_
  intro p e s m args below meth c s₁ B hml hv
  obtain ⟨rfl, hsz, hZ, hP, hK, hD0⟩ := hv
  have hx := B.exec
  have hb := B.bytes
  have hr := B.returns
  have hts := atoms_spec (ws := wyM_sort0) B.pre
  have htx := fun w h => hts w (List.mem_cons_of_mem _ h)
  have hown : s.vm.findClass "ValueBenchModel" = some m.cls := findClass_of_methodNamed B.named
  have hlocks := B.notSynchronized
  subst hsz
  have hD := hD0.self (sz := s.heap.size)
  generalize hAe : va_A [(a0, .inr (5, [v21, .ref a4, v22, v23, v24, v25, v26, v27, v28, v29, v30, v31, v32, v33, v34, v35, v36, v37, v38, v39, v40, v41, v42, v43, .ref a1, .ref a2, v44, v45, v46, v47, v48, v49])), (a1, .inl (cT 5, 8, .inr (.inr (.inr (.inr f50))))), (a2, .inl (cT 1, 8, .inl f53)), (a3, .inl (cT 0, 4096, .inl f56)), (a4, .inl (cT 4, 1024, .inr (.inr (.inr (.inr f61))))), (a5, .inl (cT 0, 4096, .inl f64))] s.heap.size = A at hD hZ ⊢
  have hA : ∀ q : Nat, s.heap.size ≤ q → A q := fun q h => by rw [← hAe]; exact Or.inr h
  have hS : va_S A s.heap s.heap [] := va_S.rf
  have hP : va_P D xcl [(a0, .inr (5, [v21, .ref a4, v22, v23, v24, v25, v26, v27, v28, v29, v30, v31, v32, v33, v34, v35, v36, v37, v38, v39, v40, v41, v42, v43, .ref a1, .ref a2, v44, v45, v46, v47, v48, v49])), (a1, .inl (cT 5, 8, .inr (.inr (.inr (.inr f50))))), (a2, .inl (cT 1, 8, .inl f53)), (a3, .inl (cT 0, 4096, .inl f56)), (a4, .inl (cT 4, 1024, .inr (.inr (.inr (.inr f61))))), (a5, .inl (cT 0, 4096, .inl f64))] s.heap := hP
  have hl := lv_entry ([.ref a0, .int x6, .int 4, .int x11, .int x16]) (n := 5) (Nat.le_of_ble_eq_true rfl)
  rw [lg_entry_eq]
  generalize (lg_sl ([.ref a0, .int x6, .int 4, .int x11, .int x16]) ++ List.replicate (5 - (lg_sl ([.ref a0, .int x6, .int 4, .int x11, .int x16])).length) Slot.unset).toArray = ls at hl ⊢
  have hl : lv_has ls 5 [(0, .ref a0), (1, .int x6), (2, .int 4), (3, .int x11), (4, .int x16)] := hl
  refine lv_aload_n hx hb dM_sort0_0 rfl (lv_at hl 0 rfl) ?_
  obtain ⟨hPc, hDc, hFc⟩ := xcut (wc := [(a0, .inr (5, [v21, .ref a4, v22, v23, v24, v25, v26, v27, v28, v29, v30, v31, v32, v33, v34, v35, v36, v37, v38, v39, v40, v41, v42, v43, .ref a1, .ref a2, v44, v45, v46, v47, v48, v49]))]) hP hD hS hA [0] rfl rfl (by decide)
  refine va_callv (va_runV (C := "ValueBenchModel") (As := []) (rest := []) ⟨hx, hb, hml, hown, htx⟩ (cM_begin_0 l hl9 D cT aK aV s.heap.size a0 v21 (.ref a4) v22 v23 v24 v25 v26 v27 v28 v29 v30 v31 v32 v33 v34 v35 v36 v37 v38 v39 v40 v41 v42 v43 (.ref a1) (.ref a2) v44 v45 v46 v47 v48 v49) ⟨callB_of 0 htx (xw_goodC kw_5_209) rfl rfl rfl (htx _ kw_1_5) (htx _ kw_5_206) ⟨by decide, by decide, by decide +kernel⟩ ⟨Nat.le_of_ble_eq_true rfl, Nat.le_of_ble_eq_true rfl⟩, (htx _ kw_5_208), (htx _ kp_M_begin)⟩ ⟨xPre_blind, va_recv hK hP (ci := 5) rfl (q0 := 0) rfl, (fun U hU hW => ⟨rfl, xPre_of hZ hS hFc hPc hDc hK U hU hW⟩)⟩ rfl rfl hl.1 rfl (lv_room (Nat.le_of_ble_eq_true rfl)) dM_sort0_1 ⟨Nat.le_of_ble_eq_true rfl, Nat.le_of_ble_eq_true rfl⟩) hS (fun q _ h => hFc q h) hFc (fun u9 t H1 locs ht hvm hr9 hB hz1 hk1 hS => ?_)
  obtain ⟨hP1, hK1, hD1⟩ := hB
  rw [ht] at hP1
  obtain ⟨hP, hD⟩ := xjoin (W := [(a1, .inl (cT 5, 8, .inr (.inr (.inr (.inr f50))))), (a2, .inl (cT 1, 8, .inl f53)), (a3, .inl (cT 0, 4096, .inl f56)), (a4, .inl (cT 4, 1024, .inr (.inr (.inr (.inr f61))))), (a5, .inl (cT 0, 4096, .inl f64)), (a0, .inr (5, [.int 0, .ref a4, .int 0, v23, .int 0, v25, v26, .int 0, v28, .int 0, v30, v31, .int 0, v33, v34, v35, v36, v37, v38, v39, v40, v41, .int 0, .int 1000000000, .ref a1, .ref a2, v44, v45, v46, v47, v48, v49]))]) hP hD [0] [1, 2, 3, 4, 5] 5 rfl rfl (by decide) (by decide) hk1 hFc hP1 hD1
  generalize H1 = H at hP hS ⊢
  refine lv_aload_n hx hb dM_sort0_4 rfl (lv_at hl 0 rfl) ?_
  refine lv_iload_n hx hb dM_sort0_5 rfl (lv_at hl 1 rfl) ?_
  obtain ⟨hPc, hDc, hFc⟩ := xcut (wc := []) hP hD hS hA [] rfl rfl (by decide)
  refine va_calli (va_runV (C := "ValueBenchModel") (As := [.int x6]) (rest := []) ⟨hx, hb, hml, hown, htx⟩ (cM_out_0 l hl9 D cT aK aV H.size a0 x6 h7 h8 h9 h10) ⟨callB_of 1 htx (xw_goodC kw_5_217) rfl rfl rfl (htx _ kw_1_5) (htx _ kw_5_214) ⟨by decide, by decide, by decide +kernel⟩ ⟨Nat.le_of_ble_eq_true rfl, Nat.le_of_ble_eq_true rfl⟩, (htx _ kw_5_216), (htx _ kp_M_out)⟩ ⟨xPre_blind, va_recv hK hP (ci := 5) rfl (q0 := 5) rfl, (fun U hU hW => ⟨rfl, xPre_of hZ hS hFc hPc hDc hK U hU hW⟩)⟩ rfl rfl hl.1 rfl (lv_room (Nat.le_of_ble_eq_true rfl)) dM_sort0_6 ⟨Nat.le_of_ble_eq_true rfl, Nat.le_of_ble_eq_true rfl⟩) hS (fun q _ h => hFc q h) hFc (fun r1 u9 t H1 locs ht hvm hr9 hB hz1 hk1 hS => ?_)
  obtain ⟨hP1, hK1, hD1⟩ := hB
  rw [ht] at hP1
  obtain ⟨hP, hD⟩ := xjoin (W := [(a1, .inl (cT 5, 8, .inr (.inr (.inr (.inr f50))))), (a2, .inl (cT 1, 8, .inl f53)), (a3, .inl (cT 0, 4096, .inl f56)), (a4, .inl (cT 4, 1024, .inr (.inr (.inr (.inr f61))))), (a5, .inl (cT 0, 4096, .inl f64)), (a0, .inr (5, [.int 0, .ref a4, .int 0, v23, .int 0, v25, v26, .int 0, v28, .int 0, v30, v31, .int 0, v33, v34, v35, v36, v37, v38, v39, v40, v41, .int 0, .int 1000000000, .ref a1, .ref a2, v44, v45, v46, v47, v48, v49]))]) hP hD [] [0, 1, 2, 3, 4, 5] 6 rfl rfl (by decide) (by decide) hk1 hFc hP1 hD1
  generalize H1 = H at hP hS ⊢
  rw [hr9]
  refine W.eq (g2 := F0 m 9 ls [.int 0]) rfl ?_
  refine lv_if_ne (tgt := 38) hx hb dM_sort0_9 (by decide) (fun h => ((by revert h; decide : False)).elim) (fun _ => ?_)
  refine lv_iload_n hx hb dM_sort0_12 rfl (lv_at hl 2 rfl) ?_
  refine lv_if_lt (tgt := 38) hx hb dM_sort0_13 (by decide) (fun h => ((by revert h; decide : False)).elim) (fun _ => ?_)
  refine lv_iload_n hx hb dM_sort0_16 rfl (lv_at hl 2 rfl) ?_
  refine lv_iconst (v := 4) hx hb dM_sort0_17 (by decide) ?_
  refine lv_icmp_gt (tgt := 38) hx hb dM_sort0_18 (by decide) (fun h => ((by revert h; decide : False)).elim) (fun _ => ?_)
  refine lv_aload_n hx hb dM_sort0_21 rfl (lv_at hl 0 rfl) ?_
  refine lv_iload_n hx hb dM_sort0_22 rfl (lv_at hl 3 rfl) ?_
  obtain ⟨hPc, hDc, hFc⟩ := xcut (wc := []) hP hD hS hA [] rfl rfl (by decide)
  refine va_calli (va_runV (C := "ValueBenchModel") (As := [.int x11]) (rest := []) ⟨hx, hb, hml, hown, htx⟩ (cM_out_0 l hl9 D cT aK aV H.size a0 x11 h12 h13 h14 h15) ⟨callB_of 1 htx (xw_goodC kw_5_217) rfl rfl rfl (htx _ kw_1_5) (htx _ kw_5_214) ⟨by decide, by decide, by decide +kernel⟩ ⟨Nat.le_of_ble_eq_true rfl, Nat.le_of_ble_eq_true rfl⟩, (htx _ kw_5_216), (htx _ kp_M_out)⟩ ⟨xPre_blind, va_recv hK hP (ci := 5) rfl (q0 := 5) rfl, (fun U hU hW => ⟨rfl, xPre_of hZ hS hFc hPc hDc hK U hU hW⟩)⟩ rfl rfl hl.1 rfl (lv_room (Nat.le_of_ble_eq_true rfl)) dM_sort0_23 ⟨Nat.le_of_ble_eq_true rfl, Nat.le_of_ble_eq_true rfl⟩) hS (fun q _ h => hFc q h) hFc (fun r2 u9 t H1 locs ht hvm hr9 hB hz1 hk1 hS => ?_)
  obtain ⟨hP1, hK1, hD1⟩ := hB
  rw [ht] at hP1
  obtain ⟨hP, hD⟩ := xjoin (W := [(a1, .inl (cT 5, 8, .inr (.inr (.inr (.inr f50))))), (a2, .inl (cT 1, 8, .inl f53)), (a3, .inl (cT 0, 4096, .inl f56)), (a4, .inl (cT 4, 1024, .inr (.inr (.inr (.inr f61))))), (a5, .inl (cT 0, 4096, .inl f64)), (a0, .inr (5, [.int 0, .ref a4, .int 0, v23, .int 0, v25, v26, .int 0, v28, .int 0, v30, v31, .int 0, v33, v34, v35, v36, v37, v38, v39, v40, v41, .int 0, .int 1000000000, .ref a1, .ref a2, v44, v45, v46, v47, v48, v49]))]) hP hD [] [0, 1, 2, 3, 4, 5] 6 rfl rfl (by decide) (by decide) hk1 hFc hP1 hD1
  generalize H1 = H at hP hS ⊢
  rw [hr9]
  refine W.eq (g2 := F0 m 26 ls [.int 0]) rfl ?_
  refine lv_if_ne (tgt := 38) hx hb dM_sort0_26 (by decide) (fun h => ((by revert h; decide : False)).elim) (fun _ => ?_)
  refine lv_aload_n hx hb dM_sort0_29 rfl (lv_at hl 0 rfl) ?_
  refine lv_iload hx hb dM_sort0_30 (lv_at hl 4 rfl) ?_
  obtain ⟨hPc, hDc, hFc⟩ := xcut (wc := []) hP hD hS hA [] rfl rfl (by decide)
  refine va_calli (va_runV (C := "ValueBenchModel") (As := [.int x16]) (rest := []) ⟨hx, hb, hml, hown, htx⟩ (cM_out_0 l hl9 D cT aK aV H.size a0 x16 h17 h18 h19 h20) ⟨callB_of 1 htx (xw_goodC kw_5_217) rfl rfl rfl (htx _ kw_1_5) (htx _ kw_5_214) ⟨by decide, by decide, by decide +kernel⟩ ⟨Nat.le_of_ble_eq_true rfl, Nat.le_of_ble_eq_true rfl⟩, (htx _ kw_5_216), (htx _ kp_M_out)⟩ ⟨xPre_blind, va_recv hK hP (ci := 5) rfl (q0 := 5) rfl, (fun U hU hW => ⟨rfl, xPre_of hZ hS hFc hPc hDc hK U hU hW⟩)⟩ rfl rfl hl.1 rfl (lv_room (Nat.le_of_ble_eq_true rfl)) dM_sort0_32 ⟨Nat.le_of_ble_eq_true rfl, Nat.le_of_ble_eq_true rfl⟩) hS (fun q _ h => hFc q h) hFc (fun r3 u9 t H1 locs ht hvm hr9 hB hz1 hk1 hS => ?_)
  obtain ⟨hP1, hK1, hD1⟩ := hB
  rw [ht] at hP1
  obtain ⟨hP, hD⟩ := xjoin (W := [(a1, .inl (cT 5, 8, .inr (.inr (.inr (.inr f50))))), (a2, .inl (cT 1, 8, .inl f53)), (a3, .inl (cT 0, 4096, .inl f56)), (a4, .inl (cT 4, 1024, .inr (.inr (.inr (.inr f61))))), (a5, .inl (cT 0, 4096, .inl f64)), (a0, .inr (5, [.int 0, .ref a4, .int 0, v23, .int 0, v25, v26, .int 0, v28, .int 0, v30, v31, .int 0, v33, v34, v35, v36, v37, v38, v39, v40, v41, .int 0, .int 1000000000, .ref a1, .ref a2, v44, v45, v46, v47, v48, v49]))]) hP hD [] [0, 1, 2, 3, 4, 5] 6 rfl rfl (by decide) (by decide) hk1 hFc hP1 hD1
  generalize H1 = H at hP hS ⊢
  rw [hr9]
  refine W.eq (g2 := F0 m 35 ls [.int 0]) rfl ?_
  refine lv_if_eq (tgt := 46) hx hb dM_sort0_35 (by decide) (fun _ => ?_) (fun h => ((by revert h; decide : False)).elim)
  refine lv_aload_n hx hb dM_sort0_46 rfl (lv_at hl 0 rfl) ?_
  refine lv_iload_n hx hb dM_sort0_47 rfl (lv_at hl 1 rfl) ?_
  refine lv_iconst (v := 3) hx hb dM_sort0_48 (by decide) ?_
  refine lv_iload_n hx hb dM_sort0_49 rfl (lv_at hl 2 rfl) ?_
  refine lv_iload_n hx hb dM_sort0_50 rfl (lv_at hl 3 rfl) ?_
  refine lv_iload hx hb dM_sort0_51 (lv_at hl 4 rfl) ?_
  obtain ⟨hPc, hDc, hFc⟩ := xcut (wc := [(a0, .inr (5, [.int 0, .ref a4, .int 0, v23, .int 0, v25, v26, .int 0, v28, .int 0, v30, v31, .int 0, v33, v34, v35, v36, v37, v38, v39, v40, v41, .int 0, .int 1000000000, .ref a1, .ref a2, v44, v45, v46, v47, v48, v49])), (a1, .inl (cT 5, 8, .inr (.inr (.inr (.inr f50))))), (a2, .inl (cT 1, 8, .inl f53)), (a3, .inl (cT 0, 4096, .inl f56)), (a4, .inl (cT 4, 1024, .inr (.inr (.inr (.inr f61))))), (a5, .inl (cT 0, 4096, .inl f64))]) hP hD hS hA [5, 0, 1, 2, 3, 4] rfl rfl (by decide)
  refine va_callv (vx_runVW (C := "ValueBenchModel") (As := [.int x6, .int 3, .int 4, .int x11, .int x16]) (rest := []) ⟨hx, hb, hml, hown, htx⟩ (cM_finish_67 l hl9 D cT aK aV H.size a0 a1 a2 a3 a4 a5 x6 4 x11 x16 (.int 0) v23 (.int 0) v25 v26 (.int 0) v28 (.int 0) v30 v31 (.int 0) v33 v34 v35 v36 v37 v38 v39 v40 v41 (.int 0) (.int 1000000000) v44 v45 v46 v47 v48 v49 f50 f53 f56 f61 f64 h12 h13 h14 h15 h17 h18 h19 h20 (by first | rfl | exact h51 | exact h52 | exact h54 | exact h55 | exact h57 | exact h58 | exact h59 | exact h60 | exact h62 | exact h63 | exact h65 | exact h66 | exact h67 | exact h68) (by first | rfl | exact h51 | exact h52 | exact h54 | exact h55 | exact h57 | exact h58 | exact h59 | exact h60 | exact h62 | exact h63 | exact h65 | exact h66 | exact h67 | exact h68) (by first | rfl | exact h51 | exact h52 | exact h54 | exact h55 | exact h57 | exact h58 | exact h59 | exact h60 | exact h62 | exact h63 | exact h65 | exact h66 | exact h67 | exact h68) (by first | rfl | exact h51 | exact h52 | exact h54 | exact h55 | exact h57 | exact h58 | exact h59 | exact h60 | exact h62 | exact h63 | exact h65 | exact h66 | exact h67 | exact h68) (by first | rfl | exact h51 | exact h52 | exact h54 | exact h55 | exact h57 | exact h58 | exact h59 | exact h60 | exact h62 | exact h63 | exact h65 | exact h66 | exact h67 | exact h68) (by first | rfl | exact h51 | exact h52 | exact h54 | exact h55 | exact h57 | exact h58 | exact h59 | exact h60 | exact h62 | exact h63 | exact h65 | exact h66 | exact h67 | exact h68) (by first | rfl | exact h51 | exact h52 | exact h54 | exact h55 | exact h57 | exact h58 | exact h59 | exact h60 | exact h62 | exact h63 | exact h65 | exact h66 | exact h67 | exact h68) (by first | rfl | exact h51 | exact h52 | exact h54 | exact h55 | exact h57 | exact h58 | exact h59 | exact h60 | exact h62 | exact h63 | exact h65 | exact h66 | exact h67 | exact h68) (by first | rfl | exact h51 | exact h52 | exact h54 | exact h55 | exact h57 | exact h58 | exact h59 | exact h60 | exact h62 | exact h63 | exact h65 | exact h66 | exact h67 | exact h68) (by first | rfl | exact h51 | exact h52 | exact h54 | exact h55 | exact h57 | exact h58 | exact h59 | exact h60 | exact h62 | exact h63 | exact h65 | exact h66 | exact h67 | exact h68) (by first | rfl | exact h51 | exact h52 | exact h54 | exact h55 | exact h57 | exact h58 | exact h59 | exact h60 | exact h62 | exact h63 | exact h65 | exact h66 | exact h67 | exact h68) (by first | rfl | exact h51 | exact h52 | exact h54 | exact h55 | exact h57 | exact h58 | exact h59 | exact h60 | exact h62 | exact h63 | exact h65 | exact h66 | exact h67 | exact h68) (by first | rfl | exact h51 | exact h52 | exact h54 | exact h55 | exact h57 | exact h58 | exact h59 | exact h60 | exact h62 | exact h63 | exact h65 | exact h66 | exact h67 | exact h68) (by first | rfl | exact h51 | exact h52 | exact h54 | exact h55 | exact h57 | exact h58 | exact h59 | exact h60 | exact h62 | exact h63 | exact h65 | exact h66 | exact h67 | exact h68)) (xcVW 5 htx (xw_goodC kw_6_195) rfl rfl rfl (htx _ kw_1_5) (htx _ kw_6_192) ⟨by decide, by decide, by decide +kernel⟩ ⟨Nat.le_of_ble_eq_true rfl, Nat.le_of_ble_eq_true rfl⟩ (htx _ kw_6_194) (htx _ kp_M_finish)) ⟨xPre_blind, va_recv hK hP (ci := 5) rfl (q0 := 5) rfl, (fun U hU hW => ⟨rfl, xPre_of hZ hS hFc hPc hDc hK U hU hW⟩)⟩ rfl rfl hl.1 rfl (lv_room (Nat.le_of_ble_eq_true rfl)) dM_sort0_53 ⟨Nat.le_of_ble_eq_true rfl, Nat.le_of_ble_eq_true rfl⟩) hS (fun q _ h => hFc q h) hFc (fun u9 t H1 locs ht hvm hr9 hB hz1 hk1 hS => ?_)
  obtain ⟨q4, q5, hP1, hK1, hD1⟩ := hB
  rw [ht] at hP1
  obtain ⟨hP, hD⟩ := xjoin (W := [(a0, .inr (5, [.int 2, .ref a4, .int 2, v23, .int 0, v25, v26, .int 0, .int 1, .int 0, v30, v31, .int 0, v33, v34, .ref a5, .int 4, .int 4, .int 0, .int 100, v40, v41, .int 0, .int 1000000000, .ref a1, .ref a2, v44, v45, v46, v47, .int 1, v49])), (a1, .inl (cT 5, 8, .inr (.inr (.inr (.inr f50))))), (a2, .inl (cT 1, 8, .inl f53)), (a3, .inl (cT 0, 4096, .inl f56)), (a4, .inl (cT 4, 1024, .inr (.inr (.inr (.inr (va_up (va_up f61 0 (some q4)) 1 (some q5))))))), (a5, .inl (cT 0, 4096, .inl f64)), (q4, .inr (6, [.int 0, .long 0, .int 0, .int 0, .int 0, .int 1])), (q5, .inr (6, [.int 0, .long 0, .int 0, .int 0, .int 0, .int 1]))]) hP hD [5, 0, 1, 2, 3, 4] [] 0 rfl rfl (by decide) (by decide) hk1 hFc hP1 hD1
  generalize H1 = H at hP hS ⊢
  obtain ⟨hP9, hD9⟩ := xsub (wc := [(a0, .inr (5, [.int 2, .ref a4, .int 2, v23, .int 0, v25, v26, .int 0, .int 1, .int 0, v30, v31, .int 0, v33, v34, .ref a5, .int 4, .int 4, .int 0, .int 100, v40, v41, .int 0, .int 1000000000, .ref a1, .ref a2, v44, v45, v46, v47, .int 1, v49])), (a1, .inl (cT 5, 8, .inr (.inr (.inr (.inr f50))))), (a2, .inl (cT 1, 8, .inl f53)), (a3, .inl (cT 0, 4096, .inl f56)), (a4, .inl (cT 4, 1024, .inr (.inr (.inr (.inr (va_up (va_up f61 0 (some q4)) 1 (some q5))))))), (a5, .inl (cT 0, 4096, .inl f64)), (q4, .inr (6, [.int 0, .long 0, .int 0, .int 0, .int 0, .int 1])), (q5, .inr (6, [.int 0, .long 0, .int 0, .int 0, .int 0, .int 1]))]) hP hD [0, 1, 2, 3, 4, 5, 6, 7] rfl rfl (by decide)
  refine W.widen (k := 3) (n := 18) (Nat.le_of_ble_eq_true rfl) (Nat.le_of_ble_eq_true rfl) ?_
  exact W.vret hx hb hr (fun t ht hW => ⟨⟨(), rfl, trivial, q4, q5, by rw [ht]; exact hP9, va_K.moved hW.alike hK, hD9⟩, hS.F ht⟩) hS.2.2 dM_sort0_56
set_option maxHeartbeats 400000000 in
set_option maxRecDepth 100000 in
theorem cM_sort0_9 (l : Launch) (hl9 : l.stackTraces = false) (D : va_G) (cT : Nat → ClassId) (aK aV : Nat → Nat) (sz : Nat) (a0 : Nat) (a1 : Nat) (a2 : Nat) (a3 : Nat) (a4 : Nat) (x5 : Int32) (x10 : Int32) (x15 : Int32) (v20 : Value) (v21 : Value) (v22 : Value) (v23 : Value) (v24 : Value) (v25 : Value) (v26 : Value) (v27 : Value) (v28 : Value) (v29 : Value) (v30 : Value) (v31 : Value) (v32 : Value) (v33 : Value) (v34 : Value) (v35 : Value) (v36 : Value) (v37 : Value) (v38 : Value) (v39 : Value) (v40 : Value) (v41 : Value) (v42 : Value) (v43 : Value) (v44 : Value) (v45 : Value) (v46 : Value) (v47 : Value) (v48 : Value) (f49 : Nat → Option Nat) (f52 : Nat → Int32) (f55 : Nat → Int32) (f60 : Nat → Option Nat) (h6 : ¬ x5 < 0) (h7 : ¬ 7 < x5) (h8 : x5 ≤ 7) (h9 : vp_in x5 8) (h11 : ¬ x10 < 0) (h12 : ¬ 7 < x10) (h13 : x10 ≤ 7) (h14 : vp_in x10 8) (h16 : ¬ x15 < 0) (h17 : ¬ 7 < x15) (h18 : x15 ≤ 7) (h19 : vp_in x15 8) (h50 : f49 x10.toNatClampNeg = some a3) (h51 : f49 x15.toNatClampNeg = some a3) (h53 : f52 x10.toNatClampNeg = 4) (h54 : f52 x15.toNatClampNeg = 4) (h56 : f55 0 = 110) (h57 : f55 1 = 117) (h58 : f55 2 = 108) (h59 : f55 3 = 108) (h61 : f60 0 = none) (h62 : f60 1 = none) : xMet l yM_sort0 wyM_sort0 9 3 18 204 D cT aK aV sz [.ref a0, .int x5, .int 4, .int x10, .int x15] [(a0, .inr (5, [v20, .ref a4, v21, v22, v23, v24, v25, v26, v27, v28, v29, v30, v31, v32, v33, v34, v35, v36, v37, v38, v39, v40, v41, v42, .ref a1, .ref a2, v43, v44, v45, v46, v47, v48])), (a1, .inl (cT 5, 8, .inr (.inr (.inr (.inr f49))))), (a2, .inl (cT 1, 8, .inl f52)), (a3, .inl (cT 0, 4096, .inl f55)), (a4, .inl (cT 4, 1024, .inr (.inr (.inr (.inr f60)))))] (fun A => va_Qv (fun _ : Unit => True) (fun _ t => ∃ (q4 : Nat) (q5 : Nat), xB D xcl cT A [(a0, .inr (5, [.int 2, .ref a4, .int 2, v22, .int 0, v24, v25, .int 0, .int 1, .int 0, v29, v30, .int 0, v32, v33, .ref a3, .int 4, .int 4, .int 0, .int 100, v39, v40, .int 0, .int 1000000000, .ref a1, .ref a2, v43, v44, v45, v46, .int 1, v48])), (a1, .inl (cT 5, 8, .inr (.inr (.inr (.inr f49))))), (a2, .inl (cT 1, 8, .inl f52)), (a3, .inl (cT 0, 4096, .inl f55)), (a4, .inl (cT 4, 1024, .inr (.inr (.inr (.inr (va_up (va_up f60 0 (some q4)) 1 (some q5))))))), (q4, .inr (6, [.int 0, .long 0, .int 0, .int 0, .int 0, .int 1])), (q5, .inr (6, [.int 0, .long 0, .int 0, .int 0, .int 0, .int 1]))] t) A) := by
  refine Met.ofW (cc := prog_13_method_94_code) (maxL := 5) (ret := none) (by decide) rfl ?_
  intro p e s m args below meth c s₁ B hml hv
  obtain ⟨rfl, hsz, hZ, hP, hK, hD0⟩ := hv
  have hx := B.exec
  have hb := B.bytes
  have hr := B.returns
  have hts := atoms_spec (ws := wyM_sort0) B.pre
  have htx := fun w h => hts w (List.mem_cons_of_mem _ h)
  have hown : s.vm.findClass "ValueBenchModel" = some m.cls := findClass_of_methodNamed B.named
  have hlocks := B.notSynchronized
  subst hsz
  have hD := hD0.self (sz := s.heap.size)
  generalize hAe : va_A [(a0, .inr (5, [v20, .ref a4, v21, v22, v23, v24, v25, v26, v27, v28, v29, v30, v31, v32, v33, v34, v35, v36, v37, v38, v39, v40, v41, v42, .ref a1, .ref a2, v43, v44, v45, v46, v47, v48])), (a1, .inl (cT 5, 8, .inr (.inr (.inr (.inr f49))))), (a2, .inl (cT 1, 8, .inl f52)), (a3, .inl (cT 0, 4096, .inl f55)), (a4, .inl (cT 4, 1024, .inr (.inr (.inr (.inr f60)))))] s.heap.size = A at hD hZ ⊢
  have hA : ∀ q : Nat, s.heap.size ≤ q → A q := fun q h => by rw [← hAe]; exact Or.inr h
  have hS : va_S A s.heap s.heap [] := va_S.rf
  have hP : va_P D xcl [(a0, .inr (5, [v20, .ref a4, v21, v22, v23, v24, v25, v26, v27, v28, v29, v30, v31, v32, v33, v34, v35, v36, v37, v38, v39, v40, v41, v42, .ref a1, .ref a2, v43, v44, v45, v46, v47, v48])), (a1, .inl (cT 5, 8, .inr (.inr (.inr (.inr f49))))), (a2, .inl (cT 1, 8, .inl f52)), (a3, .inl (cT 0, 4096, .inl f55)), (a4, .inl (cT 4, 1024, .inr (.inr (.inr (.inr f60)))))] s.heap := hP
  have hl := lv_entry ([.ref a0, .int x5, .int 4, .int x10, .int x15]) (n := 5) (Nat.le_of_ble_eq_true rfl)
  rw [lg_entry_eq]
  generalize (lg_sl ([.ref a0, .int x5, .int 4, .int x10, .int x15]) ++ List.replicate (5 - (lg_sl ([.ref a0, .int x5, .int 4, .int x10, .int x15])).length) Slot.unset).toArray = ls at hl ⊢
  have hl : lv_has ls 5 [(0, .ref a0), (1, .int x5), (2, .int 4), (3, .int x10), (4, .int x15)] := hl
  refine lv_aload_n hx hb dM_sort0_0 rfl (lv_at hl 0 rfl) ?_
  obtain ⟨hPc, hDc, hFc⟩ := xcut (wc := [(a0, .inr (5, [v20, .ref a4, v21, v22, v23, v24, v25, v26, v27, v28, v29, v30, v31, v32, v33, v34, v35, v36, v37, v38, v39, v40, v41, v42, .ref a1, .ref a2, v43, v44, v45, v46, v47, v48]))]) hP hD hS hA [0] rfl rfl (by decide)
  refine va_callv (va_runV (C := "ValueBenchModel") (As := []) (rest := []) ⟨hx, hb, hml, hown, htx⟩ (cM_begin_0 l hl9 D cT aK aV s.heap.size a0 v20 (.ref a4) v21 v22 v23 v24 v25 v26 v27 v28 v29 v30 v31 v32 v33 v34 v35 v36 v37 v38 v39 v40 v41 v42 (.ref a1) (.ref a2) v43 v44 v45 v46 v47 v48) ⟨callB_of 0 htx (xw_goodC kw_5_209) rfl rfl rfl (htx _ kw_1_5) (htx _ kw_5_206) ⟨by decide, by decide, by decide +kernel⟩ ⟨Nat.le_of_ble_eq_true rfl, Nat.le_of_ble_eq_true rfl⟩, (htx _ kw_5_208), (htx _ kp_M_begin)⟩ ⟨xPre_blind, va_recv hK hP (ci := 5) rfl (q0 := 0) rfl, (fun U hU hW => ⟨rfl, xPre_of hZ hS hFc hPc hDc hK U hU hW⟩)⟩ rfl rfl hl.1 rfl (lv_room (Nat.le_of_ble_eq_true rfl)) dM_sort0_1 ⟨Nat.le_of_ble_eq_true rfl, Nat.le_of_ble_eq_true rfl⟩) hS (fun q _ h => hFc q h) hFc (fun u9 t H1 locs ht hvm hr9 hB hz1 hk1 hS => ?_)
  obtain ⟨hP1, hK1, hD1⟩ := hB
  rw [ht] at hP1
  obtain ⟨hP, hD⟩ := xjoin (W := [(a1, .inl (cT 5, 8, .inr (.inr (.inr (.inr f49))))), (a2, .inl (cT 1, 8, .inl f52)), (a3, .inl (cT 0, 4096, .inl f55)), (a4, .inl (cT 4, 1024, .inr (.inr (.inr (.inr f60))))), (a0, .inr (5, [.int 0, .ref a4, .int 0, v22, .int 0, v24, v25, .int 0, v27, .int 0, v29, v30, .int 0, v32, v33, v34, v35, v36, v37, v38, v39, v40, .int 0, .int 1000000000, .ref a1, .ref a2, v43, v44, v45, v46, v47, v48]))]) hP hD [0] [1, 2, 3, 4] 4 rfl rfl (by decide) (by decide) hk1 hFc hP1 hD1
  generalize H1 = H at hP hS ⊢
  refine lv_aload_n hx hb dM_sort0_4 rfl (lv_at hl 0 rfl) ?_
  refine lv_iload_n hx hb dM_sort0_5 rfl (lv_at hl 1 rfl) ?_
  obtain ⟨hPc, hDc, hFc⟩ := xcut (wc := []) hP hD hS hA [] rfl rfl (by decide)
  refine va_calli (va_runV (C := "ValueBenchModel") (As := [.int x5]) (rest := []) ⟨hx, hb, hml, hown, htx⟩ (cM_out_0 l hl9 D cT aK aV H.size a0 x5 h6 h7 h8 h9) ⟨callB_of 1 htx (xw_goodC kw_5_217) rfl rfl rfl (htx _ kw_1_5) (htx _ kw_5_214) ⟨by decide, by decide, by decide +kernel⟩ ⟨Nat.le_of_ble_eq_true rfl, Nat.le_of_ble_eq_true rfl⟩, (htx _ kw_5_216), (htx _ kp_M_out)⟩ ⟨xPre_blind, va_recv hK hP (ci := 5) rfl (q0 := 4) rfl, (fun U hU hW => ⟨rfl, xPre_of hZ hS hFc hPc hDc hK U hU hW⟩)⟩ rfl rfl hl.1 rfl (lv_room (Nat.le_of_ble_eq_true rfl)) dM_sort0_6 ⟨Nat.le_of_ble_eq_true rfl, Nat.le_of_ble_eq_true rfl⟩) hS (fun q _ h => hFc q h) hFc (fun r1 u9 t H1 locs ht hvm hr9 hB hz1 hk1 hS => ?_)
  obtain ⟨hP1, hK1, hD1⟩ := hB
  rw [ht] at hP1
  obtain ⟨hP, hD⟩ := xjoin (W := [(a1, .inl (cT 5, 8, .inr (.inr (.inr (.inr f49))))), (a2, .inl (cT 1, 8, .inl f52)), (a3, .inl (cT 0, 4096, .inl f55)), (a4, .inl (cT 4, 1024, .inr (.inr (.inr (.inr f60))))), (a0, .inr (5, [.int 0, .ref a4, .int 0, v22, .int 0, v24, v25, .int 0, v27, .int 0, v29, v30, .int 0, v32, v33, v34, v35, v36, v37, v38, v39, v40, .int 0, .int 1000000000, .ref a1, .ref a2, v43, v44, v45, v46, v47, v48]))]) hP hD [] [0, 1, 2, 3, 4] 5 rfl rfl (by decide) (by decide) hk1 hFc hP1 hD1
  generalize H1 = H at hP hS ⊢
  rw [hr9]
  refine W.eq (g2 := F0 m 9 ls [.int 0]) rfl ?_
  refine lv_if_ne (tgt := 38) hx hb dM_sort0_9 (by decide) (fun h => ((by revert h; decide : False)).elim) (fun _ => ?_)
  refine lv_iload_n hx hb dM_sort0_12 rfl (lv_at hl 2 rfl) ?_
  refine lv_if_lt (tgt := 38) hx hb dM_sort0_13 (by decide) (fun h => ((by revert h; decide : False)).elim) (fun _ => ?_)
  refine lv_iload_n hx hb dM_sort0_16 rfl (lv_at hl 2 rfl) ?_
  refine lv_iconst (v := 4) hx hb dM_sort0_17 (by decide) ?_
  refine lv_icmp_gt (tgt := 38) hx hb dM_sort0_18 (by decide) (fun h => ((by revert h; decide : False)).elim) (fun _ => ?_)
  refine lv_aload_n hx hb dM_sort0_21 rfl (lv_at hl 0 rfl) ?_
  refine lv_iload_n hx hb dM_sort0_22 rfl (lv_at hl 3 rfl) ?_
  obtain ⟨hPc, hDc, hFc⟩ := xcut (wc := []) hP hD hS hA [] rfl rfl (by decide)
  refine va_calli (va_runV (C := "ValueBenchModel") (As := [.int x10]) (rest := []) ⟨hx, hb, hml, hown, htx⟩ (cM_out_0 l hl9 D cT aK aV H.size a0 x10 h11 h12 h13 h14) ⟨callB_of 1 htx (xw_goodC kw_5_217) rfl rfl rfl (htx _ kw_1_5) (htx _ kw_5_214) ⟨by decide, by decide, by decide +kernel⟩ ⟨Nat.le_of_ble_eq_true rfl, Nat.le_of_ble_eq_true rfl⟩, (htx _ kw_5_216), (htx _ kp_M_out)⟩ ⟨xPre_blind, va_recv hK hP (ci := 5) rfl (q0 := 4) rfl, (fun U hU hW => ⟨rfl, xPre_of hZ hS hFc hPc hDc hK U hU hW⟩)⟩ rfl rfl hl.1 rfl (lv_room (Nat.le_of_ble_eq_true rfl)) dM_sort0_23 ⟨Nat.le_of_ble_eq_true rfl, Nat.le_of_ble_eq_true rfl⟩) hS (fun q _ h => hFc q h) hFc (fun r2 u9 t H1 locs ht hvm hr9 hB hz1 hk1 hS => ?_)
  obtain ⟨hP1, hK1, hD1⟩ := hB
  rw [ht] at hP1
  obtain ⟨hP, hD⟩ := xjoin (W := [(a1, .inl (cT 5, 8, .inr (.inr (.inr (.inr f49))))), (a2, .inl (cT 1, 8, .inl f52)), (a3, .inl (cT 0, 4096, .inl f55)), (a4, .inl (cT 4, 1024, .inr (.inr (.inr (.inr f60))))), (a0, .inr (5, [.int 0, .ref a4, .int 0, v22, .int 0, v24, v25, .int 0, v27, .int 0, v29, v30, .int 0, v32, v33, v34, v35, v36, v37, v38, v39, v40, .int 0, .int 1000000000, .ref a1, .ref a2, v43, v44, v45, v46, v47, v48]))]) hP hD [] [0, 1, 2, 3, 4] 5 rfl rfl (by decide) (by decide) hk1 hFc hP1 hD1
  generalize H1 = H at hP hS ⊢
  rw [hr9]
  refine W.eq (g2 := F0 m 26 ls [.int 0]) rfl ?_
  refine lv_if_ne (tgt := 38) hx hb dM_sort0_26 (by decide) (fun h => ((by revert h; decide : False)).elim) (fun _ => ?_)
  refine lv_aload_n hx hb dM_sort0_29 rfl (lv_at hl 0 rfl) ?_
  refine lv_iload hx hb dM_sort0_30 (lv_at hl 4 rfl) ?_
  obtain ⟨hPc, hDc, hFc⟩ := xcut (wc := []) hP hD hS hA [] rfl rfl (by decide)
  refine va_calli (va_runV (C := "ValueBenchModel") (As := [.int x15]) (rest := []) ⟨hx, hb, hml, hown, htx⟩ (cM_out_0 l hl9 D cT aK aV H.size a0 x15 h16 h17 h18 h19) ⟨callB_of 1 htx (xw_goodC kw_5_217) rfl rfl rfl (htx _ kw_1_5) (htx _ kw_5_214) ⟨by decide, by decide, by decide +kernel⟩ ⟨Nat.le_of_ble_eq_true rfl, Nat.le_of_ble_eq_true rfl⟩, (htx _ kw_5_216), (htx _ kp_M_out)⟩ ⟨xPre_blind, va_recv hK hP (ci := 5) rfl (q0 := 4) rfl, (fun U hU hW => ⟨rfl, xPre_of hZ hS hFc hPc hDc hK U hU hW⟩)⟩ rfl rfl hl.1 rfl (lv_room (Nat.le_of_ble_eq_true rfl)) dM_sort0_32 ⟨Nat.le_of_ble_eq_true rfl, Nat.le_of_ble_eq_true rfl⟩) hS (fun q _ h => hFc q h) hFc (fun r3 u9 t H1 locs ht hvm hr9 hB hz1 hk1 hS => ?_)
  obtain ⟨hP1, hK1, hD1⟩ := hB
  rw [ht] at hP1
  obtain ⟨hP, hD⟩ := xjoin (W := [(a1, .inl (cT 5, 8, .inr (.inr (.inr (.inr f49))))), (a2, .inl (cT 1, 8, .inl f52)), (a3, .inl (cT 0, 4096, .inl f55)), (a4, .inl (cT 4, 1024, .inr (.inr (.inr (.inr f60))))), (a0, .inr (5, [.int 0, .ref a4, .int 0, v22, .int 0, v24, v25, .int 0, v27, .int 0, v29, v30, .int 0, v32, v33, v34, v35, v36, v37, v38, v39, v40, .int 0, .int 1000000000, .ref a1, .ref a2, v43, v44, v45, v46, v47, v48]))]) hP hD [] [0, 1, 2, 3, 4] 5 rfl rfl (by decide) (by decide) hk1 hFc hP1 hD1
  generalize H1 = H at hP hS ⊢
  rw [hr9]
  refine W.eq (g2 := F0 m 35 ls [.int 0]) rfl ?_
  refine lv_if_eq (tgt := 46) hx hb dM_sort0_35 (by decide) (fun _ => ?_) (fun h => ((by revert h; decide : False)).elim)
  refine lv_aload_n hx hb dM_sort0_46 rfl (lv_at hl 0 rfl) ?_
  refine lv_iload_n hx hb dM_sort0_47 rfl (lv_at hl 1 rfl) ?_
  refine lv_iconst (v := 3) hx hb dM_sort0_48 (by decide) ?_
  refine lv_iload_n hx hb dM_sort0_49 rfl (lv_at hl 2 rfl) ?_
  refine lv_iload_n hx hb dM_sort0_50 rfl (lv_at hl 3 rfl) ?_
  refine lv_iload hx hb dM_sort0_51 (lv_at hl 4 rfl) ?_
  obtain ⟨hPc, hDc, hFc⟩ := xcut (wc := [(a0, .inr (5, [.int 0, .ref a4, .int 0, v22, .int 0, v24, v25, .int 0, v27, .int 0, v29, v30, .int 0, v32, v33, v34, v35, v36, v37, v38, v39, v40, .int 0, .int 1000000000, .ref a1, .ref a2, v43, v44, v45, v46, v47, v48])), (a1, .inl (cT 5, 8, .inr (.inr (.inr (.inr f49))))), (a2, .inl (cT 1, 8, .inl f52)), (a3, .inl (cT 0, 4096, .inl f55)), (a4, .inl (cT 4, 1024, .inr (.inr (.inr (.inr f60)))))]) hP hD hS hA [4, 0, 1, 2, 3] rfl rfl (by decide)
  refine va_callv (vx_runVW (C := "ValueBenchModel") (As := [.int x5, .int 3, .int 4, .int x10, .int x15]) (rest := []) ⟨hx, hb, hml, hown, htx⟩ (cM_finish_68 l hl9 D cT aK aV H.size a0 a1 a2 a3 a4 x5 4 x10 x15 (.int 0) v22 (.int 0) v24 v25 (.int 0) v27 (.int 0) v29 v30 (.int 0) v32 v33 v34 v35 v36 v37 v38 v39 v40 (.int 0) (.int 1000000000) v43 v44 v45 v46 v47 v48 f49 f52 f55 f60 h11 h12 h13 h14 h16 h17 h18 h19 (by first | rfl | exact h50 | exact h51 | exact h53 | exact h54 | exact h56 | exact h57 | exact h58 | exact h59 | exact h61 | exact h62) (by first | rfl | exact h50 | exact h51 | exact h53 | exact h54 | exact h56 | exact h57 | exact h58 | exact h59 | exact h61 | exact h62) (by first | rfl | exact h50 | exact h51 | exact h53 | exact h54 | exact h56 | exact h57 | exact h58 | exact h59 | exact h61 | exact h62) (by first | rfl | exact h50 | exact h51 | exact h53 | exact h54 | exact h56 | exact h57 | exact h58 | exact h59 | exact h61 | exact h62) (by first | rfl | exact h50 | exact h51 | exact h53 | exact h54 | exact h56 | exact h57 | exact h58 | exact h59 | exact h61 | exact h62) (by first | rfl | exact h50 | exact h51 | exact h53 | exact h54 | exact h56 | exact h57 | exact h58 | exact h59 | exact h61 | exact h62) (by first | rfl | exact h50 | exact h51 | exact h53 | exact h54 | exact h56 | exact h57 | exact h58 | exact h59 | exact h61 | exact h62) (by first | rfl | exact h50 | exact h51 | exact h53 | exact h54 | exact h56 | exact h57 | exact h58 | exact h59 | exact h61 | exact h62) (by first | rfl | exact h50 | exact h51 | exact h53 | exact h54 | exact h56 | exact h57 | exact h58 | exact h59 | exact h61 | exact h62) (by first | rfl | exact h50 | exact h51 | exact h53 | exact h54 | exact h56 | exact h57 | exact h58 | exact h59 | exact h61 | exact h62)) (xcVW 5 htx (xw_goodC kw_6_195) rfl rfl rfl (htx _ kw_1_5) (htx _ kw_6_192) ⟨by decide, by decide, by decide +kernel⟩ ⟨Nat.le_of_ble_eq_true rfl, Nat.le_of_ble_eq_true rfl⟩ (htx _ kw_6_194) (htx _ kp_M_finish)) ⟨xPre_blind, va_recv hK hP (ci := 5) rfl (q0 := 4) rfl, (fun U hU hW => ⟨rfl, xPre_of hZ hS hFc hPc hDc hK U hU hW⟩)⟩ rfl rfl hl.1 rfl (lv_room (Nat.le_of_ble_eq_true rfl)) dM_sort0_53 ⟨Nat.le_of_ble_eq_true rfl, Nat.le_of_ble_eq_true rfl⟩) hS (fun q _ h => hFc q h) hFc (fun u9 t H1 locs ht hvm hr9 hB hz1 hk1 hS => ?_)
  obtain ⟨q4, q5, hP1, hK1, hD1⟩ := hB
  rw [ht] at hP1
  obtain ⟨hP, hD⟩ := xjoin (W := [(a0, .inr (5, [.int 2, .ref a4, .int 2, v22, .int 0, v24, v25, .int 0, .int 1, .int 0, v29, v30, .int 0, v32, v33, .ref a3, .int 4, .int 4, .int 0, .int 100, v39, v40, .int 0, .int 1000000000, .ref a1, .ref a2, v43, v44, v45, v46, .int 1, v48])), (a1, .inl (cT 5, 8, .inr (.inr (.inr (.inr f49))))), (a2, .inl (cT 1, 8, .inl f52)), (a3, .inl (cT 0, 4096, .inl f55)), (a4, .inl (cT 4, 1024, .inr (.inr (.inr (.inr (va_up (va_up f60 0 (some q4)) 1 (some q5))))))), (q4, .inr (6, [.int 0, .long 0, .int 0, .int 0, .int 0, .int 1])), (q5, .inr (6, [.int 0, .long 0, .int 0, .int 0, .int 0, .int 1]))]) hP hD [4, 0, 1, 2, 3] [] 0 rfl rfl (by decide) (by decide) hk1 hFc hP1 hD1
  generalize H1 = H at hP hS ⊢
  obtain ⟨hP9, hD9⟩ := xsub (wc := [(a0, .inr (5, [.int 2, .ref a4, .int 2, v22, .int 0, v24, v25, .int 0, .int 1, .int 0, v29, v30, .int 0, v32, v33, .ref a3, .int 4, .int 4, .int 0, .int 100, v39, v40, .int 0, .int 1000000000, .ref a1, .ref a2, v43, v44, v45, v46, .int 1, v48])), (a1, .inl (cT 5, 8, .inr (.inr (.inr (.inr f49))))), (a2, .inl (cT 1, 8, .inl f52)), (a3, .inl (cT 0, 4096, .inl f55)), (a4, .inl (cT 4, 1024, .inr (.inr (.inr (.inr (va_up (va_up f60 0 (some q4)) 1 (some q5))))))), (q4, .inr (6, [.int 0, .long 0, .int 0, .int 0, .int 0, .int 1])), (q5, .inr (6, [.int 0, .long 0, .int 0, .int 0, .int 0, .int 1]))]) hP hD [0, 1, 2, 3, 4, 5, 6] rfl rfl (by decide)
  refine W.widen (k := 3) (n := 18) (Nat.le_of_ble_eq_true rfl) (Nat.le_of_ble_eq_true rfl) ?_
  exact W.vret hx hb hr (fun t ht hW => ⟨⟨(), rfl, trivial, q4, q5, by rw [ht]; exact hP9, va_K.moved hW.alike hK, hD9⟩, hS.F ht⟩) hS.2.2 dM_sort0_56
set_option maxHeartbeats 400000000 in
set_option maxRecDepth 100000 in
theorem cM_sort0_10 (l : Launch) (hl9 : l.stackTraces = false) (D : va_G) (cT : Nat → ClassId) (aK aV : Nat → Nat) (sz : Nat) (a0 : Nat) (x1 : Int32) (x3 : Int32) (x4 : Int32) (x5 : Int32) (v6 : Value) (v7 : Value) (v8 : Value) (v9 : Value) (v10 : Value) (v11 : Value) (v12 : Value) (v13 : Value) (v14 : Value) (v15 : Value) (v16 : Value) (v17 : Value) (v18 : Value) (v19 : Value) (v20 : Value) (v21 : Value) (v22 : Value) (v23 : Value) (v24 : Value) (v25 : Value) (v26 : Value) (v27 : Value) (v28 : Value) (v29 : Value) (v30 : Value) (v31 : Value) (v32 : Value) (v33 : Value) (v34 : Value) (v35 : Value) (v36 : Value) (v37 : Value) (h2 : x1 < 0) : xMet l yM_sort0 wyM_sort0 2 0 0 40 D cT aK aV sz [.ref a0, .int x1, .int x3, .int x4, .int x5] [(a0, .inr (5, [v6, v7, v8, v9, v10, v11, v12, v13, v14, v15, v16, v17, v18, v19, v20, v21, v22, v23, v24, v25, v26, v27, v28, v29, v30, v31, v32, v33, v34, v35, v36, v37]))] (fun A => va_Qv (fun _ : Unit => True) (fun _ t => xB D xcl cT A [(a0, .inr (5, [.int 1, v7, .int 0, v9, .int 0, v11, v12, .int 0, v14, .int 0, v16, v17, .int 0, v19, v20, v21, v22, v23, v24, v25, v26, v27, .int 0, .int 1000000000, v30, v31, v32, v33, v34, v35, v36, v37]))] t) A) := by
  refine Met.ofW (cc := prog_13_method_94_code) (maxL := 5) (ret := none) (by decide) rfl ?_
  intro p e s m args below meth c s₁ B hml hv
  obtain ⟨rfl, hsz, hZ, hP, hK, hD0⟩ := hv
  have hx := B.exec
  have hb := B.bytes
  have hr := B.returns
  have hts := atoms_spec (ws := wyM_sort0) B.pre
  have htx := fun w h => hts w (List.mem_cons_of_mem _ h)
  have hown : s.vm.findClass "ValueBenchModel" = some m.cls := findClass_of_methodNamed B.named
  have hlocks := B.notSynchronized
  subst hsz
  have hD := hD0.self (sz := s.heap.size)
  generalize hAe : va_A [(a0, .inr (5, [v6, v7, v8, v9, v10, v11, v12, v13, v14, v15, v16, v17, v18, v19, v20, v21, v22, v23, v24, v25, v26, v27, v28, v29, v30, v31, v32, v33, v34, v35, v36, v37]))] s.heap.size = A at hD hZ ⊢
  have hA : ∀ q : Nat, s.heap.size ≤ q → A q := fun q h => by rw [← hAe]; exact Or.inr h
  have hS : va_S A s.heap s.heap [] := va_S.rf
  have hP : va_P D xcl [(a0, .inr (5, [v6, v7, v8, v9, v10, v11, v12, v13, v14, v15, v16, v17, v18, v19, v20, v21, v22, v23, v24, v25, v26, v27, v28, v29, v30, v31, v32, v33, v34, v35, v36, v37]))] s.heap := hP
  have hl := lv_entry ([.ref a0, .int x1, .int x3, .int x4, .int x5]) (n := 5) (Nat.le_of_ble_eq_true rfl)
  rw [lg_entry_eq]
  generalize (lg_sl ([.ref a0, .int x1, .int x3, .int x4, .int x5]) ++ List.replicate (5 - (lg_sl ([.ref a0, .int x1, .int x3, .int x4, .int x5])).length) Slot.unset).toArray = ls at hl ⊢
  have hl : lv_has ls 5 [(0, .ref a0), (1, .int x1), (2, .int x3), (3, .int x4), (4, .int x5)] := hl
  refine lv_aload_n hx hb dM_sort0_0 rfl (lv_at hl 0 rfl) ?_
  obtain ⟨hPc, hDc, hFc⟩ := xcut (wc := [(a0, .inr (5, [v6, v7, v8, v9, v10, v11, v12, v13, v14, v15, v16, v17, v18, v19, v20, v21, v22, v23, v24, v25, v26, v27, v28, v29, v30, v31, v32, v33, v34, v35, v36, v37]))]) hP hD hS hA [0] rfl rfl (by decide)
  refine va_callv (va_runV (C := "ValueBenchModel") (As := []) (rest := []) ⟨hx, hb, hml, hown, htx⟩ (cM_begin_0 l hl9 D cT aK aV s.heap.size a0 v6 v7 v8 v9 v10 v11 v12 v13 v14 v15 v16 v17 v18 v19 v20 v21 v22 v23 v24 v25 v26 v27 v28 v29 v30 v31 v32 v33 v34 v35 v36 v37) ⟨callB_of 0 htx (xw_goodC kw_5_209) rfl rfl rfl (htx _ kw_1_5) (htx _ kw_5_206) ⟨by decide, by decide, by decide +kernel⟩ ⟨Nat.le_of_ble_eq_true rfl, Nat.le_of_ble_eq_true rfl⟩, (htx _ kw_5_208), (htx _ kp_M_begin)⟩ ⟨xPre_blind, va_recv hK hP (ci := 5) rfl (q0 := 0) rfl, (fun U hU hW => ⟨rfl, xPre_of hZ hS hFc hPc hDc hK U hU hW⟩)⟩ rfl rfl hl.1 rfl (lv_room (Nat.le_of_ble_eq_true rfl)) dM_sort0_1 ⟨Nat.le_of_ble_eq_true rfl, Nat.le_of_ble_eq_true rfl⟩) hS (fun q _ h => hFc q h) hFc (fun u9 t H1 locs ht hvm hr9 hB hz1 hk1 hS => ?_)
  obtain ⟨hP1, hK1, hD1⟩ := hB
  rw [ht] at hP1
  obtain ⟨hP, hD⟩ := xjoin (W := [(a0, .inr (5, [.int 0, v7, .int 0, v9, .int 0, v11, v12, .int 0, v14, .int 0, v16, v17, .int 0, v19, v20, v21, v22, v23, v24, v25, v26, v27, .int 0, .int 1000000000, v30, v31, v32, v33, v34, v35, v36, v37]))]) hP hD [0] [] 0 rfl rfl (by decide) (by decide) hk1 hFc hP1 hD1
  generalize H1 = H at hP hS ⊢
  refine lv_aload_n hx hb dM_sort0_4 rfl (lv_at hl 0 rfl) ?_
  refine lv_iload_n hx hb dM_sort0_5 rfl (lv_at hl 1 rfl) ?_
  obtain ⟨hPc, hDc, hFc⟩ := xcut (wc := []) hP hD hS hA [] rfl rfl (by decide)
  refine va_calli (va_runV (C := "ValueBenchModel") (As := [.int x1]) (rest := []) ⟨hx, hb, hml, hown, htx⟩ (cM_out_1 l hl9 D cT aK aV H.size a0 x1 h2) ⟨callB_of 1 htx (xw_goodC kw_5_217) rfl rfl rfl (htx _ kw_1_5) (htx _ kw_5_214) ⟨by decide, by decide, by decide +kernel⟩ ⟨Nat.le_of_ble_eq_true rfl, Nat.le_of_ble_eq_true rfl⟩, (htx _ kw_5_216), (htx _ kp_M_out)⟩ ⟨xPre_blind, va_recv hK hP (ci := 5) rfl (q0 := 0) rfl, (fun U hU hW => ⟨rfl, xPre_of hZ hS hFc hPc hDc hK U hU hW⟩)⟩ rfl rfl hl.1 rfl (lv_room (Nat.le_of_ble_eq_true rfl)) dM_sort0_6 ⟨Nat.le_of_ble_eq_true rfl, Nat.le_of_ble_eq_true rfl⟩) hS (fun q _ h => hFc q h) hFc (fun r1 u9 t H1 locs ht hvm hr9 hB hz1 hk1 hS => ?_)
  obtain ⟨hP1, hK1, hD1⟩ := hB
  rw [ht] at hP1
  obtain ⟨hP, hD⟩ := xjoin (W := [(a0, .inr (5, [.int 0, v7, .int 0, v9, .int 0, v11, v12, .int 0, v14, .int 0, v16, v17, .int 0, v19, v20, v21, v22, v23, v24, v25, v26, v27, .int 0, .int 1000000000, v30, v31, v32, v33, v34, v35, v36, v37]))]) hP hD [] [0] 1 rfl rfl (by decide) (by decide) hk1 hFc hP1 hD1
  generalize H1 = H at hP hS ⊢
  rw [hr9]
  refine W.eq (g2 := F0 m 9 ls [.int 1]) rfl ?_
  refine lv_if_ne (tgt := 38) hx hb dM_sort0_9 (by decide) (fun _ => ?_) (fun h => ((by revert h; decide : False)).elim)
  refine lv_aload_n hx hb dM_sort0_38 rfl (lv_at hl 0 rfl) ?_
  refine lv_iconst (v := 1) hx hb dM_sort0_39 (by decide) ?_
  refine va_put (D := D) (ci := 5) (v := .int 1) (ty := .int) (C := "ValueBenchModel") (T := TM) (N := 32) hx hb htx inM tyM tyM_ok nmM hown hK hP hD hS 0 rfl rfl 0 (by decide) (htx _ kw_5_87) (fun _ h9 => h9) rfl (by decide +kernel) rfl rfl (Nat.le_of_ble_eq_true rfl) dM_sort0_40 (fun H locs hP hD hS => ?_)
  obtain ⟨hP, hD⟩ : xPD D xcl A [(a0, .inr (5, [.int 1, v7, .int 0, v9, .int 0, v11, v12, .int 0, v14, .int 0, v16, v17, .int 0, v19, v20, v21, v22, v23, v24, v25, v26, v27, .int 0, .int 1000000000, v30, v31, v32, v33, v34, v35, v36, v37]))] H := ⟨hP, hD⟩
  refine lv_goto (tgt := 56) hx hb dM_sort0_43 (by decide) ?_
  obtain ⟨hP9, hD9⟩ := xsub (wc := [(a0, .inr (5, [.int 1, v7, .int 0, v9, .int 0, v11, v12, .int 0, v14, .int 0, v16, v17, .int 0, v19, v20, v21, v22, v23, v24, v25, v26, v27, .int 0, .int 1000000000, v30, v31, v32, v33, v34, v35, v36, v37]))]) hP hD [0] rfl rfl (by decide)
  refine W.widen (k := 0) (n := 0) (Nat.le_of_ble_eq_true rfl) (Nat.le_of_ble_eq_true rfl) ?_
  exact W.vret hx hb hr (fun t ht hW => ⟨⟨(), rfl, trivial, by rw [ht]; exact hP9, va_K.moved hW.alike hK, hD9⟩, hS.F ht⟩) hS.2.2 dM_sort0_56
set_option maxHeartbeats 400000000 in
set_option maxRecDepth 100000 in
theorem cM_sort0_11 (l : Launch) (hl9 : l.stackTraces = false) (D : va_G) (cT : Nat → ClassId) (aK aV : Nat → Nat) (sz : Nat) (a0 : Nat) (x1 : Int32) (x6 : Int32) (x8 : Int32) (x9 : Int32) (v10 : Value) (v11 : Value) (v12 : Value) (v13 : Value) (v14 : Value) (v15 : Value) (v16 : Value) (v17 : Value) (v18 : Value) (v19 : Value) (v20 : Value) (v21 : Value) (v22 : Value) (v23 : Value) (v24 : Value) (v25 : Value) (v26 : Value) (v27 : Value) (v28 : Value) (v29 : Value) (v30 : Value) (v31 : Value) (v32 : Value) (v33 : Value) (v34 : Value) (v35 : Value) (v36 : Value) (v37 : Value) (v38 : Value) (v39 : Value) (v40 : Value) (v41 : Value) (h2 : ¬ x1 < 0) (h3 : ¬ 7 < x1) (h4 : x1 ≤ 7) (h5 : vp_in x1 8) (h7 : x6 < 0) : xMet l yM_sort0 wyM_sort0 2 0 0 40 D cT aK aV sz [.ref a0, .int x1, .int x6, .int x8, .int x9] [(a0, .inr (5, [v10, v11, v12, v13, v14, v15, v16, v17, v18, v19, v20, v21, v22, v23, v24, v25, v26, v27, v28, v29, v30, v31, v32, v33, v34, v35, v36, v37, v38, v39, v40, v41]))] (fun A => va_Qv (fun _ : Unit => True) (fun _ t => xB D xcl cT A [(a0, .inr (5, [.int 1, v11, .int 0, v13, .int 0, v15, v16, .int 0, v18, .int 0, v20, v21, .int 0, v23, v24, v25, v26, v27, v28, v29, v30, v31, .int 0, .int 1000000000, v34, v35, v36, v37, v38, v39, v40, v41]))] t) A) := by
  refine Met.ofW (cc := prog_13_method_94_code) (maxL := 5) (ret := none) (by decide) rfl ?_
  intro p e s m args below meth c s₁ B hml hv
  obtain ⟨rfl, hsz, hZ, hP, hK, hD0⟩ := hv
  have hx := B.exec
  have hb := B.bytes
  have hr := B.returns
  have hts := atoms_spec (ws := wyM_sort0) B.pre
  have htx := fun w h => hts w (List.mem_cons_of_mem _ h)
  have hown : s.vm.findClass "ValueBenchModel" = some m.cls := findClass_of_methodNamed B.named
  have hlocks := B.notSynchronized
  subst hsz
  have hD := hD0.self (sz := s.heap.size)
  generalize hAe : va_A [(a0, .inr (5, [v10, v11, v12, v13, v14, v15, v16, v17, v18, v19, v20, v21, v22, v23, v24, v25, v26, v27, v28, v29, v30, v31, v32, v33, v34, v35, v36, v37, v38, v39, v40, v41]))] s.heap.size = A at hD hZ ⊢
  have hA : ∀ q : Nat, s.heap.size ≤ q → A q := fun q h => by rw [← hAe]; exact Or.inr h
  have hS : va_S A s.heap s.heap [] := va_S.rf
  have hP : va_P D xcl [(a0, .inr (5, [v10, v11, v12, v13, v14, v15, v16, v17, v18, v19, v20, v21, v22, v23, v24, v25, v26, v27, v28, v29, v30, v31, v32, v33, v34, v35, v36, v37, v38, v39, v40, v41]))] s.heap := hP
  have hl := lv_entry ([.ref a0, .int x1, .int x6, .int x8, .int x9]) (n := 5) (Nat.le_of_ble_eq_true rfl)
  rw [lg_entry_eq]
  generalize (lg_sl ([.ref a0, .int x1, .int x6, .int x8, .int x9]) ++ List.replicate (5 - (lg_sl ([.ref a0, .int x1, .int x6, .int x8, .int x9])).length) Slot.unset).toArray = ls at hl ⊢
  have hl : lv_has ls 5 [(0, .ref a0), (1, .int x1), (2, .int x6), (3, .int x8), (4, .int x9)] := hl
  refine lv_aload_n hx hb dM_sort0_0 rfl (lv_at hl 0 rfl) ?_
  obtain ⟨hPc, hDc, hFc⟩ := xcut (wc := [(a0, .inr (5, [v10, v11, v12, v13, v14, v15, v16, v17, v18, v19, v20, v21, v22, v23, v24, v25, v26, v27, v28, v29, v30, v31, v32, v33, v34, v35, v36, v37, v38, v39, v40, v41]))]) hP hD hS hA [0] rfl rfl (by decide)
  refine va_callv (va_runV (C := "ValueBenchModel") (As := []) (rest := []) ⟨hx, hb, hml, hown, htx⟩ (cM_begin_0 l hl9 D cT aK aV s.heap.size a0 v10 v11 v12 v13 v14 v15 v16 v17 v18 v19 v20 v21 v22 v23 v24 v25 v26 v27 v28 v29 v30 v31 v32 v33 v34 v35 v36 v37 v38 v39 v40 v41) ⟨callB_of 0 htx (xw_goodC kw_5_209) rfl rfl rfl (htx _ kw_1_5) (htx _ kw_5_206) ⟨by decide, by decide, by decide +kernel⟩ ⟨Nat.le_of_ble_eq_true rfl, Nat.le_of_ble_eq_true rfl⟩, (htx _ kw_5_208), (htx _ kp_M_begin)⟩ ⟨xPre_blind, va_recv hK hP (ci := 5) rfl (q0 := 0) rfl, (fun U hU hW => ⟨rfl, xPre_of hZ hS hFc hPc hDc hK U hU hW⟩)⟩ rfl rfl hl.1 rfl (lv_room (Nat.le_of_ble_eq_true rfl)) dM_sort0_1 ⟨Nat.le_of_ble_eq_true rfl, Nat.le_of_ble_eq_true rfl⟩) hS (fun q _ h => hFc q h) hFc (fun u9 t H1 locs ht hvm hr9 hB hz1 hk1 hS => ?_)
  obtain ⟨hP1, hK1, hD1⟩ := hB
  rw [ht] at hP1
  obtain ⟨hP, hD⟩ := xjoin (W := [(a0, .inr (5, [.int 0, v11, .int 0, v13, .int 0, v15, v16, .int 0, v18, .int 0, v20, v21, .int 0, v23, v24, v25, v26, v27, v28, v29, v30, v31, .int 0, .int 1000000000, v34, v35, v36, v37, v38, v39, v40, v41]))]) hP hD [0] [] 0 rfl rfl (by decide) (by decide) hk1 hFc hP1 hD1
  generalize H1 = H at hP hS ⊢
  refine lv_aload_n hx hb dM_sort0_4 rfl (lv_at hl 0 rfl) ?_
  refine lv_iload_n hx hb dM_sort0_5 rfl (lv_at hl 1 rfl) ?_
  obtain ⟨hPc, hDc, hFc⟩ := xcut (wc := []) hP hD hS hA [] rfl rfl (by decide)
  refine va_calli (va_runV (C := "ValueBenchModel") (As := [.int x1]) (rest := []) ⟨hx, hb, hml, hown, htx⟩ (cM_out_0 l hl9 D cT aK aV H.size a0 x1 h2 h3 h4 h5) ⟨callB_of 1 htx (xw_goodC kw_5_217) rfl rfl rfl (htx _ kw_1_5) (htx _ kw_5_214) ⟨by decide, by decide, by decide +kernel⟩ ⟨Nat.le_of_ble_eq_true rfl, Nat.le_of_ble_eq_true rfl⟩, (htx _ kw_5_216), (htx _ kp_M_out)⟩ ⟨xPre_blind, va_recv hK hP (ci := 5) rfl (q0 := 0) rfl, (fun U hU hW => ⟨rfl, xPre_of hZ hS hFc hPc hDc hK U hU hW⟩)⟩ rfl rfl hl.1 rfl (lv_room (Nat.le_of_ble_eq_true rfl)) dM_sort0_6 ⟨Nat.le_of_ble_eq_true rfl, Nat.le_of_ble_eq_true rfl⟩) hS (fun q _ h => hFc q h) hFc (fun r1 u9 t H1 locs ht hvm hr9 hB hz1 hk1 hS => ?_)
  obtain ⟨hP1, hK1, hD1⟩ := hB
  rw [ht] at hP1
  obtain ⟨hP, hD⟩ := xjoin (W := [(a0, .inr (5, [.int 0, v11, .int 0, v13, .int 0, v15, v16, .int 0, v18, .int 0, v20, v21, .int 0, v23, v24, v25, v26, v27, v28, v29, v30, v31, .int 0, .int 1000000000, v34, v35, v36, v37, v38, v39, v40, v41]))]) hP hD [] [0] 1 rfl rfl (by decide) (by decide) hk1 hFc hP1 hD1
  generalize H1 = H at hP hS ⊢
  rw [hr9]
  refine W.eq (g2 := F0 m 9 ls [.int 0]) rfl ?_
  refine lv_if_ne (tgt := 38) hx hb dM_sort0_9 (by decide) (fun h => ((by revert h; decide : False)).elim) (fun _ => ?_)
  refine lv_iload_n hx hb dM_sort0_12 rfl (lv_at hl 2 rfl) ?_
  refine lv_if_lt (tgt := 38) hx hb dM_sort0_13 (by decide) (fun _ => ?_) (fun h => by first | exact absurd h h7 | exact absurd h7 h)
  refine lv_aload_n hx hb dM_sort0_38 rfl (lv_at hl 0 rfl) ?_
  refine lv_iconst (v := 1) hx hb dM_sort0_39 (by decide) ?_
  refine va_put (D := D) (ci := 5) (v := .int 1) (ty := .int) (C := "ValueBenchModel") (T := TM) (N := 32) hx hb htx inM tyM tyM_ok nmM hown hK hP hD hS 0 rfl rfl 0 (by decide) (htx _ kw_5_87) (fun _ h9 => h9) rfl (by decide +kernel) rfl rfl (Nat.le_of_ble_eq_true rfl) dM_sort0_40 (fun H locs hP hD hS => ?_)
  obtain ⟨hP, hD⟩ : xPD D xcl A [(a0, .inr (5, [.int 1, v11, .int 0, v13, .int 0, v15, v16, .int 0, v18, .int 0, v20, v21, .int 0, v23, v24, v25, v26, v27, v28, v29, v30, v31, .int 0, .int 1000000000, v34, v35, v36, v37, v38, v39, v40, v41]))] H := ⟨hP, hD⟩
  refine lv_goto (tgt := 56) hx hb dM_sort0_43 (by decide) ?_
  obtain ⟨hP9, hD9⟩ := xsub (wc := [(a0, .inr (5, [.int 1, v11, .int 0, v13, .int 0, v15, v16, .int 0, v18, .int 0, v20, v21, .int 0, v23, v24, v25, v26, v27, v28, v29, v30, v31, .int 0, .int 1000000000, v34, v35, v36, v37, v38, v39, v40, v41]))]) hP hD [0] rfl rfl (by decide)
  refine W.widen (k := 0) (n := 0) (Nat.le_of_ble_eq_true rfl) (Nat.le_of_ble_eq_true rfl) ?_
  exact W.vret hx hb hr (fun t ht hW => ⟨⟨(), rfl, trivial, by rw [ht]; exact hP9, va_K.moved hW.alike hK, hD9⟩, hS.F ht⟩) hS.2.2 dM_sort0_56
set_option maxHeartbeats 400000000 in
set_option maxRecDepth 100000 in
theorem cM_sort0_12 (l : Launch) (hl9 : l.stackTraces = false) (D : va_G) (cT : Nat → ClassId) (aK aV : Nat → Nat) (sz : Nat) (a0 : Nat) (x1 : Int32) (x5 : Int32) (x6 : Int32) (x7 : Int32) (v8 : Value) (v9 : Value) (v10 : Value) (v11 : Value) (v12 : Value) (v13 : Value) (v14 : Value) (v15 : Value) (v16 : Value) (v17 : Value) (v18 : Value) (v19 : Value) (v20 : Value) (v21 : Value) (v22 : Value) (v23 : Value) (v24 : Value) (v25 : Value) (v26 : Value) (v27 : Value) (v28 : Value) (v29 : Value) (v30 : Value) (v31 : Value) (v32 : Value) (v33 : Value) (v34 : Value) (v35 : Value) (v36 : Value) (v37 : Value) (v38 : Value) (v39 : Value) (h2 : ¬ x1 < 0) (h3 : 7 < x1) (h4 : ¬ x1 ≤ 7) : xMet l yM_sort0 wyM_sort0 2 0 0 40 D cT aK aV sz [.ref a0, .int x1, .int x5, .int x6, .int x7] [(a0, .inr (5, [v8, v9, v10, v11, v12, v13, v14, v15, v16, v17, v18, v19, v20, v21, v22, v23, v24, v25, v26, v27, v28, v29, v30, v31, v32, v33, v34, v35, v36, v37, v38, v39]))] (fun A => va_Qv (fun _ : Unit => True) (fun _ t => xB D xcl cT A [(a0, .inr (5, [.int 1, v9, .int 0, v11, .int 0, v13, v14, .int 0, v16, .int 0, v18, v19, .int 0, v21, v22, v23, v24, v25, v26, v27, v28, v29, .int 0, .int 1000000000, v32, v33, v34, v35, v36, v37, v38, v39]))] t) A) := by
  refine Met.ofW (cc := prog_13_method_94_code) (maxL := 5) (ret := none) (by decide) rfl ?_
  intro p e s m args below meth c s₁ B hml hv
  obtain ⟨rfl, hsz, hZ, hP, hK, hD0⟩ := hv
  have hx := B.exec
  have hb := B.bytes
  have hr := B.returns
  have hts := atoms_spec (ws := wyM_sort0) B.pre
  have htx := fun w h => hts w (List.mem_cons_of_mem _ h)
  have hown : s.vm.findClass "ValueBenchModel" = some m.cls := findClass_of_methodNamed B.named
  have hlocks := B.notSynchronized
  subst hsz
  have hD := hD0.self (sz := s.heap.size)
  generalize hAe : va_A [(a0, .inr (5, [v8, v9, v10, v11, v12, v13, v14, v15, v16, v17, v18, v19, v20, v21, v22, v23, v24, v25, v26, v27, v28, v29, v30, v31, v32, v33, v34, v35, v36, v37, v38, v39]))] s.heap.size = A at hD hZ ⊢
  have hA : ∀ q : Nat, s.heap.size ≤ q → A q := fun q h => by rw [← hAe]; exact Or.inr h
  have hS : va_S A s.heap s.heap [] := va_S.rf
  have hP : va_P D xcl [(a0, .inr (5, [v8, v9, v10, v11, v12, v13, v14, v15, v16, v17, v18, v19, v20, v21, v22, v23, v24, v25, v26, v27, v28, v29, v30, v31, v32, v33, v34, v35, v36, v37, v38, v39]))] s.heap := hP
  have hl := lv_entry ([.ref a0, .int x1, .int x5, .int x6, .int x7]) (n := 5) (Nat.le_of_ble_eq_true rfl)
  rw [lg_entry_eq]
  generalize (lg_sl ([.ref a0, .int x1, .int x5, .int x6, .int x7]) ++ List.replicate (5 - (lg_sl ([.ref a0, .int x1, .int x5, .int x6, .int x7])).length) Slot.unset).toArray = ls at hl ⊢
  have hl : lv_has ls 5 [(0, .ref a0), (1, .int x1), (2, .int x5), (3, .int x6), (4, .int x7)] := hl
  refine lv_aload_n hx hb dM_sort0_0 rfl (lv_at hl 0 rfl) ?_
  obtain ⟨hPc, hDc, hFc⟩ := xcut (wc := [(a0, .inr (5, [v8, v9, v10, v11, v12, v13, v14, v15, v16, v17, v18, v19, v20, v21, v22, v23, v24, v25, v26, v27, v28, v29, v30, v31, v32, v33, v34, v35, v36, v37, v38, v39]))]) hP hD hS hA [0] rfl rfl (by decide)
  refine va_callv (va_runV (C := "ValueBenchModel") (As := []) (rest := []) ⟨hx, hb, hml, hown, htx⟩ (cM_begin_0 l hl9 D cT aK aV s.heap.size a0 v8 v9 v10 v11 v12 v13 v14 v15 v16 v17 v18 v19 v20 v21 v22 v23 v24 v25 v26 v27 v28 v29 v30 v31 v32 v33 v34 v35 v36 v37 v38 v39) ⟨callB_of 0 htx (xw_goodC kw_5_209) rfl rfl rfl (htx _ kw_1_5) (htx _ kw_5_206) ⟨by decide, by decide, by decide +kernel⟩ ⟨Nat.le_of_ble_eq_true rfl, Nat.le_of_ble_eq_true rfl⟩, (htx _ kw_5_208), (htx _ kp_M_begin)⟩ ⟨xPre_blind, va_recv hK hP (ci := 5) rfl (q0 := 0) rfl, (fun U hU hW => ⟨rfl, xPre_of hZ hS hFc hPc hDc hK U hU hW⟩)⟩ rfl rfl hl.1 rfl (lv_room (Nat.le_of_ble_eq_true rfl)) dM_sort0_1 ⟨Nat.le_of_ble_eq_true rfl, Nat.le_of_ble_eq_true rfl⟩) hS (fun q _ h => hFc q h) hFc (fun u9 t H1 locs ht hvm hr9 hB hz1 hk1 hS => ?_)
  obtain ⟨hP1, hK1, hD1⟩ := hB
  rw [ht] at hP1
  obtain ⟨hP, hD⟩ := xjoin (W := [(a0, .inr (5, [.int 0, v9, .int 0, v11, .int 0, v13, v14, .int 0, v16, .int 0, v18, v19, .int 0, v21, v22, v23, v24, v25, v26, v27, v28, v29, .int 0, .int 1000000000, v32, v33, v34, v35, v36, v37, v38, v39]))]) hP hD [0] [] 0 rfl rfl (by decide) (by decide) hk1 hFc hP1 hD1
  generalize H1 = H at hP hS ⊢
  refine lv_aload_n hx hb dM_sort0_4 rfl (lv_at hl 0 rfl) ?_
  refine lv_iload_n hx hb dM_sort0_5 rfl (lv_at hl 1 rfl) ?_
  obtain ⟨hPc, hDc, hFc⟩ := xcut (wc := []) hP hD hS hA [] rfl rfl (by decide)
  refine va_calli (va_runV (C := "ValueBenchModel") (As := [.int x1]) (rest := []) ⟨hx, hb, hml, hown, htx⟩ (cM_out_2 l hl9 D cT aK aV H.size a0 x1 h2 h3 h4) ⟨callB_of 1 htx (xw_goodC kw_5_217) rfl rfl rfl (htx _ kw_1_5) (htx _ kw_5_214) ⟨by decide, by decide, by decide +kernel⟩ ⟨Nat.le_of_ble_eq_true rfl, Nat.le_of_ble_eq_true rfl⟩, (htx _ kw_5_216), (htx _ kp_M_out)⟩ ⟨xPre_blind, va_recv hK hP (ci := 5) rfl (q0 := 0) rfl, (fun U hU hW => ⟨rfl, xPre_of hZ hS hFc hPc hDc hK U hU hW⟩)⟩ rfl rfl hl.1 rfl (lv_room (Nat.le_of_ble_eq_true rfl)) dM_sort0_6 ⟨Nat.le_of_ble_eq_true rfl, Nat.le_of_ble_eq_true rfl⟩) hS (fun q _ h => hFc q h) hFc (fun r1 u9 t H1 locs ht hvm hr9 hB hz1 hk1 hS => ?_)
  obtain ⟨hP1, hK1, hD1⟩ := hB
  rw [ht] at hP1
  obtain ⟨hP, hD⟩ := xjoin (W := [(a0, .inr (5, [.int 0, v9, .int 0, v11, .int 0, v13, v14, .int 0, v16, .int 0, v18, v19, .int 0, v21, v22, v23, v24, v25, v26, v27, v28, v29, .int 0, .int 1000000000, v32, v33, v34, v35, v36, v37, v38, v39]))]) hP hD [] [0] 1 rfl rfl (by decide) (by decide) hk1 hFc hP1 hD1
  generalize H1 = H at hP hS ⊢
  rw [hr9]
  refine W.eq (g2 := F0 m 9 ls [.int 1]) rfl ?_
  refine lv_if_ne (tgt := 38) hx hb dM_sort0_9 (by decide) (fun _ => ?_) (fun h => ((by revert h; decide : False)).elim)
  refine lv_aload_n hx hb dM_sort0_38 rfl (lv_at hl 0 rfl) ?_
  refine lv_iconst (v := 1) hx hb dM_sort0_39 (by decide) ?_
  refine va_put (D := D) (ci := 5) (v := .int 1) (ty := .int) (C := "ValueBenchModel") (T := TM) (N := 32) hx hb htx inM tyM tyM_ok nmM hown hK hP hD hS 0 rfl rfl 0 (by decide) (htx _ kw_5_87) (fun _ h9 => h9) rfl (by decide +kernel) rfl rfl (Nat.le_of_ble_eq_true rfl) dM_sort0_40 (fun H locs hP hD hS => ?_)
  obtain ⟨hP, hD⟩ : xPD D xcl A [(a0, .inr (5, [.int 1, v9, .int 0, v11, .int 0, v13, v14, .int 0, v16, .int 0, v18, v19, .int 0, v21, v22, v23, v24, v25, v26, v27, v28, v29, .int 0, .int 1000000000, v32, v33, v34, v35, v36, v37, v38, v39]))] H := ⟨hP, hD⟩
  refine lv_goto (tgt := 56) hx hb dM_sort0_43 (by decide) ?_
  obtain ⟨hP9, hD9⟩ := xsub (wc := [(a0, .inr (5, [.int 1, v9, .int 0, v11, .int 0, v13, v14, .int 0, v16, .int 0, v18, v19, .int 0, v21, v22, v23, v24, v25, v26, v27, v28, v29, .int 0, .int 1000000000, v32, v33, v34, v35, v36, v37, v38, v39]))]) hP hD [0] rfl rfl (by decide)
  refine W.widen (k := 0) (n := 0) (Nat.le_of_ble_eq_true rfl) (Nat.le_of_ble_eq_true rfl) ?_
  exact W.vret hx hb hr (fun t ht hW => ⟨⟨(), rfl, trivial, by rw [ht]; exact hP9, va_K.moved hW.alike hK, hD9⟩, hS.F ht⟩) hS.2.2 dM_sort0_56
set_option maxHeartbeats 400000000 in
set_option maxRecDepth 100000 in
theorem cM_sort0_13 (l : Launch) (hl9 : l.stackTraces = false) (D : va_G) (cT : Nat → ClassId) (aK aV : Nat → Nat) (sz : Nat) (a0 : Nat) (x1 : Int32) (x6 : Int32) (x10 : Int32) (x11 : Int32) (v12 : Value) (v13 : Value) (v14 : Value) (v15 : Value) (v16 : Value) (v17 : Value) (v18 : Value) (v19 : Value) (v20 : Value) (v21 : Value) (v22 : Value) (v23 : Value) (v24 : Value) (v25 : Value) (v26 : Value) (v27 : Value) (v28 : Value) (v29 : Value) (v30 : Value) (v31 : Value) (v32 : Value) (v33 : Value) (v34 : Value) (v35 : Value) (v36 : Value) (v37 : Value) (v38 : Value) (v39 : Value) (v40 : Value) (v41 : Value) (v42 : Value) (v43 : Value) (h2 : ¬ x1 < 0) (h3 : ¬ 7 < x1) (h4 : x1 ≤ 7) (h5 : vp_in x1 8) (h7 : ¬ x6 < 0) (h8 : 4 < x6) (h9 : ¬ x6 ≤ 4) : xMet l yM_sort0 wyM_sort0 2 0 0 40 D cT aK aV sz [.ref a0, .int x1, .int x6, .int x10, .int x11] [(a0, .inr (5, [v12, v13, v14, v15, v16, v17, v18, v19, v20, v21, v22, v23, v24, v25, v26, v27, v28, v29, v30, v31, v32, v33, v34, v35, v36, v37, v38, v39, v40, v41, v42, v43]))] (fun A => va_Qv (fun _ : Unit => True) (fun _ t => xB D xcl cT A [(a0, .inr (5, [.int 1, v13, .int 0, v15, .int 0, v17, v18, .int 0, v20, .int 0, v22, v23, .int 0, v25, v26, v27, v28, v29, v30, v31, v32, v33, .int 0, .int 1000000000, v36, v37, v38, v39, v40, v41, v42, v43]))] t) A) := by
  refine Met.ofW (cc := prog_13_method_94_code) (maxL := 5) (ret := none) (by decide) rfl ?_
  intro p e s m args below meth c s₁ B hml hv
  obtain ⟨rfl, hsz, hZ, hP, hK, hD0⟩ := hv
  have hx := B.exec
  have hb := B.bytes
  have hr := B.returns
  have hts := atoms_spec (ws := wyM_sort0) B.pre
  have htx := fun w h => hts w (List.mem_cons_of_mem _ h)
  have hown : s.vm.findClass "ValueBenchModel" = some m.cls := findClass_of_methodNamed B.named
  have hlocks := B.notSynchronized
  subst hsz
  have hD := hD0.self (sz := s.heap.size)
  generalize hAe : va_A [(a0, .inr (5, [v12, v13, v14, v15, v16, v17, v18, v19, v20, v21, v22, v23, v24, v25, v26, v27, v28, v29, v30, v31, v32, v33, v34, v35, v36, v37, v38, v39, v40, v41, v42, v43]))] s.heap.size = A at hD hZ ⊢
  have hA : ∀ q : Nat, s.heap.size ≤ q → A q := fun q h => by rw [← hAe]; exact Or.inr h
  have hS : va_S A s.heap s.heap [] := va_S.rf
  have hP : va_P D xcl [(a0, .inr (5, [v12, v13, v14, v15, v16, v17, v18, v19, v20, v21, v22, v23, v24, v25, v26, v27, v28, v29, v30, v31, v32, v33, v34, v35, v36, v37, v38, v39, v40, v41, v42, v43]))] s.heap := hP
  have hl := lv_entry ([.ref a0, .int x1, .int x6, .int x10, .int x11]) (n := 5) (Nat.le_of_ble_eq_true rfl)
  rw [lg_entry_eq]
  generalize (lg_sl ([.ref a0, .int x1, .int x6, .int x10, .int x11]) ++ List.replicate (5 - (lg_sl ([.ref a0, .int x1, .int x6, .int x10, .int x11])).length) Slot.unset).toArray = ls at hl ⊢
  have hl : lv_has ls 5 [(0, .ref a0), (1, .int x1), (2, .int x6), (3, .int x10), (4, .int x11)] := hl
  refine lv_aload_n hx hb dM_sort0_0 rfl (lv_at hl 0 rfl) ?_
  obtain ⟨hPc, hDc, hFc⟩ := xcut (wc := [(a0, .inr (5, [v12, v13, v14, v15, v16, v17, v18, v19, v20, v21, v22, v23, v24, v25, v26, v27, v28, v29, v30, v31, v32, v33, v34, v35, v36, v37, v38, v39, v40, v41, v42, v43]))]) hP hD hS hA [0] rfl rfl (by decide)
  refine va_callv (va_runV (C := "ValueBenchModel") (As := []) (rest := []) ⟨hx, hb, hml, hown, htx⟩ (cM_begin_0 l hl9 D cT aK aV s.heap.size a0 v12 v13 v14 v15 v16 v17 v18 v19 v20 v21 v22 v23 v24 v25 v26 v27 v28 v29 v30 v31 v32 v33 v34 v35 v36 v37 v38 v39 v40 v41 v42 v43) ⟨callB_of 0 htx (xw_goodC kw_5_209) rfl rfl rfl (htx _ kw_1_5) (htx _ kw_5_206) ⟨by decide, by decide, by decide +kernel⟩ ⟨Nat.le_of_ble_eq_true rfl, Nat.le_of_ble_eq_true rfl⟩, (htx _ kw_5_208), (htx _ kp_M_begin)⟩ ⟨xPre_blind, va_recv hK hP (ci := 5) rfl (q0 := 0) rfl, (fun U hU hW => ⟨rfl, xPre_of hZ hS hFc hPc hDc hK U hU hW⟩)⟩ rfl rfl hl.1 rfl (lv_room (Nat.le_of_ble_eq_true rfl)) dM_sort0_1 ⟨Nat.le_of_ble_eq_true rfl, Nat.le_of_ble_eq_true rfl⟩) hS (fun q _ h => hFc q h) hFc (fun u9 t H1 locs ht hvm hr9 hB hz1 hk1 hS => ?_)
  obtain ⟨hP1, hK1, hD1⟩ := hB
  rw [ht] at hP1
  obtain ⟨hP, hD⟩ := xjoin (W := [(a0, .inr (5, [.int 0, v13, .int 0, v15, .int 0, v17, v18, .int 0, v20, .int 0, v22, v23, .int 0, v25, v26, v27, v28, v29, v30, v31, v32, v33, .int 0, .int 1000000000, v36, v37, v38, v39, v40, v41, v42, v43]))]) hP hD [0] [] 0 rfl rfl (by decide) (by decide) hk1 hFc hP1 hD1
  generalize H1 = H at hP hS ⊢
  refine lv_aload_n hx hb dM_sort0_4 rfl (lv_at hl 0 rfl) ?_
  refine lv_iload_n hx hb dM_sort0_5 rfl (lv_at hl 1 rfl) ?_
  obtain ⟨hPc, hDc, hFc⟩ := xcut (wc := []) hP hD hS hA [] rfl rfl (by decide)
  refine va_calli (va_runV (C := "ValueBenchModel") (As := [.int x1]) (rest := []) ⟨hx, hb, hml, hown, htx⟩ (cM_out_0 l hl9 D cT aK aV H.size a0 x1 h2 h3 h4 h5) ⟨callB_of 1 htx (xw_goodC kw_5_217) rfl rfl rfl (htx _ kw_1_5) (htx _ kw_5_214) ⟨by decide, by decide, by decide +kernel⟩ ⟨Nat.le_of_ble_eq_true rfl, Nat.le_of_ble_eq_true rfl⟩, (htx _ kw_5_216), (htx _ kp_M_out)⟩ ⟨xPre_blind, va_recv hK hP (ci := 5) rfl (q0 := 0) rfl, (fun U hU hW => ⟨rfl, xPre_of hZ hS hFc hPc hDc hK U hU hW⟩)⟩ rfl rfl hl.1 rfl (lv_room (Nat.le_of_ble_eq_true rfl)) dM_sort0_6 ⟨Nat.le_of_ble_eq_true rfl, Nat.le_of_ble_eq_true rfl⟩) hS (fun q _ h => hFc q h) hFc (fun r1 u9 t H1 locs ht hvm hr9 hB hz1 hk1 hS => ?_)
  obtain ⟨hP1, hK1, hD1⟩ := hB
  rw [ht] at hP1
  obtain ⟨hP, hD⟩ := xjoin (W := [(a0, .inr (5, [.int 0, v13, .int 0, v15, .int 0, v17, v18, .int 0, v20, .int 0, v22, v23, .int 0, v25, v26, v27, v28, v29, v30, v31, v32, v33, .int 0, .int 1000000000, v36, v37, v38, v39, v40, v41, v42, v43]))]) hP hD [] [0] 1 rfl rfl (by decide) (by decide) hk1 hFc hP1 hD1
  generalize H1 = H at hP hS ⊢
  rw [hr9]
  refine W.eq (g2 := F0 m 9 ls [.int 0]) rfl ?_
  refine lv_if_ne (tgt := 38) hx hb dM_sort0_9 (by decide) (fun h => ((by revert h; decide : False)).elim) (fun _ => ?_)
  refine lv_iload_n hx hb dM_sort0_12 rfl (lv_at hl 2 rfl) ?_
  refine lv_if_lt (tgt := 38) hx hb dM_sort0_13 (by decide) (fun h => by first | exact absurd h h7 | exact absurd h h8 | exact absurd h h9 | exact absurd h7 h | exact absurd h8 h | exact absurd h9 h) (fun _ => ?_)
  refine lv_iload_n hx hb dM_sort0_16 rfl (lv_at hl 2 rfl) ?_
  refine lv_iconst (v := 4) hx hb dM_sort0_17 (by decide) ?_
  refine lv_icmp_gt (tgt := 38) hx hb dM_sort0_18 (by decide) (fun _ => ?_) (fun h => by first | exact absurd h h7 | exact absurd h h8 | exact absurd h h9 | exact absurd h7 h | exact absurd h8 h | exact absurd h9 h)
  refine lv_aload_n hx hb dM_sort0_38 rfl (lv_at hl 0 rfl) ?_
  refine lv_iconst (v := 1) hx hb dM_sort0_39 (by decide) ?_
  refine va_put (D := D) (ci := 5) (v := .int 1) (ty := .int) (C := "ValueBenchModel") (T := TM) (N := 32) hx hb htx inM tyM tyM_ok nmM hown hK hP hD hS 0 rfl rfl 0 (by decide) (htx _ kw_5_87) (fun _ h9 => h9) rfl (by decide +kernel) rfl rfl (Nat.le_of_ble_eq_true rfl) dM_sort0_40 (fun H locs hP hD hS => ?_)
  obtain ⟨hP, hD⟩ : xPD D xcl A [(a0, .inr (5, [.int 1, v13, .int 0, v15, .int 0, v17, v18, .int 0, v20, .int 0, v22, v23, .int 0, v25, v26, v27, v28, v29, v30, v31, v32, v33, .int 0, .int 1000000000, v36, v37, v38, v39, v40, v41, v42, v43]))] H := ⟨hP, hD⟩
  refine lv_goto (tgt := 56) hx hb dM_sort0_43 (by decide) ?_
  obtain ⟨hP9, hD9⟩ := xsub (wc := [(a0, .inr (5, [.int 1, v13, .int 0, v15, .int 0, v17, v18, .int 0, v20, .int 0, v22, v23, .int 0, v25, v26, v27, v28, v29, v30, v31, v32, v33, .int 0, .int 1000000000, v36, v37, v38, v39, v40, v41, v42, v43]))]) hP hD [0] rfl rfl (by decide)
  refine W.widen (k := 0) (n := 0) (Nat.le_of_ble_eq_true rfl) (Nat.le_of_ble_eq_true rfl) ?_
  exact W.vret hx hb hr (fun t ht hW => ⟨⟨(), rfl, trivial, by rw [ht]; exact hP9, va_K.moved hW.alike hK, hD9⟩, hS.F ht⟩) hS.2.2 dM_sort0_56
set_option maxHeartbeats 400000000 in
set_option maxRecDepth 100000 in
theorem cM_one0_19 (l : Launch) (hl9 : l.stackTraces = false) (D : va_G) (cT : Nat → ClassId) (aK aV : Nat → Nat) (sz : Nat) (a0 : Nat) (x1 : Int32) (x3 : Int32) (x4 : Int32) (v5 : Value) (v6 : Value) (v7 : Value) (v8 : Value) (v9 : Value) (v10 : Value) (v11 : Value) (v12 : Value) (v13 : Value) (v14 : Value) (v15 : Value) (v16 : Value) (v17 : Value) (v18 : Value) (v19 : Value) (v20 : Value) (v21 : Value) (v22 : Value) (v23 : Value) (v24 : Value) (v25 : Value) (v26 : Value) (v27 : Value) (v28 : Value) (v29 : Value) (v30 : Value) (v31 : Value) (v32 : Value) (v33 : Value) (v34 : Value) (v35 : Value) (v36 : Value) (h2 : x1 < 0) : xMet l yM_one0 wyM_one0 2 0 0 40 D cT aK aV sz [.ref a0, .int x1, .int x3, .int x4] [(a0, .inr (5, [v5, v6, v7, v8, v9, v10, v11, v12, v13, v14, v15, v16, v17, v18, v19, v20, v21, v22, v23, v24, v25, v26, v27, v28, v29, v30, v31, v32, v33, v34, v35, v36]))] (fun A => va_Qv (fun _ : Unit => True) (fun _ t => xB D xcl cT A [(a0, .inr (5, [.int 1, v6, .int 0, v8, .int 0, v10, v11, .int 0, v13, .int 0, v15, v16, .int 0, v18, v19, v20, v21, v22, v23, v24, v25, v26, .int 0, .int 1000000000, v29, v30, v31, v32, v33, v34, v35, v36]))] t) A) := by
  refine Met.ofW (cc := prog_13_method_92_code) (maxL := 4) (ret := none) (by decide) rfl ?_
  intro p e s m args below meth c s₁ B hml hv
  obtain ⟨rfl, hsz, hZ, hP, hK, hD0⟩ := hv
  have hx := B.exec
  have hb := B.bytes
  have hr := B.returns
  have hts := atoms_spec (ws := wyM_one0) B.pre
  have htx := fun w h => hts w (List.mem_cons_of_mem _ h)
  have hown : s.vm.findClass "ValueBenchModel" = some m.cls := findClass_of_methodNamed B.named
  have hlocks := B.notSynchronized
  subst hsz
  have hD := hD0.self (sz := s.heap.size)
  generalize hAe : va_A [(a0, .inr (5, [v5, v6, v7, v8, v9, v10, v11, v12, v13, v14, v15, v16, v17, v18, v19, v20, v21, v22, v23, v24, v25, v26, v27, v28, v29, v30, v31, v32, v33, v34, v35, v36]))] s.heap.size = A at hD hZ ⊢
  have hA : ∀ q : Nat, s.heap.size ≤ q → A q := fun q h => by rw [← hAe]; exact Or.inr h
  have hS : va_S A s.heap s.heap [] := va_S.rf
  have hP : va_P D xcl [(a0, .inr (5, [v5, v6, v7, v8, v9, v10, v11, v12, v13, v14, v15, v16, v17, v18, v19, v20, v21, v22, v23, v24, v25, v26, v27, v28, v29, v30, v31, v32, v33, v34, v35, v36]))] s.heap := hP
  have hl := lv_entry ([.ref a0, .int x1, .int x3, .int x4]) (n := 4) (Nat.le_of_ble_eq_true rfl)
  rw [lg_entry_eq]
  generalize (lg_sl ([.ref a0, .int x1, .int x3, .int x4]) ++ List.replicate (4 - (lg_sl ([.ref a0, .int x1, .int x3, .int x4])).length) Slot.unset).toArray = ls at hl ⊢
  have hl : lv_has ls 4 [(0, .ref a0), (1, .int x1), (2, .int x3), (3, .int x4)] := hl
  refine lv_aload_n hx hb dM_one0_0 rfl (lv_at hl 0 rfl) ?_
  obtain ⟨hPc, hDc, hFc⟩ := xcut (wc := [(a0, .inr (5, [v5, v6, v7, v8, v9, v10, v11, v12, v13, v14, v15, v16, v17, v18, v19, v20, v21, v22, v23, v24, v25, v26, v27, v28, v29, v30, v31, v32, v33, v34, v35, v36]))]) hP hD hS hA [0] rfl rfl (by decide)
  refine va_callv (va_runV (C := "ValueBenchModel") (As := []) (rest := []) ⟨hx, hb, hml, hown, htx⟩ (cM_begin_0 l hl9 D cT aK aV s.heap.size a0 v5 v6 v7 v8 v9 v10 v11 v12 v13 v14 v15 v16 v17 v18 v19 v20 v21 v22 v23 v24 v25 v26 v27 v28 v29 v30 v31 v32 v33 v34 v35 v36) ⟨callB_of 0 htx (xw_goodC kw_5_209) rfl rfl rfl (htx _ kw_1_5) (htx _ kw_5_206) ⟨by decide, by decide, by decide +kernel⟩ ⟨Nat.le_of_ble_eq_true rfl, Nat.le_of_ble_eq_true rfl⟩, (htx _ kw_5_208), (htx _ kp_M_begin)⟩ ⟨xPre_blind, va_recv hK hP (ci := 5) rfl (q0 := 0) rfl, (fun U hU hW => ⟨rfl, xPre_of hZ hS hFc hPc hDc hK U hU hW⟩)⟩ rfl rfl hl.1 rfl (lv_room (Nat.le_of_ble_eq_true rfl)) dM_one0_1 ⟨Nat.le_of_ble_eq_true rfl, Nat.le_of_ble_eq_true rfl⟩) hS (fun q _ h => hFc q h) hFc (fun u9 t H1 locs ht hvm hr9 hB hz1 hk1 hS => ?_)
  obtain ⟨hP1, hK1, hD1⟩ := hB
  rw [ht] at hP1
  obtain ⟨hP, hD⟩ := xjoin (W := [(a0, .inr (5, [.int 0, v6, .int 0, v8, .int 0, v10, v11, .int 0, v13, .int 0, v15, v16, .int 0, v18, v19, v20, v21, v22, v23, v24, v25, v26, .int 0, .int 1000000000, v29, v30, v31, v32, v33, v34, v35, v36]))]) hP hD [0] [] 0 rfl rfl (by decide) (by decide) hk1 hFc hP1 hD1
  generalize H1 = H at hP hS ⊢
  refine lv_aload_n hx hb dM_one0_4 rfl (lv_at hl 0 rfl) ?_
  refine lv_iload_n hx hb dM_one0_5 rfl (lv_at hl 1 rfl) ?_
  obtain ⟨hPc, hDc, hFc⟩ := xcut (wc := []) hP hD hS hA [] rfl rfl (by decide)
  refine va_calli (va_runV (C := "ValueBenchModel") (As := [.int x1]) (rest := []) ⟨hx, hb, hml, hown, htx⟩ (cM_out_1 l hl9 D cT aK aV H.size a0 x1 h2) ⟨callB_of 1 htx (xw_goodC kw_5_217) rfl rfl rfl (htx _ kw_1_5) (htx _ kw_5_214) ⟨by decide, by decide, by decide +kernel⟩ ⟨Nat.le_of_ble_eq_true rfl, Nat.le_of_ble_eq_true rfl⟩, (htx _ kw_5_216), (htx _ kp_M_out)⟩ ⟨xPre_blind, va_recv hK hP (ci := 5) rfl (q0 := 0) rfl, (fun U hU hW => ⟨rfl, xPre_of hZ hS hFc hPc hDc hK U hU hW⟩)⟩ rfl rfl hl.1 rfl (lv_room (Nat.le_of_ble_eq_true rfl)) dM_one0_6 ⟨Nat.le_of_ble_eq_true rfl, Nat.le_of_ble_eq_true rfl⟩) hS (fun q _ h => hFc q h) hFc (fun r1 u9 t H1 locs ht hvm hr9 hB hz1 hk1 hS => ?_)
  obtain ⟨hP1, hK1, hD1⟩ := hB
  rw [ht] at hP1
  obtain ⟨hP, hD⟩ := xjoin (W := [(a0, .inr (5, [.int 0, v6, .int 0, v8, .int 0, v10, v11, .int 0, v13, .int 0, v15, v16, .int 0, v18, v19, v20, v21, v22, v23, v24, v25, v26, .int 0, .int 1000000000, v29, v30, v31, v32, v33, v34, v35, v36]))]) hP hD [] [0] 1 rfl rfl (by decide) (by decide) hk1 hFc hP1 hD1
  generalize H1 = H at hP hS ⊢
  rw [hr9]
  refine W.eq (g2 := F0 m 9 ls [.int 1]) rfl ?_
  refine lv_if_ne (tgt := 30) hx hb dM_one0_9 (by decide) (fun _ => ?_) (fun h => ((by revert h; decide : False)).elim)
  refine lv_aload_n hx hb dM_one0_30 rfl (lv_at hl 0 rfl) ?_
  refine lv_iconst (v := 1) hx hb dM_one0_31 (by decide) ?_
  refine va_put (D := D) (ci := 5) (v := .int 1) (ty := .int) (C := "ValueBenchModel") (T := TM) (N := 32) hx hb htx inM tyM tyM_ok nmM hown hK hP hD hS 0 rfl rfl 0 (by decide) (htx _ kw_5_87) (fun _ h9 => h9) rfl (by decide +kernel) rfl rfl (Nat.le_of_ble_eq_true rfl) dM_one0_32 (fun H locs hP hD hS => ?_)
  obtain ⟨hP, hD⟩ : xPD D xcl A [(a0, .inr (5, [.int 1, v6, .int 0, v8, .int 0, v10, v11, .int 0, v13, .int 0, v15, v16, .int 0, v18, v19, v20, v21, v22, v23, v24, v25, v26, .int 0, .int 1000000000, v29, v30, v31, v32, v33, v34, v35, v36]))] H := ⟨hP, hD⟩
  refine lv_goto (tgt := 47) hx hb dM_one0_35 (by decide) ?_
  obtain ⟨hP9, hD9⟩ := xsub (wc := [(a0, .inr (5, [.int 1, v6, .int 0, v8, .int 0, v10, v11, .int 0, v13, .int 0, v15, v16, .int 0, v18, v19, v20, v21, v22, v23, v24, v25, v26, .int 0, .int 1000000000, v29, v30, v31, v32, v33, v34, v35, v36]))]) hP hD [0] rfl rfl (by decide)
  refine W.widen (k := 0) (n := 0) (Nat.le_of_ble_eq_true rfl) (Nat.le_of_ble_eq_true rfl) ?_
  exact W.vret hx hb hr (fun t ht hW => ⟨⟨(), rfl, trivial, by rw [ht]; exact hP9, va_K.moved hW.alike hK, hD9⟩, hS.F ht⟩) hS.2.2 dM_one0_47
set_option maxHeartbeats 400000000 in
set_option maxRecDepth 100000 in
theorem cM_one0_20 (l : Launch) (hl9 : l.stackTraces = false) (D : va_G) (cT : Nat → ClassId) (aK aV : Nat → Nat) (sz : Nat) (a0 : Nat) (x1 : Int32) (x6 : Int32) (x8 : Int32) (v9 : Value) (v10 : Value) (v11 : Value) (v12 : Value) (v13 : Value) (v14 : Value) (v15 : Value) (v16 : Value) (v17 : Value) (v18 : Value) (v19 : Value) (v20 : Value) (v21 : Value) (v22 : Value) (v23 : Value) (v24 : Value) (v25 : Value) (v26 : Value) (v27 : Value) (v28 : Value) (v29 : Value) (v30 : Value) (v31 : Value) (v32 : Value) (v33 : Value) (v34 : Value) (v35 : Value) (v36 : Value) (v37 : Value) (v38 : Value) (v39 : Value) (v40 : Value) (h2 : ¬ x1 < 0) (h3 : ¬ 7 < x1) (h4 : x1 ≤ 7) (h5 : vp_in x1 8) (h7 : x6 < 0) : xMet l yM_one0 wyM_one0 2 0 0 40 D cT aK aV sz [.ref a0, .int x1, .int x6, .int x8] [(a0, .inr (5, [v9, v10, v11, v12, v13, v14, v15, v16, v17, v18, v19, v20, v21, v22, v23, v24, v25, v26, v27, v28, v29, v30, v31, v32, v33, v34, v35, v36, v37, v38, v39, v40]))] (fun A => va_Qv (fun _ : Unit => True) (fun _ t => xB D xcl cT A [(a0, .inr (5, [.int 1, v10, .int 0, v12, .int 0, v14, v15, .int 0, v17, .int 0, v19, v20, .int 0, v22, v23, v24, v25, v26, v27, v28, v29, v30, .int 0, .int 1000000000, v33, v34, v35, v36, v37, v38, v39, v40]))] t) A) := by
  refine Met.ofW (cc := prog_13_method_92_code) (maxL := 4) (ret := none) (by decide) rfl ?_
  intro p e s m args below meth c s₁ B hml hv
  obtain ⟨rfl, hsz, hZ, hP, hK, hD0⟩ := hv
  have hx := B.exec
  have hb := B.bytes
  have hr := B.returns
  have hts := atoms_spec (ws := wyM_one0) B.pre
  have htx := fun w h => hts w (List.mem_cons_of_mem _ h)
  have hown : s.vm.findClass "ValueBenchModel" = some m.cls := findClass_of_methodNamed B.named
  have hlocks := B.notSynchronized
  subst hsz
  have hD := hD0.self (sz := s.heap.size)
  generalize hAe : va_A [(a0, .inr (5, [v9, v10, v11, v12, v13, v14, v15, v16, v17, v18, v19, v20, v21, v22, v23, v24, v25, v26, v27, v28, v29, v30, v31, v32, v33, v34, v35, v36, v37, v38, v39, v40]))] s.heap.size = A at hD hZ ⊢
  have hA : ∀ q : Nat, s.heap.size ≤ q → A q := fun q h => by rw [← hAe]; exact Or.inr h
  have hS : va_S A s.heap s.heap [] := va_S.rf
  have hP : va_P D xcl [(a0, .inr (5, [v9, v10, v11, v12, v13, v14, v15, v16, v17, v18, v19, v20, v21, v22, v23, v24, v25, v26, v27, v28, v29, v30, v31, v32, v33, v34, v35, v36, v37, v38, v39, v40]))] s.heap := hP
  have hl := lv_entry ([.ref a0, .int x1, .int x6, .int x8]) (n := 4) (Nat.le_of_ble_eq_true rfl)
  rw [lg_entry_eq]
  generalize (lg_sl ([.ref a0, .int x1, .int x6, .int x8]) ++ List.replicate (4 - (lg_sl ([.ref a0, .int x1, .int x6, .int x8])).length) Slot.unset).toArray = ls at hl ⊢
  have hl : lv_has ls 4 [(0, .ref a0), (1, .int x1), (2, .int x6), (3, .int x8)] := hl
  refine lv_aload_n hx hb dM_one0_0 rfl (lv_at hl 0 rfl) ?_
  obtain ⟨hPc, hDc, hFc⟩ := xcut (wc := [(a0, .inr (5, [v9, v10, v11, v12, v13, v14, v15, v16, v17, v18, v19, v20, v21, v22, v23, v24, v25, v26, v27, v28, v29, v30, v31, v32, v33, v34, v35, v36, v37, v38, v39, v40]))]) hP hD hS hA [0] rfl rfl (by decide)
  refine va_callv (va_runV (C := "ValueBenchModel") (As := []) (rest := []) ⟨hx, hb, hml, hown, htx⟩ (cM_begin_0 l hl9 D cT aK aV s.heap.size a0 v9 v10 v11 v12 v13 v14 v15 v16 v17 v18 v19 v20 v21 v22 v23 v24 v25 v26 v27 v28 v29 v30 v31 v32 v33 v34 v35 v36 v37 v38 v39 v40) ⟨callB_of 0 htx (xw_goodC kw_5_209) rfl rfl rfl (htx _ kw_1_5) (htx _ kw_5_206) ⟨by decide, by decide, by decide +kernel⟩ ⟨Nat.le_of_ble_eq_true rfl, Nat.le_of_ble_eq_true rfl⟩, (htx _ kw_5_208), (htx _ kp_M_begin)⟩ ⟨xPre_blind, va_recv hK hP (ci := 5) rfl (q0 := 0) rfl, (fun U hU hW => ⟨rfl, xPre_of hZ hS hFc hPc hDc hK U hU hW⟩)⟩ rfl rfl hl.1 rfl (lv_room (Nat.le_of_ble_eq_true rfl)) dM_one0_1 ⟨Nat.le_of_ble_eq_true rfl, Nat.le_of_ble_eq_true rfl⟩) hS (fun q _ h => hFc q h) hFc (fun u9 t H1 locs ht hvm hr9 hB hz1 hk1 hS => ?_)
  obtain ⟨hP1, hK1, hD1⟩ := hB
  rw [ht] at hP1
  obtain ⟨hP, hD⟩ := xjoin (W := [(a0, .inr (5, [.int 0, v10, .int 0, v12, .int 0, v14, v15, .int 0, v17, .int 0, v19, v20, .int 0, v22, v23, v24, v25, v26, v27, v28, v29, v30, .int 0, .int 1000000000, v33, v34, v35, v36, v37, v38, v39, v40]))]) hP hD [0] [] 0 rfl rfl (by decide) (by decide) hk1 hFc hP1 hD1
  generalize H1 = H at hP hS ⊢
  refine lv_aload_n hx hb dM_one0_4 rfl (lv_at hl 0 rfl) ?_
  refine lv_iload_n hx hb dM_one0_5 rfl (lv_at hl 1 rfl) ?_
  obtain ⟨hPc, hDc, hFc⟩ := xcut (wc := []) hP hD hS hA [] rfl rfl (by decide)
  refine va_calli (va_runV (C := "ValueBenchModel") (As := [.int x1]) (rest := []) ⟨hx, hb, hml, hown, htx⟩ (cM_out_0 l hl9 D cT aK aV H.size a0 x1 h2 h3 h4 h5) ⟨callB_of 1 htx (xw_goodC kw_5_217) rfl rfl rfl (htx _ kw_1_5) (htx _ kw_5_214) ⟨by decide, by decide, by decide +kernel⟩ ⟨Nat.le_of_ble_eq_true rfl, Nat.le_of_ble_eq_true rfl⟩, (htx _ kw_5_216), (htx _ kp_M_out)⟩ ⟨xPre_blind, va_recv hK hP (ci := 5) rfl (q0 := 0) rfl, (fun U hU hW => ⟨rfl, xPre_of hZ hS hFc hPc hDc hK U hU hW⟩)⟩ rfl rfl hl.1 rfl (lv_room (Nat.le_of_ble_eq_true rfl)) dM_one0_6 ⟨Nat.le_of_ble_eq_true rfl, Nat.le_of_ble_eq_true rfl⟩) hS (fun q _ h => hFc q h) hFc (fun r1 u9 t H1 locs ht hvm hr9 hB hz1 hk1 hS => ?_)
  obtain ⟨hP1, hK1, hD1⟩ := hB
  rw [ht] at hP1
  obtain ⟨hP, hD⟩ := xjoin (W := [(a0, .inr (5, [.int 0, v10, .int 0, v12, .int 0, v14, v15, .int 0, v17, .int 0, v19, v20, .int 0, v22, v23, v24, v25, v26, v27, v28, v29, v30, .int 0, .int 1000000000, v33, v34, v35, v36, v37, v38, v39, v40]))]) hP hD [] [0] 1 rfl rfl (by decide) (by decide) hk1 hFc hP1 hD1
  generalize H1 = H at hP hS ⊢
  rw [hr9]
  refine W.eq (g2 := F0 m 9 ls [.int 0]) rfl ?_
  refine lv_if_ne (tgt := 30) hx hb dM_one0_9 (by decide) (fun h => ((by revert h; decide : False)).elim) (fun _ => ?_)
  refine lv_iload_n hx hb dM_one0_12 rfl (lv_at hl 2 rfl) ?_
  refine lv_if_lt (tgt := 30) hx hb dM_one0_13 (by decide) (fun _ => ?_) (fun h => by first | exact absurd h h7 | exact absurd h7 h)
  refine lv_aload_n hx hb dM_one0_30 rfl (lv_at hl 0 rfl) ?_
  refine lv_iconst (v := 1) hx hb dM_one0_31 (by decide) ?_
  refine va_put (D := D) (ci := 5) (v := .int 1) (ty := .int) (C := "ValueBenchModel") (T := TM) (N := 32) hx hb htx inM tyM tyM_ok nmM hown hK hP hD hS 0 rfl rfl 0 (by decide) (htx _ kw_5_87) (fun _ h9 => h9) rfl (by decide +kernel) rfl rfl (Nat.le_of_ble_eq_true rfl) dM_one0_32 (fun H locs hP hD hS => ?_)
  obtain ⟨hP, hD⟩ : xPD D xcl A [(a0, .inr (5, [.int 1, v10, .int 0, v12, .int 0, v14, v15, .int 0, v17, .int 0, v19, v20, .int 0, v22, v23, v24, v25, v26, v27, v28, v29, v30, .int 0, .int 1000000000, v33, v34, v35, v36, v37, v38, v39, v40]))] H := ⟨hP, hD⟩
  refine lv_goto (tgt := 47) hx hb dM_one0_35 (by decide) ?_
  obtain ⟨hP9, hD9⟩ := xsub (wc := [(a0, .inr (5, [.int 1, v10, .int 0, v12, .int 0, v14, v15, .int 0, v17, .int 0, v19, v20, .int 0, v22, v23, v24, v25, v26, v27, v28, v29, v30, .int 0, .int 1000000000, v33, v34, v35, v36, v37, v38, v39, v40]))]) hP hD [0] rfl rfl (by decide)
  refine W.widen (k := 0) (n := 0) (Nat.le_of_ble_eq_true rfl) (Nat.le_of_ble_eq_true rfl) ?_
  exact W.vret hx hb hr (fun t ht hW => ⟨⟨(), rfl, trivial, by rw [ht]; exact hP9, va_K.moved hW.alike hK, hD9⟩, hS.F ht⟩) hS.2.2 dM_one0_47
set_option maxHeartbeats 400000000 in
set_option maxRecDepth 100000 in
theorem cM_one0_21 (l : Launch) (hl9 : l.stackTraces = false) (D : va_G) (cT : Nat → ClassId) (aK aV : Nat → Nat) (sz : Nat) (a0 : Nat) (x1 : Int32) (x5 : Int32) (x6 : Int32) (v7 : Value) (v8 : Value) (v9 : Value) (v10 : Value) (v11 : Value) (v12 : Value) (v13 : Value) (v14 : Value) (v15 : Value) (v16 : Value) (v17 : Value) (v18 : Value) (v19 : Value) (v20 : Value) (v21 : Value) (v22 : Value) (v23 : Value) (v24 : Value) (v25 : Value) (v26 : Value) (v27 : Value) (v28 : Value) (v29 : Value) (v30 : Value) (v31 : Value) (v32 : Value) (v33 : Value) (v34 : Value) (v35 : Value) (v36 : Value) (v37 : Value) (v38 : Value) (h2 : ¬ x1 < 0) (h3 : 7 < x1) (h4 : ¬ x1 ≤ 7) : xMet l yM_one0 wyM_one0 2 0 0 40 D cT aK aV sz [.ref a0, .int x1, .int x5, .int x6] [(a0, .inr (5, [v7, v8, v9, v10, v11, v12, v13, v14, v15, v16, v17, v18, v19, v20, v21, v22, v23, v24, v25, v26, v27, v28, v29, v30, v31, v32, v33, v34, v35, v36, v37, v38]))] (fun A => va_Qv (fun _ : Unit => True) (fun _ t => xB D xcl cT A [(a0, .inr (5, [.int 1, v8, .int 0, v10, .int 0, v12, v13, .int 0, v15, .int 0, v17, v18, .int 0, v20, v21, v22, v23, v24, v25, v26, v27, v28, .int 0, .int 1000000000, v31, v32, v33, v34, v35, v36, v37, v38]))] t) A) := by
  refine Met.ofW (cc := prog_13_method_92_code) (maxL := 4) (ret := none) (by decide) rfl ?_
  intro p e s m args below meth c s₁ B hml hv
  obtain ⟨rfl, hsz, hZ, hP, hK, hD0⟩ := hv
  have hx := B.exec
  have hb := B.bytes
  have hr := B.returns
  have hts := atoms_spec (ws := wyM_one0) B.pre
  have htx := fun w h => hts w (List.mem_cons_of_mem _ h)
  have hown : s.vm.findClass "ValueBenchModel" = some m.cls := findClass_of_methodNamed B.named
  have hlocks := B.notSynchronized
  subst hsz
  have hD := hD0.self (sz := s.heap.size)
  generalize hAe : va_A [(a0, .inr (5, [v7, v8, v9, v10, v11, v12, v13, v14, v15, v16, v17, v18, v19, v20, v21, v22, v23, v24, v25, v26, v27, v28, v29, v30, v31, v32, v33, v34, v35, v36, v37, v38]))] s.heap.size = A at hD hZ ⊢
  have hA : ∀ q : Nat, s.heap.size ≤ q → A q := fun q h => by rw [← hAe]; exact Or.inr h
  have hS : va_S A s.heap s.heap [] := va_S.rf
  have hP : va_P D xcl [(a0, .inr (5, [v7, v8, v9, v10, v11, v12, v13, v14, v15, v16, v17, v18, v19, v20, v21, v22, v23, v24, v25, v26, v27, v28, v29, v30, v31, v32, v33, v34, v35, v36, v37, v38]))] s.heap := hP
  have hl := lv_entry ([.ref a0, .int x1, .int x5, .int x6]) (n := 4) (Nat.le_of_ble_eq_true rfl)
  rw [lg_entry_eq]
  generalize (lg_sl ([.ref a0, .int x1, .int x5, .int x6]) ++ List.replicate (4 - (lg_sl ([.ref a0, .int x1, .int x5, .int x6])).length) Slot.unset).toArray = ls at hl ⊢
  have hl : lv_has ls 4 [(0, .ref a0), (1, .int x1), (2, .int x5), (3, .int x6)] := hl
  refine lv_aload_n hx hb dM_one0_0 rfl (lv_at hl 0 rfl) ?_
  obtain ⟨hPc, hDc, hFc⟩ := xcut (wc := [(a0, .inr (5, [v7, v8, v9, v10, v11, v12, v13, v14, v15, v16, v17, v18, v19, v20, v21, v22, v23, v24, v25, v26, v27, v28, v29, v30, v31, v32, v33, v34, v35, v36, v37, v38]))]) hP hD hS hA [0] rfl rfl (by decide)
  refine va_callv (va_runV (C := "ValueBenchModel") (As := []) (rest := []) ⟨hx, hb, hml, hown, htx⟩ (cM_begin_0 l hl9 D cT aK aV s.heap.size a0 v7 v8 v9 v10 v11 v12 v13 v14 v15 v16 v17 v18 v19 v20 v21 v22 v23 v24 v25 v26 v27 v28 v29 v30 v31 v32 v33 v34 v35 v36 v37 v38) ⟨callB_of 0 htx (xw_goodC kw_5_209) rfl rfl rfl (htx _ kw_1_5) (htx _ kw_5_206) ⟨by decide, by decide, by decide +kernel⟩ ⟨Nat.le_of_ble_eq_true rfl, Nat.le_of_ble_eq_true rfl⟩, (htx _ kw_5_208), (htx _ kp_M_begin)⟩ ⟨xPre_blind, va_recv hK hP (ci := 5) rfl (q0 := 0) rfl, (fun U hU hW => ⟨rfl, xPre_of hZ hS hFc hPc hDc hK U hU hW⟩)⟩ rfl rfl hl.1 rfl (lv_room (Nat.le_of_ble_eq_true rfl)) dM_one0_1 ⟨Nat.le_of_ble_eq_true rfl, Nat.le_of_ble_eq_true rfl⟩) hS (fun q _ h => hFc q h) hFc (fun u9 t H1 locs ht hvm hr9 hB hz1 hk1 hS => ?_)
  obtain ⟨hP1, hK1, hD1⟩ := hB
  rw [ht] at hP1
  obtain ⟨hP, hD⟩ := xjoin (W := [(a0, .inr (5, [.int 0, v8, .int 0, v10, .int 0, v12, v13, .int 0, v15, .int 0, v17, v18, .int 0, v20, v21, v22, v23, v24, v25, v26, v27, v28, .int 0, .int 1000000000, v31, v32, v33, v34, v35, v36, v37, v38]))]) hP hD [0] [] 0 rfl rfl (by decide) (by decide) hk1 hFc hP1 hD1
  generalize H1 = H at hP hS ⊢
  refine lv_aload_n hx hb dM_one0_4 rfl (lv_at hl 0 rfl) ?_
  refine lv_iload_n hx hb dM_one0_5 rfl (lv_at hl 1 rfl) ?_
  obtain ⟨hPc, hDc, hFc⟩ := xcut (wc := []) hP hD hS hA [] rfl rfl (by decide)
  refine va_calli (va_runV (C := "ValueBenchModel") (As := [.int x1]) (rest := []) ⟨hx, hb, hml, hown, htx⟩ (cM_out_2 l hl9 D cT aK aV H.size a0 x1 h2 h3 h4) ⟨callB_of 1 htx (xw_goodC kw_5_217) rfl rfl rfl (htx _ kw_1_5) (htx _ kw_5_214) ⟨by decide, by decide, by decide +kernel⟩ ⟨Nat.le_of_ble_eq_true rfl, Nat.le_of_ble_eq_true rfl⟩, (htx _ kw_5_216), (htx _ kp_M_out)⟩ ⟨xPre_blind, va_recv hK hP (ci := 5) rfl (q0 := 0) rfl, (fun U hU hW => ⟨rfl, xPre_of hZ hS hFc hPc hDc hK U hU hW⟩)⟩ rfl rfl hl.1 rfl (lv_room (Nat.le_of_ble_eq_true rfl)) dM_one0_6 ⟨Nat.le_of_ble_eq_true rfl, Nat.le_of_ble_eq_true rfl⟩) hS (fun q _ h => hFc q h) hFc (fun r1 u9 t H1 locs ht hvm hr9 hB hz1 hk1 hS => ?_)
  obtain ⟨hP1, hK1, hD1⟩ := hB
  rw [ht] at hP1
  obtain ⟨hP, hD⟩ := xjoin (W := [(a0, .inr (5, [.int 0, v8, .int 0, v10, .int 0, v12, v13, .int 0, v15, .int 0, v17, v18, .int 0, v20, v21, v22, v23, v24, v25, v26, v27, v28, .int 0, .int 1000000000, v31, v32, v33, v34, v35, v36, v37, v38]))]) hP hD [] [0] 1 rfl rfl (by decide) (by decide) hk1 hFc hP1 hD1
  generalize H1 = H at hP hS ⊢
  rw [hr9]
  refine W.eq (g2 := F0 m 9 ls [.int 1]) rfl ?_
  refine lv_if_ne (tgt := 30) hx hb dM_one0_9 (by decide) (fun _ => ?_) (fun h => ((by revert h; decide : False)).elim)
  refine lv_aload_n hx hb dM_one0_30 rfl (lv_at hl 0 rfl) ?_
  refine lv_iconst (v := 1) hx hb dM_one0_31 (by decide) ?_
  refine va_put (D := D) (ci := 5) (v := .int 1) (ty := .int) (C := "ValueBenchModel") (T := TM) (N := 32) hx hb htx inM tyM tyM_ok nmM hown hK hP hD hS 0 rfl rfl 0 (by decide) (htx _ kw_5_87) (fun _ h9 => h9) rfl (by decide +kernel) rfl rfl (Nat.le_of_ble_eq_true rfl) dM_one0_32 (fun H locs hP hD hS => ?_)
  obtain ⟨hP, hD⟩ : xPD D xcl A [(a0, .inr (5, [.int 1, v8, .int 0, v10, .int 0, v12, v13, .int 0, v15, .int 0, v17, v18, .int 0, v20, v21, v22, v23, v24, v25, v26, v27, v28, .int 0, .int 1000000000, v31, v32, v33, v34, v35, v36, v37, v38]))] H := ⟨hP, hD⟩
  refine lv_goto (tgt := 47) hx hb dM_one0_35 (by decide) ?_
  obtain ⟨hP9, hD9⟩ := xsub (wc := [(a0, .inr (5, [.int 1, v8, .int 0, v10, .int 0, v12, v13, .int 0, v15, .int 0, v17, v18, .int 0, v20, v21, v22, v23, v24, v25, v26, v27, v28, .int 0, .int 1000000000, v31, v32, v33, v34, v35, v36, v37, v38]))]) hP hD [0] rfl rfl (by decide)
  refine W.widen (k := 0) (n := 0) (Nat.le_of_ble_eq_true rfl) (Nat.le_of_ble_eq_true rfl) ?_
  exact W.vret hx hb hr (fun t ht hW => ⟨⟨(), rfl, trivial, by rw [ht]; exact hP9, va_K.moved hW.alike hK, hD9⟩, hS.F ht⟩) hS.2.2 dM_one0_47
set_option maxHeartbeats 400000000 in
set_option maxRecDepth 100000 in
theorem cM_one0_22 (l : Launch) (hl9 : l.stackTraces = false) (D : va_G) (cT : Nat → ClassId) (aK aV : Nat → Nat) (sz : Nat) (a0 : Nat) (x1 : Int32) (x6 : Int32) (x10 : Int32) (v11 : Value) (v12 : Value) (v13 : Value) (v14 : Value) (v15 : Value) (v16 : Value) (v17 : Value) (v18 : Value) (v19 : Value) (v20 : Value) (v21 : Value) (v22 : Value) (v23 : Value) (v24 : Value) (v25 : Value) (v26 : Value) (v27 : Value) (v28 : Value) (v29 : Value) (v30 : Value) (v31 : Value) (v32 : Value) (v33 : Value) (v34 : Value) (v35 : Value) (v36 : Value) (v37 : Value) (v38 : Value) (v39 : Value) (v40 : Value) (v41 : Value) (v42 : Value) (h2 : ¬ x1 < 0) (h3 : ¬ 7 < x1) (h4 : x1 ≤ 7) (h5 : vp_in x1 8) (h7 : ¬ x6 < 0) (h8 : 13 < x6) (h9 : ¬ x6 ≤ 13) : xMet l yM_one0 wyM_one0 2 0 0 40 D cT aK aV sz [.ref a0, .int x1, .int x6, .int x10] [(a0, .inr (5, [v11, v12, v13, v14, v15, v16, v17, v18, v19, v20, v21, v22, v23, v24, v25, v26, v27, v28, v29, v30, v31, v32, v33, v34, v35, v36, v37, v38, v39, v40, v41, v42]))] (fun A => va_Qv (fun _ : Unit => True) (fun _ t => xB D xcl cT A [(a0, .inr (5, [.int 1, v12, .int 0, v14, .int 0, v16, v17, .int 0, v19, .int 0, v21, v22, .int 0, v24, v25, v26, v27, v28, v29, v30, v31, v32, .int 0, .int 1000000000, v35, v36, v37, v38, v39, v40, v41, v42]))] t) A) := by
  refine Met.ofW (cc := prog_13_method_92_code) (maxL := 4) (ret := none) (by decide) rfl ?_
  intro p e s m args below meth c s₁ B hml hv
  obtain ⟨rfl, hsz, hZ, hP, hK, hD0⟩ := hv
  have hx := B.exec
  have hb := B.bytes
  have hr := B.returns
  have hts := atoms_spec (ws := wyM_one0) B.pre
  have htx := fun w h => hts w (List.mem_cons_of_mem _ h)
  have hown : s.vm.findClass "ValueBenchModel" = some m.cls := findClass_of_methodNamed B.named
  have hlocks := B.notSynchronized
  subst hsz
  have hD := hD0.self (sz := s.heap.size)
  generalize hAe : va_A [(a0, .inr (5, [v11, v12, v13, v14, v15, v16, v17, v18, v19, v20, v21, v22, v23, v24, v25, v26, v27, v28, v29, v30, v31, v32, v33, v34, v35, v36, v37, v38, v39, v40, v41, v42]))] s.heap.size = A at hD hZ ⊢
  have hA : ∀ q : Nat, s.heap.size ≤ q → A q := fun q h => by rw [← hAe]; exact Or.inr h
  have hS : va_S A s.heap s.heap [] := va_S.rf
  have hP : va_P D xcl [(a0, .inr (5, [v11, v12, v13, v14, v15, v16, v17, v18, v19, v20, v21, v22, v23, v24, v25, v26, v27, v28, v29, v30, v31, v32, v33, v34, v35, v36, v37, v38, v39, v40, v41, v42]))] s.heap := hP
  have hl := lv_entry ([.ref a0, .int x1, .int x6, .int x10]) (n := 4) (Nat.le_of_ble_eq_true rfl)
  rw [lg_entry_eq]
  generalize (lg_sl ([.ref a0, .int x1, .int x6, .int x10]) ++ List.replicate (4 - (lg_sl ([.ref a0, .int x1, .int x6, .int x10])).length) Slot.unset).toArray = ls at hl ⊢
  have hl : lv_has ls 4 [(0, .ref a0), (1, .int x1), (2, .int x6), (3, .int x10)] := hl
  refine lv_aload_n hx hb dM_one0_0 rfl (lv_at hl 0 rfl) ?_
  obtain ⟨hPc, hDc, hFc⟩ := xcut (wc := [(a0, .inr (5, [v11, v12, v13, v14, v15, v16, v17, v18, v19, v20, v21, v22, v23, v24, v25, v26, v27, v28, v29, v30, v31, v32, v33, v34, v35, v36, v37, v38, v39, v40, v41, v42]))]) hP hD hS hA [0] rfl rfl (by decide)
  refine va_callv (va_runV (C := "ValueBenchModel") (As := []) (rest := []) ⟨hx, hb, hml, hown, htx⟩ (cM_begin_0 l hl9 D cT aK aV s.heap.size a0 v11 v12 v13 v14 v15 v16 v17 v18 v19 v20 v21 v22 v23 v24 v25 v26 v27 v28 v29 v30 v31 v32 v33 v34 v35 v36 v37 v38 v39 v40 v41 v42) ⟨callB_of 0 htx (xw_goodC kw_5_209) rfl rfl rfl (htx _ kw_1_5) (htx _ kw_5_206) ⟨by decide, by decide, by decide +kernel⟩ ⟨Nat.le_of_ble_eq_true rfl, Nat.le_of_ble_eq_true rfl⟩, (htx _ kw_5_208), (htx _ kp_M_begin)⟩ ⟨xPre_blind, va_recv hK hP (ci := 5) rfl (q0 := 0) rfl, (fun U hU hW => ⟨rfl, xPre_of hZ hS hFc hPc hDc hK U hU hW⟩)⟩ rfl rfl hl.1 rfl (lv_room (Nat.le_of_ble_eq_true rfl)) dM_one0_1 ⟨Nat.le_of_ble_eq_true rfl, Nat.le_of_ble_eq_true rfl⟩) hS (fun q _ h => hFc q h) hFc (fun u9 t H1 locs ht hvm hr9 hB hz1 hk1 hS => ?_)
  obtain ⟨hP1, hK1, hD1⟩ := hB
  rw [ht] at hP1
  obtain ⟨hP, hD⟩ := xjoin (W := [(a0, .inr (5, [.int 0, v12, .int 0, v14, .int 0, v16, v17, .int 0, v19, .int 0, v21, v22, .int 0, v24, v25, v26, v27, v28, v29, v30, v31, v32, .int 0, .int 1000000000, v35, v36, v37, v38, v39, v40, v41, v42]))]) hP hD [0] [] 0 rfl rfl (by decide) (by decide) hk1 hFc hP1 hD1
  generalize H1 = H at hP hS ⊢
  refine lv_aload_n hx hb dM_one0_4 rfl (lv_at hl 0 rfl) ?_
  refine lv_iload_n hx hb dM_one0_5 rfl (lv_at hl 1 rfl) ?_
  obtain ⟨hPc, hDc, hFc⟩ := xcut (wc := []) hP hD hS hA [] rfl rfl (by decide)
  refine va_calli (va_runV (C := "ValueBenchModel") (As := [.int x1]) (rest := []) ⟨hx, hb, hml, hown, htx⟩ (cM_out_0 l hl9 D cT aK aV H.size a0 x1 h2 h3 h4 h5) ⟨callB_of 1 htx (xw_goodC kw_5_217) rfl rfl rfl (htx _ kw_1_5) (htx _ kw_5_214) ⟨by decide, by decide, by decide +kernel⟩ ⟨Nat.le_of_ble_eq_true rfl, Nat.le_of_ble_eq_true rfl⟩, (htx _ kw_5_216), (htx _ kp_M_out)⟩ ⟨xPre_blind, va_recv hK hP (ci := 5) rfl (q0 := 0) rfl, (fun U hU hW => ⟨rfl, xPre_of hZ hS hFc hPc hDc hK U hU hW⟩)⟩ rfl rfl hl.1 rfl (lv_room (Nat.le_of_ble_eq_true rfl)) dM_one0_6 ⟨Nat.le_of_ble_eq_true rfl, Nat.le_of_ble_eq_true rfl⟩) hS (fun q _ h => hFc q h) hFc (fun r1 u9 t H1 locs ht hvm hr9 hB hz1 hk1 hS => ?_)
  obtain ⟨hP1, hK1, hD1⟩ := hB
  rw [ht] at hP1
  obtain ⟨hP, hD⟩ := xjoin (W := [(a0, .inr (5, [.int 0, v12, .int 0, v14, .int 0, v16, v17, .int 0, v19, .int 0, v21, v22, .int 0, v24, v25, v26, v27, v28, v29, v30, v31, v32, .int 0, .int 1000000000, v35, v36, v37, v38, v39, v40, v41, v42]))]) hP hD [] [0] 1 rfl rfl (by decide) (by decide) hk1 hFc hP1 hD1
  generalize H1 = H at hP hS ⊢
  rw [hr9]
  refine W.eq (g2 := F0 m 9 ls [.int 0]) rfl ?_
  refine lv_if_ne (tgt := 30) hx hb dM_one0_9 (by decide) (fun h => ((by revert h; decide : False)).elim) (fun _ => ?_)
  refine lv_iload_n hx hb dM_one0_12 rfl (lv_at hl 2 rfl) ?_
  refine lv_if_lt (tgt := 30) hx hb dM_one0_13 (by decide) (fun h => by first | exact absurd h h7 | exact absurd h h8 | exact absurd h h9 | exact absurd h7 h | exact absurd h8 h | exact absurd h9 h) (fun _ => ?_)
  refine lv_iload_n hx hb dM_one0_16 rfl (lv_at hl 2 rfl) ?_
  refine lv_bipush (v := 13) hx hb dM_one0_17 (by decide) ?_
  refine lv_icmp_gt (tgt := 30) hx hb dM_one0_19 (by decide) (fun _ => ?_) (fun h => by first | exact absurd h h7 | exact absurd h h8 | exact absurd h h9 | exact absurd h7 h | exact absurd h8 h | exact absurd h9 h)
  refine lv_aload_n hx hb dM_one0_30 rfl (lv_at hl 0 rfl) ?_
  refine lv_iconst (v := 1) hx hb dM_one0_31 (by decide) ?_
  refine va_put (D := D) (ci := 5) (v := .int 1) (ty := .int) (C := "ValueBenchModel") (T := TM) (N := 32) hx hb htx inM tyM tyM_ok nmM hown hK hP hD hS 0 rfl rfl 0 (by decide) (htx _ kw_5_87) (fun _ h9 => h9) rfl (by decide +kernel) rfl rfl (Nat.le_of_ble_eq_true rfl) dM_one0_32 (fun H locs hP hD hS => ?_)
  obtain ⟨hP, hD⟩ : xPD D xcl A [(a0, .inr (5, [.int 1, v12, .int 0, v14, .int 0, v16, v17, .int 0, v19, .int 0, v21, v22, .int 0, v24, v25, v26, v27, v28, v29, v30, v31, v32, .int 0, .int 1000000000, v35, v36, v37, v38, v39, v40, v41, v42]))] H := ⟨hP, hD⟩
  refine lv_goto (tgt := 47) hx hb dM_one0_35 (by decide) ?_
  obtain ⟨hP9, hD9⟩ := xsub (wc := [(a0, .inr (5, [.int 1, v12, .int 0, v14, .int 0, v16, v17, .int 0, v19, .int 0, v21, v22, .int 0, v24, v25, v26, v27, v28, v29, v30, v31, v32, .int 0, .int 1000000000, v35, v36, v37, v38, v39, v40, v41, v42]))]) hP hD [0] rfl rfl (by decide)
  refine W.widen (k := 0) (n := 0) (Nat.le_of_ble_eq_true rfl) (Nat.le_of_ble_eq_true rfl) ?_
  exact W.vret hx hb hr (fun t ht hW => ⟨⟨(), rfl, trivial, by rw [ht]; exact hP9, va_K.moved hW.alike hK, hD9⟩, hS.F ht⟩) hS.2.2 dM_one0_47
set_option maxHeartbeats 400000000 in
set_option maxRecDepth 100000 in
theorem cM_binary0_17 (l : Launch) (hl9 : l.stackTraces = false) (D : va_G) (cT : Nat → ClassId) (aK aV : Nat → Nat) (sz : Nat) (a0 : Nat) (x1 : Int32) (x6 : Int32) (x10 : Int32) (x12 : Int32) (v13 : Value) (v14 : Value) (v15 : Value) (v16 : Value) (v17 : Value) (v18 : Value) (v19 : Value) (v20 : Value) (v21 : Value) (v22 : Value) (v23 : Value) (v24 : Value) (v25 : Value) (v26 : Value) (v27 : Value) (v28 : Value) (v29 : Value) (v30 : Value) (v31 : Value) (v32 : Value) (v33 : Value) (v34 : Value) (v35 : Value) (v36 : Value) (v37 : Value) (v38 : Value) (v39 : Value) (v40 : Value) (v41 : Value) (v42 : Value) (v43 : Value) (v44 : Value) (h2 : ¬ x1 < 0) (h3 : ¬ 7 < x1) (h4 : x1 ≤ 7) (h5 : vp_in x1 8) (h7 : ¬ x6 < 0) (h8 : ¬ 4 < x6) (h9 : x6 ≤ 4) (h11 : x10 < 0) : xMet l yM_binary0 wyM_binary0 2 0 0 40 D cT aK aV sz [.ref a0, .int x1, .int x6, .int x10, .int x12] [(a0, .inr (5, [v13, v14, v15, v16, v17, v18, v19, v20, v21, v22, v23, v24, v25, v26, v27, v28, v29, v30, v31, v32, v33, v34, v35, v36, v37, v38, v39, v40, v41, v42, v43, v44]))] (fun A => va_Qv (fun _ : Unit => True) (fun _ t => xB D xcl cT A [(a0, .inr (5, [.int 1, v14, .int 0, v16, .int 0, v18, v19, .int 0, v21, .int 0, v23, v24, .int 0, v26, v27, v28, v29, v30, v31, v32, v33, v34, .int 0, .int 1000000000, v37, v38, v39, v40, v41, v42, v43, v44]))] t) A) := by
  refine Met.ofW (cc := prog_13_method_89_code) (maxL := 5) (ret := none) (by decide) rfl ?_
  intro p e s m args below meth c s₁ B hml hv
  obtain ⟨rfl, hsz, hZ, hP, hK, hD0⟩ := hv
  have hx := B.exec
  have hb := B.bytes
  have hr := B.returns
  have hts := atoms_spec (ws := wyM_binary0) B.pre
  have htx := fun w h => hts w (List.mem_cons_of_mem _ h)
  have hown : s.vm.findClass "ValueBenchModel" = some m.cls := findClass_of_methodNamed B.named
  have hlocks := B.notSynchronized
  subst hsz
  have hD := hD0.self (sz := s.heap.size)
  generalize hAe : va_A [(a0, .inr (5, [v13, v14, v15, v16, v17, v18, v19, v20, v21, v22, v23, v24, v25, v26, v27, v28, v29, v30, v31, v32, v33, v34, v35, v36, v37, v38, v39, v40, v41, v42, v43, v44]))] s.heap.size = A at hD hZ ⊢
  have hA : ∀ q : Nat, s.heap.size ≤ q → A q := fun q h => by rw [← hAe]; exact Or.inr h
  have hS : va_S A s.heap s.heap [] := va_S.rf
  have hP : va_P D xcl [(a0, .inr (5, [v13, v14, v15, v16, v17, v18, v19, v20, v21, v22, v23, v24, v25, v26, v27, v28, v29, v30, v31, v32, v33, v34, v35, v36, v37, v38, v39, v40, v41, v42, v43, v44]))] s.heap := hP
  have hl := lv_entry ([.ref a0, .int x1, .int x6, .int x10, .int x12]) (n := 5) (Nat.le_of_ble_eq_true rfl)
  rw [lg_entry_eq]
  generalize (lg_sl ([.ref a0, .int x1, .int x6, .int x10, .int x12]) ++ List.replicate (5 - (lg_sl ([.ref a0, .int x1, .int x6, .int x10, .int x12])).length) Slot.unset).toArray = ls at hl ⊢
  have hl : lv_has ls 5 [(0, .ref a0), (1, .int x1), (2, .int x6), (3, .int x10), (4, .int x12)] := hl
  refine lv_aload_n hx hb dM_binary0_0 rfl (lv_at hl 0 rfl) ?_
  obtain ⟨hPc, hDc, hFc⟩ := xcut (wc := [(a0, .inr (5, [v13, v14, v15, v16, v17, v18, v19, v20, v21, v22, v23, v24, v25, v26, v27, v28, v29, v30, v31, v32, v33, v34, v35, v36, v37, v38, v39, v40, v41, v42, v43, v44]))]) hP hD hS hA [0] rfl rfl (by decide)
  refine va_callv (va_runV (C := "ValueBenchModel") (As := []) (rest := []) ⟨hx, hb, hml, hown, htx⟩ (cM_begin_0 l hl9 D cT aK aV s.heap.size a0 v13 v14 v15 v16 v17 v18 v19 v20 v21 v22 v23 v24 v25 v26 v27 v28 v29 v30 v31 v32 v33 v34 v35 v36 v37 v38 v39 v40 v41 v42 v43 v44) ⟨callB_of 0 htx (xw_goodC kw_5_209) rfl rfl rfl (htx _ kw_1_5) (htx _ kw_5_206) ⟨by decide, by decide, by decide +kernel⟩ ⟨Nat.le_of_ble_eq_true rfl, Nat.le_of_ble_eq_true rfl⟩, (htx _ kw_5_208), (htx _ kp_M_begin)⟩ ⟨xPre_blind, va_recv hK hP (ci := 5) rfl (q0 := 0) rfl, (fun U hU hW => ⟨rfl, xPre_of hZ hS hFc hPc hDc hK U hU hW⟩)⟩ rfl rfl hl.1 rfl (lv_room (Nat.le_of_ble_eq_true rfl)) dM_binary0_1 ⟨Nat.le_of_ble_eq_true rfl, Nat.le_of_ble_eq_true rfl⟩) hS (fun q _ h => hFc q h) hFc (fun u9 t H1 locs ht hvm hr9 hB hz1 hk1 hS => ?_)
  obtain ⟨hP1, hK1, hD1⟩ := hB
  rw [ht] at hP1
  obtain ⟨hP, hD⟩ := xjoin (W := [(a0, .inr (5, [.int 0, v14, .int 0, v16, .int 0, v18, v19, .int 0, v21, .int 0, v23, v24, .int 0, v26, v27, v28, v29, v30, v31, v32, v33, v34, .int 0, .int 1000000000, v37, v38, v39, v40, v41, v42, v43, v44]))]) hP hD [0] [] 0 rfl rfl (by decide) (by decide) hk1 hFc hP1 hD1
  generalize H1 = H at hP hS ⊢
  refine lv_aload_n hx hb dM_binary0_4 rfl (lv_at hl 0 rfl) ?_
  refine lv_iload_n hx hb dM_binary0_5 rfl (lv_at hl 1 rfl) ?_
  obtain ⟨hPc, hDc, hFc⟩ := xcut (wc := []) hP hD hS hA [] rfl rfl (by decide)
  refine va_calli (va_runV (C := "ValueBenchModel") (As := [.int x1]) (rest := []) ⟨hx, hb, hml, hown, htx⟩ (cM_out_0 l hl9 D cT aK aV H.size a0 x1 h2 h3 h4 h5) ⟨callB_of 1 htx (xw_goodC kw_5_217) rfl rfl rfl (htx _ kw_1_5) (htx _ kw_5_214) ⟨by decide, by decide, by decide +kernel⟩ ⟨Nat.le_of_ble_eq_true rfl, Nat.le_of_ble_eq_true rfl⟩, (htx _ kw_5_216), (htx _ kp_M_out)⟩ ⟨xPre_blind, va_recv hK hP (ci := 5) rfl (q0 := 0) rfl, (fun U hU hW => ⟨rfl, xPre_of hZ hS hFc hPc hDc hK U hU hW⟩)⟩ rfl rfl hl.1 rfl (lv_room (Nat.le_of_ble_eq_true rfl)) dM_binary0_6 ⟨Nat.le_of_ble_eq_true rfl, Nat.le_of_ble_eq_true rfl⟩) hS (fun q _ h => hFc q h) hFc (fun r1 u9 t H1 locs ht hvm hr9 hB hz1 hk1 hS => ?_)
  obtain ⟨hP1, hK1, hD1⟩ := hB
  rw [ht] at hP1
  obtain ⟨hP, hD⟩ := xjoin (W := [(a0, .inr (5, [.int 0, v14, .int 0, v16, .int 0, v18, v19, .int 0, v21, .int 0, v23, v24, .int 0, v26, v27, v28, v29, v30, v31, v32, v33, v34, .int 0, .int 1000000000, v37, v38, v39, v40, v41, v42, v43, v44]))]) hP hD [] [0] 1 rfl rfl (by decide) (by decide) hk1 hFc hP1 hD1
  generalize H1 = H at hP hS ⊢
  rw [hr9]
  refine W.eq (g2 := F0 m 9 ls [.int 0]) rfl ?_
  refine lv_if_ne (tgt := 38) hx hb dM_binary0_9 (by decide) (fun h => ((by revert h; decide : False)).elim) (fun _ => ?_)
  refine lv_iload_n hx hb dM_binary0_12 rfl (lv_at hl 2 rfl) ?_
  refine lv_if_lt (tgt := 38) hx hb dM_binary0_13 (by decide) (fun h => by first | exact absurd h h7 | exact absurd h h8 | exact absurd h h9 | exact absurd h7 h | exact absurd h8 h | exact absurd h9 h) (fun _ => ?_)
  refine lv_iload_n hx hb dM_binary0_16 rfl (lv_at hl 2 rfl) ?_
  refine lv_iconst (v := 4) hx hb dM_binary0_17 (by decide) ?_
  refine lv_icmp_gt (tgt := 38) hx hb dM_binary0_18 (by decide) (fun h => by first | exact absurd h h7 | exact absurd h h8 | exact absurd h h9 | exact absurd h7 h | exact absurd h8 h | exact absurd h9 h) (fun _ => ?_)
  refine lv_aload_n hx hb dM_binary0_21 rfl (lv_at hl 0 rfl) ?_
  refine lv_iload_n hx hb dM_binary0_22 rfl (lv_at hl 3 rfl) ?_
  obtain ⟨hPc, hDc, hFc⟩ := xcut (wc := []) hP hD hS hA [] rfl rfl (by decide)
  refine va_calli (va_runV (C := "ValueBenchModel") (As := [.int x10]) (rest := []) ⟨hx, hb, hml, hown, htx⟩ (cM_out_1 l hl9 D cT aK aV H.size a0 x10 h11) ⟨callB_of 1 htx (xw_goodC kw_5_217) rfl rfl rfl (htx _ kw_1_5) (htx _ kw_5_214) ⟨by decide, by decide, by decide +kernel⟩ ⟨Nat.le_of_ble_eq_true rfl, Nat.le_of_ble_eq_true rfl⟩, (htx _ kw_5_216), (htx _ kp_M_out)⟩ ⟨xPre_blind, va_recv hK hP (ci := 5) rfl (q0 := 0) rfl, (fun U hU hW => ⟨rfl, xPre_of hZ hS hFc hPc hDc hK U hU hW⟩)⟩ rfl rfl hl.1 rfl (lv_room (Nat.le_of_ble_eq_true rfl)) dM_binary0_23 ⟨Nat.le_of_ble_eq_true rfl, Nat.le_of_ble_eq_true rfl⟩) hS (fun q _ h => hFc q h) hFc (fun r2 u9 t H1 locs ht hvm hr9 hB hz1 hk1 hS => ?_)
  obtain ⟨hP1, hK1, hD1⟩ := hB
  rw [ht] at hP1
  obtain ⟨hP, hD⟩ := xjoin (W := [(a0, .inr (5, [.int 0, v14, .int 0, v16, .int 0, v18, v19, .int 0, v21, .int 0, v23, v24, .int 0, v26, v27, v28, v29, v30, v31, v32, v33, v34, .int 0, .int 1000000000, v37, v38, v39, v40, v41, v42, v43, v44]))]) hP hD [] [0] 1 rfl rfl (by decide) (by decide) hk1 hFc hP1 hD1
  generalize H1 = H at hP hS ⊢
  rw [hr9]
  refine W.eq (g2 := F0 m 26 ls [.int 1]) rfl ?_
  refine lv_if_ne (tgt := 38) hx hb dM_binary0_26 (by decide) (fun _ => ?_) (fun h => ((by revert h; decide : False)).elim)
  refine lv_aload_n hx hb dM_binary0_38 rfl (lv_at hl 0 rfl) ?_
  refine lv_iconst (v := 1) hx hb dM_binary0_39 (by decide) ?_
  refine va_put (D := D) (ci := 5) (v := .int 1) (ty := .int) (C := "ValueBenchModel") (T := TM) (N := 32) hx hb htx inM tyM tyM_ok nmM hown hK hP hD hS 0 rfl rfl 0 (by decide) (htx _ kw_5_87) (fun _ h9 => h9) rfl (by decide +kernel) rfl rfl (Nat.le_of_ble_eq_true rfl) dM_binary0_40 (fun H locs hP hD hS => ?_)
  obtain ⟨hP, hD⟩ : xPD D xcl A [(a0, .inr (5, [.int 1, v14, .int 0, v16, .int 0, v18, v19, .int 0, v21, .int 0, v23, v24, .int 0, v26, v27, v28, v29, v30, v31, v32, v33, v34, .int 0, .int 1000000000, v37, v38, v39, v40, v41, v42, v43, v44]))] H := ⟨hP, hD⟩
  refine lv_goto (tgt := 56) hx hb dM_binary0_43 (by decide) ?_
  obtain ⟨hP9, hD9⟩ := xsub (wc := [(a0, .inr (5, [.int 1, v14, .int 0, v16, .int 0, v18, v19, .int 0, v21, .int 0, v23, v24, .int 0, v26, v27, v28, v29, v30, v31, v32, v33, v34, .int 0, .int 1000000000, v37, v38, v39, v40, v41, v42, v43, v44]))]) hP hD [0] rfl rfl (by decide)
  refine W.widen (k := 0) (n := 0) (Nat.le_of_ble_eq_true rfl) (Nat.le_of_ble_eq_true rfl) ?_
  exact W.vret hx hb hr (fun t ht hW => ⟨⟨(), rfl, trivial, by rw [ht]; exact hP9, va_K.moved hW.alike hK, hD9⟩, hS.F ht⟩) hS.2.2 dM_binary0_56
set_option maxHeartbeats 400000000 in
set_option maxRecDepth 100000 in
theorem cM_binary0_18 (l : Launch) (hl9 : l.stackTraces = false) (D : va_G) (cT : Nat → ClassId) (aK aV : Nat → Nat) (sz : Nat) (a0 : Nat) (x1 : Int32) (x6 : Int32) (x10 : Int32) (x15 : Int32) (v17 : Value) (v18 : Value) (v19 : Value) (v20 : Value) (v21 : Value) (v22 : Value) (v23 : Value) (v24 : Value) (v25 : Value) (v26 : Value) (v27 : Value) (v28 : Value) (v29 : Value) (v30 : Value) (v31 : Value) (v32 : Value) (v33 : Value) (v34 : Value) (v35 : Value) (v36 : Value) (v37 : Value) (v38 : Value) (v39 : Value) (v40 : Value) (v41 : Value) (v42 : Value) (v43 : Value) (v44 : Value) (v45 : Value) (v46 : Value) (v47 : Value) (v48 : Value) (h2 : ¬ x1 < 0) (h3 : ¬ 7 < x1) (h4 : x1 ≤ 7) (h5 : vp_in x1 8) (h7 : ¬ x6 < 0) (h8 : ¬ 4 < x6) (h9 : x6 ≤ 4) (h11 : ¬ x10 < 0) (h12 : ¬ 7 < x10) (h13 : x10 ≤ 7) (h14 : vp_in x10 8) (h16 : x15 < 0) : xMet l yM_binary0 wyM_binary0 2 0 0 40 D cT aK aV sz [.ref a0, .int x1, .int x6, .int x10, .int x15] [(a0, .inr (5, [v17, v18, v19, v20, v21, v22, v23, v24, v25, v26, v27, v28, v29, v30, v31, v32, v33, v34, v35, v36, v37, v38, v39, v40, v41, v42, v43, v44, v45, v46, v47, v48]))] (fun A => va_Qv (fun _ : Unit => True) (fun _ t => xB D xcl cT A [(a0, .inr (5, [.int 1, v18, .int 0, v20, .int 0, v22, v23, .int 0, v25, .int 0, v27, v28, .int 0, v30, v31, v32, v33, v34, v35, v36, v37, v38, .int 0, .int 1000000000, v41, v42, v43, v44, v45, v46, v47, v48]))] t) A) := by
  refine Met.ofW (cc := prog_13_method_89_code) (maxL := 5) (ret := none) (by decide) rfl ?_
  intro p e s m args below meth c s₁ B hml hv
  obtain ⟨rfl, hsz, hZ, hP, hK, hD0⟩ := hv
  have hx := B.exec
  have hb := B.bytes
  have hr := B.returns
  have hts := atoms_spec (ws := wyM_binary0) B.pre
  have htx := fun w h => hts w (List.mem_cons_of_mem _ h)
  have hown : s.vm.findClass "ValueBenchModel" = some m.cls := findClass_of_methodNamed B.named
  have hlocks := B.notSynchronized
  subst hsz
  have hD := hD0.self (sz := s.heap.size)
  generalize hAe : va_A [(a0, .inr (5, [v17, v18, v19, v20, v21, v22, v23, v24, v25, v26, v27, v28, v29, v30, v31, v32, v33, v34, v35, v36, v37, v38, v39, v40, v41, v42, v43, v44, v45, v46, v47, v48]))] s.heap.size = A at hD hZ ⊢
  have hA : ∀ q : Nat, s.heap.size ≤ q → A q := fun q h => by rw [← hAe]; exact Or.inr h
  have hS : va_S A s.heap s.heap [] := va_S.rf
  have hP : va_P D xcl [(a0, .inr (5, [v17, v18, v19, v20, v21, v22, v23, v24, v25, v26, v27, v28, v29, v30, v31, v32, v33, v34, v35, v36, v37, v38, v39, v40, v41, v42, v43, v44, v45, v46, v47, v48]))] s.heap := hP
  have hl := lv_entry ([.ref a0, .int x1, .int x6, .int x10, .int x15]) (n := 5) (Nat.le_of_ble_eq_true rfl)
  rw [lg_entry_eq]
  generalize (lg_sl ([.ref a0, .int x1, .int x6, .int x10, .int x15]) ++ List.replicate (5 - (lg_sl ([.ref a0, .int x1, .int x6, .int x10, .int x15])).length) Slot.unset).toArray = ls at hl ⊢
  have hl : lv_has ls 5 [(0, .ref a0), (1, .int x1), (2, .int x6), (3, .int x10), (4, .int x15)] := hl
  refine lv_aload_n hx hb dM_binary0_0 rfl (lv_at hl 0 rfl) ?_
  obtain ⟨hPc, hDc, hFc⟩ := xcut (wc := [(a0, .inr (5, [v17, v18, v19, v20, v21, v22, v23, v24, v25, v26, v27, v28, v29, v30, v31, v32, v33, v34, v35, v36, v37, v38, v39, v40, v41, v42, v43, v44, v45, v46, v47, v48]))]) hP hD hS hA [0] rfl rfl (by decide)
  refine va_callv (va_runV (C := "ValueBenchModel") (As := []) (rest := []) ⟨hx, hb, hml, hown, htx⟩ (cM_begin_0 l hl9 D cT aK aV s.heap.size a0 v17 v18 v19 v20 v21 v22 v23 v24 v25 v26 v27 v28 v29 v30 v31 v32 v33 v34 v35 v36 v37 v38 v39 v40 v41 v42 v43 v44 v45 v46 v47 v48) ⟨callB_of 0 htx (xw_goodC kw_5_209) rfl rfl rfl (htx _ kw_1_5) (htx _ kw_5_206) ⟨by decide, by decide, by decide +kernel⟩ ⟨Nat.le_of_ble_eq_true rfl, Nat.le_of_ble_eq_true rfl⟩, (htx _ kw_5_208), (htx _ kp_M_begin)⟩ ⟨xPre_blind, va_recv hK hP (ci := 5) rfl (q0 := 0) rfl, (fun U hU hW => ⟨rfl, xPre_of hZ hS hFc hPc hDc hK U hU hW⟩)⟩ rfl rfl hl.1 rfl (lv_room (Nat.le_of_ble_eq_true rfl)) dM_binary0_1 ⟨Nat.le_of_ble_eq_true rfl, Nat.le_of_ble_eq_true rfl⟩) hS (fun q _ h => hFc q h) hFc (fun u9 t H1 locs ht hvm hr9 hB hz1 hk1 hS => ?_)
  obtain ⟨hP1, hK1, hD1⟩ := hB
  rw [ht] at hP1
  obtain ⟨hP, hD⟩ := xjoin (W := [(a0, .inr (5, [.int 0, v18, .int 0, v20, .int 0, v22, v23, .int 0, v25, .int 0, v27, v28, .int 0, v30, v31, v32, v33, v34, v35, v36, v37, v38, .int 0, .int 1000000000, v41, v42, v43, v44, v45, v46, v47, v48]))]) hP hD [0] [] 0 rfl rfl (by decide) (by decide) hk1 hFc hP1 hD1
  generalize H1 = H at hP hS ⊢
  refine lv_aload_n hx hb dM_binary0_4 rfl (lv_at hl 0 rfl) ?_
  refine lv_iload_n hx hb dM_binary0_5 rfl (lv_at hl 1 rfl) ?_
  obtain ⟨hPc, hDc, hFc⟩ := xcut (wc := []) hP hD hS hA [] rfl rfl (by decide)
  refine va_calli (va_runV (C := "ValueBenchModel") (As := [.int x1]) (rest := []) ⟨hx, hb, hml, hown, htx⟩ (cM_out_0 l hl9 D cT aK aV H.size a0 x1 h2 h3 h4 h5) ⟨callB_of 1 htx (xw_goodC kw_5_217) rfl rfl rfl (htx _ kw_1_5) (htx _ kw_5_214) ⟨by decide, by decide, by decide +kernel⟩ ⟨Nat.le_of_ble_eq_true rfl, Nat.le_of_ble_eq_true rfl⟩, (htx _ kw_5_216), (htx _ kp_M_out)⟩ ⟨xPre_blind, va_recv hK hP (ci := 5) rfl (q0 := 0) rfl, (fun U hU hW => ⟨rfl, xPre_of hZ hS hFc hPc hDc hK U hU hW⟩)⟩ rfl rfl hl.1 rfl (lv_room (Nat.le_of_ble_eq_true rfl)) dM_binary0_6 ⟨Nat.le_of_ble_eq_true rfl, Nat.le_of_ble_eq_true rfl⟩) hS (fun q _ h => hFc q h) hFc (fun r1 u9 t H1 locs ht hvm hr9 hB hz1 hk1 hS => ?_)
  obtain ⟨hP1, hK1, hD1⟩ := hB
  rw [ht] at hP1
  obtain ⟨hP, hD⟩ := xjoin (W := [(a0, .inr (5, [.int 0, v18, .int 0, v20, .int 0, v22, v23, .int 0, v25, .int 0, v27, v28, .int 0, v30, v31, v32, v33, v34, v35, v36, v37, v38, .int 0, .int 1000000000, v41, v42, v43, v44, v45, v46, v47, v48]))]) hP hD [] [0] 1 rfl rfl (by decide) (by decide) hk1 hFc hP1 hD1
  generalize H1 = H at hP hS ⊢
  rw [hr9]
  refine W.eq (g2 := F0 m 9 ls [.int 0]) rfl ?_
  refine lv_if_ne (tgt := 38) hx hb dM_binary0_9 (by decide) (fun h => ((by revert h; decide : False)).elim) (fun _ => ?_)
  refine lv_iload_n hx hb dM_binary0_12 rfl (lv_at hl 2 rfl) ?_
  refine lv_if_lt (tgt := 38) hx hb dM_binary0_13 (by decide) (fun h => by first | exact absurd h h7 | exact absurd h h8 | exact absurd h h9 | exact absurd h7 h | exact absurd h8 h | exact absurd h9 h) (fun _ => ?_)
  refine lv_iload_n hx hb dM_binary0_16 rfl (lv_at hl 2 rfl) ?_
  refine lv_iconst (v := 4) hx hb dM_binary0_17 (by decide) ?_
  refine lv_icmp_gt (tgt := 38) hx hb dM_binary0_18 (by decide) (fun h => by first | exact absurd h h7 | exact absurd h h8 | exact absurd h h9 | exact absurd h7 h | exact absurd h8 h | exact absurd h9 h) (fun _ => ?_)
  refine lv_aload_n hx hb dM_binary0_21 rfl (lv_at hl 0 rfl) ?_
  refine lv_iload_n hx hb dM_binary0_22 rfl (lv_at hl 3 rfl) ?_
  obtain ⟨hPc, hDc, hFc⟩ := xcut (wc := []) hP hD hS hA [] rfl rfl (by decide)
  refine va_calli (va_runV (C := "ValueBenchModel") (As := [.int x10]) (rest := []) ⟨hx, hb, hml, hown, htx⟩ (cM_out_0 l hl9 D cT aK aV H.size a0 x10 h11 h12 h13 h14) ⟨callB_of 1 htx (xw_goodC kw_5_217) rfl rfl rfl (htx _ kw_1_5) (htx _ kw_5_214) ⟨by decide, by decide, by decide +kernel⟩ ⟨Nat.le_of_ble_eq_true rfl, Nat.le_of_ble_eq_true rfl⟩, (htx _ kw_5_216), (htx _ kp_M_out)⟩ ⟨xPre_blind, va_recv hK hP (ci := 5) rfl (q0 := 0) rfl, (fun U hU hW => ⟨rfl, xPre_of hZ hS hFc hPc hDc hK U hU hW⟩)⟩ rfl rfl hl.1 rfl (lv_room (Nat.le_of_ble_eq_true rfl)) dM_binary0_23 ⟨Nat.le_of_ble_eq_true rfl, Nat.le_of_ble_eq_true rfl⟩) hS (fun q _ h => hFc q h) hFc (fun r2 u9 t H1 locs ht hvm hr9 hB hz1 hk1 hS => ?_)
  obtain ⟨hP1, hK1, hD1⟩ := hB
  rw [ht] at hP1
  obtain ⟨hP, hD⟩ := xjoin (W := [(a0, .inr (5, [.int 0, v18, .int 0, v20, .int 0, v22, v23, .int 0, v25, .int 0, v27, v28, .int 0, v30, v31, v32, v33, v34, v35, v36, v37, v38, .int 0, .int 1000000000, v41, v42, v43, v44, v45, v46, v47, v48]))]) hP hD [] [0] 1 rfl rfl (by decide) (by decide) hk1 hFc hP1 hD1
  generalize H1 = H at hP hS ⊢
  rw [hr9]
  refine W.eq (g2 := F0 m 26 ls [.int 0]) rfl ?_
  refine lv_if_ne (tgt := 38) hx hb dM_binary0_26 (by decide) (fun h => ((by revert h; decide : False)).elim) (fun _ => ?_)
  refine lv_aload_n hx hb dM_binary0_29 rfl (lv_at hl 0 rfl) ?_
  refine lv_iload hx hb dM_binary0_30 (lv_at hl 4 rfl) ?_
  obtain ⟨hPc, hDc, hFc⟩ := xcut (wc := []) hP hD hS hA [] rfl rfl (by decide)
  refine va_calli (va_runV (C := "ValueBenchModel") (As := [.int x15]) (rest := []) ⟨hx, hb, hml, hown, htx⟩ (cM_out_1 l hl9 D cT aK aV H.size a0 x15 h16) ⟨callB_of 1 htx (xw_goodC kw_5_217) rfl rfl rfl (htx _ kw_1_5) (htx _ kw_5_214) ⟨by decide, by decide, by decide +kernel⟩ ⟨Nat.le_of_ble_eq_true rfl, Nat.le_of_ble_eq_true rfl⟩, (htx _ kw_5_216), (htx _ kp_M_out)⟩ ⟨xPre_blind, va_recv hK hP (ci := 5) rfl (q0 := 0) rfl, (fun U hU hW => ⟨rfl, xPre_of hZ hS hFc hPc hDc hK U hU hW⟩)⟩ rfl rfl hl.1 rfl (lv_room (Nat.le_of_ble_eq_true rfl)) dM_binary0_32 ⟨Nat.le_of_ble_eq_true rfl, Nat.le_of_ble_eq_true rfl⟩) hS (fun q _ h => hFc q h) hFc (fun r3 u9 t H1 locs ht hvm hr9 hB hz1 hk1 hS => ?_)
  obtain ⟨hP1, hK1, hD1⟩ := hB
  rw [ht] at hP1
  obtain ⟨hP, hD⟩ := xjoin (W := [(a0, .inr (5, [.int 0, v18, .int 0, v20, .int 0, v22, v23, .int 0, v25, .int 0, v27, v28, .int 0, v30, v31, v32, v33, v34, v35, v36, v37, v38, .int 0, .int 1000000000, v41, v42, v43, v44, v45, v46, v47, v48]))]) hP hD [] [0] 1 rfl rfl (by decide) (by decide) hk1 hFc hP1 hD1
  generalize H1 = H at hP hS ⊢
  rw [hr9]
  refine W.eq (g2 := F0 m 35 ls [.int 1]) rfl ?_
  refine lv_if_eq (tgt := 46) hx hb dM_binary0_35 (by decide) (fun h => ((by revert h; decide : False)).elim) (fun _ => ?_)
  refine lv_aload_n hx hb dM_binary0_38 rfl (lv_at hl 0 rfl) ?_
  refine lv_iconst (v := 1) hx hb dM_binary0_39 (by decide) ?_
  refine va_put (D := D) (ci := 5) (v := .int 1) (ty := .int) (C := "ValueBenchModel") (T := TM) (N := 32) hx hb htx inM tyM tyM_ok nmM hown hK hP hD hS 0 rfl rfl 0 (by decide) (htx _ kw_5_87) (fun _ h9 => h9) rfl (by decide +kernel) rfl rfl (Nat.le_of_ble_eq_true rfl) dM_binary0_40 (fun H locs hP hD hS => ?_)
  obtain ⟨hP, hD⟩ : xPD D xcl A [(a0, .inr (5, [.int 1, v18, .int 0, v20, .int 0, v22, v23, .int 0, v25, .int 0, v27, v28, .int 0, v30, v31, v32, v33, v34, v35, v36, v37, v38, .int 0, .int 1000000000, v41, v42, v43, v44, v45, v46, v47, v48]))] H := ⟨hP, hD⟩
  refine lv_goto (tgt := 56) hx hb dM_binary0_43 (by decide) ?_
  obtain ⟨hP9, hD9⟩ := xsub (wc := [(a0, .inr (5, [.int 1, v18, .int 0, v20, .int 0, v22, v23, .int 0, v25, .int 0, v27, v28, .int 0, v30, v31, v32, v33, v34, v35, v36, v37, v38, .int 0, .int 1000000000, v41, v42, v43, v44, v45, v46, v47, v48]))]) hP hD [0] rfl rfl (by decide)
  refine W.widen (k := 0) (n := 0) (Nat.le_of_ble_eq_true rfl) (Nat.le_of_ble_eq_true rfl) ?_
  exact W.vret hx hb hr (fun t ht hW => ⟨⟨(), rfl, trivial, by rw [ht]; exact hP9, va_K.moved hW.alike hK, hD9⟩, hS.F ht⟩) hS.2.2 dM_binary0_56
set_option maxHeartbeats 400000000 in
set_option maxRecDepth 100000 in
theorem cM_two0_39 (l : Launch) (hl9 : l.stackTraces = false) (D : va_G) (cT : Nat → ClassId) (aK aV : Nat → Nat) (sz : Nat) (a0 : Nat) (x1 : Int32) (x6 : Int32) (x10 : Int32) (x12 : Int32) (v13 : Value) (v14 : Value) (v15 : Value) (v16 : Value) (v17 : Value) (v18 : Value) (v19 : Value) (v20 : Value) (v21 : Value) (v22 : Value) (v23 : Value) (v24 : Value) (v25 : Value) (v26 : Value) (v27 : Value) (v28 : Value) (v29 : Value) (v30 : Value) (v31 : Value) (v32 : Value) (v33 : Value) (v34 : Value) (v35 : Value) (v36 : Value) (v37 : Value) (v38 : Value) (v39 : Value) (v40 : Value) (v41 : Value) (v42 : Value) (v43 : Value) (v44 : Value) (h2 : ¬ x1 < 0) (h3 : ¬ 7 < x1) (h4 : x1 ≤ 7) (h5 : vp_in x1 8) (h7 : ¬ x6 < 0) (h8 : ¬ 9 < x6) (h9 : x6 ≤ 9) (h11 : x10 < 0) : xMet l yM_two0 wyM_two0 2 0 0 40 D cT aK aV sz [.ref a0, .int x1, .int x6, .int x10, .int x12] [(a0, .inr (5, [v13, v14, v15, v16, v17, v18, v19, v20, v21, v22, v23, v24, v25, v26, v27, v28, v29, v30, v31, v32, v33, v34, v35, v36, v37, v38, v39, v40, v41, v42, v43, v44]))] (fun A => va_Qv (fun _ : Unit => True) (fun _ t => xB D xcl cT A [(a0, .inr (5, [.int 1, v14, .int 0, v16, .int 0, v18, v19, .int 0, v21, .int 0, v23, v24, .int 0, v26, v27, v28, v29, v30, v31, v32, v33, v34, .int 0, .int 1000000000, v37, v38, v39, v40, v41, v42, v43, v44]))] t) A) := by
  refine Met.ofW (cc := prog_13_method_93_code) (maxL := 5) (ret := none) (by decide) rfl ?_
  intro p e s m args below meth c s₁ B hml hv
  obtain ⟨rfl, hsz, hZ, hP, hK, hD0⟩ := hv
  have hx := B.exec
  have hb := B.bytes
  have hr := B.returns
  have hts := atoms_spec (ws := wyM_two0) B.pre
  have htx := fun w h => hts w (List.mem_cons_of_mem _ h)
  have hown : s.vm.findClass "ValueBenchModel" = some m.cls := findClass_of_methodNamed B.named
  have hlocks := B.notSynchronized
  subst hsz
  have hD := hD0.self (sz := s.heap.size)
  generalize hAe : va_A [(a0, .inr (5, [v13, v14, v15, v16, v17, v18, v19, v20, v21, v22, v23, v24, v25, v26, v27, v28, v29, v30, v31, v32, v33, v34, v35, v36, v37, v38, v39, v40, v41, v42, v43, v44]))] s.heap.size = A at hD hZ ⊢
  have hA : ∀ q : Nat, s.heap.size ≤ q → A q := fun q h => by rw [← hAe]; exact Or.inr h
  have hS : va_S A s.heap s.heap [] := va_S.rf
  have hP : va_P D xcl [(a0, .inr (5, [v13, v14, v15, v16, v17, v18, v19, v20, v21, v22, v23, v24, v25, v26, v27, v28, v29, v30, v31, v32, v33, v34, v35, v36, v37, v38, v39, v40, v41, v42, v43, v44]))] s.heap := hP
  have hl := lv_entry ([.ref a0, .int x1, .int x6, .int x10, .int x12]) (n := 5) (Nat.le_of_ble_eq_true rfl)
  rw [lg_entry_eq]
  generalize (lg_sl ([.ref a0, .int x1, .int x6, .int x10, .int x12]) ++ List.replicate (5 - (lg_sl ([.ref a0, .int x1, .int x6, .int x10, .int x12])).length) Slot.unset).toArray = ls at hl ⊢
  have hl : lv_has ls 5 [(0, .ref a0), (1, .int x1), (2, .int x6), (3, .int x10), (4, .int x12)] := hl
  refine lv_aload_n hx hb dM_two0_0 rfl (lv_at hl 0 rfl) ?_
  obtain ⟨hPc, hDc, hFc⟩ := xcut (wc := [(a0, .inr (5, [v13, v14, v15, v16, v17, v18, v19, v20, v21, v22, v23, v24, v25, v26, v27, v28, v29, v30, v31, v32, v33, v34, v35, v36, v37, v38, v39, v40, v41, v42, v43, v44]))]) hP hD hS hA [0] rfl rfl (by decide)
  refine va_callv (va_runV (C := "ValueBenchModel") (As := []) (rest := []) ⟨hx, hb, hml, hown, htx⟩ (cM_begin_0 l hl9 D cT aK aV s.heap.size a0 v13 v14 v15 v16 v17 v18 v19 v20 v21 v22 v23 v24 v25 v26 v27 v28 v29 v30 v31 v32 v33 v34 v35 v36 v37 v38 v39 v40 v41 v42 v43 v44) ⟨callB_of 0 htx (xw_goodC kw_5_209) rfl rfl rfl (htx _ kw_1_5) (htx _ kw_5_206) ⟨by decide, by decide, by decide +kernel⟩ ⟨Nat.le_of_ble_eq_true rfl, Nat.le_of_ble_eq_true rfl⟩, (htx _ kw_5_208), (htx _ kp_M_begin)⟩ ⟨xPre_blind, va_recv hK hP (ci := 5) rfl (q0 := 0) rfl, (fun U hU hW => ⟨rfl, xPre_of hZ hS hFc hPc hDc hK U hU hW⟩)⟩ rfl rfl hl.1 rfl (lv_room (Nat.le_of_ble_eq_true rfl)) dM_two0_1 ⟨Nat.le_of_ble_eq_true rfl, Nat.le_of_ble_eq_true rfl⟩) hS (fun q _ h => hFc q h) hFc (fun u9 t H1 locs ht hvm hr9 hB hz1 hk1 hS => ?_)
  obtain ⟨hP1, hK1, hD1⟩ := hB
  rw [ht] at hP1
  obtain ⟨hP, hD⟩ := xjoin (W := [(a0, .inr (5, [.int 0, v14, .int 0, v16, .int 0, v18, v19, .int 0, v21, .int 0, v23, v24, .int 0, v26, v27, v28, v29, v30, v31, v32, v33, v34, .int 0, .int 1000000000, v37, v38, v39, v40, v41, v42, v43, v44]))]) hP hD [0] [] 0 rfl rfl (by decide) (by decide) hk1 hFc hP1 hD1
  generalize H1 = H at hP hS ⊢
  refine lv_aload_n hx hb dM_two0_4 rfl (lv_at hl 0 rfl) ?_
  refine lv_iload_n hx hb dM_two0_5 rfl (lv_at hl 1 rfl) ?_
  obtain ⟨hPc, hDc, hFc⟩ := xcut (wc := []) hP hD hS hA [] rfl rfl (by decide)
  refine va_calli (va_runV (C := "ValueBenchModel") (As := [.int x1]) (rest := []) ⟨hx, hb, hml, hown, htx⟩ (cM_out_0 l hl9 D cT aK aV H.size a0 x1 h2 h3 h4 h5) ⟨callB_of 1 htx (xw_goodC kw_5_217) rfl rfl rfl (htx _ kw_1_5) (htx _ kw_5_214) ⟨by decide, by decide, by decide +kernel⟩ ⟨Nat.le_of_ble_eq_true rfl, Nat.le_of_ble_eq_true rfl⟩, (htx _ kw_5_216), (htx _ kp_M_out)⟩ ⟨xPre_blind, va_recv hK hP (ci := 5) rfl (q0 := 0) rfl, (fun U hU hW => ⟨rfl, xPre_of hZ hS hFc hPc hDc hK U hU hW⟩)⟩ rfl rfl hl.1 rfl (lv_room (Nat.le_of_ble_eq_true rfl)) dM_two0_6 ⟨Nat.le_of_ble_eq_true rfl, Nat.le_of_ble_eq_true rfl⟩) hS (fun q _ h => hFc q h) hFc (fun r1 u9 t H1 locs ht hvm hr9 hB hz1 hk1 hS => ?_)
  obtain ⟨hP1, hK1, hD1⟩ := hB
  rw [ht] at hP1
  obtain ⟨hP, hD⟩ := xjoin (W := [(a0, .inr (5, [.int 0, v14, .int 0, v16, .int 0, v18, v19, .int 0, v21, .int 0, v23, v24, .int 0, v26, v27, v28, v29, v30, v31, v32, v33, v34, .int 0, .int 1000000000, v37, v38, v39, v40, v41, v42, v43, v44]))]) hP hD [] [0] 1 rfl rfl (by decide) (by decide) hk1 hFc hP1 hD1
  generalize H1 = H at hP hS ⊢
  rw [hr9]
  refine W.eq (g2 := F0 m 9 ls [.int 0]) rfl ?_
  refine lv_if_ne (tgt := 39) hx hb dM_two0_9 (by decide) (fun h => ((by revert h; decide : False)).elim) (fun _ => ?_)
  refine lv_iload_n hx hb dM_two0_12 rfl (lv_at hl 2 rfl) ?_
  refine lv_if_lt (tgt := 39) hx hb dM_two0_13 (by decide) (fun h => by first | exact absurd h h7 | exact absurd h h8 | exact absurd h h9 | exact absurd h7 h | exact absurd h8 h | exact absurd h9 h) (fun _ => ?_)
  refine lv_iload_n hx hb dM_two0_16 rfl (lv_at hl 2 rfl) ?_
  refine lv_bipush (v := 9) hx hb dM_two0_17 (by decide) ?_
  refine lv_icmp_gt (tgt := 39) hx hb dM_two0_19 (by decide) (fun h => by first | exact absurd h h7 | exact absurd h h8 | exact absurd h h9 | exact absurd h7 h | exact absurd h8 h | exact absurd h9 h) (fun _ => ?_)
  refine lv_aload_n hx hb dM_two0_22 rfl (lv_at hl 0 rfl) ?_
  refine lv_iload_n hx hb dM_two0_23 rfl (lv_at hl 3 rfl) ?_
  obtain ⟨hPc, hDc, hFc⟩ := xcut (wc := []) hP hD hS hA [] rfl rfl (by decide)
  refine va_calli (va_runV (C := "ValueBenchModel") (As := [.int x10]) (rest := []) ⟨hx, hb, hml, hown, htx⟩ (cM_out_1 l hl9 D cT aK aV H.size a0 x10 h11) ⟨callB_of 1 htx (xw_goodC kw_5_217) rfl rfl rfl (htx _ kw_1_5) (htx _ kw_5_214) ⟨by decide, by decide, by decide +kernel⟩ ⟨Nat.le_of_ble_eq_true rfl, Nat.le_of_ble_eq_true rfl⟩, (htx _ kw_5_216), (htx _ kp_M_out)⟩ ⟨xPre_blind, va_recv hK hP (ci := 5) rfl (q0 := 0) rfl, (fun U hU hW => ⟨rfl, xPre_of hZ hS hFc hPc hDc hK U hU hW⟩)⟩ rfl rfl hl.1 rfl (lv_room (Nat.le_of_ble_eq_true rfl)) dM_two0_24 ⟨Nat.le_of_ble_eq_true rfl, Nat.le_of_ble_eq_true rfl⟩) hS (fun q _ h => hFc q h) hFc (fun r2 u9 t H1 locs ht hvm hr9 hB hz1 hk1 hS => ?_)
  obtain ⟨hP1, hK1, hD1⟩ := hB
  rw [ht] at hP1
  obtain ⟨hP, hD⟩ := xjoin (W := [(a0, .inr (5, [.int 0, v14, .int 0, v16, .int 0, v18, v19, .int 0, v21, .int 0, v23, v24, .int 0, v26, v27, v28, v29, v30, v31, v32, v33, v34, .int 0, .int 1000000000, v37, v38, v39, v40, v41, v42, v43, v44]))]) hP hD [] [0] 1 rfl rfl (by decide) (by decide) hk1 hFc hP1 hD1
  generalize H1 = H at hP hS ⊢
  rw [hr9]
  refine W.eq (g2 := F0 m 27 ls [.int 1]) rfl ?_
  refine lv_if_ne (tgt := 39) hx hb dM_two0_27 (by decide) (fun _ => ?_) (fun h => ((by revert h; decide : False)).elim)
  refine lv_aload_n hx hb dM_two0_39 rfl (lv_at hl 0 rfl) ?_
  refine lv_iconst (v := 1) hx hb dM_two0_40 (by decide) ?_
  refine va_put (D := D) (ci := 5) (v := .int 1) (ty := .int) (C := "ValueBenchModel") (T := TM) (N := 32) hx hb htx inM tyM tyM_ok nmM hown hK hP hD hS 0 rfl rfl 0 (by decide) (htx _ kw_5_87) (fun _ h9 => h9) rfl (by decide +kernel) rfl rfl (Nat.le_of_ble_eq_true rfl) dM_two0_41 (fun H locs hP hD hS => ?_)
  obtain ⟨hP, hD⟩ : xPD D xcl A [(a0, .inr (5, [.int 1, v14, .int 0, v16, .int 0, v18, v19, .int 0, v21, .int 0, v23, v24, .int 0, v26, v27, v28, v29, v30, v31, v32, v33, v34, .int 0, .int 1000000000, v37, v38, v39, v40, v41, v42, v43, v44]))] H := ⟨hP, hD⟩
  refine lv_goto (tgt := 57) hx hb dM_two0_44 (by decide) ?_
  obtain ⟨hP9, hD9⟩ := xsub (wc := [(a0, .inr (5, [.int 1, v14, .int 0, v16, .int 0, v18, v19, .int 0, v21, .int 0, v23, v24, .int 0, v26, v27, v28, v29, v30, v31, v32, v33, v34, .int 0, .int 1000000000, v37, v38, v39, v40, v41, v42, v43, v44]))]) hP hD [0] rfl rfl (by decide)
  refine W.widen (k := 0) (n := 0) (Nat.le_of_ble_eq_true rfl) (Nat.le_of_ble_eq_true rfl) ?_
  exact W.vret hx hb hr (fun t ht hW => ⟨⟨(), rfl, trivial, by rw [ht]; exact hP9, va_K.moved hW.alike hK, hD9⟩, hS.F ht⟩) hS.2.2 dM_two0_57
set_option maxHeartbeats 400000000 in
set_option maxRecDepth 100000 in
theorem cM_two0_40 (l : Launch) (hl9 : l.stackTraces = false) (D : va_G) (cT : Nat → ClassId) (aK aV : Nat → Nat) (sz : Nat) (a0 : Nat) (x1 : Int32) (x6 : Int32) (x10 : Int32) (x15 : Int32) (v17 : Value) (v18 : Value) (v19 : Value) (v20 : Value) (v21 : Value) (v22 : Value) (v23 : Value) (v24 : Value) (v25 : Value) (v26 : Value) (v27 : Value) (v28 : Value) (v29 : Value) (v30 : Value) (v31 : Value) (v32 : Value) (v33 : Value) (v34 : Value) (v35 : Value) (v36 : Value) (v37 : Value) (v38 : Value) (v39 : Value) (v40 : Value) (v41 : Value) (v42 : Value) (v43 : Value) (v44 : Value) (v45 : Value) (v46 : Value) (v47 : Value) (v48 : Value) (h2 : ¬ x1 < 0) (h3 : ¬ 7 < x1) (h4 : x1 ≤ 7) (h5 : vp_in x1 8) (h7 : ¬ x6 < 0) (h8 : ¬ 9 < x6) (h9 : x6 ≤ 9) (h11 : ¬ x10 < 0) (h12 : ¬ 7 < x10) (h13 : x10 ≤ 7) (h14 : vp_in x10 8) (h16 : x15 < 0) : xMet l yM_two0 wyM_two0 2 0 0 40 D cT aK aV sz [.ref a0, .int x1, .int x6, .int x10, .int x15] [(a0, .inr (5, [v17, v18, v19, v20, v21, v22, v23, v24, v25, v26, v27, v28, v29, v30, v31, v32, v33, v34, v35, v36, v37, v38, v39, v40, v41, v42, v43, v44, v45, v46, v47, v48]))] (fun A => va_Qv (fun _ : Unit => True) (fun _ t => xB D xcl cT A [(a0, .inr (5, [.int 1, v18, .int 0, v20, .int 0, v22, v23, .int 0, v25, .int 0, v27, v28, .int 0, v30, v31, v32, v33, v34, v35, v36, v37, v38, .int 0, .int 1000000000, v41, v42, v43, v44, v45, v46, v47, v48]))] t) A) := by
  refine Met.ofW (cc := prog_13_method_93_code) (maxL := 5) (ret := none) (by decide) rfl ?_
  intro p e s m args below meth c s₁ B hml hv
  obtain ⟨rfl, hsz, hZ, hP, hK, hD0⟩ := hv
  have hx := B.exec
  have hb := B.bytes
  have hr := B.returns
  have hts := atoms_spec (ws := wyM_two0) B.pre
  have htx := fun w h => hts w (List.mem_cons_of_mem _ h)
  have hown : s.vm.findClass "ValueBenchModel" = some m.cls := findClass_of_methodNamed B.named
  have hlocks := B.notSynchronized
  subst hsz
  have hD := hD0.self (sz := s.heap.size)
  generalize hAe : va_A [(a0, .inr (5, [v17, v18, v19, v20, v21, v22, v23, v24, v25, v26, v27, v28, v29, v30, v31, v32, v33, v34, v35, v36, v37, v38, v39, v40, v41, v42, v43, v44, v45, v46, v47, v48]))] s.heap.size = A at hD hZ ⊢
  have hA : ∀ q : Nat, s.heap.size ≤ q → A q := fun q h => by rw [← hAe]; exact Or.inr h
  have hS : va_S A s.heap s.heap [] := va_S.rf
  have hP : va_P D xcl [(a0, .inr (5, [v17, v18, v19, v20, v21, v22, v23, v24, v25, v26, v27, v28, v29, v30, v31, v32, v33, v34, v35, v36, v37, v38, v39, v40, v41, v42, v43, v44, v45, v46, v47, v48]))] s.heap := hP
  have hl := lv_entry ([.ref a0, .int x1, .int x6, .int x10, .int x15]) (n := 5) (Nat.le_of_ble_eq_true rfl)
  rw [lg_entry_eq]
  generalize (lg_sl ([.ref a0, .int x1, .int x6, .int x10, .int x15]) ++ List.replicate (5 - (lg_sl ([.ref a0, .int x1, .int x6, .int x10, .int x15])).length) Slot.unset).toArray = ls at hl ⊢
  have hl : lv_has ls 5 [(0, .ref a0), (1, .int x1), (2, .int x6), (3, .int x10), (4, .int x15)] := hl
  refine lv_aload_n hx hb dM_two0_0 rfl (lv_at hl 0 rfl) ?_
  obtain ⟨hPc, hDc, hFc⟩ := xcut (wc := [(a0, .inr (5, [v17, v18, v19, v20, v21, v22, v23, v24, v25, v26, v27, v28, v29, v30, v31, v32, v33, v34, v35, v36, v37, v38, v39, v40, v41, v42, v43, v44, v45, v46, v47, v48]))]) hP hD hS hA [0] rfl rfl (by decide)
  refine va_callv (va_runV (C := "ValueBenchModel") (As := []) (rest := []) ⟨hx, hb, hml, hown, htx⟩ (cM_begin_0 l hl9 D cT aK aV s.heap.size a0 v17 v18 v19 v20 v21 v22 v23 v24 v25 v26 v27 v28 v29 v30 v31 v32 v33 v34 v35 v36 v37 v38 v39 v40 v41 v42 v43 v44 v45 v46 v47 v48) ⟨callB_of 0 htx (xw_goodC kw_5_209) rfl rfl rfl (htx _ kw_1_5) (htx _ kw_5_206) ⟨by decide, by decide, by decide +kernel⟩ ⟨Nat.le_of_ble_eq_true rfl, Nat.le_of_ble_eq_true rfl⟩, (htx _ kw_5_208), (htx _ kp_M_begin)⟩ ⟨xPre_blind, va_recv hK hP (ci := 5) rfl (q0 := 0) rfl, (fun U hU hW => ⟨rfl, xPre_of hZ hS hFc hPc hDc hK U hU hW⟩)⟩ rfl rfl hl.1 rfl (lv_room (Nat.le_of_ble_eq_true rfl)) dM_two0_1 ⟨Nat.le_of_ble_eq_true rfl, Nat.le_of_ble_eq_true rfl⟩) hS (fun q _ h => hFc q h) hFc (fun u9 t H1 locs ht hvm hr9 hB hz1 hk1 hS => ?_)
  obtain ⟨hP1, hK1, hD1⟩ := hB
  rw [ht] at hP1
  obtain ⟨hP, hD⟩ := xjoin (W := [(a0, .inr (5, [.int 0, v18, .int 0, v20, .int 0, v22, v23, .int 0, v25, .int 0, v27, v28, .int 0, v30, v31, v32, v33, v34, v35, v36, v37, v38, .int 0, .int 1000000000, v41, v42, v43, v44, v45, v46, v47, v48]))]) hP hD [0] [] 0 rfl rfl (by decide) (by decide) hk1 hFc hP1 hD1
  generalize H1 = H at hP hS ⊢
  refine lv_aload_n hx hb dM_two0_4 rfl (lv_at hl 0 rfl) ?_
  refine lv_iload_n hx hb dM_two0_5 rfl (lv_at hl 1 rfl) ?_
  obtain ⟨hPc, hDc, hFc⟩ := xcut (wc := []) hP hD hS hA [] rfl rfl (by decide)
  refine va_calli (va_runV (C := "ValueBenchModel") (As := [.int x1]) (rest := []) ⟨hx, hb, hml, hown, htx⟩ (cM_out_0 l hl9 D cT aK aV H.size a0 x1 h2 h3 h4 h5) ⟨callB_of 1 htx (xw_goodC kw_5_217) rfl rfl rfl (htx _ kw_1_5) (htx _ kw_5_214) ⟨by decide, by decide, by decide +kernel⟩ ⟨Nat.le_of_ble_eq_true rfl, Nat.le_of_ble_eq_true rfl⟩, (htx _ kw_5_216), (htx _ kp_M_out)⟩ ⟨xPre_blind, va_recv hK hP (ci := 5) rfl (q0 := 0) rfl, (fun U hU hW => ⟨rfl, xPre_of hZ hS hFc hPc hDc hK U hU hW⟩)⟩ rfl rfl hl.1 rfl (lv_room (Nat.le_of_ble_eq_true rfl)) dM_two0_6 ⟨Nat.le_of_ble_eq_true rfl, Nat.le_of_ble_eq_true rfl⟩) hS (fun q _ h => hFc q h) hFc (fun r1 u9 t H1 locs ht hvm hr9 hB hz1 hk1 hS => ?_)
  obtain ⟨hP1, hK1, hD1⟩ := hB
  rw [ht] at hP1
  obtain ⟨hP, hD⟩ := xjoin (W := [(a0, .inr (5, [.int 0, v18, .int 0, v20, .int 0, v22, v23, .int 0, v25, .int 0, v27, v28, .int 0, v30, v31, v32, v33, v34, v35, v36, v37, v38, .int 0, .int 1000000000, v41, v42, v43, v44, v45, v46, v47, v48]))]) hP hD [] [0] 1 rfl rfl (by decide) (by decide) hk1 hFc hP1 hD1
  generalize H1 = H at hP hS ⊢
  rw [hr9]
  refine W.eq (g2 := F0 m 9 ls [.int 0]) rfl ?_
  refine lv_if_ne (tgt := 39) hx hb dM_two0_9 (by decide) (fun h => ((by revert h; decide : False)).elim) (fun _ => ?_)
  refine lv_iload_n hx hb dM_two0_12 rfl (lv_at hl 2 rfl) ?_
  refine lv_if_lt (tgt := 39) hx hb dM_two0_13 (by decide) (fun h => by first | exact absurd h h7 | exact absurd h h8 | exact absurd h h9 | exact absurd h7 h | exact absurd h8 h | exact absurd h9 h) (fun _ => ?_)
  refine lv_iload_n hx hb dM_two0_16 rfl (lv_at hl 2 rfl) ?_
  refine lv_bipush (v := 9) hx hb dM_two0_17 (by decide) ?_
  refine lv_icmp_gt (tgt := 39) hx hb dM_two0_19 (by decide) (fun h => by first | exact absurd h h7 | exact absurd h h8 | exact absurd h h9 | exact absurd h7 h | exact absurd h8 h | exact absurd h9 h) (fun _ => ?_)
  refine lv_aload_n hx hb dM_two0_22 rfl (lv_at hl 0 rfl) ?_
  refine lv_iload_n hx hb dM_two0_23 rfl (lv_at hl 3 rfl) ?_
  obtain ⟨hPc, hDc, hFc⟩ := xcut (wc := []) hP hD hS hA [] rfl rfl (by decide)
  refine va_calli (va_runV (C := "ValueBenchModel") (As := [.int x10]) (rest := []) ⟨hx, hb, hml, hown, htx⟩ (cM_out_0 l hl9 D cT aK aV H.size a0 x10 h11 h12 h13 h14) ⟨callB_of 1 htx (xw_goodC kw_5_217) rfl rfl rfl (htx _ kw_1_5) (htx _ kw_5_214) ⟨by decide, by decide, by decide +kernel⟩ ⟨Nat.le_of_ble_eq_true rfl, Nat.le_of_ble_eq_true rfl⟩, (htx _ kw_5_216), (htx _ kp_M_out)⟩ ⟨xPre_blind, va_recv hK hP (ci := 5) rfl (q0 := 0) rfl, (fun U hU hW => ⟨rfl, xPre_of hZ hS hFc hPc hDc hK U hU hW⟩)⟩ rfl rfl hl.1 rfl (lv_room (Nat.le_of_ble_eq_true rfl)) dM_two0_24 ⟨Nat.le_of_ble_eq_true rfl, Nat.le_of_ble_eq_true rfl⟩) hS (fun q _ h => hFc q h) hFc (fun r2 u9 t H1 locs ht hvm hr9 hB hz1 hk1 hS => ?_)
  obtain ⟨hP1, hK1, hD1⟩ := hB
  rw [ht] at hP1
  obtain ⟨hP, hD⟩ := xjoin (W := [(a0, .inr (5, [.int 0, v18, .int 0, v20, .int 0, v22, v23, .int 0, v25, .int 0, v27, v28, .int 0, v30, v31, v32, v33, v34, v35, v36, v37, v38, .int 0, .int 1000000000, v41, v42, v43, v44, v45, v46, v47, v48]))]) hP hD [] [0] 1 rfl rfl (by decide) (by decide) hk1 hFc hP1 hD1
  generalize H1 = H at hP hS ⊢
  rw [hr9]
  refine W.eq (g2 := F0 m 27 ls [.int 0]) rfl ?_
  refine lv_if_ne (tgt := 39) hx hb dM_two0_27 (by decide) (fun h => ((by revert h; decide : False)).elim) (fun _ => ?_)
  refine lv_aload_n hx hb dM_two0_30 rfl (lv_at hl 0 rfl) ?_
  refine lv_iload hx hb dM_two0_31 (lv_at hl 4 rfl) ?_
  obtain ⟨hPc, hDc, hFc⟩ := xcut (wc := []) hP hD hS hA [] rfl rfl (by decide)
  refine va_calli (va_runV (C := "ValueBenchModel") (As := [.int x15]) (rest := []) ⟨hx, hb, hml, hown, htx⟩ (cM_out_1 l hl9 D cT aK aV H.size a0 x15 h16) ⟨callB_of 1 htx (xw_goodC kw_5_217) rfl rfl rfl (htx _ kw_1_5) (htx _ kw_5_214) ⟨by decide, by decide, by decide +kernel⟩ ⟨Nat.le_of_ble_eq_true rfl, Nat.le_of_ble_eq_true rfl⟩, (htx _ kw_5_216), (htx _ kp_M_out)⟩ ⟨xPre_blind, va_recv hK hP (ci := 5) rfl (q0 := 0) rfl, (fun U hU hW => ⟨rfl, xPre_of hZ hS hFc hPc hDc hK U hU hW⟩)⟩ rfl rfl hl.1 rfl (lv_room (Nat.le_of_ble_eq_true rfl)) dM_two0_33 ⟨Nat.le_of_ble_eq_true rfl, Nat.le_of_ble_eq_true rfl⟩) hS (fun q _ h => hFc q h) hFc (fun r3 u9 t H1 locs ht hvm hr9 hB hz1 hk1 hS => ?_)
  obtain ⟨hP1, hK1, hD1⟩ := hB
  rw [ht] at hP1
  obtain ⟨hP, hD⟩ := xjoin (W := [(a0, .inr (5, [.int 0, v18, .int 0, v20, .int 0, v22, v23, .int 0, v25, .int 0, v27, v28, .int 0, v30, v31, v32, v33, v34, v35, v36, v37, v38, .int 0, .int 1000000000, v41, v42, v43, v44, v45, v46, v47, v48]))]) hP hD [] [0] 1 rfl rfl (by decide) (by decide) hk1 hFc hP1 hD1
  generalize H1 = H at hP hS ⊢
  rw [hr9]
  refine W.eq (g2 := F0 m 36 ls [.int 1]) rfl ?_
  refine lv_if_eq (tgt := 47) hx hb dM_two0_36 (by decide) (fun h => ((by revert h; decide : False)).elim) (fun _ => ?_)
  refine lv_aload_n hx hb dM_two0_39 rfl (lv_at hl 0 rfl) ?_
  refine lv_iconst (v := 1) hx hb dM_two0_40 (by decide) ?_
  refine va_put (D := D) (ci := 5) (v := .int 1) (ty := .int) (C := "ValueBenchModel") (T := TM) (N := 32) hx hb htx inM tyM tyM_ok nmM hown hK hP hD hS 0 rfl rfl 0 (by decide) (htx _ kw_5_87) (fun _ h9 => h9) rfl (by decide +kernel) rfl rfl (Nat.le_of_ble_eq_true rfl) dM_two0_41 (fun H locs hP hD hS => ?_)
  obtain ⟨hP, hD⟩ : xPD D xcl A [(a0, .inr (5, [.int 1, v18, .int 0, v20, .int 0, v22, v23, .int 0, v25, .int 0, v27, v28, .int 0, v30, v31, v32, v33, v34, v35, v36, v37, v38, .int 0, .int 1000000000, v41, v42, v43, v44, v45, v46, v47, v48]))] H := ⟨hP, hD⟩
  refine lv_goto (tgt := 57) hx hb dM_two0_44 (by decide) ?_
  obtain ⟨hP9, hD9⟩ := xsub (wc := [(a0, .inr (5, [.int 1, v18, .int 0, v20, .int 0, v22, v23, .int 0, v25, .int 0, v27, v28, .int 0, v30, v31, v32, v33, v34, v35, v36, v37, v38, .int 0, .int 1000000000, v41, v42, v43, v44, v45, v46, v47, v48]))]) hP hD [0] rfl rfl (by decide)
  refine W.widen (k := 0) (n := 0) (Nat.le_of_ble_eq_true rfl) (Nat.le_of_ble_eq_true rfl) ?_
  exact W.vret hx hb hr (fun t ht hW => ⟨⟨(), rfl, trivial, by rw [ht]; exact hP9, va_K.moved hW.alike hK, hD9⟩, hS.F ht⟩) hS.2.2 dM_two0_57
set_option maxHeartbeats 400000000 in
set_option maxRecDepth 100000 in
theorem cM_sort0_14 (l : Launch) (hl9 : l.stackTraces = false) (D : va_G) (cT : Nat → ClassId) (aK aV : Nat → Nat) (sz : Nat) (a0 : Nat) (x1 : Int32) (x6 : Int32) (x10 : Int32) (x12 : Int32) (v13 : Value) (v14 : Value) (v15 : Value) (v16 : Value) (v17 : Value) (v18 : Value) (v19 : Value) (v20 : Value) (v21 : Value) (v22 : Value) (v23 : Value) (v24 : Value) (v25 : Value) (v26 : Value) (v27 : Value) (v28 : Value) (v29 : Value) (v30 : Value) (v31 : Value) (v32 : Value) (v33 : Value) (v34 : Value) (v35 : Value) (v36 : Value) (v37 : Value) (v38 : Value) (v39 : Value) (v40 : Value) (v41 : Value) (v42 : Value) (v43 : Value) (v44 : Value) (h2 : ¬ x1 < 0) (h3 : ¬ 7 < x1) (h4 : x1 ≤ 7) (h5 : vp_in x1 8) (h7 : ¬ x6 < 0) (h8 : ¬ 4 < x6) (h9 : x6 ≤ 4) (h11 : x10 < 0) : xMet l yM_sort0 wyM_sort0 2 0 0 40 D cT aK aV sz [.ref a0, .int x1, .int x6, .int x10, .int x12] [(a0, .inr (5, [v13, v14, v15, v16, v17, v18, v19, v20, v21, v22, v23, v24, v25, v26, v27, v28, v29, v30, v31, v32, v33, v34, v35, v36, v37, v38, v39, v40, v41, v42, v43, v44]))] (fun A => va_Qv (fun _ : Unit => True) (fun _ t => xB D xcl cT A [(a0, .inr (5, [.int 1, v14, .int 0, v16, .int 0, v18, v19, .int 0, v21, .int 0, v23, v24, .int 0, v26, v27, v28, v29, v30, v31, v32, v33, v34, .int 0, .int 1000000000, v37, v38, v39, v40, v41, v42, v43, v44]))] t) A) := by
  refine Met.ofW (cc := prog_13_method_94_code) (maxL := 5) (ret := none) (by decide) rfl ?_
  intro p e s m args below meth c s₁ B hml hv
  obtain ⟨rfl, hsz, hZ, hP, hK, hD0⟩ := hv
  have hx := B.exec
  have hb := B.bytes
  have hr := B.returns
  have hts := atoms_spec (ws := wyM_sort0) B.pre
  have htx := fun w h => hts w (List.mem_cons_of_mem _ h)
  have hown : s.vm.findClass "ValueBenchModel" = some m.cls := findClass_of_methodNamed B.named
  have hlocks := B.notSynchronized
  subst hsz
  have hD := hD0.self (sz := s.heap.size)
  generalize hAe : va_A [(a0, .inr (5, [v13, v14, v15, v16, v17, v18, v19, v20, v21, v22, v23, v24, v25, v26, v27, v28, v29, v30, v31, v32, v33, v34, v35, v36, v37, v38, v39, v40, v41, v42, v43, v44]))] s.heap.size = A at hD hZ ⊢
  have hA : ∀ q : Nat, s.heap.size ≤ q → A q := fun q h => by rw [← hAe]; exact Or.inr h
  have hS : va_S A s.heap s.heap [] := va_S.rf
  have hP : va_P D xcl [(a0, .inr (5, [v13, v14, v15, v16, v17, v18, v19, v20, v21, v22, v23, v24, v25, v26, v27, v28, v29, v30, v31, v32, v33, v34, v35, v36, v37, v38, v39, v40, v41, v42, v43, v44]))] s.heap := hP
  have hl := lv_entry ([.ref a0, .int x1, .int x6, .int x10, .int x12]) (n := 5) (Nat.le_of_ble_eq_true rfl)
  rw [lg_entry_eq]
  generalize (lg_sl ([.ref a0, .int x1, .int x6, .int x10, .int x12]) ++ List.replicate (5 - (lg_sl ([.ref a0, .int x1, .int x6, .int x10, .int x12])).length) Slot.unset).toArray = ls at hl ⊢
  have hl : lv_has ls 5 [(0, .ref a0), (1, .int x1), (2, .int x6), (3, .int x10), (4, .int x12)] := hl
  refine lv_aload_n hx hb dM_sort0_0 rfl (lv_at hl 0 rfl) ?_
  obtain ⟨hPc, hDc, hFc⟩ := xcut (wc := [(a0, .inr (5, [v13, v14, v15, v16, v17, v18, v19, v20, v21, v22, v23, v24, v25, v26, v27, v28, v29, v30, v31, v32, v33, v34, v35, v36, v37, v38, v39, v40, v41, v42, v43, v44]))]) hP hD hS hA [0] rfl rfl (by decide)
  refine va_callv (va_runV (C := "ValueBenchModel") (As := []) (rest := []) ⟨hx, hb, hml, hown, htx⟩ (cM_begin_0 l hl9 D cT aK aV s.heap.size a0 v13 v14 v15 v16 v17 v18 v19 v20 v21 v22 v23 v24 v25 v26 v27 v28 v29 v30 v31 v32 v33 v34 v35 v36 v37 v38 v39 v40 v41 v42 v43 v44) ⟨callB_of 0 htx (xw_goodC kw_5_209) rfl rfl rfl (htx _ kw_1_5) (htx _ kw_5_206) ⟨by decide, by decide, by decide +kernel⟩ ⟨Nat.le_of_ble_eq_true rfl, Nat.le_of_ble_eq_true rfl⟩, (htx _ kw_5_208), (htx _ kp_M_begin)⟩ ⟨xPre_blind, va_recv hK hP (ci := 5) rfl (q0 := 0) rfl, (fun U hU hW => ⟨rfl, xPre_of hZ hS hFc hPc hDc hK U hU hW⟩)⟩ rfl rfl hl.1 rfl (lv_room (Nat.le_of_ble_eq_true rfl)) dM_sort0_1 ⟨Nat.le_of_ble_eq_true rfl, Nat.le_of_ble_eq_true rfl⟩) hS (fun q _ h => hFc q h) hFc (fun u9 t H1 locs ht hvm hr9 hB hz1 hk1 hS => ?_)
  obtain ⟨hP1, hK1, hD1⟩ := hB
  rw [ht] at hP1
  obtain ⟨hP, hD⟩ := xjoin (W := [(a0, .inr (5, [.int 0, v14, .int 0, v16, .int 0, v18, v19, .int 0, v21, .int 0, v23, v24, .int 0, v26, v27, v28, v29, v30, v31, v32, v33, v34, .int 0, .int 1000000000, v37, v38, v39, v40, v41, v42, v43, v44]))]) hP hD [0] [] 0 rfl rfl (by decide) (by decide) hk1 hFc hP1 hD1
  generalize H1 = H at hP hS ⊢
  refine lv_aload_n hx hb dM_sort0_4 rfl (lv_at hl 0 rfl) ?_
  refine lv_iload_n hx hb dM_sort0_5 rfl (lv_at hl 1 rfl) ?_
  obtain ⟨hPc, hDc, hFc⟩ := xcut (wc := []) hP hD hS hA [] rfl rfl (by decide)
  refine va_calli (va_runV (C := "ValueBenchModel") (As := [.int x1]) (rest := []) ⟨hx, hb, hml, hown, htx⟩ (cM_out_0 l hl9 D cT aK aV H.size a0 x1 h2 h3 h4 h5) ⟨callB_of 1 htx (xw_goodC kw_5_217) rfl rfl rfl (htx _ kw_1_5) (htx _ kw_5_214) ⟨by decide, by decide, by decide +kernel⟩ ⟨Nat.le_of_ble_eq_true rfl, Nat.le_of_ble_eq_true rfl⟩, (htx _ kw_5_216), (htx _ kp_M_out)⟩ ⟨xPre_blind, va_recv hK hP (ci := 5) rfl (q0 := 0) rfl, (fun U hU hW => ⟨rfl, xPre_of hZ hS hFc hPc hDc hK U hU hW⟩)⟩ rfl rfl hl.1 rfl (lv_room (Nat.le_of_ble_eq_true rfl)) dM_sort0_6 ⟨Nat.le_of_ble_eq_true rfl, Nat.le_of_ble_eq_true rfl⟩) hS (fun q _ h => hFc q h) hFc (fun r1 u9 t H1 locs ht hvm hr9 hB hz1 hk1 hS => ?_)
  obtain ⟨hP1, hK1, hD1⟩ := hB
  rw [ht] at hP1
  obtain ⟨hP, hD⟩ := xjoin (W := [(a0, .inr (5, [.int 0, v14, .int 0, v16, .int 0, v18, v19, .int 0, v21, .int 0, v23, v24, .int 0, v26, v27, v28, v29, v30, v31, v32, v33, v34, .int 0, .int 1000000000, v37, v38, v39, v40, v41, v42, v43, v44]))]) hP hD [] [0] 1 rfl rfl (by decide) (by decide) hk1 hFc hP1 hD1
  generalize H1 = H at hP hS ⊢
  rw [hr9]
  refine W.eq (g2 := F0 m 9 ls [.int 0]) rfl ?_
  refine lv_if_ne (tgt := 38) hx hb dM_sort0_9 (by decide) (fun h => ((by revert h; decide : False)).elim) (fun _ => ?_)
  refine lv_iload_n hx hb dM_sort0_12 rfl (lv_at hl 2 rfl) ?_
  refine lv_if_lt (tgt := 38) hx hb dM_sort0_13 (by decide) (fun h => by first | exact absurd h h7 | exact absurd h h8 | exact absurd h h9 | exact absurd h7 h | exact absurd h8 h | exact absurd h9 h) (fun _ => ?_)
  refine lv_iload_n hx hb dM_sort0_16 rfl (lv_at hl 2 rfl) ?_
  refine lv_iconst (v := 4) hx hb dM_sort0_17 (by decide) ?_
  refine lv_icmp_gt (tgt := 38) hx hb dM_sort0_18 (by decide) (fun h => by first | exact absurd h h7 | exact absurd h h8 | exact absurd h h9 | exact absurd h7 h | exact absurd h8 h | exact absurd h9 h) (fun _ => ?_)
  refine lv_aload_n hx hb dM_sort0_21 rfl (lv_at hl 0 rfl) ?_
  refine lv_iload_n hx hb dM_sort0_22 rfl (lv_at hl 3 rfl) ?_
  obtain ⟨hPc, hDc, hFc⟩ := xcut (wc := []) hP hD hS hA [] rfl rfl (by decide)
  refine va_calli (va_runV (C := "ValueBenchModel") (As := [.int x10]) (rest := []) ⟨hx, hb, hml, hown, htx⟩ (cM_out_1 l hl9 D cT aK aV H.size a0 x10 h11) ⟨callB_of 1 htx (xw_goodC kw_5_217) rfl rfl rfl (htx _ kw_1_5) (htx _ kw_5_214) ⟨by decide, by decide, by decide +kernel⟩ ⟨Nat.le_of_ble_eq_true rfl, Nat.le_of_ble_eq_true rfl⟩, (htx _ kw_5_216), (htx _ kp_M_out)⟩ ⟨xPre_blind, va_recv hK hP (ci := 5) rfl (q0 := 0) rfl, (fun U hU hW => ⟨rfl, xPre_of hZ hS hFc hPc hDc hK U hU hW⟩)⟩ rfl rfl hl.1 rfl (lv_room (Nat.le_of_ble_eq_true rfl)) dM_sort0_23 ⟨Nat.le_of_ble_eq_true rfl, Nat.le_of_ble_eq_true rfl⟩) hS (fun q _ h => hFc q h) hFc (fun r2 u9 t H1 locs ht hvm hr9 hB hz1 hk1 hS => ?_)
  obtain ⟨hP1, hK1, hD1⟩ := hB
  rw [ht] at hP1
  obtain ⟨hP, hD⟩ := xjoin (W := [(a0, .inr (5, [.int 0, v14, .int 0, v16, .int 0, v18, v19, .int 0, v21, .int 0, v23, v24, .int 0, v26, v27, v28, v29, v30, v31, v32, v33, v34, .int 0, .int 1000000000, v37, v38, v39, v40, v41, v42, v43, v44]))]) hP hD [] [0] 1 rfl rfl (by decide) (by decide) hk1 hFc hP1 hD1
  generalize H1 = H at hP hS ⊢
  rw [hr9]
  refine W.eq (g2 := F0 m 26 ls [.int 1]) rfl ?_
  refine lv_if_ne (tgt := 38) hx hb dM_sort0_26 (by decide) (fun _ => ?_) (fun h => ((by revert h; decide : False)).elim)
  refine lv_aload_n hx hb dM_sort0_38 rfl (lv_at hl 0 rfl) ?_
  refine lv_iconst (v := 1) hx hb dM_sort0_39 (by decide) ?_
  refine va_put (D := D) (ci := 5) (v := .int 1) (ty := .int) (C := "ValueBenchModel") (T := TM) (N := 32) hx hb htx inM tyM tyM_ok nmM hown hK hP hD hS 0 rfl rfl 0 (by decide) (htx _ kw_5_87) (fun _ h9 => h9) rfl (by decide +kernel) rfl rfl (Nat.le_of_ble_eq_true rfl) dM_sort0_40 (fun H locs hP hD hS => ?_)
  obtain ⟨hP, hD⟩ : xPD D xcl A [(a0, .inr (5, [.int 1, v14, .int 0, v16, .int 0, v18, v19, .int 0, v21, .int 0, v23, v24, .int 0, v26, v27, v28, v29, v30, v31, v32, v33, v34, .int 0, .int 1000000000, v37, v38, v39, v40, v41, v42, v43, v44]))] H := ⟨hP, hD⟩
  refine lv_goto (tgt := 56) hx hb dM_sort0_43 (by decide) ?_
  obtain ⟨hP9, hD9⟩ := xsub (wc := [(a0, .inr (5, [.int 1, v14, .int 0, v16, .int 0, v18, v19, .int 0, v21, .int 0, v23, v24, .int 0, v26, v27, v28, v29, v30, v31, v32, v33, v34, .int 0, .int 1000000000, v37, v38, v39, v40, v41, v42, v43, v44]))]) hP hD [0] rfl rfl (by decide)
  refine W.widen (k := 0) (n := 0) (Nat.le_of_ble_eq_true rfl) (Nat.le_of_ble_eq_true rfl) ?_
  exact W.vret hx hb hr (fun t ht hW => ⟨⟨(), rfl, trivial, by rw [ht]; exact hP9, va_K.moved hW.alike hK, hD9⟩, hS.F ht⟩) hS.2.2 dM_sort0_56
set_option maxHeartbeats 400000000 in
set_option maxRecDepth 100000 in
theorem cM_sort0_15 (l : Launch) (hl9 : l.stackTraces = false) (D : va_G) (cT : Nat → ClassId) (aK aV : Nat → Nat) (sz : Nat) (a0 : Nat) (x1 : Int32) (x6 : Int32) (x10 : Int32) (x15 : Int32) (v17 : Value) (v18 : Value) (v19 : Value) (v20 : Value) (v21 : Value) (v22 : Value) (v23 : Value) (v24 : Value) (v25 : Value) (v26 : Value) (v27 : Value) (v28 : Value) (v29 : Value) (v30 : Value) (v31 : Value) (v32 : Value) (v33 : Value) (v34 : Value) (v35 : Value) (v36 : Value) (v37 : Value) (v38 : Value) (v39 : Value) (v40 : Value) (v41 : Value) (v42 : Value) (v43 : Value) (v44 : Value) (v45 : Value) (v46 : Value) (v47 : Value) (v48 : Value) (h2 : ¬ x1 < 0) (h3 : ¬ 7 < x1) (h4 : x1 ≤ 7) (h5 : vp_in x1 8) (h7 : ¬ x6 < 0) (h8 : ¬ 4 < x6) (h9 : x6 ≤ 4) (h11 : ¬ x10 < 0) (h12 : ¬ 7 < x10) (h13 : x10 ≤ 7) (h14 : vp_in x10 8) (h16 : x15 < 0) : xMet l yM_sort0 wyM_sort0 2 0 0 40 D cT aK aV sz [.ref a0, .int x1, .int x6, .int x10, .int x15] [(a0, .inr (5, [v17, v18, v19, v20, v21, v22, v23, v24, v25, v26, v27, v28, v29, v30, v31, v32, v33, v34, v35, v36, v37, v38, v39, v40, v41, v42, v43, v44, v45, v46, v47, v48]))] (fun A => va_Qv (fun _ : Unit => True) (fun _ t => xB D xcl cT A [(a0, .inr (5, [.int 1, v18, .int 0, v20, .int 0, v22, v23, .int 0, v25, .int 0, v27, v28, .int 0, v30, v31, v32, v33, v34, v35, v36, v37, v38, .int 0, .int 1000000000, v41, v42, v43, v44, v45, v46, v47, v48]))] t) A) := by
  refine Met.ofW (cc := prog_13_method_94_code) (maxL := 5) (ret := none) (by decide) rfl ?_
  intro p e s m args below meth c s₁ B hml hv
  obtain ⟨rfl, hsz, hZ, hP, hK, hD0⟩ := hv
  have hx := B.exec
  have hb := B.bytes
  have hr := B.returns
  have hts := atoms_spec (ws := wyM_sort0) B.pre
  have htx := fun w h => hts w (List.mem_cons_of_mem _ h)
  have hown : s.vm.findClass "ValueBenchModel" = some m.cls := findClass_of_methodNamed B.named
  have hlocks := B.notSynchronized
  subst hsz
  have hD := hD0.self (sz := s.heap.size)
  generalize hAe : va_A [(a0, .inr (5, [v17, v18, v19, v20, v21, v22, v23, v24, v25, v26, v27, v28, v29, v30, v31, v32, v33, v34, v35, v36, v37, v38, v39, v40, v41, v42, v43, v44, v45, v46, v47, v48]))] s.heap.size = A at hD hZ ⊢
  have hA : ∀ q : Nat, s.heap.size ≤ q → A q := fun q h => by rw [← hAe]; exact Or.inr h
  have hS : va_S A s.heap s.heap [] := va_S.rf
  have hP : va_P D xcl [(a0, .inr (5, [v17, v18, v19, v20, v21, v22, v23, v24, v25, v26, v27, v28, v29, v30, v31, v32, v33, v34, v35, v36, v37, v38, v39, v40, v41, v42, v43, v44, v45, v46, v47, v48]))] s.heap := hP
  have hl := lv_entry ([.ref a0, .int x1, .int x6, .int x10, .int x15]) (n := 5) (Nat.le_of_ble_eq_true rfl)
  rw [lg_entry_eq]
  generalize (lg_sl ([.ref a0, .int x1, .int x6, .int x10, .int x15]) ++ List.replicate (5 - (lg_sl ([.ref a0, .int x1, .int x6, .int x10, .int x15])).length) Slot.unset).toArray = ls at hl ⊢
  have hl : lv_has ls 5 [(0, .ref a0), (1, .int x1), (2, .int x6), (3, .int x10), (4, .int x15)] := hl
  refine lv_aload_n hx hb dM_sort0_0 rfl (lv_at hl 0 rfl) ?_
  obtain ⟨hPc, hDc, hFc⟩ := xcut (wc := [(a0, .inr (5, [v17, v18, v19, v20, v21, v22, v23, v24, v25, v26, v27, v28, v29, v30, v31, v32, v33, v34, v35, v36, v37, v38, v39, v40, v41, v42, v43, v44, v45, v46, v47, v48]))]) hP hD hS hA [0] rfl rfl (by decide)
  refine va_callv (va_runV (C := "ValueBenchModel") (As := []) (rest := []) ⟨hx, hb, hml, hown, htx⟩ (cM_begin_0 l hl9 D cT aK aV s.heap.size a0 v17 v18 v19 v20 v21 v22 v23 v24 v25 v26 v27 v28 v29 v30 v31 v32 v33 v34 v35 v36 v37 v38 v39 v40 v41 v42 v43 v44 v45 v46 v47 v48) ⟨callB_of 0 htx (xw_goodC kw_5_209) rfl rfl rfl (htx _ kw_1_5) (htx _ kw_5_206) ⟨by decide, by decide, by decide +kernel⟩ ⟨Nat.le_of_ble_eq_true rfl, Nat.le_of_ble_eq_true rfl⟩, (htx _ kw_5_208), (htx _ kp_M_begin)⟩ ⟨xPre_blind, va_recv hK hP (ci := 5) rfl (q0 := 0) rfl, (fun U hU hW => ⟨rfl, xPre_of hZ hS hFc hPc hDc hK U hU hW⟩)⟩ rfl rfl hl.1 rfl (lv_room (Nat.le_of_ble_eq_true rfl)) dM_sort0_1 ⟨Nat.le_of_ble_eq_true rfl, Nat.le_of_ble_eq_true rfl⟩) hS (fun q _ h => hFc q h) hFc (fun u9 t H1 locs ht hvm hr9 hB hz1 hk1 hS => ?_)
  obtain ⟨hP1, hK1, hD1⟩ := hB
  rw [ht] at hP1
  obtain ⟨hP, hD⟩ := xjoin (W := [(a0, .inr (5, [.int 0, v18, .int 0, v20, .int 0, v22, v23, .int 0, v25, .int 0, v27, v28, .int 0, v30, v31, v32, v33, v34, v35, v36, v37, v38, .int 0, .int 1000000000, v41, v42, v43, v44, v45, v46, v47, v48]))]) hP hD [0] [] 0 rfl rfl (by decide) (by decide) hk1 hFc hP1 hD1
  generalize H1 = H at hP hS ⊢
  refine lv_aload_n hx hb dM_sort0_4 rfl (lv_at hl 0 rfl) ?_
  refine lv_iload_n hx hb dM_sort0_5 rfl (lv_at hl 1 rfl) ?_
  obtain ⟨hPc, hDc, hFc⟩ := xcut (wc := []) hP hD hS hA [] rfl rfl (by decide)
  refine va_calli (va_runV (C := "ValueBenchModel") (As := [.int x1]) (rest := []) ⟨hx, hb, hml, hown, htx⟩ (cM_out_0 l hl9 D cT aK aV H.size a0 x1 h2 h3 h4 h5) ⟨callB_of 1 htx (xw_goodC kw_5_217) rfl rfl rfl (htx _ kw_1_5) (htx _ kw_5_214) ⟨by decide, by decide, by decide +kernel⟩ ⟨Nat.le_of_ble_eq_true rfl, Nat.le_of_ble_eq_true rfl⟩, (htx _ kw_5_216), (htx _ kp_M_out)⟩ ⟨xPre_blind, va_recv hK hP (ci := 5) rfl (q0 := 0) rfl, (fun U hU hW => ⟨rfl, xPre_of hZ hS hFc hPc hDc hK U hU hW⟩)⟩ rfl rfl hl.1 rfl (lv_room (Nat.le_of_ble_eq_true rfl)) dM_sort0_6 ⟨Nat.le_of_ble_eq_true rfl, Nat.le_of_ble_eq_true rfl⟩) hS (fun q _ h => hFc q h) hFc (fun r1 u9 t H1 locs ht hvm hr9 hB hz1 hk1 hS => ?_)
  obtain ⟨hP1, hK1, hD1⟩ := hB
  rw [ht] at hP1
  obtain ⟨hP, hD⟩ := xjoin (W := [(a0, .inr (5, [.int 0, v18, .int 0, v20, .int 0, v22, v23, .int 0, v25, .int 0, v27, v28, .int 0, v30, v31, v32, v33, v34, v35, v36, v37, v38, .int 0, .int 1000000000, v41, v42, v43, v44, v45, v46, v47, v48]))]) hP hD [] [0] 1 rfl rfl (by decide) (by decide) hk1 hFc hP1 hD1
  generalize H1 = H at hP hS ⊢
  rw [hr9]
  refine W.eq (g2 := F0 m 9 ls [.int 0]) rfl ?_
  refine lv_if_ne (tgt := 38) hx hb dM_sort0_9 (by decide) (fun h => ((by revert h; decide : False)).elim) (fun _ => ?_)
  refine lv_iload_n hx hb dM_sort0_12 rfl (lv_at hl 2 rfl) ?_
  refine lv_if_lt (tgt := 38) hx hb dM_sort0_13 (by decide) (fun h => by first | exact absurd h h7 | exact absurd h h8 | exact absurd h h9 | exact absurd h7 h | exact absurd h8 h | exact absurd h9 h) (fun _ => ?_)
  refine lv_iload_n hx hb dM_sort0_16 rfl (lv_at hl 2 rfl) ?_
  refine lv_iconst (v := 4) hx hb dM_sort0_17 (by decide) ?_
  refine lv_icmp_gt (tgt := 38) hx hb dM_sort0_18 (by decide) (fun h => by first | exact absurd h h7 | exact absurd h h8 | exact absurd h h9 | exact absurd h7 h | exact absurd h8 h | exact absurd h9 h) (fun _ => ?_)
  refine lv_aload_n hx hb dM_sort0_21 rfl (lv_at hl 0 rfl) ?_
  refine lv_iload_n hx hb dM_sort0_22 rfl (lv_at hl 3 rfl) ?_
  obtain ⟨hPc, hDc, hFc⟩ := xcut (wc := []) hP hD hS hA [] rfl rfl (by decide)
  refine va_calli (va_runV (C := "ValueBenchModel") (As := [.int x10]) (rest := []) ⟨hx, hb, hml, hown, htx⟩ (cM_out_0 l hl9 D cT aK aV H.size a0 x10 h11 h12 h13 h14) ⟨callB_of 1 htx (xw_goodC kw_5_217) rfl rfl rfl (htx _ kw_1_5) (htx _ kw_5_214) ⟨by decide, by decide, by decide +kernel⟩ ⟨Nat.le_of_ble_eq_true rfl, Nat.le_of_ble_eq_true rfl⟩, (htx _ kw_5_216), (htx _ kp_M_out)⟩ ⟨xPre_blind, va_recv hK hP (ci := 5) rfl (q0 := 0) rfl, (fun U hU hW => ⟨rfl, xPre_of hZ hS hFc hPc hDc hK U hU hW⟩)⟩ rfl rfl hl.1 rfl (lv_room (Nat.le_of_ble_eq_true rfl)) dM_sort0_23 ⟨Nat.le_of_ble_eq_true rfl, Nat.le_of_ble_eq_true rfl⟩) hS (fun q _ h => hFc q h) hFc (fun r2 u9 t H1 locs ht hvm hr9 hB hz1 hk1 hS => ?_)
  obtain ⟨hP1, hK1, hD1⟩ := hB
  rw [ht] at hP1
  obtain ⟨hP, hD⟩ := xjoin (W := [(a0, .inr (5, [.int 0, v18, .int 0, v20, .int 0, v22, v23, .int 0, v25, .int 0, v27, v28, .int 0, v30, v31, v32, v33, v34, v35, v36, v37, v38, .int 0, .int 1000000000, v41, v42, v43, v44, v45, v46, v47, v48]))]) hP hD [] [0] 1 rfl rfl (by decide) (by decide) hk1 hFc hP1 hD1
  generalize H1 = H at hP hS ⊢
  rw [hr9]
  refine W.eq (g2 := F0 m 26 ls [.int 0]) rfl ?_
  refine lv_if_ne (tgt := 38) hx hb dM_sort0_26 (by decide) (fun h => ((by revert h; decide : False)).elim) (fun _ => ?_)
  refine lv_aload_n hx hb dM_sort0_29 rfl (lv_at hl 0 rfl) ?_
  refine lv_iload hx hb dM_sort0_30 (lv_at hl 4 rfl) ?_
  obtain ⟨hPc, hDc, hFc⟩ := xcut (wc := []) hP hD hS hA [] rfl rfl (by decide)
  refine va_calli (va_runV (C := "ValueBenchModel") (As := [.int x15]) (rest := []) ⟨hx, hb, hml, hown, htx⟩ (cM_out_1 l hl9 D cT aK aV H.size a0 x15 h16) ⟨callB_of 1 htx (xw_goodC kw_5_217) rfl rfl rfl (htx _ kw_1_5) (htx _ kw_5_214) ⟨by decide, by decide, by decide +kernel⟩ ⟨Nat.le_of_ble_eq_true rfl, Nat.le_of_ble_eq_true rfl⟩, (htx _ kw_5_216), (htx _ kp_M_out)⟩ ⟨xPre_blind, va_recv hK hP (ci := 5) rfl (q0 := 0) rfl, (fun U hU hW => ⟨rfl, xPre_of hZ hS hFc hPc hDc hK U hU hW⟩)⟩ rfl rfl hl.1 rfl (lv_room (Nat.le_of_ble_eq_true rfl)) dM_sort0_32 ⟨Nat.le_of_ble_eq_true rfl, Nat.le_of_ble_eq_true rfl⟩) hS (fun q _ h => hFc q h) hFc (fun r3 u9 t H1 locs ht hvm hr9 hB hz1 hk1 hS => ?_)
  obtain ⟨hP1, hK1, hD1⟩ := hB
  rw [ht] at hP1
  obtain ⟨hP, hD⟩ := xjoin (W := [(a0, .inr (5, [.int 0, v18, .int 0, v20, .int 0, v22, v23, .int 0, v25, .int 0, v27, v28, .int 0, v30, v31, v32, v33, v34, v35, v36, v37, v38, .int 0, .int 1000000000, v41, v42, v43, v44, v45, v46, v47, v48]))]) hP hD [] [0] 1 rfl rfl (by decide) (by decide) hk1 hFc hP1 hD1
  generalize H1 = H at hP hS ⊢
  rw [hr9]
  refine W.eq (g2 := F0 m 35 ls [.int 1]) rfl ?_
  refine lv_if_eq (tgt := 46) hx hb dM_sort0_35 (by decide) (fun h => ((by revert h; decide : False)).elim) (fun _ => ?_)
  refine lv_aload_n hx hb dM_sort0_38 rfl (lv_at hl 0 rfl) ?_
  refine lv_iconst (v := 1) hx hb dM_sort0_39 (by decide) ?_
  refine va_put (D := D) (ci := 5) (v := .int 1) (ty := .int) (C := "ValueBenchModel") (T := TM) (N := 32) hx hb htx inM tyM tyM_ok nmM hown hK hP hD hS 0 rfl rfl 0 (by decide) (htx _ kw_5_87) (fun _ h9 => h9) rfl (by decide +kernel) rfl rfl (Nat.le_of_ble_eq_true rfl) dM_sort0_40 (fun H locs hP hD hS => ?_)
  obtain ⟨hP, hD⟩ : xPD D xcl A [(a0, .inr (5, [.int 1, v18, .int 0, v20, .int 0, v22, v23, .int 0, v25, .int 0, v27, v28, .int 0, v30, v31, v32, v33, v34, v35, v36, v37, v38, .int 0, .int 1000000000, v41, v42, v43, v44, v45, v46, v47, v48]))] H := ⟨hP, hD⟩
  refine lv_goto (tgt := 56) hx hb dM_sort0_43 (by decide) ?_
  obtain ⟨hP9, hD9⟩ := xsub (wc := [(a0, .inr (5, [.int 1, v18, .int 0, v20, .int 0, v22, v23, .int 0, v25, .int 0, v27, v28, .int 0, v30, v31, v32, v33, v34, v35, v36, v37, v38, .int 0, .int 1000000000, v41, v42, v43, v44, v45, v46, v47, v48]))]) hP hD [0] rfl rfl (by decide)
  refine W.widen (k := 0) (n := 0) (Nat.le_of_ble_eq_true rfl) (Nat.le_of_ble_eq_true rfl) ?_
  exact W.vret hx hb hr (fun t ht hW => ⟨⟨(), rfl, trivial, by rw [ht]; exact hP9, va_K.moved hW.alike hK, hD9⟩, hS.F ht⟩) hS.2.2 dM_sort0_56
