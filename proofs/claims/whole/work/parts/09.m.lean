set_option maxHeartbeats 400000000 in
set_option maxRecDepth 100000 in
theorem cM_finish_3 (l : Launch) (hl9 : l.stackTraces = false) (D : va_G) (cT : Nat → ClassId) (aK aV : Nat → Nat) (sz : Nat) (a0 : Nat) (a1 : Nat) (a2 : Nat) (a3 : Nat) (a4 : Nat) (a5 : Nat) (x6 : Int32) (x11 : Int32) (x16 : Int32) (v17 : Value) (v18 : Value) (v19 : Value) (v20 : Value) (v21 : Value) (v22 : Value) (v23 : Value) (v24 : Value) (v25 : Value) (v26 : Value) (v27 : Value) (v28 : Value) (v29 : Value) (v30 : Value) (v31 : Value) (v32 : Value) (v33 : Value) (v34 : Value) (v35 : Value) (v36 : Value) (v37 : Value) (v38 : Value) (v39 : Value) (v40 : Value) (v41 : Value) (v42 : Value) (v43 : Value) (f44 : Nat → Option Nat) (f47 : Nat → Int32) (f49 : Nat → Int32) (f54 : Nat → Option Nat) (f57 : Nat → Int32) (h7 : ¬ x6 < 0) (h8 : ¬ 7 < x6) (h9 : x6 ≤ 7) (h10 : vp_in x6 8) (h12 : ¬ x11 < 0) (h13 : ¬ 7 < x11) (h14 : x11 ≤ 7) (h15 : vp_in x11 8) (h45 : f44 x11.toNatClampNeg = some a3) (h46 : f44 x6.toNatClampNeg = some a3) (h48 : f47 x11.toNatClampNeg = 4) (h50 : f49 0 = 110) (h51 : f49 1 = 117) (h52 : f49 2 = 108) (h53 : f49 3 = 108) (h55 : f54 0 = none) (h56 : f54 1 = none) : xMet l yM_finish wyM_finish 8 2 12 175 D cT aK aV sz [.ref a0, .int x6, .int 1, .int 1, .int x11, .int x16] [(a0, .inr (5, [v17, .ref a4, .int 0, v18, v19, v20, v21, v22, v23, v24, v25, v26, v27, v28, v29, v30, v31, v32, v33, v34, v35, .ref a5, v36, v37, .ref a1, .ref a2, v38, v39, v40, v41, v42, v43])), (a1, .inl (cT 5, 8, .inr (.inr (.inr (.inr f44))))), (a2, .inl (cT 1, 8, .inl f47)), (a3, .inl (cT 0, 4096, .inl f49)), (a4, .inl (cT 4, 1024, .inr (.inr (.inr (.inr f54))))), (a5, .inl (cT 0, 1024, .inl f57))] (fun A => va_Qv (fun _ : Unit => True) (fun _ t => ∃ (r1 : Nat) (r2 : Nat) (y4 : Int32), xB D xcl cT A [(a0, .inr (5, [v17, .ref a4, .int 2, v18, v19, v20, v21, v22, v23, v24, v25, v26, v27, v28, v29, .ref a3, .int 4, .int 4, .int 0, .int 100, v35, .ref a5, .int 1, .int 4096, .ref a1, .ref a2, v38, v39, v40, v41, v42, v43])), (a1, .inl (cT 5, 8, .inr (.inr (.inr (.inr f44))))), (a2, .inl (cT 1, 8, .inl (upd f47 x6.toNatClampNeg 1))), (a3, .inl (cT 0, 4096, .inl (upd f49 0 (vp_nar .byte (vp_nar .byte y4))))), (a4, .inl (cT 4, 1024, .inr (.inr (.inr (.inr (va_up (va_up f54 0 (some r1)) 1 (some r2))))))), (a5, .inl (cT 0, 1024, .inl (upd f57 0 (vp_nar .byte y4)))), (r1, .inr (6, [.int 0, .long 0, .int 0, .int 0, .int 0, .int 1])), (r2, .inr (6, [.int 3, .long 0, .int 0, .int 0, .int 0, .int 1]))] t) A) := by
  refine va_MetW (cc := prog_13_method_90_code) (maxL := 10) (ret := none) (hh := [(0, 128, 131, 83), (0, 128, 149, 86)]) (by decide) rfl ?_
  intro p e s m args below meth c s₁ B hml hv
  obtain ⟨rfl, hsz, hZ, hP, hK, hD0⟩ := hv
  have hx := B.exec
  have hb := B.bytes
  have hr := B.returns
  have hts := atoms_spec (ws := wyM_finish) B.pre
  have htx := fun w h => hts w (List.mem_cons_of_mem _ h)
  have hown : s.vm.findClass "ValueBenchModel" = some m.cls := findClass_of_methodNamed B.named
  have hlocks := B.notSynchronized
  subst hsz
  have hD := hD0.self (sz := s.heap.size)
  generalize hAe : va_A [(a0, .inr (5, [v17, .ref a4, .int 0, v18, v19, v20, v21, v22, v23, v24, v25, v26, v27, v28, v29, v30, v31, v32, v33, v34, v35, .ref a5, v36, v37, .ref a1, .ref a2, v38, v39, v40, v41, v42, v43])), (a1, .inl (cT 5, 8, .inr (.inr (.inr (.inr f44))))), (a2, .inl (cT 1, 8, .inl f47)), (a3, .inl (cT 0, 4096, .inl f49)), (a4, .inl (cT 4, 1024, .inr (.inr (.inr (.inr f54))))), (a5, .inl (cT 0, 1024, .inl f57))] s.heap.size = A at hD hZ ⊢
  have hA : ∀ q : Nat, s.heap.size ≤ q → A q := fun q h => by rw [← hAe]; exact Or.inr h
  have hS : va_S A s.heap s.heap [] := va_S.rf
  have hP : va_P D xcl [(a0, .inr (5, [v17, .ref a4, .int 0, v18, v19, v20, v21, v22, v23, v24, v25, v26, v27, v28, v29, v30, v31, v32, v33, v34, v35, .ref a5, v36, v37, .ref a1, .ref a2, v38, v39, v40, v41, v42, v43])), (a1, .inl (cT 5, 8, .inr (.inr (.inr (.inr f44))))), (a2, .inl (cT 1, 8, .inl f47)), (a3, .inl (cT 0, 4096, .inl f49)), (a4, .inl (cT 4, 1024, .inr (.inr (.inr (.inr f54))))), (a5, .inl (cT 0, 1024, .inl f57))] s.heap := hP
  have hl := lv_entry ([.ref a0, .int x6, .int 1, .int 1, .int x11, .int x16]) (n := 10) (Nat.le_of_ble_eq_true rfl)
  rw [lg_entry_eq]
  generalize (lg_sl ([.ref a0, .int x6, .int 1, .int 1, .int x11, .int x16]) ++ List.replicate (10 - (lg_sl ([.ref a0, .int x6, .int 1, .int 1, .int x11, .int x16])).length) Slot.unset).toArray = ls at hl ⊢
  have hl : lv_has ls 10 [(0, .ref a0), (1, .int x6), (2, .int 1), (3, .int 1), (4, .int x11), (5, .int x16)] := hl
  have htab := vx_table (x := yM_finish) B (hts _ List.mem_cons_self)
  refine lv_aload_n hx hb dM_finish_0 rfl (lv_at hl 0 rfl) ?_
  refine lv_iload hx hb dM_finish_1 (lv_at hl 4 rfl) ?_
  obtain ⟨hPc, hDc, hFc⟩ := xcut (wc := [(a0, .inr (5, [v17, .ref a4, .int 0, v18, v19, v20, v21, v22, v23, v24, v25, v26, v27, v28, v29, v30, v31, v32, v33, v34, v35, .ref a5, v36, v37, .ref a1, .ref a2, v38, v39, v40, v41, v42, v43])), (a1, .inl (cT 5, 8, .inr (.inr (.inr (.inr f44))))), (a2, .inl (cT 1, 8, .inl f47)), (a3, .inl (cT 0, 4096, .inl f49)), (a4, .inl (cT 4, 1024, .inr (.inr (.inr (.inr f54)))))]) hP hD hS hA [0, 1, 2, 3, 4] rfl rfl (by decide)
  refine va_callr (va_runV (C := "ValueBenchModel") (As := [.int x11]) (rest := []) ⟨hx, hb, hml, hown, htx⟩ (cM_register_0 l hl9 D cT aK aV s.heap.size a0 a1 a2 a3 a4 x11 v17 v18 v19 v20 v21 v22 v23 v24 v25 v26 v27 v28 v29 v30 v31 v32 v33 v34 v35 (.ref a5) v36 v37 v38 v39 v40 v41 v42 v43 f44 f47 f49 f54 h12 h13 h14 h15 (by first | rfl | exact h45 | exact h46 | exact h48 | exact h50 | exact h51 | exact h52 | exact h53 | exact h55 | exact h56) (by first | rfl | exact h45 | exact h46 | exact h48 | exact h50 | exact h51 | exact h52 | exact h53 | exact h55 | exact h56) (by first | rfl | exact h45 | exact h46 | exact h48 | exact h50 | exact h51 | exact h52 | exact h53 | exact h55 | exact h56) (by first | rfl | exact h45 | exact h46 | exact h48 | exact h50 | exact h51 | exact h52 | exact h53 | exact h55 | exact h56) (by first | rfl | exact h45 | exact h46 | exact h48 | exact h50 | exact h51 | exact h52 | exact h53 | exact h55 | exact h56) (by first | rfl | exact h45 | exact h46 | exact h48 | exact h50 | exact h51 | exact h52 | exact h53 | exact h55 | exact h56) (by first | rfl | exact h45 | exact h46 | exact h48 | exact h50 | exact h51 | exact h52 | exact h53 | exact h55 | exact h56)) ⟨callB_of 1 htx (xw_goodC kw_6_170) rfl rfl rfl (htx _ kw_1_5) (htx _ kw_6_167) ⟨by decide, by decide, by decide +kernel⟩ ⟨Nat.le_of_ble_eq_true rfl, Nat.le_of_ble_eq_true rfl⟩, (htx _ kw_6_169), (htx _ kp_M_register)⟩ ⟨xPre_blind, va_recv hK hP (ci := 5) rfl (q0 := 0) rfl, (fun U hU hW => ⟨rfl, xPre_of hZ hS hFc hPc hDc hK U hU hW⟩)⟩ rfl rfl hl.1 rfl (lv_room (Nat.le_of_ble_eq_true rfl)) dM_finish_3 ⟨Nat.le_of_ble_eq_true rfl, Nat.le_of_ble_eq_true rfl⟩) hS (fun q _ h => hFc q h) hFc (fun u9 r1 t H1 locs ht hvm hr9 hB hz1 hk1 hS => ?_)
  obtain ⟨hP1, hK1, hD1⟩ := hB
  rw [ht] at hP1
  obtain ⟨hP, hD⟩ := xjoin (W := [(a5, .inl (cT 0, 1024, .inl f57)), (a0, .inr (5, [v17, .ref a4, .int 1, v18, v19, v20, v21, v22, v23, v24, v25, v26, v27, v28, v29, .ref a3, .int 4, .int 4, .int 0, .int 100, v35, .ref a5, v36, v37, .ref a1, .ref a2, v38, v39, v40, v41, v42, v43])), (a1, .inl (cT 5, 8, .inr (.inr (.inr (.inr f44))))), (a2, .inl (cT 1, 8, .inl f47)), (a3, .inl (cT 0, 4096, .inl f49)), (a4, .inl (cT 4, 1024, .inr (.inr (.inr (.inr (va_up f54 0 (some r1))))))), (r1, .inr (6, [.int 0, .long 0, .int 0, .int 0, .int 0, .int 1]))]) hP hD [0, 1, 2, 3, 4] [5] 1 rfl rfl (by decide) (by decide) hk1 hFc hP1 hD1
  generalize H1 = H at hP hS ⊢
  refine W.eq (g2 := F0 m 6 ls [.ref r1]) rfl ?_
  refine lv_astore (lv' := [(6, .ref r1), (0, .ref a0), (1, .int x6), (2, .int 1), (3, .int 1), (4, .int x11), (5, .int x16)]) hx hb dM_finish_6 hl (by decide) rfl (fun ls hl => ?_)
  refine lv_iload_n hx hb dM_finish_8 rfl (lv_at hl 3 rfl) ?_
  refine lv_iconst (v := 1) hx hb dM_finish_9 (by decide) ?_
  refine lv_icmp_ne (tgt := 17) hx hb dM_finish_10 (by decide) (fun h => ((by revert h; decide : False)).elim) (fun _ => ?_)
  refine lv_null hx hb dM_finish_13 ?_
  refine lv_goto (tgt := 23) hx hb dM_finish_14 (by decide) ?_
  refine lv_astoreN (lv' := [(7, .null), (6, .ref r1), (0, .ref a0), (1, .int x6), (2, .int 1), (3, .int 1), (4, .int x11), (5, .int x16)]) hx hb dM_finish_23 hl (by decide) rfl (fun ls hl => ?_)
  refine lv_iload_n hx hb dM_finish_25 rfl (lv_at hl 4 rfl) ?_
  refine lv_if_ne (tgt := 43) hx hb dM_finish_26 (by decide) (fun _ => ?_) (fun h => ((by revert h; decide : False)).elim)
  refine lv_iload_n hx hb dM_finish_43 rfl (lv_at hl 4 rfl) ?_
  refine lv_iconst (v := 1) hx hb dM_finish_44 (by decide) ?_
  refine lv_icmp_ne (tgt := 60) hx hb dM_finish_45 (by decide) (fun h => ((by revert h; decide : False)).elim) (fun _ => ?_)
  refine lv_aload_n hx hb dM_finish_48 rfl (lv_at hl 2 rfl) ?_
  refine lv_iload_n hx hb dM_finish_49 rfl (lv_at hl 5 rfl) ?_
  refine lv_aload hx hb dM_finish_50 (lv_at hl 1 rfl) ?_
  obtain ⟨hPc, hDc, hFc⟩ := xcut (wc := [(a0, .inr (5, [v17, .ref a4, .int 1, v18, v19, v20, v21, v22, v23, v24, v25, v26, v27, v28, v29, .ref a3, .int 4, .int 4, .int 0, .int 100, v35, .ref a5, v36, v37, .ref a1, .ref a2, v38, v39, v40, v41, v42, v43])), (r1, .inr (6, [.int 0, .long 0, .int 0, .int 0, .int 0, .int 1])), (a4, .inl (cT 4, 1024, .inr (.inr (.inr (.inr (va_up f54 0 (some r1)))))))]) hP hD hS hA [1, 6, 5] rfl rfl (by decide)
  refine va_callr (va_runV (C := "ValueBenchModel") (As := [.int 1, .ref r1]) (rest := []) ⟨hx, hb, hml, hown, htx⟩ (cM_one1_1 l hl9 D cT aK aV H.size a0 r1 a4 v17 v18 v19 v20 v21 v22 v23 v24 v25 v26 v27 v28 v29 (.ref a3) (.int 4) (.int 4) (.int 0) (.int 100) v35 (.ref a5) v36 v37 (.ref a1) (.ref a2) v38 v39 v40 v41 v42 v43 (.long 0) (.int 0) (.int 0) (.int 0) (.int 1) (va_up f54 0 (some r1)) (by first | rfl | exact h45 | exact h46 | exact h48 | exact h50 | exact h51 | exact h52 | exact h53 | exact h56)) ⟨callB_of 2 htx (xw_goodC kw_6_237) rfl rfl rfl (htx _ kw_1_5) (htx _ kw_6_234) ⟨by decide, by decide, by decide +kernel⟩ ⟨Nat.le_of_ble_eq_true rfl, Nat.le_of_ble_eq_true rfl⟩, (htx _ kw_6_236), (htx _ kp_M_one1)⟩ ⟨xPre_blind, va_recv hK hP (ci := 5) rfl (q0 := 1) rfl, (fun U hU hW => ⟨rfl, xPre_of hZ hS hFc hPc hDc hK U hU hW⟩)⟩ rfl rfl hl.1 rfl (lv_room (Nat.le_of_ble_eq_true rfl)) dM_finish_52 ⟨Nat.le_of_ble_eq_true rfl, Nat.le_of_ble_eq_true rfl⟩) hS (fun q _ h => hFc q h) hFc (fun u9 r2 t H1 locs ht hvm hr9 hB hz1 hk1 hS => ?_)
  obtain ⟨hP1, hK1, hD1⟩ := hB
  rw [ht] at hP1
  obtain ⟨hP, hD⟩ := xjoin (W := [(a5, .inl (cT 0, 1024, .inl f57)), (a1, .inl (cT 5, 8, .inr (.inr (.inr (.inr f44))))), (a2, .inl (cT 1, 8, .inl f47)), (a3, .inl (cT 0, 4096, .inl f49)), (a0, .inr (5, [v17, .ref a4, .int 2, v18, v19, v20, v21, v22, v23, v24, v25, v26, v27, v28, v29, .ref a3, .int 4, .int 4, .int 0, .int 100, v35, .ref a5, v36, v37, .ref a1, .ref a2, v38, v39, v40, v41, v42, v43])), (r1, .inr (6, [.int 0, .long 0, .int 0, .int 0, .int 0, .int 1])), (a4, .inl (cT 4, 1024, .inr (.inr (.inr (.inr (va_up (va_up f54 0 (some r1)) 1 (some r2))))))), (r2, .inr (6, [.int 3, .long 0, .int 0, .int 0, .int 0, .int 1]))]) hP hD [1, 6, 5] [0, 2, 3, 4] 4 rfl rfl (by decide) (by decide) hk1 hFc hP1 hD1
  generalize H1 = H at hP hS ⊢
  refine W.eq (g2 := F0 m 55 ls [.ref r2]) rfl ?_
  refine lv_astore (lv' := [(8, .ref r2), (7, .null), (6, .ref r1), (0, .ref a0), (1, .int x6), (2, .int 1), (3, .int 1), (4, .int x11), (5, .int x16)]) hx hb dM_finish_55 hl (by decide) rfl (fun ls hl => ?_)
  refine lv_goto (tgt := 119) hx hb dM_finish_57 (by decide) ?_
  refine lv_aload_n hx hb dM_finish_119 rfl (lv_at hl 3 rfl) ?_
  refine lv_iload_n hx hb dM_finish_120 rfl (lv_at hl 4 rfl) ?_
  refine lv_aload hx hb dM_finish_121 (lv_at hl 0 rfl) ?_
  obtain ⟨hPc, hDc, hFc⟩ := xcut (wc := [(a0, .inr (5, [v17, .ref a4, .int 2, v18, v19, v20, v21, v22, v23, v24, v25, v26, v27, v28, v29, .ref a3, .int 4, .int 4, .int 0, .int 100, v35, .ref a5, v36, v37, .ref a1, .ref a2, v38, v39, v40, v41, v42, v43])), (r2, .inr (6, [.int 3, .long 0, .int 0, .int 0, .int 0, .int 1])), (a5, .inl (cT 0, 1024, .inl f57)), (a1, .inl (cT 5, 8, .inr (.inr (.inr (.inr f44))))), (a3, .inl (cT 0, 4096, .inl f49)), (a2, .inl (cT 1, 8, .inl f47))]) hP hD hS hA [4, 7, 0, 1, 3, 2] rfl rfl (by decide)
  refine va_calli (va_runV (C := "ValueBenchModel") (As := [.int x6, .ref r2]) (rest := []) ⟨hx, hb, hml, hown, htx⟩ (cM_store_1 l hl9 D cT aK aV H.size a0 r2 a5 a1 a3 a2 x6 v17 (.ref a4) (.int 2) v18 v19 v20 v21 v22 v23 v24 v25 v26 v27 v28 v29 (.ref a3) (.int 4) (.int 4) (.int 0) (.int 100) v35 v36 v37 v38 v39 v40 v41 v42 v43 (.int 0) (.int 0) (.int 0) (.int 1) f57 f44 f49 f47 h7 h8 h9 h10 (by first | rfl | exact h45 | exact h46 | exact h48 | exact h50 | exact h51 | exact h52 | exact h53)) ⟨callB_of 2 htx (xw_goodC kw_6_124) rfl rfl rfl (htx _ kw_1_5) (htx _ kw_6_121) ⟨by decide, by decide, by decide +kernel⟩ ⟨Nat.le_of_ble_eq_true rfl, Nat.le_of_ble_eq_true rfl⟩, (htx _ kw_6_123), (htx _ kp_M_store)⟩ ⟨xPre_blind, va_recv hK hP (ci := 5) rfl (q0 := 4) rfl, (fun U hU hW => ⟨rfl, xPre_of hZ hS hFc hPc hDc hK U hU hW⟩)⟩ rfl rfl hl.1 rfl (lv_room (Nat.le_of_ble_eq_true rfl)) dM_finish_123 ⟨Nat.le_of_ble_eq_true rfl, Nat.le_of_ble_eq_true rfl⟩) hS (fun q _ h => hFc q h) hFc (fun r3 u9 t H1 locs ht hvm hr9 hB hz1 hk1 hS => ?_)
  obtain ⟨y4, hP1, hK1, hD1⟩ := hB
  rw [ht] at hP1
  obtain ⟨hP, hD⟩ := xjoin (W := [(r1, .inr (6, [.int 0, .long 0, .int 0, .int 0, .int 0, .int 1])), (a4, .inl (cT 4, 1024, .inr (.inr (.inr (.inr (va_up (va_up f54 0 (some r1)) 1 (some r2))))))), (a0, .inr (5, [v17, .ref a4, .int 2, v18, v19, v20, v21, v22, v23, v24, v25, v26, v27, v28, v29, .ref a3, .int 4, .int 4, .int 0, .int 100, v35, .ref a5, .int 1, .int 4096, .ref a1, .ref a2, v38, v39, v40, v41, v42, v43])), (r2, .inr (6, [.int 3, .long 0, .int 0, .int 0, .int 0, .int 1])), (a5, .inl (cT 0, 1024, .inl (upd f57 0 (vp_nar .byte y4)))), (a1, .inl (cT 5, 8, .inr (.inr (.inr (.inr f44))))), (a3, .inl (cT 0, 4096, .inl (upd f49 0 (vp_nar .byte (vp_nar .byte y4))))), (a2, .inl (cT 1, 8, .inl (upd f47 x6.toNatClampNeg 1)))]) hP hD [4, 7, 0, 1, 3, 2] [5, 6] 2 rfl rfl (by decide) (by decide) hk1 hFc hP1 hD1
  generalize H1 = H at hP hS ⊢
  rw [hr9]
  refine W.eq (g2 := F0 m 126 ls [.int 1]) rfl ?_
  refine lv_istore (lv' := [(9, .int 1), (8, .ref r2), (7, .null), (6, .ref r1), (0, .ref a0), (1, .int x6), (2, .int 1), (3, .int 1), (4, .int x11), (5, .int x16)]) hx hb dM_finish_126 hl (by decide) rfl (fun ls hl => ?_)
  refine lv_goto (tgt := 156) hx hb dM_finish_128 (by decide) ?_
  obtain ⟨hP9, hD9⟩ := xsub (wc := [(a0, .inr (5, [v17, .ref a4, .int 2, v18, v19, v20, v21, v22, v23, v24, v25, v26, v27, v28, v29, .ref a3, .int 4, .int 4, .int 0, .int 100, v35, .ref a5, .int 1, .int 4096, .ref a1, .ref a2, v38, v39, v40, v41, v42, v43])), (a1, .inl (cT 5, 8, .inr (.inr (.inr (.inr f44))))), (a2, .inl (cT 1, 8, .inl (upd f47 x6.toNatClampNeg 1))), (a3, .inl (cT 0, 4096, .inl (upd f49 0 (vp_nar .byte (vp_nar .byte y4))))), (a4, .inl (cT 4, 1024, .inr (.inr (.inr (.inr (va_up (va_up f54 0 (some r1)) 1 (some r2))))))), (a5, .inl (cT 0, 1024, .inl (upd f57 0 (vp_nar .byte y4)))), (r1, .inr (6, [.int 0, .long 0, .int 0, .int 0, .int 0, .int 1])), (r2, .inr (6, [.int 3, .long 0, .int 0, .int 0, .int 0, .int 1]))]) hP hD [2, 5, 7, 6, 1, 4, 0, 3] rfl rfl (by decide)
  refine W.widen (k := 2) (n := 12) (Nat.le_of_ble_eq_true rfl) (Nat.le_of_ble_eq_true rfl) ?_
  exact W.vret hx hb hr (fun t ht hW => ⟨⟨(), rfl, trivial, r1, r2, y4, by rw [ht]; exact hP9, va_K.moved hW.alike hK, hD9⟩, hS.F ht⟩) hS.2.2 dM_finish_156
set_option maxHeartbeats 400000000 in
set_option maxRecDepth 100000 in
theorem cM_one0_3 (l : Launch) (hl9 : l.stackTraces = false) (D : va_G) (cT : Nat → ClassId) (aK aV : Nat → Nat) (sz : Nat) (a0 : Nat) (a1 : Nat) (a2 : Nat) (a3 : Nat) (a4 : Nat) (a5 : Nat) (x6 : Int32) (x11 : Int32) (v16 : Value) (v17 : Value) (v18 : Value) (v19 : Value) (v20 : Value) (v21 : Value) (v22 : Value) (v23 : Value) (v24 : Value) (v25 : Value) (v26 : Value) (v27 : Value) (v28 : Value) (v29 : Value) (v30 : Value) (v31 : Value) (v32 : Value) (v33 : Value) (v34 : Value) (v35 : Value) (v36 : Value) (v37 : Value) (v38 : Value) (v39 : Value) (v40 : Value) (v41 : Value) (v42 : Value) (v43 : Value) (f44 : Nat → Option Nat) (f47 : Nat → Int32) (f49 : Nat → Int32) (f54 : Nat → Option Nat) (f57 : Nat → Int32) (h7 : ¬ x6 < 0) (h8 : ¬ 7 < x6) (h9 : x6 ≤ 7) (h10 : vp_in x6 8) (h12 : ¬ x11 < 0) (h13 : ¬ 7 < x11) (h14 : x11 ≤ 7) (h15 : vp_in x11 8) (h45 : f44 x11.toNatClampNeg = some a3) (h46 : f44 x6.toNatClampNeg = some a3) (h48 : f47 x11.toNatClampNeg = 4) (h50 : f49 0 = 110) (h51 : f49 1 = 117) (h52 : f49 2 = 108) (h53 : f49 3 = 108) (h55 : f54 0 = none) (h56 : f54 1 = none) : xMet l yM_one0 wyM_one0 9 2 12 204 D cT aK aV sz [.ref a0, .int x6, .int 1, .int x11] [(a0, .inr (5, [v16, .ref a4, v17, v18, v19, v20, v21, v22, v23, v24, v25, v26, v27, v28, v29, v30, v31, v32, v33, v34, v35, .ref a5, v36, v37, .ref a1, .ref a2, v38, v39, v40, v41, v42, v43])), (a1, .inl (cT 5, 8, .inr (.inr (.inr (.inr f44))))), (a2, .inl (cT 1, 8, .inl f47)), (a3, .inl (cT 0, 4096, .inl f49)), (a4, .inl (cT 4, 1024, .inr (.inr (.inr (.inr f54))))), (a5, .inl (cT 0, 1024, .inl f57))] (fun A => va_Qv (fun _ : Unit => True) (fun _ t => ∃ (q3 : Nat) (q4 : Nat) (y5 : Int32), xB D xcl cT A [(a0, .inr (5, [.int 0, .ref a4, .int 2, v18, .int 0, v20, v21, .int 0, v23, .int 0, v25, v26, .int 0, v28, v29, .ref a3, .int 4, .int 4, .int 0, .int 100, v35, .ref a5, .int 1, .int 4096, .ref a1, .ref a2, v38, v39, v40, v41, v42, v43])), (a1, .inl (cT 5, 8, .inr (.inr (.inr (.inr f44))))), (a2, .inl (cT 1, 8, .inl (upd f47 x6.toNatClampNeg 1))), (a3, .inl (cT 0, 4096, .inl (upd f49 0 (vp_nar .byte (vp_nar .byte y5))))), (a4, .inl (cT 4, 1024, .inr (.inr (.inr (.inr (va_up (va_up f54 0 (some q3)) 1 (some q4))))))), (a5, .inl (cT 0, 1024, .inl (upd f57 0 (vp_nar .byte y5)))), (q3, .inr (6, [.int 0, .long 0, .int 0, .int 0, .int 0, .int 1])), (q4, .inr (6, [.int 3, .long 0, .int 0, .int 0, .int 0, .int 1]))] t) A) := by
  refine Met.ofW (cc := prog_13_method_92_code) (maxL := 4) (ret := none) (by decide) rfl ?_
  intro p e s m args below meth c s₁ B hml hv
  obtain ⟨rfl, hsz, hZ, hP, hK, hD0⟩ := hv
  have hx := B.exec
  have hb := B.bytes
  have hr := B.returns
  have hts := atoms_spec (ws := wyM_one0) B.pre
  have htx := fun w h => hts w (List.mem_cons_of_mem _ h)
  have hown : s.vm.findClass "ValueBenchModel" = some m.cls := findClass_of_methodNamed B.named
  have hlocks := B.notSynchronized
  subst hsz
  have hD := hD0.self (sz := s.heap.size)
  generalize hAe : va_A [(a0, .inr (5, [v16, .ref a4, v17, v18, v19, v20, v21, v22, v23, v24, v25, v26, v27, v28, v29, v30, v31, v32, v33, v34, v35, .ref a5, v36, v37, .ref a1, .ref a2, v38, v39, v40, v41, v42, v43])), (a1, .inl (cT 5, 8, .inr (.inr (.inr (.inr f44))))), (a2, .inl (cT 1, 8, .inl f47)), (a3, .inl (cT 0, 4096, .inl f49)), (a4, .inl (cT 4, 1024, .inr (.inr (.inr (.inr f54))))), (a5, .inl (cT 0, 1024, .inl f57))] s.heap.size = A at hD hZ ⊢
  have hA : ∀ q : Nat, s.heap.size ≤ q → A q := fun q h => by rw [← hAe]; exact Or.inr h
  have hS : va_S A s.heap s.heap [] := va_S.rf
  have hP : va_P D xcl [(a0, .inr (5, [v16, .ref a4, v17, v18, v19, v20, v21, v22, v23, v24, v25, v26, v27, v28, v29, v30, v31, v32, v33, v34, v35, .ref a5, v36, v37, .ref a1, .ref a2, v38, v39, v40, v41, v42, v43])), (a1, .inl (cT 5, 8, .inr (.inr (.inr (.inr f44))))), (a2, .inl (cT 1, 8, .inl f47)), (a3, .inl (cT 0, 4096, .inl f49)), (a4, .inl (cT 4, 1024, .inr (.inr (.inr (.inr f54))))), (a5, .inl (cT 0, 1024, .inl f57))] s.heap := hP
  have hl := lv_entry ([.ref a0, .int x6, .int 1, .int x11]) (n := 4) (Nat.le_of_ble_eq_true rfl)
  rw [lg_entry_eq]
  generalize (lg_sl ([.ref a0, .int x6, .int 1, .int x11]) ++ List.replicate (4 - (lg_sl ([.ref a0, .int x6, .int 1, .int x11])).length) Slot.unset).toArray = ls at hl ⊢
  have hl : lv_has ls 4 [(0, .ref a0), (1, .int x6), (2, .int 1), (3, .int x11)] := hl
  refine lv_aload_n hx hb dM_one0_0 rfl (lv_at hl 0 rfl) ?_
  obtain ⟨hPc, hDc, hFc⟩ := xcut (wc := [(a0, .inr (5, [v16, .ref a4, v17, v18, v19, v20, v21, v22, v23, v24, v25, v26, v27, v28, v29, v30, v31, v32, v33, v34, v35, .ref a5, v36, v37, .ref a1, .ref a2, v38, v39, v40, v41, v42, v43]))]) hP hD hS hA [0] rfl rfl (by decide)
  refine va_callv (va_runV (C := "ValueBenchModel") (As := []) (rest := []) ⟨hx, hb, hml, hown, htx⟩ (cM_begin_0 l hl9 D cT aK aV s.heap.size a0 v16 (.ref a4) v17 v18 v19 v20 v21 v22 v23 v24 v25 v26 v27 v28 v29 v30 v31 v32 v33 v34 v35 (.ref a5) v36 v37 (.ref a1) (.ref a2) v38 v39 v40 v41 v42 v43) ⟨callB_of 0 htx (xw_goodC kw_5_209) rfl rfl rfl (htx _ kw_1_5) (htx _ kw_5_206) ⟨by decide, by decide, by decide +kernel⟩ ⟨Nat.le_of_ble_eq_true rfl, Nat.le_of_ble_eq_true rfl⟩, (htx _ kw_5_208), (htx _ kp_M_begin)⟩ ⟨xPre_blind, va_recv hK hP (ci := 5) rfl (q0 := 0) rfl, (fun U hU hW => ⟨rfl, xPre_of hZ hS hFc hPc hDc hK U hU hW⟩)⟩ rfl rfl hl.1 rfl (lv_room (Nat.le_of_ble_eq_true rfl)) dM_one0_1 ⟨Nat.le_of_ble_eq_true rfl, Nat.le_of_ble_eq_true rfl⟩) hS (fun q _ h => hFc q h) hFc (fun u9 t H1 locs ht hvm hr9 hB hz1 hk1 hS => ?_)
  obtain ⟨hP1, hK1, hD1⟩ := hB
  rw [ht] at hP1
  obtain ⟨hP, hD⟩ := xjoin (W := [(a1, .inl (cT 5, 8, .inr (.inr (.inr (.inr f44))))), (a2, .inl (cT 1, 8, .inl f47)), (a3, .inl (cT 0, 4096, .inl f49)), (a4, .inl (cT 4, 1024, .inr (.inr (.inr (.inr f54))))), (a5, .inl (cT 0, 1024, .inl f57)), (a0, .inr (5, [.int 0, .ref a4, .int 0, v18, .int 0, v20, v21, .int 0, v23, .int 0, v25, v26, .int 0, v28, v29, v30, v31, v32, v33, v34, v35, .ref a5, .int 0, .int 1000000000, .ref a1, .ref a2, v38, v39, v40, v41, v42, v43]))]) hP hD [0] [1, 2, 3, 4, 5] 5 rfl rfl (by decide) (by decide) hk1 hFc hP1 hD1
  generalize H1 = H at hP hS ⊢
  refine lv_aload_n hx hb dM_one0_4 rfl (lv_at hl 0 rfl) ?_
  refine lv_iload_n hx hb dM_one0_5 rfl (lv_at hl 1 rfl) ?_
  obtain ⟨hPc, hDc, hFc⟩ := xcut (wc := []) hP hD hS hA [] rfl rfl (by decide)
  refine va_calli (va_runV (C := "ValueBenchModel") (As := [.int x6]) (rest := []) ⟨hx, hb, hml, hown, htx⟩ (cM_out_0 l hl9 D cT aK aV H.size a0 x6 h7 h8 h9 h10) ⟨callB_of 1 htx (xw_goodC kw_5_217) rfl rfl rfl (htx _ kw_1_5) (htx _ kw_5_214) ⟨by decide, by decide, by decide +kernel⟩ ⟨Nat.le_of_ble_eq_true rfl, Nat.le_of_ble_eq_true rfl⟩, (htx _ kw_5_216), (htx _ kp_M_out)⟩ ⟨xPre_blind, va_recv hK hP (ci := 5) rfl (q0 := 5) rfl, (fun U hU hW => ⟨rfl, xPre_of hZ hS hFc hPc hDc hK U hU hW⟩)⟩ rfl rfl hl.1 rfl (lv_room (Nat.le_of_ble_eq_true rfl)) dM_one0_6 ⟨Nat.le_of_ble_eq_true rfl, Nat.le_of_ble_eq_true rfl⟩) hS (fun q _ h => hFc q h) hFc (fun r1 u9 t H1 locs ht hvm hr9 hB hz1 hk1 hS => ?_)
  obtain ⟨hP1, hK1, hD1⟩ := hB
  rw [ht] at hP1
  obtain ⟨hP, hD⟩ := xjoin (W := [(a1, .inl (cT 5, 8, .inr (.inr (.inr (.inr f44))))), (a2, .inl (cT 1, 8, .inl f47)), (a3, .inl (cT 0, 4096, .inl f49)), (a4, .inl (cT 4, 1024, .inr (.inr (.inr (.inr f54))))), (a5, .inl (cT 0, 1024, .inl f57)), (a0, .inr (5, [.int 0, .ref a4, .int 0, v18, .int 0, v20, v21, .int 0, v23, .int 0, v25, v26, .int 0, v28, v29, v30, v31, v32, v33, v34, v35, .ref a5, .int 0, .int 1000000000, .ref a1, .ref a2, v38, v39, v40, v41, v42, v43]))]) hP hD [] [0, 1, 2, 3, 4, 5] 6 rfl rfl (by decide) (by decide) hk1 hFc hP1 hD1
  generalize H1 = H at hP hS ⊢
  rw [hr9]
  refine W.eq (g2 := F0 m 9 ls [.int 0]) rfl ?_
  refine lv_if_ne (tgt := 30) hx hb dM_one0_9 (by decide) (fun h => ((by revert h; decide : False)).elim) (fun _ => ?_)
  refine lv_iload_n hx hb dM_one0_12 rfl (lv_at hl 2 rfl) ?_
  refine lv_if_lt (tgt := 30) hx hb dM_one0_13 (by decide) (fun h => ((by revert h; decide : False)).elim) (fun _ => ?_)
  refine lv_iload_n hx hb dM_one0_16 rfl (lv_at hl 2 rfl) ?_
  refine lv_bipush (v := 13) hx hb dM_one0_17 (by decide) ?_
  refine lv_icmp_gt (tgt := 30) hx hb dM_one0_19 (by decide) (fun h => ((by revert h; decide : False)).elim) (fun _ => ?_)
  refine lv_aload_n hx hb dM_one0_22 rfl (lv_at hl 0 rfl) ?_
  refine lv_iload_n hx hb dM_one0_23 rfl (lv_at hl 3 rfl) ?_
  obtain ⟨hPc, hDc, hFc⟩ := xcut (wc := []) hP hD hS hA [] rfl rfl (by decide)
  refine va_calli (va_runV (C := "ValueBenchModel") (As := [.int x11]) (rest := []) ⟨hx, hb, hml, hown, htx⟩ (cM_out_0 l hl9 D cT aK aV H.size a0 x11 h12 h13 h14 h15) ⟨callB_of 1 htx (xw_goodC kw_5_217) rfl rfl rfl (htx _ kw_1_5) (htx _ kw_5_214) ⟨by decide, by decide, by decide +kernel⟩ ⟨Nat.le_of_ble_eq_true rfl, Nat.le_of_ble_eq_true rfl⟩, (htx _ kw_5_216), (htx _ kp_M_out)⟩ ⟨xPre_blind, va_recv hK hP (ci := 5) rfl (q0 := 5) rfl, (fun U hU hW => ⟨rfl, xPre_of hZ hS hFc hPc hDc hK U hU hW⟩)⟩ rfl rfl hl.1 rfl (lv_room (Nat.le_of_ble_eq_true rfl)) dM_one0_24 ⟨Nat.le_of_ble_eq_true rfl, Nat.le_of_ble_eq_true rfl⟩) hS (fun q _ h => hFc q h) hFc (fun r2 u9 t H1 locs ht hvm hr9 hB hz1 hk1 hS => ?_)
  obtain ⟨hP1, hK1, hD1⟩ := hB
  rw [ht] at hP1
  obtain ⟨hP, hD⟩ := xjoin (W := [(a1, .inl (cT 5, 8, .inr (.inr (.inr (.inr f44))))), (a2, .inl (cT 1, 8, .inl f47)), (a3, .inl (cT 0, 4096, .inl f49)), (a4, .inl (cT 4, 1024, .inr (.inr (.inr (.inr f54))))), (a5, .inl (cT 0, 1024, .inl f57)), (a0, .inr (5, [.int 0, .ref a4, .int 0, v18, .int 0, v20, v21, .int 0, v23, .int 0, v25, v26, .int 0, v28, v29, v30, v31, v32, v33, v34, v35, .ref a5, .int 0, .int 1000000000, .ref a1, .ref a2, v38, v39, v40, v41, v42, v43]))]) hP hD [] [0, 1, 2, 3, 4, 5] 6 rfl rfl (by decide) (by decide) hk1 hFc hP1 hD1
  generalize H1 = H at hP hS ⊢
  rw [hr9]
  refine W.eq (g2 := F0 m 27 ls [.int 0]) rfl ?_
  refine lv_if_eq (tgt := 38) hx hb dM_one0_27 (by decide) (fun _ => ?_) (fun h => ((by revert h; decide : False)).elim)
  refine lv_aload_n hx hb dM_one0_38 rfl (lv_at hl 0 rfl) ?_
  refine lv_iload_n hx hb dM_one0_39 rfl (lv_at hl 1 rfl) ?_
  refine lv_iconst (v := 1) hx hb dM_one0_40 (by decide) ?_
  refine lv_iload_n hx hb dM_one0_41 rfl (lv_at hl 2 rfl) ?_
  refine lv_iload_n hx hb dM_one0_42 rfl (lv_at hl 3 rfl) ?_
  refine lv_iload_n hx hb dM_one0_43 rfl (lv_at hl 3 rfl) ?_
  obtain ⟨hPc, hDc, hFc⟩ := xcut (wc := [(a0, .inr (5, [.int 0, .ref a4, .int 0, v18, .int 0, v20, v21, .int 0, v23, .int 0, v25, v26, .int 0, v28, v29, v30, v31, v32, v33, v34, v35, .ref a5, .int 0, .int 1000000000, .ref a1, .ref a2, v38, v39, v40, v41, v42, v43])), (a1, .inl (cT 5, 8, .inr (.inr (.inr (.inr f44))))), (a2, .inl (cT 1, 8, .inl f47)), (a3, .inl (cT 0, 4096, .inl f49)), (a4, .inl (cT 4, 1024, .inr (.inr (.inr (.inr f54))))), (a5, .inl (cT 0, 1024, .inl f57))]) hP hD hS hA [5, 0, 1, 2, 3, 4] rfl rfl (by decide)
  refine va_callv (vx_runVW (C := "ValueBenchModel") (As := [.int x6, .int 1, .int 1, .int x11, .int x11]) (rest := []) ⟨hx, hb, hml, hown, htx⟩ (cM_finish_3 l hl9 D cT aK aV H.size a0 a1 a2 a3 a4 a5 x6 x11 x11 (.int 0) v18 (.int 0) v20 v21 (.int 0) v23 (.int 0) v25 v26 (.int 0) v28 v29 v30 v31 v32 v33 v34 v35 (.int 0) (.int 1000000000) v38 v39 v40 v41 v42 v43 f44 f47 f49 f54 f57 h7 h8 h9 h10 h12 h13 h14 h15 (by first | rfl | exact h45 | exact h46 | exact h48 | exact h50 | exact h51 | exact h52 | exact h53 | exact h55 | exact h56) (by first | rfl | exact h45 | exact h46 | exact h48 | exact h50 | exact h51 | exact h52 | exact h53 | exact h55 | exact h56) (by first | rfl | exact h45 | exact h46 | exact h48 | exact h50 | exact h51 | exact h52 | exact h53 | exact h55 | exact h56) (by first | rfl | exact h45 | exact h46 | exact h48 | exact h50 | exact h51 | exact h52 | exact h53 | exact h55 | exact h56) (by first | rfl | exact h45 | exact h46 | exact h48 | exact h50 | exact h51 | exact h52 | exact h53 | exact h55 | exact h56) (by first | rfl | exact h45 | exact h46 | exact h48 | exact h50 | exact h51 | exact h52 | exact h53 | exact h55 | exact h56) (by first | rfl | exact h45 | exact h46 | exact h48 | exact h50 | exact h51 | exact h52 | exact h53 | exact h55 | exact h56) (by first | rfl | exact h45 | exact h46 | exact h48 | exact h50 | exact h51 | exact h52 | exact h53 | exact h55 | exact h56) (by first | rfl | exact h45 | exact h46 | exact h48 | exact h50 | exact h51 | exact h52 | exact h53 | exact h55 | exact h56)) (xcVW 5 htx (xw_goodC kw_6_195) rfl rfl rfl (htx _ kw_1_5) (htx _ kw_6_192) ⟨by decide, by decide, by decide +kernel⟩ ⟨Nat.le_of_ble_eq_true rfl, Nat.le_of_ble_eq_true rfl⟩ (htx _ kw_6_194) (htx _ kp_M_finish)) ⟨xPre_blind, va_recv hK hP (ci := 5) rfl (q0 := 5) rfl, (fun U hU hW => ⟨rfl, xPre_of hZ hS hFc hPc hDc hK U hU hW⟩)⟩ rfl rfl hl.1 rfl (lv_room (Nat.le_of_ble_eq_true rfl)) dM_one0_44 ⟨Nat.le_of_ble_eq_true rfl, Nat.le_of_ble_eq_true rfl⟩) hS (fun q _ h => hFc q h) hFc (fun u9 t H1 locs ht hvm hr9 hB hz1 hk1 hS => ?_)
  obtain ⟨q3, q4, y5, hP1, hK1, hD1⟩ := hB
  rw [ht] at hP1
  obtain ⟨hP, hD⟩ := xjoin (W := [(a0, .inr (5, [.int 0, .ref a4, .int 2, v18, .int 0, v20, v21, .int 0, v23, .int 0, v25, v26, .int 0, v28, v29, .ref a3, .int 4, .int 4, .int 0, .int 100, v35, .ref a5, .int 1, .int 4096, .ref a1, .ref a2, v38, v39, v40, v41, v42, v43])), (a1, .inl (cT 5, 8, .inr (.inr (.inr (.inr f44))))), (a2, .inl (cT 1, 8, .inl (upd f47 x6.toNatClampNeg 1))), (a3, .inl (cT 0, 4096, .inl (upd f49 0 (vp_nar .byte (vp_nar .byte y5))))), (a4, .inl (cT 4, 1024, .inr (.inr (.inr (.inr (va_up (va_up f54 0 (some q3)) 1 (some q4))))))), (a5, .inl (cT 0, 1024, .inl (upd f57 0 (vp_nar .byte y5)))), (q3, .inr (6, [.int 0, .long 0, .int 0, .int 0, .int 0, .int 1])), (q4, .inr (6, [.int 3, .long 0, .int 0, .int 0, .int 0, .int 1]))]) hP hD [5, 0, 1, 2, 3, 4] [] 0 rfl rfl (by decide) (by decide) hk1 hFc hP1 hD1
  generalize H1 = H at hP hS ⊢
  obtain ⟨hP9, hD9⟩ := xsub (wc := [(a0, .inr (5, [.int 0, .ref a4, .int 2, v18, .int 0, v20, v21, .int 0, v23, .int 0, v25, v26, .int 0, v28, v29, .ref a3, .int 4, .int 4, .int 0, .int 100, v35, .ref a5, .int 1, .int 4096, .ref a1, .ref a2, v38, v39, v40, v41, v42, v43])), (a1, .inl (cT 5, 8, .inr (.inr (.inr (.inr f44))))), (a2, .inl (cT 1, 8, .inl (upd f47 x6.toNatClampNeg 1))), (a3, .inl (cT 0, 4096, .inl (upd f49 0 (vp_nar .byte (vp_nar .byte y5))))), (a4, .inl (cT 4, 1024, .inr (.inr (.inr (.inr (va_up (va_up f54 0 (some q3)) 1 (some q4))))))), (a5, .inl (cT 0, 1024, .inl (upd f57 0 (vp_nar .byte y5)))), (q3, .inr (6, [.int 0, .long 0, .int 0, .int 0, .int 0, .int 1])), (q4, .inr (6, [.int 3, .long 0, .int 0, .int 0, .int 0, .int 1]))]) hP hD [0, 1, 2, 3, 4, 5, 6, 7] rfl rfl (by decide)
  refine W.widen (k := 2) (n := 12) (Nat.le_of_ble_eq_true rfl) (Nat.le_of_ble_eq_true rfl) ?_
  exact W.vret hx hb hr (fun t ht hW => ⟨⟨(), rfl, trivial, q3, q4, y5, by rw [ht]; exact hP9, va_K.moved hW.alike hK, hD9⟩, hS.F ht⟩) hS.2.2 dM_one0_47
set_option maxHeartbeats 400000000 in
set_option maxRecDepth 100000 in
theorem cM_fresh_4 (l : Launch) (hl9 : l.stackTraces = false) (D : va_G) (cT : Nat → ClassId) (aK aV : Nat → Nat) (sz : Nat) (a0 : Nat) (a1 : Nat) (v2 : Value) (v3 : Value) (v4 : Value) (v5 : Value) (v6 : Value) (v7 : Value) (v8 : Value) (v9 : Value) (v10 : Value) (v11 : Value) (v12 : Value) (v13 : Value) (v14 : Value) (v15 : Value) (v16 : Value) (v17 : Value) (v18 : Value) (v19 : Value) (v20 : Value) (v21 : Value) (v22 : Value) (v23 : Value) (v24 : Value) (v25 : Value) (v26 : Value) (v27 : Value) (v28 : Value) (v29 : Value) (v30 : Value) (v31 : Value) (f32 : Nat → Option Nat) (h33 : f32 0 = none) : xMet l yM_fresh wyM_fresh 2 1 6 32 D cT aK aV sz [.ref a0, .int 0] [(a0, .inr (5, [v2, .ref a1, .int 0, v3, v4, v5, v6, v7, v8, v9, v10, v11, v12, v13, v14, v15, v16, v17, v18, v19, v20, v21, v22, v23, v24, v25, v26, v27, v28, v29, v30, v31])), (a1, .inl (cT 4, 1024, .inr (.inr (.inr (.inr f32)))))] (fun A => va_Qr (fun _ : Unit => True) (fun _ q1 t => xB D xcl cT A [(a0, .inr (5, [v2, .ref a1, .int 1, v3, v4, v5, v6, v7, v8, v9, v10, v11, v12, v13, v14, v15, v16, v17, v18, v19, v20, v21, v22, v23, v24, v25, v26, v27, v28, v29, v30, v31])), (a1, .inl (cT 4, 1024, .inr (.inr (.inr (.inr (va_up f32 0 (some q1))))))), (q1, .inr (6, [.int 0, .long 0, .int 0, .int 0, .int 0, .int 1]))] t) A) := by
  refine Met.ofW (cc := prog_13_method_6_code) (maxL := 4) (ret := (some (.object "ValueBenchModel$V"))) (by decide) rfl ?_
  intro p e s m args below meth c s₁ B hml hv
  obtain ⟨rfl, hsz, hZ, hP, hK, hD0⟩ := hv
  have hx := B.exec
  have hb := B.bytes
  have hr := B.returns
  have hts := atoms_spec (ws := wyM_fresh) B.pre
  have htx := fun w h => hts w (List.mem_cons_of_mem _ h)
  have hown : s.vm.findClass "ValueBenchModel" = some m.cls := findClass_of_methodNamed B.named
  have hlocks := B.notSynchronized
  subst hsz
  have hD := hD0.self (sz := s.heap.size)
  generalize hAe : va_A [(a0, .inr (5, [v2, .ref a1, .int 0, v3, v4, v5, v6, v7, v8, v9, v10, v11, v12, v13, v14, v15, v16, v17, v18, v19, v20, v21, v22, v23, v24, v25, v26, v27, v28, v29, v30, v31])), (a1, .inl (cT 4, 1024, .inr (.inr (.inr (.inr f32)))))] s.heap.size = A at hD hZ ⊢
  have hA : ∀ q : Nat, s.heap.size ≤ q → A q := fun q h => by rw [← hAe]; exact Or.inr h
  have hS : va_S A s.heap s.heap [] := va_S.rf
  have hP : va_P D xcl [(a0, .inr (5, [v2, .ref a1, .int 0, v3, v4, v5, v6, v7, v8, v9, v10, v11, v12, v13, v14, v15, v16, v17, v18, v19, v20, v21, v22, v23, v24, v25, v26, v27, v28, v29, v30, v31])), (a1, .inl (cT 4, 1024, .inr (.inr (.inr (.inr f32)))))] s.heap := hP
  have hl := lv_entry ([.ref a0, .int 0]) (n := 4) (Nat.le_of_ble_eq_true rfl)
  rw [lg_entry_eq]
  generalize (lg_sl ([.ref a0, .int 0]) ++ List.replicate (4 - (lg_sl ([.ref a0, .int 0])).length) Slot.unset).toArray = ls at hl ⊢
  have hl : lv_has ls 4 [(0, .ref a0), (1, .int 0)] := hl
  refine lv_aload_n hx hb dM_fresh_0 rfl (lv_at hl 0 rfl) ?_
  refine va_get (D := D) (ci := 5) (v := .int 0) (C := "ValueBenchModel") (T := TM) (N := 32) hx hb htx inM hown hK hP 0 rfl rfl 2 (by decide) (htx _ kw_5_89) (fun _ h9 => h9) rfl dM_fresh_1 ?_
  refine lv_aload_n hx hb dM_fresh_4 rfl (lv_at hl 0 rfl) ?_
  refine va_get (D := D) (ci := 5) (v := .ref a1) (C := "ValueBenchModel") (T := TM) (N := 32) hx hb htx inM hown hK hP 0 rfl rfl 1 (by decide) (htx _ kw_5_88) (fun _ h9 => h9) rfl dM_fresh_5 ?_
  refine va_alen (v := 1024) hx hb hK hP 1 4 rfl rfl rfl dM_fresh_8 ?_
  refine lv_icmp_ne (tgt := 52) hx hb dM_fresh_9 (by decide) (fun _ => ?_) (fun h => ((by revert h; decide : False)).elim)
  refine lv_aload_n hx hb dM_fresh_52 rfl (lv_at hl 0 rfl) ?_
  refine va_get (D := D) (ci := 5) (v := .ref a1) (C := "ValueBenchModel") (T := TM) (N := 32) hx hb htx inM hown hK hP 0 rfl rfl 1 (by decide) (htx _ kw_5_88) (fun _ h9 => h9) rfl dM_fresh_53 ?_
  refine lv_aload_n hx hb dM_fresh_56 rfl (lv_at hl 0 rfl) ?_
  refine va_get (D := D) (ci := 5) (v := .int 0) (C := "ValueBenchModel") (T := TM) (N := 32) hx hb htx inM hown hK hP 0 rfl rfl 2 (by decide) (htx _ kw_5_89) (fun _ h9 => h9) rfl dM_fresh_57 ?_
  refine va_aldq hx hb hK hP 1 4 rfl rfl (show ¬ ((0 : Int32) < 0 ∨ 1024 ≤ (0 : Int32).toNatClampNeg) by decide) dM_fresh_60 ?_
  refine W.eq (g2 := F0 m 61 ls [va_rf (f32 0)]) rfl ?_
  rw [h33]
  refine W.eq (g2 := F0 m 61 ls [.null]) rfl ?_
  refine lv_ifnonnullN hx hb dM_fresh_61 ?_
  refine lv_aload_n hx hb dM_fresh_64 rfl (lv_at hl 0 rfl) ?_
  refine va_get (D := D) (ci := 5) (v := .ref a1) (C := "ValueBenchModel") (T := TM) (N := 32) hx hb htx inM hown hK hP 0 rfl rfl 1 (by decide) (htx _ kw_5_88) (fun _ h9 => h9) rfl dM_fresh_65 ?_
  refine lv_aload_n hx hb dM_fresh_68 rfl (lv_at hl 0 rfl) ?_
  refine va_get (D := D) (ci := 5) (v := .int 0) (C := "ValueBenchModel") (T := TM) (N := 32) hx hb htx inM hown hK hP 0 rfl rfl 2 (by decide) (htx _ kw_5_89) (fun _ h9 => h9) rfl dM_fresh_69 ?_
  refine va_new (ci := 6) (fs := [.int 0, .long 0, .int 0, .int 0, .int 0, .int 0]) (C := "ValueBenchModel$V") (T := TV) (N := 6) hx hb htx inV tyV tyV_ok hown (htx _ kw_5_80) (htx _ kw_6_17) (htx _ kw_1_19) hK hP hD hS hA rfl (by decide +kernel) (Nat.le_of_ble_eq_true rfl) (Nat.le_of_ble_eq_true rfl) dM_fresh_72 (fun q1 H hP hD hS => ?_)
  obtain ⟨hP, hD⟩ : xPD D xcl A [(a0, .inr (5, [v2, .ref a1, .int 0, v3, v4, v5, v6, v7, v8, v9, v10, v11, v12, v13, v14, v15, v16, v17, v18, v19, v20, v21, v22, v23, v24, v25, v26, v27, v28, v29, v30, v31])), (a1, .inl (cT 4, 1024, .inr (.inr (.inr (.inr f32))))), (q1, .inr (6, [.int 0, .long 0, .int 0, .int 0, .int 0, .int 0]))] H := ⟨hP, hD⟩
  refine lv_dup hx hb dM_fresh_75 rfl ?_
  obtain ⟨hPc, hDc, hFc⟩ := xcut (wc := []) hP hD hS hA [] rfl rfl (by decide)
  refine va_callv (va_runIN (As := []) (rest := [.ref q1, .int 0, .ref a1]) ⟨hx, hb, hml, hown, htx⟩ (cV_init_0 l hl9 D cT aK aV H.size q1) ⟨va_cnB (host := "ValueBenchModel") 0 htx (xw_goodC kw_6_20) rfl rfl rfl (hZ.2.1 _ (List.mem_of_getElem? (i := 3) rfl)) (htx _ kw_1_19) ⟨by decide, by decide, by decide +kernel⟩ ⟨Nat.le_of_ble_eq_true rfl, Nat.le_of_ble_eq_true rfl⟩, rfl, (htx _ kw_6_19)⟩ ⟨xPre_blind, (fun U hU hW => ⟨rfl, xPre_of hZ hS hFc hPc hDc hK U hU hW⟩)⟩ rfl rfl hl.1 rfl (lv_room (Nat.le_of_ble_eq_true rfl)) dM_fresh_76 ⟨Nat.le_of_ble_eq_true rfl, Nat.le_of_ble_eq_true rfl⟩) hS (fun q _ h => hFc q h) hFc (fun u9 t H1 locs ht hvm hr9 hB hz1 hk1 hS => ?_)
  obtain ⟨hP1, hK1, hD1⟩ := hB
  rw [ht] at hP1
  obtain ⟨hP, hD⟩ := xjoin (W := [(a0, .inr (5, [v2, .ref a1, .int 0, v3, v4, v5, v6, v7, v8, v9, v10, v11, v12, v13, v14, v15, v16, v17, v18, v19, v20, v21, v22, v23, v24, v25, v26, v27, v28, v29, v30, v31])), (a1, .inl (cT 4, 1024, .inr (.inr (.inr (.inr f32))))), (q1, .inr (6, [.int 0, .long 0, .int 0, .int 0, .int 0, .int 0]))]) hP hD [] [0, 1, 2] 3 rfl rfl (by decide) (by decide) hk1 hFc hP1 hD1
  generalize H1 = H at hP hS ⊢
  refine va_astq (r := ("ValueBenchModel$V", TV, 6)) hx hb hK hP hD hS 1 4 2 6 rfl rfl rfl rfl (show ¬ ((0 : Int32) < 0 ∨ 1024 ≤ (0 : Int32).toNatClampNeg) by decide) dM_fresh_79 (fun H locs hP hD hS => ?_)
  obtain ⟨hP, hD⟩ : xPD D xcl A [(a0, .inr (5, [v2, .ref a1, .int 0, v3, v4, v5, v6, v7, v8, v9, v10, v11, v12, v13, v14, v15, v16, v17, v18, v19, v20, v21, v22, v23, v24, v25, v26, v27, v28, v29, v30, v31])), (a1, .inl (cT 4, 1024, .inr (.inr (.inr (.inr (va_up f32 0 (some q1))))))), (q1, .inr (6, [.int 0, .long 0, .int 0, .int 0, .int 0, .int 0]))] H := ⟨hP, hD⟩
  refine lv_aload_n hx hb dM_fresh_80 rfl (lv_at hl 0 rfl) ?_
  refine va_get (D := D) (ci := 5) (v := .ref a1) (C := "ValueBenchModel") (T := TM) (N := 32) hx hb htx inM hown hK hP 0 rfl rfl 1 (by decide) (htx _ kw_5_88) (fun _ h9 => h9) rfl dM_fresh_81 ?_
  refine lv_aload_n hx hb dM_fresh_84 rfl (lv_at hl 0 rfl) ?_
  refine va_get (D := D) (ci := 5) (v := .int 0) (C := "ValueBenchModel") (T := TM) (N := 32) hx hb htx inM hown hK hP 0 rfl rfl 2 (by decide) (htx _ kw_5_89) (fun _ h9 => h9) rfl dM_fresh_85 ?_
  refine va_aldq hx hb hK hP 1 4 rfl rfl (show ¬ ((0 : Int32) < 0 ∨ 1024 ≤ (0 : Int32).toNatClampNeg) by decide) dM_fresh_88 ?_
  refine W.eq (g2 := F0 m 89 ls [.ref q1]) rfl ?_
  refine lv_astore_n (lv' := [(2, .ref q1), (0, .ref a0), (1, .int 0)]) hx hb dM_fresh_89 rfl hl (by decide) rfl (fun ls hl => ?_)
  refine lv_aload_n hx hb dM_fresh_90 rfl (lv_at hl 1 rfl) ?_
  refine lv_dup hx hb dM_fresh_91 rfl ?_
  refine va_get (D := D) (ci := 5) (v := .int 0) (C := "ValueBenchModel") (T := TM) (N := 32) hx hb htx inM hown hK hP 0 rfl rfl 2 (by decide) (htx _ kw_5_89) (fun _ h9 => h9) rfl dM_fresh_92 ?_
  refine lv_iconst (v := 1) hx hb dM_fresh_95 (by decide) ?_
  refine lv_iadd hx hb dM_fresh_96 ?_
  refine W.eq (g2 := F0 m 97 ls [.int 1, .ref a0]) rfl ?_
  refine va_put (D := D) (ci := 5) (v := .int 1) (ty := .int) (C := "ValueBenchModel") (T := TM) (N := 32) hx hb htx inM tyM tyM_ok nmM hown hK hP hD hS 0 rfl rfl 2 (by decide) (htx _ kw_5_89) (fun _ h9 => h9) rfl (by decide +kernel) rfl rfl (Nat.le_of_ble_eq_true rfl) dM_fresh_97 (fun H locs hP hD hS => ?_)
  obtain ⟨hP, hD⟩ : xPD D xcl A [(a0, .inr (5, [v2, .ref a1, .int 1, v3, v4, v5, v6, v7, v8, v9, v10, v11, v12, v13, v14, v15, v16, v17, v18, v19, v20, v21, v22, v23, v24, v25, v26, v27, v28, v29, v30, v31])), (a1, .inl (cT 4, 1024, .inr (.inr (.inr (.inr (va_up f32 0 (some q1))))))), (q1, .inr (6, [.int 0, .long 0, .int 0, .int 0, .int 0, .int 0]))] H := ⟨hP, hD⟩
  refine lv_aload_n hx hb dM_fresh_100 rfl (lv_at hl 0 rfl) ?_
  refine lv_iload_n hx hb dM_fresh_101 rfl (lv_at hl 2 rfl) ?_
  refine va_putN (D := D) (ci := 6) (v := .int 0) (ty := .int) (C := "ValueBenchModel$V") (T := TV) (N := 6) hx hb htx inV tyV tyV_ok nmV hown hK hP hD hS 2 rfl rfl 0 (by decide) ((hZ.1 _ (List.mem_of_getElem? (i := 0) rfl)).use rfl) (fun _ h9 => h9) rfl (by decide +kernel) rfl rfl (Nat.le_of_ble_eq_true rfl) dM_fresh_102 (fun H locs hP hD hS => ?_)
  obtain ⟨hP, hD⟩ : xPD D xcl A [(a0, .inr (5, [v2, .ref a1, .int 1, v3, v4, v5, v6, v7, v8, v9, v10, v11, v12, v13, v14, v15, v16, v17, v18, v19, v20, v21, v22, v23, v24, v25, v26, v27, v28, v29, v30, v31])), (a1, .inl (cT 4, 1024, .inr (.inr (.inr (.inr (va_up f32 0 (some q1))))))), (q1, .inr (6, [.int 0, .long 0, .int 0, .int 0, .int 0, .int 0]))] H := ⟨hP, hD⟩
  refine lv_aload_n hx hb dM_fresh_105 rfl (lv_at hl 0 rfl) ?_
  refine lv_lconst (v := 0) hx hb dM_fresh_106 (by decide) ?_
  refine va_putN (D := D) (ci := 6) (v := .long 0) (ty := .long) (C := "ValueBenchModel$V") (T := TV) (N := 6) hx hb htx inV tyV tyV_ok nmV hown hK hP hD hS 2 rfl rfl 1 (by decide) ((hZ.1 _ (List.mem_of_getElem? (i := 1) rfl)).use rfl) (fun _ h9 => h9) rfl (by decide +kernel) rfl rfl (Nat.le_of_ble_eq_true rfl) dM_fresh_107 (fun H locs hP hD hS => ?_)
  obtain ⟨hP, hD⟩ : xPD D xcl A [(a0, .inr (5, [v2, .ref a1, .int 1, v3, v4, v5, v6, v7, v8, v9, v10, v11, v12, v13, v14, v15, v16, v17, v18, v19, v20, v21, v22, v23, v24, v25, v26, v27, v28, v29, v30, v31])), (a1, .inl (cT 4, 1024, .inr (.inr (.inr (.inr (va_up f32 0 (some q1))))))), (q1, .inr (6, [.int 0, .long 0, .int 0, .int 0, .int 0, .int 0]))] H := ⟨hP, hD⟩
  refine lv_aload_n hx hb dM_fresh_110 rfl (lv_at hl 0 rfl) ?_
  refine lv_iconst (v := 0) hx hb dM_fresh_111 (by decide) ?_
  refine va_putN (D := D) (ci := 6) (v := .int 0) (ty := .int) (C := "ValueBenchModel$V") (T := TV) (N := 6) hx hb htx inV tyV tyV_ok nmV hown hK hP hD hS 2 rfl rfl 2 (by decide) ((hZ.1 _ (List.mem_of_getElem? (i := 2) rfl)).use rfl) (fun _ h9 => h9) rfl (by decide +kernel) rfl rfl (Nat.le_of_ble_eq_true rfl) dM_fresh_112 (fun H locs hP hD hS => ?_)
  obtain ⟨hP, hD⟩ : xPD D xcl A [(a0, .inr (5, [v2, .ref a1, .int 1, v3, v4, v5, v6, v7, v8, v9, v10, v11, v12, v13, v14, v15, v16, v17, v18, v19, v20, v21, v22, v23, v24, v25, v26, v27, v28, v29, v30, v31])), (a1, .inl (cT 4, 1024, .inr (.inr (.inr (.inr (va_up f32 0 (some q1))))))), (q1, .inr (6, [.int 0, .long 0, .int 0, .int 0, .int 0, .int 0]))] H := ⟨hP, hD⟩
  refine lv_aload_n hx hb dM_fresh_115 rfl (lv_at hl 0 rfl) ?_
  refine lv_iconst (v := 0) hx hb dM_fresh_116 (by decide) ?_
  refine va_putN (D := D) (ci := 6) (v := .int 0) (ty := .int) (C := "ValueBenchModel$V") (T := TV) (N := 6) hx hb htx inV tyV tyV_ok nmV hown hK hP hD hS 2 rfl rfl 3 (by decide) ((hZ.1 _ (List.mem_of_getElem? (i := 3) rfl)).use rfl) (fun _ h9 => h9) rfl (by decide +kernel) rfl rfl (Nat.le_of_ble_eq_true rfl) dM_fresh_117 (fun H locs hP hD hS => ?_)
  obtain ⟨hP, hD⟩ : xPD D xcl A [(a0, .inr (5, [v2, .ref a1, .int 1, v3, v4, v5, v6, v7, v8, v9, v10, v11, v12, v13, v14, v15, v16, v17, v18, v19, v20, v21, v22, v23, v24, v25, v26, v27, v28, v29, v30, v31])), (a1, .inl (cT 4, 1024, .inr (.inr (.inr (.inr (va_up f32 0 (some q1))))))), (q1, .inr (6, [.int 0, .long 0, .int 0, .int 0, .int 0, .int 0]))] H := ⟨hP, hD⟩
  refine lv_aload_n hx hb dM_fresh_120 rfl (lv_at hl 0 rfl) ?_
  refine lv_iconst (v := 0) hx hb dM_fresh_121 (by decide) ?_
  refine va_putN (D := D) (ci := 6) (v := .int 0) (ty := .int) (C := "ValueBenchModel$V") (T := TV) (N := 6) hx hb htx inV tyV tyV_ok nmV hown hK hP hD hS 2 rfl rfl 4 (by decide) ((hZ.1 _ (List.mem_of_getElem? (i := 4) rfl)).use rfl) (fun _ h9 => h9) rfl (by decide +kernel) rfl rfl (Nat.le_of_ble_eq_true rfl) dM_fresh_122 (fun H locs hP hD hS => ?_)
  obtain ⟨hP, hD⟩ : xPD D xcl A [(a0, .inr (5, [v2, .ref a1, .int 1, v3, v4, v5, v6, v7, v8, v9, v10, v11, v12, v13, v14, v15, v16, v17, v18, v19, v20, v21, v22, v23, v24, v25, v26, v27, v28, v29, v30, v31])), (a1, .inl (cT 4, 1024, .inr (.inr (.inr (.inr (va_up f32 0 (some q1))))))), (q1, .inr (6, [.int 0, .long 0, .int 0, .int 0, .int 0, .int 0]))] H := ⟨hP, hD⟩
  refine lv_aload_n hx hb dM_fresh_125 rfl (lv_at hl 0 rfl) ?_
  refine lv_iconst (v := 1) hx hb dM_fresh_126 (by decide) ?_
  refine va_putN (D := D) (ci := 6) (v := .int 1) (ty := .int) (C := "ValueBenchModel$V") (T := TV) (N := 6) hx hb htx inV tyV tyV_ok nmV hown hK hP hD hS 2 rfl rfl 5 (by decide) ((hZ.1 _ (List.mem_of_getElem? (i := 5) rfl)).use rfl) (fun _ h9 => h9) rfl (by decide +kernel) rfl rfl (Nat.le_of_ble_eq_true rfl) dM_fresh_127 (fun H locs hP hD hS => ?_)
  obtain ⟨hP, hD⟩ : xPD D xcl A [(a0, .inr (5, [v2, .ref a1, .int 1, v3, v4, v5, v6, v7, v8, v9, v10, v11, v12, v13, v14, v15, v16, v17, v18, v19, v20, v21, v22, v23, v24, v25, v26, v27, v28, v29, v30, v31])), (a1, .inl (cT 4, 1024, .inr (.inr (.inr (.inr (va_up f32 0 (some q1))))))), (q1, .inr (6, [.int 0, .long 0, .int 0, .int 0, .int 0, .int 1]))] H := ⟨hP, hD⟩
  refine lv_aload_n hx hb dM_fresh_130 rfl (lv_at hl 0 rfl) ?_
  obtain ⟨hP9, hD9⟩ := xsub (wc := [(a0, .inr (5, [v2, .ref a1, .int 1, v3, v4, v5, v6, v7, v8, v9, v10, v11, v12, v13, v14, v15, v16, v17, v18, v19, v20, v21, v22, v23, v24, v25, v26, v27, v28, v29, v30, v31])), (a1, .inl (cT 4, 1024, .inr (.inr (.inr (.inr (va_up f32 0 (some q1))))))), (q1, .inr (6, [.int 0, .long 0, .int 0, .int 0, .int 0, .int 1]))]) hP hD [0, 1, 2] rfl rfl (by decide)
  refine W.widen (k := 1) (n := 6) (Nat.le_of_ble_eq_true rfl) (Nat.le_of_ble_eq_true rfl) ?_
  exact W.aret hx hb hr (Or.inl ⟨_, rfl⟩) (Or.inr ⟨_, rfl⟩) (fun t ht hW => ⟨⟨(), q1, rfl, trivial, by rw [ht]; exact hP9, va_K.moved hW.alike hK, hD9⟩, hS.F ht⟩) hS.2.2 dM_fresh_131
set_option maxHeartbeats 400000000 in
set_option maxRecDepth 100000 in
theorem cM_says_2 (l : Launch) (hl9 : l.stackTraces = false) (D : va_G) (cT : Nat → ClassId) (aK aV : Nat → Nat) (sz : Nat) (a0 : Nat) (a1 : Nat) (a2 : Nat) (v3 : Value) (v4 : Value) (v5 : Value) (v6 : Value) (v7 : Value) (v8 : Value) (v9 : Value) (v10 : Value) (v11 : Value) (v12 : Value) (v13 : Value) (v14 : Value) (v15 : Value) (v16 : Value) (v17 : Value) (v18 : Value) (v19 : Value) (v20 : Value) (v21 : Value) (v22 : Value) (v23 : Value) (v24 : Value) (v25 : Value) (v26 : Value) (v27 : Value) (v28 : Value) (v29 : Value) (f30 : Nat → Int32) (f35 : Nat → Option Nat) (h31 : f30 0 = 110) (h32 : f30 1 = 117) (h33 : f30 2 = 108) (h34 : f30 3 = 108) (h36 : f35 0 = none) : xMet l yM_says wyM_says 4 1 6 85 D cT aK aV sz [.ref a0, .ref (aK 10), .int 0] [(a0, .inr (5, [v3, .ref a2, .int 0, v4, v5, v6, v7, v8, v9, v10, v11, v12, v13, v14, v15, .ref a1, .int 0, .int 4, v16, v17, v18, v19, v20, v21, v22, v23, v24, v25, v26, v27, v28, v29])), (a1, .inl (cT 0, 4096, .inl f30)), (a2, .inl (cT 4, 1024, .inr (.inr (.inr (.inr f35)))))] (fun A => va_Qr (fun _ : Unit => True) (fun _ r14 t => xB D xcl cT A [(a0, .inr (5, [v3, .ref a2, .int 1, v4, v5, v6, v7, v8, v9, v10, v11, v12, v13, v14, v15, .ref a1, .int 4, .int 4, v16, v17, v18, v19, v20, v21, v22, v23, v24, v25, v26, v27, v28, v29])), (a1, .inl (cT 0, 4096, .inl f30)), (a2, .inl (cT 4, 1024, .inr (.inr (.inr (.inr (va_up f35 0 (some r14))))))), (r14, .inr (6, [.int 0, .long 0, .int 0, .int 0, .int 0, .int 1]))] t) A) := by
  refine Met.ofW (cc := prog_13_method_33_code) (maxL := 4) (ret := (some (.object "ValueBenchModel$V"))) (by decide) rfl ?_
  intro p e s m args below meth c s₁ B hml hv
  obtain ⟨rfl, hsz, hZ, hP, hK, hD0⟩ := hv
  have hx := B.exec
  have hb := B.bytes
  have hr := B.returns
  have hts := atoms_spec (ws := wyM_says) B.pre
  have htx := fun w h => hts w (List.mem_cons_of_mem _ h)
  have hown : s.vm.findClass "ValueBenchModel" = some m.cls := findClass_of_methodNamed B.named
  have hlocks := B.notSynchronized
  subst hsz
  have hD := hD0.self (sz := s.heap.size)
  generalize hAe : va_A [(a0, .inr (5, [v3, .ref a2, .int 0, v4, v5, v6, v7, v8, v9, v10, v11, v12, v13, v14, v15, .ref a1, .int 0, .int 4, v16, v17, v18, v19, v20, v21, v22, v23, v24, v25, v26, v27, v28, v29])), (a1, .inl (cT 0, 4096, .inl f30)), (a2, .inl (cT 4, 1024, .inr (.inr (.inr (.inr f35)))))] s.heap.size = A at hD hZ ⊢
  have hA : ∀ q : Nat, s.heap.size ≤ q → A q := fun q h => by rw [← hAe]; exact Or.inr h
  have hS : va_S A s.heap s.heap [] := va_S.rf
  have hP : va_P D xcl [(a0, .inr (5, [v3, .ref a2, .int 0, v4, v5, v6, v7, v8, v9, v10, v11, v12, v13, v14, v15, .ref a1, .int 0, .int 4, v16, v17, v18, v19, v20, v21, v22, v23, v24, v25, v26, v27, v28, v29])), (a1, .inl (cT 0, 4096, .inl f30)), (a2, .inl (cT 4, 1024, .inr (.inr (.inr (.inr f35)))))] s.heap := hP
  have hl := lv_entry ([.ref a0, .ref (aK 10), .int 0]) (n := 4) (Nat.le_of_ble_eq_true rfl)
  rw [lg_entry_eq]
  generalize (lg_sl ([.ref a0, .ref (aK 10), .int 0]) ++ List.replicate (4 - (lg_sl ([.ref a0, .ref (aK 10), .int 0])).length) Slot.unset).toArray = ls at hl ⊢
  have hl : lv_has ls 4 [(0, .ref a0), (1, .ref (aK 10)), (2, .int 0)] := hl
  refine lv_iconst (v := 0) hx hb dM_says_0 (by decide) ?_
  refine lv_istore_n (lv' := [(3, .int 0), (0, .ref a0), (1, .ref (aK 10)), (2, .int 0)]) hx hb dM_says_1 rfl hl (by decide) rfl (fun ls hl => ?_)
  refine lv_iload_n hx hb dM_says_2 rfl (lv_at hl 0 rfl) ?_
  refine lv_aload_n hx hb dM_says_3 rfl (lv_at hl 2 rfl) ?_
  obtain ⟨hPc, hDc, hFc⟩ := xcut (wc := []) hP hD hS hA [] rfl rfl (by decide)
  refine va_calli (va_runV (C := "java/lang/String") (As := []) (rest := [.int 0]) ⟨hx, hb, hml, hown, htx⟩ (cJS_length_0 l hl9 D cT aK aV s.heap.size) ⟨callB_of 0 htx (xw_goodC kw_2_70) rfl rfl rfl (htx _ kw_1_6) (htx _ kw_5_238) ⟨by decide, by decide, by decide +kernel⟩ ⟨Nat.le_of_ble_eq_true rfl, Nat.le_of_ble_eq_true rfl⟩, (htx _ kw_2_68), (htx _ kw_2_69)⟩ ⟨xPre_blind, vk_recv hZ.2.2.2.2.2.2.2.2.2.1 (i := 10) (by decide) hS, (fun U hU hW => ⟨rfl, xPre_of hZ hS hFc hPc hDc hK U hU hW⟩)⟩ rfl rfl hl.1 rfl (lv_room (Nat.le_of_ble_eq_true rfl)) dM_says_4 ⟨Nat.le_of_ble_eq_true rfl, Nat.le_of_ble_eq_true rfl⟩) hS (fun q _ h => hFc q h) hFc (fun r1 u9 t H1 locs ht hvm hr9 hB hz1 hk1 hS => ?_)
  obtain ⟨hP1, hK1, hD1⟩ := hB
  rw [ht] at hP1
  obtain ⟨hP, hD⟩ := xjoin (W := [(a0, .inr (5, [v3, .ref a2, .int 0, v4, v5, v6, v7, v8, v9, v10, v11, v12, v13, v14, v15, .ref a1, .int 0, .int 4, v16, v17, v18, v19, v20, v21, v22, v23, v24, v25, v26, v27, v28, v29])), (a1, .inl (cT 0, 4096, .inl f30)), (a2, .inl (cT 4, 1024, .inr (.inr (.inr (.inr f35)))))]) hP hD [] [0, 1, 2] 3 rfl rfl (by decide) (by decide) hk1 hFc hP1 hD1
  generalize H1 = H at hP hS ⊢
  rw [hr9]
  refine W.eq (g2 := F0 m 7 ls [.int 4, .int 0]) rfl ?_
  refine lv_icmp_ge (tgt := 46) hx hb dM_says_7 (by decide) (fun h => ((by revert h; decide : False)).elim) (fun _ => ?_)
  refine lv_aload_n hx hb dM_says_10 rfl (lv_at hl 1 rfl) ?_
  obtain ⟨hPc, hDc, hFc⟩ := xcut (wc := [(a0, .inr (5, [v3, .ref a2, .int 0, v4, v5, v6, v7, v8, v9, v10, v11, v12, v13, v14, v15, .ref a1, .int 0, .int 4, v16, v17, v18, v19, v20, v21, v22, v23, v24, v25, v26, v27, v28, v29])), (a1, .inl (cT 0, 4096, .inl f30))]) hP hD hS hA [0, 1] rfl rfl (by decide)
  refine va_calli (va_runV (C := "ValueBenchModel") (As := []) (rest := []) ⟨hx, hb, hml, hown, htx⟩ (cM_peek_1 l hl9 D cT aK aV H.size a0 a1 v3 (.ref a2) (.int 0) v4 v5 v6 v7 v8 v9 v10 v11 v12 v13 v14 v15 v16 v17 v18 v19 v20 v21 v22 v23 v24 v25 v26 v27 v28 v29 f30 (by first | rfl | exact h31 | exact h32 | exact h33 | exact h34 | exact h36)) ⟨callB_of 0 htx (xw_goodC kw_5_233) rfl rfl rfl (htx _ kw_1_5) (htx _ kw_5_230) ⟨by decide, by decide, by decide +kernel⟩ ⟨Nat.le_of_ble_eq_true rfl, Nat.le_of_ble_eq_true rfl⟩, (htx _ kw_5_232), (htx _ kp_M_peek)⟩ ⟨xPre_blind, va_recv hK hP (ci := 5) rfl (q0 := 0) rfl, (fun U hU hW => ⟨rfl, xPre_of hZ hS hFc hPc hDc hK U hU hW⟩)⟩ rfl rfl hl.1 rfl (lv_room (Nat.le_of_ble_eq_true rfl)) dM_says_11 ⟨Nat.le_of_ble_eq_true rfl, Nat.le_of_ble_eq_true rfl⟩) hS (fun q _ h => hFc q h) hFc (fun r2 u9 t H1 locs ht hvm hr9 hB hz1 hk1 hS => ?_)
  obtain ⟨hP1, hK1, hD1⟩ := hB
  rw [ht] at hP1
  obtain ⟨hP, hD⟩ := xjoin (W := [(a2, .inl (cT 4, 1024, .inr (.inr (.inr (.inr f35))))), (a0, .inr (5, [v3, .ref a2, .int 0, v4, v5, v6, v7, v8, v9, v10, v11, v12, v13, v14, v15, .ref a1, .int 0, .int 4, v16, v17, v18, v19, v20, v21, v22, v23, v24, v25, v26, v27, v28, v29])), (a1, .inl (cT 0, 4096, .inl f30))]) hP hD [0, 1] [2] 1 rfl rfl (by decide) (by decide) hk1 hFc hP1 hD1
  generalize H1 = H at hP hS ⊢
  rw [hr9]
  refine W.eq (g2 := F0 m 14 ls [.int 110]) rfl ?_
  refine lv_aload_n hx hb dM_says_14 rfl (lv_at hl 2 rfl) ?_
  refine lv_iload_n hx hb dM_says_15 rfl (lv_at hl 0 rfl) ?_
  obtain ⟨hPc, hDc, hFc⟩ := xcut (wc := []) hP hD hS hA [] rfl rfl (by decide)
  refine va_calli (va_runV (C := "java/lang/String") (As := [.int 0]) (rest := [.int 110]) ⟨hx, hb, hml, hown, htx⟩ (cJS_charAt_0 l hl9 D cT aK aV H.size) ⟨callB_of 1 htx (xw_goodC kw_2_80) rfl rfl rfl (htx _ kw_1_6) (htx _ kw_5_86) ⟨by decide, by decide, by decide +kernel⟩ ⟨Nat.le_of_ble_eq_true rfl, Nat.le_of_ble_eq_true rfl⟩, (htx _ kw_2_78), (htx _ kw_2_79)⟩ ⟨xPre_blind, vk_recv hZ.2.2.2.2.2.2.2.2.2.1 (i := 10) (by decide) hS, (fun U hU hW => ⟨rfl, xPre_of hZ hS hFc hPc hDc hK U hU hW⟩)⟩ rfl rfl hl.1 rfl (lv_room (Nat.le_of_ble_eq_true rfl)) dM_says_16 ⟨Nat.le_of_ble_eq_true rfl, Nat.le_of_ble_eq_true rfl⟩) hS (fun q _ h => hFc q h) hFc (fun r3 u9 t H1 locs ht hvm hr9 hB hz1 hk1 hS => ?_)
  obtain ⟨hP1, hK1, hD1⟩ := hB
  rw [ht] at hP1
  obtain ⟨hP, hD⟩ := xjoin (W := [(a2, .inl (cT 4, 1024, .inr (.inr (.inr (.inr f35))))), (a0, .inr (5, [v3, .ref a2, .int 0, v4, v5, v6, v7, v8, v9, v10, v11, v12, v13, v14, v15, .ref a1, .int 0, .int 4, v16, v17, v18, v19, v20, v21, v22, v23, v24, v25, v26, v27, v28, v29])), (a1, .inl (cT 0, 4096, .inl f30))]) hP hD [] [0, 1, 2] 3 rfl rfl (by decide) (by decide) hk1 hFc hP1 hD1
  generalize H1 = H at hP hS ⊢
  rw [hr9]
  refine W.eq (g2 := F0 m 19 ls [.int 110, .int 110]) rfl ?_
  refine lv_icmp_eq (tgt := 30) hx hb dM_says_19 (by decide) (fun _ => ?_) (fun h => ((by revert h; decide : False)).elim)
  refine lv_aload_n hx hb dM_says_30 rfl (lv_at hl 1 rfl) ?_
  refine lv_dup hx hb dM_says_31 rfl ?_
  refine va_get (D := D) (ci := 5) (v := .int 0) (C := "ValueBenchModel") (T := TM) (N := 32) hx hb htx inM hown hK hP 1 rfl rfl 16 (by decide) (htx _ kw_5_103) (fun _ h9 => h9) rfl dM_says_32 ?_
  refine lv_iconst (v := 1) hx hb dM_says_35 (by decide) ?_
  refine lv_iadd hx hb dM_says_36 ?_
  refine W.eq (g2 := F0 m 37 ls [.int 1, .ref a0]) rfl ?_
  refine va_put (D := D) (ci := 5) (v := .int 1) (ty := .int) (C := "ValueBenchModel") (T := TM) (N := 32) hx hb htx inM tyM tyM_ok nmM hown hK hP hD hS 1 rfl rfl 16 (by decide) (htx _ kw_5_103) (fun _ h9 => h9) rfl (by decide +kernel) rfl rfl (Nat.le_of_ble_eq_true rfl) dM_says_37 (fun H locs hP hD hS => ?_)
  obtain ⟨hP, hD⟩ : xPD D xcl A [(a2, .inl (cT 4, 1024, .inr (.inr (.inr (.inr f35))))), (a0, .inr (5, [v3, .ref a2, .int 0, v4, v5, v6, v7, v8, v9, v10, v11, v12, v13, v14, v15, .ref a1, .int 1, .int 4, v16, v17, v18, v19, v20, v21, v22, v23, v24, v25, v26, v27, v28, v29])), (a1, .inl (cT 0, 4096, .inl f30))] H := ⟨hP, hD⟩
  refine lv_iinc (v := 1) (lv' := [(3, .int 1), (0, .ref a0), (1, .ref (aK 10)), (2, .int 0)]) hx hb dM_says_40 hl (k := 0) rfl (by decide) (by decide) rfl (fun ls hl => ?_)
  refine lv_goto (tgt := 2) hx hb dM_says_43 (by decide) ?_
  refine lv_iload_n hx hb dM_says_2 rfl (lv_at hl 0 rfl) ?_
  refine lv_aload_n hx hb dM_says_3 rfl (lv_at hl 2 rfl) ?_
  obtain ⟨hPc, hDc, hFc⟩ := xcut (wc := []) hP hD hS hA [] rfl rfl (by decide)
  refine va_calli (va_runV (C := "java/lang/String") (As := []) (rest := [.int 1]) ⟨hx, hb, hml, hown, htx⟩ (cJS_length_0 l hl9 D cT aK aV H.size) ⟨callB_of 0 htx (xw_goodC kw_2_70) rfl rfl rfl (htx _ kw_1_6) (htx _ kw_5_238) ⟨by decide, by decide, by decide +kernel⟩ ⟨Nat.le_of_ble_eq_true rfl, Nat.le_of_ble_eq_true rfl⟩, (htx _ kw_2_68), (htx _ kw_2_69)⟩ ⟨xPre_blind, vk_recv hZ.2.2.2.2.2.2.2.2.2.1 (i := 10) (by decide) hS, (fun U hU hW => ⟨rfl, xPre_of hZ hS hFc hPc hDc hK U hU hW⟩)⟩ rfl rfl hl.1 rfl (lv_room (Nat.le_of_ble_eq_true rfl)) dM_says_4 ⟨Nat.le_of_ble_eq_true rfl, Nat.le_of_ble_eq_true rfl⟩) hS (fun q _ h => hFc q h) hFc (fun r4 u9 t H1 locs ht hvm hr9 hB hz1 hk1 hS => ?_)
  obtain ⟨hP1, hK1, hD1⟩ := hB
  rw [ht] at hP1
  obtain ⟨hP, hD⟩ := xjoin (W := [(a2, .inl (cT 4, 1024, .inr (.inr (.inr (.inr f35))))), (a0, .inr (5, [v3, .ref a2, .int 0, v4, v5, v6, v7, v8, v9, v10, v11, v12, v13, v14, v15, .ref a1, .int 1, .int 4, v16, v17, v18, v19, v20, v21, v22, v23, v24, v25, v26, v27, v28, v29])), (a1, .inl (cT 0, 4096, .inl f30))]) hP hD [] [0, 1, 2] 3 rfl rfl (by decide) (by decide) hk1 hFc hP1 hD1
  generalize H1 = H at hP hS ⊢
  rw [hr9]
  refine W.eq (g2 := F0 m 7 ls [.int 4, .int 1]) rfl ?_
  refine lv_icmp_ge (tgt := 46) hx hb dM_says_7 (by decide) (fun h => ((by revert h; decide : False)).elim) (fun _ => ?_)
  refine lv_aload_n hx hb dM_says_10 rfl (lv_at hl 1 rfl) ?_
  obtain ⟨hPc, hDc, hFc⟩ := xcut (wc := [(a0, .inr (5, [v3, .ref a2, .int 0, v4, v5, v6, v7, v8, v9, v10, v11, v12, v13, v14, v15, .ref a1, .int 1, .int 4, v16, v17, v18, v19, v20, v21, v22, v23, v24, v25, v26, v27, v28, v29])), (a1, .inl (cT 0, 4096, .inl f30))]) hP hD hS hA [1, 2] rfl rfl (by decide)
  refine va_calli (va_runV (C := "ValueBenchModel") (As := []) (rest := []) ⟨hx, hb, hml, hown, htx⟩ (cM_peek_2 l hl9 D cT aK aV H.size a0 a1 v3 (.ref a2) (.int 0) v4 v5 v6 v7 v8 v9 v10 v11 v12 v13 v14 v15 v16 v17 v18 v19 v20 v21 v22 v23 v24 v25 v26 v27 v28 v29 f30 (by first | rfl | exact h31 | exact h32 | exact h33 | exact h34 | exact h36)) ⟨callB_of 0 htx (xw_goodC kw_5_233) rfl rfl rfl (htx _ kw_1_5) (htx _ kw_5_230) ⟨by decide, by decide, by decide +kernel⟩ ⟨Nat.le_of_ble_eq_true rfl, Nat.le_of_ble_eq_true rfl⟩, (htx _ kw_5_232), (htx _ kp_M_peek)⟩ ⟨xPre_blind, va_recv hK hP (ci := 5) rfl (q0 := 1) rfl, (fun U hU hW => ⟨rfl, xPre_of hZ hS hFc hPc hDc hK U hU hW⟩)⟩ rfl rfl hl.1 rfl (lv_room (Nat.le_of_ble_eq_true rfl)) dM_says_11 ⟨Nat.le_of_ble_eq_true rfl, Nat.le_of_ble_eq_true rfl⟩) hS (fun q _ h => hFc q h) hFc (fun r5 u9 t H1 locs ht hvm hr9 hB hz1 hk1 hS => ?_)
  obtain ⟨hP1, hK1, hD1⟩ := hB
  rw [ht] at hP1
  obtain ⟨hP, hD⟩ := xjoin (W := [(a2, .inl (cT 4, 1024, .inr (.inr (.inr (.inr f35))))), (a0, .inr (5, [v3, .ref a2, .int 0, v4, v5, v6, v7, v8, v9, v10, v11, v12, v13, v14, v15, .ref a1, .int 1, .int 4, v16, v17, v18, v19, v20, v21, v22, v23, v24, v25, v26, v27, v28, v29])), (a1, .inl (cT 0, 4096, .inl f30))]) hP hD [1, 2] [0] 1 rfl rfl (by decide) (by decide) hk1 hFc hP1 hD1
  generalize H1 = H at hP hS ⊢
  rw [hr9]
  refine W.eq (g2 := F0 m 14 ls [.int 117]) rfl ?_
  refine lv_aload_n hx hb dM_says_14 rfl (lv_at hl 2 rfl) ?_
  refine lv_iload_n hx hb dM_says_15 rfl (lv_at hl 0 rfl) ?_
  obtain ⟨hPc, hDc, hFc⟩ := xcut (wc := []) hP hD hS hA [] rfl rfl (by decide)
  refine va_calli (va_runV (C := "java/lang/String") (As := [.int 1]) (rest := [.int 117]) ⟨hx, hb, hml, hown, htx⟩ (cJS_charAt_1 l hl9 D cT aK aV H.size) ⟨callB_of 1 htx (xw_goodC kw_2_80) rfl rfl rfl (htx _ kw_1_6) (htx _ kw_5_86) ⟨by decide, by decide, by decide +kernel⟩ ⟨Nat.le_of_ble_eq_true rfl, Nat.le_of_ble_eq_true rfl⟩, (htx _ kw_2_78), (htx _ kw_2_79)⟩ ⟨xPre_blind, vk_recv hZ.2.2.2.2.2.2.2.2.2.1 (i := 10) (by decide) hS, (fun U hU hW => ⟨rfl, xPre_of hZ hS hFc hPc hDc hK U hU hW⟩)⟩ rfl rfl hl.1 rfl (lv_room (Nat.le_of_ble_eq_true rfl)) dM_says_16 ⟨Nat.le_of_ble_eq_true rfl, Nat.le_of_ble_eq_true rfl⟩) hS (fun q _ h => hFc q h) hFc (fun r6 u9 t H1 locs ht hvm hr9 hB hz1 hk1 hS => ?_)
  obtain ⟨hP1, hK1, hD1⟩ := hB
  rw [ht] at hP1
  obtain ⟨hP, hD⟩ := xjoin (W := [(a2, .inl (cT 4, 1024, .inr (.inr (.inr (.inr f35))))), (a0, .inr (5, [v3, .ref a2, .int 0, v4, v5, v6, v7, v8, v9, v10, v11, v12, v13, v14, v15, .ref a1, .int 1, .int 4, v16, v17, v18, v19, v20, v21, v22, v23, v24, v25, v26, v27, v28, v29])), (a1, .inl (cT 0, 4096, .inl f30))]) hP hD [] [0, 1, 2] 3 rfl rfl (by decide) (by decide) hk1 hFc hP1 hD1
  generalize H1 = H at hP hS ⊢
  rw [hr9]
  refine W.eq (g2 := F0 m 19 ls [.int 117, .int 117]) rfl ?_
  refine lv_icmp_eq (tgt := 30) hx hb dM_says_19 (by decide) (fun _ => ?_) (fun h => ((by revert h; decide : False)).elim)
  refine lv_aload_n hx hb dM_says_30 rfl (lv_at hl 1 rfl) ?_
  refine lv_dup hx hb dM_says_31 rfl ?_
  refine va_get (D := D) (ci := 5) (v := .int 1) (C := "ValueBenchModel") (T := TM) (N := 32) hx hb htx inM hown hK hP 1 rfl rfl 16 (by decide) (htx _ kw_5_103) (fun _ h9 => h9) rfl dM_says_32 ?_
  refine lv_iconst (v := 1) hx hb dM_says_35 (by decide) ?_
  refine lv_iadd hx hb dM_says_36 ?_
  refine W.eq (g2 := F0 m 37 ls [.int 2, .ref a0]) rfl ?_
  refine va_put (D := D) (ci := 5) (v := .int 2) (ty := .int) (C := "ValueBenchModel") (T := TM) (N := 32) hx hb htx inM tyM tyM_ok nmM hown hK hP hD hS 1 rfl rfl 16 (by decide) (htx _ kw_5_103) (fun _ h9 => h9) rfl (by decide +kernel) rfl rfl (Nat.le_of_ble_eq_true rfl) dM_says_37 (fun H locs hP hD hS => ?_)
  obtain ⟨hP, hD⟩ : xPD D xcl A [(a2, .inl (cT 4, 1024, .inr (.inr (.inr (.inr f35))))), (a0, .inr (5, [v3, .ref a2, .int 0, v4, v5, v6, v7, v8, v9, v10, v11, v12, v13, v14, v15, .ref a1, .int 2, .int 4, v16, v17, v18, v19, v20, v21, v22, v23, v24, v25, v26, v27, v28, v29])), (a1, .inl (cT 0, 4096, .inl f30))] H := ⟨hP, hD⟩
  refine lv_iinc (v := 2) (lv' := [(3, .int 2), (0, .ref a0), (1, .ref (aK 10)), (2, .int 0)]) hx hb dM_says_40 hl (k := 0) rfl (by decide) (by decide) rfl (fun ls hl => ?_)
  refine lv_goto (tgt := 2) hx hb dM_says_43 (by decide) ?_
  refine lv_iload_n hx hb dM_says_2 rfl (lv_at hl 0 rfl) ?_
  refine lv_aload_n hx hb dM_says_3 rfl (lv_at hl 2 rfl) ?_
  obtain ⟨hPc, hDc, hFc⟩ := xcut (wc := []) hP hD hS hA [] rfl rfl (by decide)
  refine va_calli (va_runV (C := "java/lang/String") (As := []) (rest := [.int 2]) ⟨hx, hb, hml, hown, htx⟩ (cJS_length_0 l hl9 D cT aK aV H.size) ⟨callB_of 0 htx (xw_goodC kw_2_70) rfl rfl rfl (htx _ kw_1_6) (htx _ kw_5_238) ⟨by decide, by decide, by decide +kernel⟩ ⟨Nat.le_of_ble_eq_true rfl, Nat.le_of_ble_eq_true rfl⟩, (htx _ kw_2_68), (htx _ kw_2_69)⟩ ⟨xPre_blind, vk_recv hZ.2.2.2.2.2.2.2.2.2.1 (i := 10) (by decide) hS, (fun U hU hW => ⟨rfl, xPre_of hZ hS hFc hPc hDc hK U hU hW⟩)⟩ rfl rfl hl.1 rfl (lv_room (Nat.le_of_ble_eq_true rfl)) dM_says_4 ⟨Nat.le_of_ble_eq_true rfl, Nat.le_of_ble_eq_true rfl⟩) hS (fun q _ h => hFc q h) hFc (fun r7 u9 t H1 locs ht hvm hr9 hB hz1 hk1 hS => ?_)
  obtain ⟨hP1, hK1, hD1⟩ := hB
  rw [ht] at hP1
  obtain ⟨hP, hD⟩ := xjoin (W := [(a2, .inl (cT 4, 1024, .inr (.inr (.inr (.inr f35))))), (a0, .inr (5, [v3, .ref a2, .int 0, v4, v5, v6, v7, v8, v9, v10, v11, v12, v13, v14, v15, .ref a1, .int 2, .int 4, v16, v17, v18, v19, v20, v21, v22, v23, v24, v25, v26, v27, v28, v29])), (a1, .inl (cT 0, 4096, .inl f30))]) hP hD [] [0, 1, 2] 3 rfl rfl (by decide) (by decide) hk1 hFc hP1 hD1
  generalize H1 = H at hP hS ⊢
  rw [hr9]
  refine W.eq (g2 := F0 m 7 ls [.int 4, .int 2]) rfl ?_
  refine lv_icmp_ge (tgt := 46) hx hb dM_says_7 (by decide) (fun h => ((by revert h; decide : False)).elim) (fun _ => ?_)
  refine lv_aload_n hx hb dM_says_10 rfl (lv_at hl 1 rfl) ?_
  obtain ⟨hPc, hDc, hFc⟩ := xcut (wc := [(a0, .inr (5, [v3, .ref a2, .int 0, v4, v5, v6, v7, v8, v9, v10, v11, v12, v13, v14, v15, .ref a1, .int 2, .int 4, v16, v17, v18, v19, v20, v21, v22, v23, v24, v25, v26, v27, v28, v29])), (a1, .inl (cT 0, 4096, .inl f30))]) hP hD hS hA [1, 2] rfl rfl (by decide)
  refine va_calli (va_runV (C := "ValueBenchModel") (As := []) (rest := []) ⟨hx, hb, hml, hown, htx⟩ (cM_peek_3 l hl9 D cT aK aV H.size a0 a1 v3 (.ref a2) (.int 0) v4 v5 v6 v7 v8 v9 v10 v11 v12 v13 v14 v15 v16 v17 v18 v19 v20 v21 v22 v23 v24 v25 v26 v27 v28 v29 f30 (by first | rfl | exact h31 | exact h32 | exact h33 | exact h34 | exact h36)) ⟨callB_of 0 htx (xw_goodC kw_5_233) rfl rfl rfl (htx _ kw_1_5) (htx _ kw_5_230) ⟨by decide, by decide, by decide +kernel⟩ ⟨Nat.le_of_ble_eq_true rfl, Nat.le_of_ble_eq_true rfl⟩, (htx _ kw_5_232), (htx _ kp_M_peek)⟩ ⟨xPre_blind, va_recv hK hP (ci := 5) rfl (q0 := 1) rfl, (fun U hU hW => ⟨rfl, xPre_of hZ hS hFc hPc hDc hK U hU hW⟩)⟩ rfl rfl hl.1 rfl (lv_room (Nat.le_of_ble_eq_true rfl)) dM_says_11 ⟨Nat.le_of_ble_eq_true rfl, Nat.le_of_ble_eq_true rfl⟩) hS (fun q _ h => hFc q h) hFc (fun r8 u9 t H1 locs ht hvm hr9 hB hz1 hk1 hS => ?_)
  obtain ⟨hP1, hK1, hD1⟩ := hB
  rw [ht] at hP1
  obtain ⟨hP, hD⟩ := xjoin (W := [(a2, .inl (cT 4, 1024, .inr (.inr (.inr (.inr f35))))), (a0, .inr (5, [v3, .ref a2, .int 0, v4, v5, v6, v7, v8, v9, v10, v11, v12, v13, v14, v15, .ref a1, .int 2, .int 4, v16, v17, v18, v19, v20, v21, v22, v23, v24, v25, v26, v27, v28, v29])), (a1, .inl (cT 0, 4096, .inl f30))]) hP hD [1, 2] [0] 1 rfl rfl (by decide) (by decide) hk1 hFc hP1 hD1
  generalize H1 = H at hP hS ⊢
  rw [hr9]
  refine W.eq (g2 := F0 m 14 ls [.int 108]) rfl ?_
  refine lv_aload_n hx hb dM_says_14 rfl (lv_at hl 2 rfl) ?_
  refine lv_iload_n hx hb dM_says_15 rfl (lv_at hl 0 rfl) ?_
  obtain ⟨hPc, hDc, hFc⟩ := xcut (wc := []) hP hD hS hA [] rfl rfl (by decide)
  refine va_calli (va_runV (C := "java/lang/String") (As := [.int 2]) (rest := [.int 108]) ⟨hx, hb, hml, hown, htx⟩ (cJS_charAt_2 l hl9 D cT aK aV H.size) ⟨callB_of 1 htx (xw_goodC kw_2_80) rfl rfl rfl (htx _ kw_1_6) (htx _ kw_5_86) ⟨by decide, by decide, by decide +kernel⟩ ⟨Nat.le_of_ble_eq_true rfl, Nat.le_of_ble_eq_true rfl⟩, (htx _ kw_2_78), (htx _ kw_2_79)⟩ ⟨xPre_blind, vk_recv hZ.2.2.2.2.2.2.2.2.2.1 (i := 10) (by decide) hS, (fun U hU hW => ⟨rfl, xPre_of hZ hS hFc hPc hDc hK U hU hW⟩)⟩ rfl rfl hl.1 rfl (lv_room (Nat.le_of_ble_eq_true rfl)) dM_says_16 ⟨Nat.le_of_ble_eq_true rfl, Nat.le_of_ble_eq_true rfl⟩) hS (fun q _ h => hFc q h) hFc (fun r9 u9 t H1 locs ht hvm hr9 hB hz1 hk1 hS => ?_)
  obtain ⟨hP1, hK1, hD1⟩ := hB
  rw [ht] at hP1
  obtain ⟨hP, hD⟩ := xjoin (W := [(a2, .inl (cT 4, 1024, .inr (.inr (.inr (.inr f35))))), (a0, .inr (5, [v3, .ref a2, .int 0, v4, v5, v6, v7, v8, v9, v10, v11, v12, v13, v14, v15, .ref a1, .int 2, .int 4, v16, v17, v18, v19, v20, v21, v22, v23, v24, v25, v26, v27, v28, v29])), (a1, .inl (cT 0, 4096, .inl f30))]) hP hD [] [0, 1, 2] 3 rfl rfl (by decide) (by decide) hk1 hFc hP1 hD1
  generalize H1 = H at hP hS ⊢
  rw [hr9]
  refine W.eq (g2 := F0 m 19 ls [.int 108, .int 108]) rfl ?_
  refine lv_icmp_eq (tgt := 30) hx hb dM_says_19 (by decide) (fun _ => ?_) (fun h => ((by revert h; decide : False)).elim)
  refine lv_aload_n hx hb dM_says_30 rfl (lv_at hl 1 rfl) ?_
  refine lv_dup hx hb dM_says_31 rfl ?_
  refine va_get (D := D) (ci := 5) (v := .int 2) (C := "ValueBenchModel") (T := TM) (N := 32) hx hb htx inM hown hK hP 1 rfl rfl 16 (by decide) (htx _ kw_5_103) (fun _ h9 => h9) rfl dM_says_32 ?_
  refine lv_iconst (v := 1) hx hb dM_says_35 (by decide) ?_
  refine lv_iadd hx hb dM_says_36 ?_
  refine W.eq (g2 := F0 m 37 ls [.int 3, .ref a0]) rfl ?_
  refine va_put (D := D) (ci := 5) (v := .int 3) (ty := .int) (C := "ValueBenchModel") (T := TM) (N := 32) hx hb htx inM tyM tyM_ok nmM hown hK hP hD hS 1 rfl rfl 16 (by decide) (htx _ kw_5_103) (fun _ h9 => h9) rfl (by decide +kernel) rfl rfl (Nat.le_of_ble_eq_true rfl) dM_says_37 (fun H locs hP hD hS => ?_)
  obtain ⟨hP, hD⟩ : xPD D xcl A [(a2, .inl (cT 4, 1024, .inr (.inr (.inr (.inr f35))))), (a0, .inr (5, [v3, .ref a2, .int 0, v4, v5, v6, v7, v8, v9, v10, v11, v12, v13, v14, v15, .ref a1, .int 3, .int 4, v16, v17, v18, v19, v20, v21, v22, v23, v24, v25, v26, v27, v28, v29])), (a1, .inl (cT 0, 4096, .inl f30))] H := ⟨hP, hD⟩
  refine lv_iinc (v := 3) (lv' := [(3, .int 3), (0, .ref a0), (1, .ref (aK 10)), (2, .int 0)]) hx hb dM_says_40 hl (k := 0) rfl (by decide) (by decide) rfl (fun ls hl => ?_)
  refine lv_goto (tgt := 2) hx hb dM_says_43 (by decide) ?_
  refine lv_iload_n hx hb dM_says_2 rfl (lv_at hl 0 rfl) ?_
  refine lv_aload_n hx hb dM_says_3 rfl (lv_at hl 2 rfl) ?_
  obtain ⟨hPc, hDc, hFc⟩ := xcut (wc := []) hP hD hS hA [] rfl rfl (by decide)
  refine va_calli (va_runV (C := "java/lang/String") (As := []) (rest := [.int 3]) ⟨hx, hb, hml, hown, htx⟩ (cJS_length_0 l hl9 D cT aK aV H.size) ⟨callB_of 0 htx (xw_goodC kw_2_70) rfl rfl rfl (htx _ kw_1_6) (htx _ kw_5_238) ⟨by decide, by decide, by decide +kernel⟩ ⟨Nat.le_of_ble_eq_true rfl, Nat.le_of_ble_eq_true rfl⟩, (htx _ kw_2_68), (htx _ kw_2_69)⟩ ⟨xPre_blind, vk_recv hZ.2.2.2.2.2.2.2.2.2.1 (i := 10) (by decide) hS, (fun U hU hW => ⟨rfl, xPre_of hZ hS hFc hPc hDc hK U hU hW⟩)⟩ rfl rfl hl.1 rfl (lv_room (Nat.le_of_ble_eq_true rfl)) dM_says_4 ⟨Nat.le_of_ble_eq_true rfl, Nat.le_of_ble_eq_true rfl⟩) hS (fun q _ h => hFc q h) hFc (fun r10 u9 t H1 locs ht hvm hr9 hB hz1 hk1 hS => ?_)
  obtain ⟨hP1, hK1, hD1⟩ := hB
  rw [ht] at hP1
  obtain ⟨hP, hD⟩ := xjoin (W := [(a2, .inl (cT 4, 1024, .inr (.inr (.inr (.inr f35))))), (a0, .inr (5, [v3, .ref a2, .int 0, v4, v5, v6, v7, v8, v9, v10, v11, v12, v13, v14, v15, .ref a1, .int 3, .int 4, v16, v17, v18, v19, v20, v21, v22, v23, v24, v25, v26, v27, v28, v29])), (a1, .inl (cT 0, 4096, .inl f30))]) hP hD [] [0, 1, 2] 3 rfl rfl (by decide) (by decide) hk1 hFc hP1 hD1
  generalize H1 = H at hP hS ⊢
  rw [hr9]
  refine W.eq (g2 := F0 m 7 ls [.int 4, .int 3]) rfl ?_
  refine lv_icmp_ge (tgt := 46) hx hb dM_says_7 (by decide) (fun h => ((by revert h; decide : False)).elim) (fun _ => ?_)
  refine lv_aload_n hx hb dM_says_10 rfl (lv_at hl 1 rfl) ?_
  obtain ⟨hPc, hDc, hFc⟩ := xcut (wc := [(a0, .inr (5, [v3, .ref a2, .int 0, v4, v5, v6, v7, v8, v9, v10, v11, v12, v13, v14, v15, .ref a1, .int 3, .int 4, v16, v17, v18, v19, v20, v21, v22, v23, v24, v25, v26, v27, v28, v29])), (a1, .inl (cT 0, 4096, .inl f30))]) hP hD hS hA [1, 2] rfl rfl (by decide)
  refine va_calli (va_runV (C := "ValueBenchModel") (As := []) (rest := []) ⟨hx, hb, hml, hown, htx⟩ (cM_peek_4 l hl9 D cT aK aV H.size a0 a1 v3 (.ref a2) (.int 0) v4 v5 v6 v7 v8 v9 v10 v11 v12 v13 v14 v15 v16 v17 v18 v19 v20 v21 v22 v23 v24 v25 v26 v27 v28 v29 f30 (by first | rfl | exact h31 | exact h32 | exact h33 | exact h34 | exact h36)) ⟨callB_of 0 htx (xw_goodC kw_5_233) rfl rfl rfl (htx _ kw_1_5) (htx _ kw_5_230) ⟨by decide, by decide, by decide +kernel⟩ ⟨Nat.le_of_ble_eq_true rfl, Nat.le_of_ble_eq_true rfl⟩, (htx _ kw_5_232), (htx _ kp_M_peek)⟩ ⟨xPre_blind, va_recv hK hP (ci := 5) rfl (q0 := 1) rfl, (fun U hU hW => ⟨rfl, xPre_of hZ hS hFc hPc hDc hK U hU hW⟩)⟩ rfl rfl hl.1 rfl (lv_room (Nat.le_of_ble_eq_true rfl)) dM_says_11 ⟨Nat.le_of_ble_eq_true rfl, Nat.le_of_ble_eq_true rfl⟩) hS (fun q _ h => hFc q h) hFc (fun r11 u9 t H1 locs ht hvm hr9 hB hz1 hk1 hS => ?_)
  obtain ⟨hP1, hK1, hD1⟩ := hB
  rw [ht] at hP1
  obtain ⟨hP, hD⟩ := xjoin (W := [(a2, .inl (cT 4, 1024, .inr (.inr (.inr (.inr f35))))), (a0, .inr (5, [v3, .ref a2, .int 0, v4, v5, v6, v7, v8, v9, v10, v11, v12, v13, v14, v15, .ref a1, .int 3, .int 4, v16, v17, v18, v19, v20, v21, v22, v23, v24, v25, v26, v27, v28, v29])), (a1, .inl (cT 0, 4096, .inl f30))]) hP hD [1, 2] [0] 1 rfl rfl (by decide) (by decide) hk1 hFc hP1 hD1
  generalize H1 = H at hP hS ⊢
  rw [hr9]
  refine W.eq (g2 := F0 m 14 ls [.int 108]) rfl ?_
  refine lv_aload_n hx hb dM_says_14 rfl (lv_at hl 2 rfl) ?_
  refine lv_iload_n hx hb dM_says_15 rfl (lv_at hl 0 rfl) ?_
  obtain ⟨hPc, hDc, hFc⟩ := xcut (wc := []) hP hD hS hA [] rfl rfl (by decide)
  refine va_calli (va_runV (C := "java/lang/String") (As := [.int 3]) (rest := [.int 108]) ⟨hx, hb, hml, hown, htx⟩ (cJS_charAt_3 l hl9 D cT aK aV H.size) ⟨callB_of 1 htx (xw_goodC kw_2_80) rfl rfl rfl (htx _ kw_1_6) (htx _ kw_5_86) ⟨by decide, by decide, by decide +kernel⟩ ⟨Nat.le_of_ble_eq_true rfl, Nat.le_of_ble_eq_true rfl⟩, (htx _ kw_2_78), (htx _ kw_2_79)⟩ ⟨xPre_blind, vk_recv hZ.2.2.2.2.2.2.2.2.2.1 (i := 10) (by decide) hS, (fun U hU hW => ⟨rfl, xPre_of hZ hS hFc hPc hDc hK U hU hW⟩)⟩ rfl rfl hl.1 rfl (lv_room (Nat.le_of_ble_eq_true rfl)) dM_says_16 ⟨Nat.le_of_ble_eq_true rfl, Nat.le_of_ble_eq_true rfl⟩) hS (fun q _ h => hFc q h) hFc (fun r12 u9 t H1 locs ht hvm hr9 hB hz1 hk1 hS => ?_)
  obtain ⟨hP1, hK1, hD1⟩ := hB
  rw [ht] at hP1
  obtain ⟨hP, hD⟩ := xjoin (W := [(a2, .inl (cT 4, 1024, .inr (.inr (.inr (.inr f35))))), (a0, .inr (5, [v3, .ref a2, .int 0, v4, v5, v6, v7, v8, v9, v10, v11, v12, v13, v14, v15, .ref a1, .int 3, .int 4, v16, v17, v18, v19, v20, v21, v22, v23, v24, v25, v26, v27, v28, v29])), (a1, .inl (cT 0, 4096, .inl f30))]) hP hD [] [0, 1, 2] 3 rfl rfl (by decide) (by decide) hk1 hFc hP1 hD1
  generalize H1 = H at hP hS ⊢
  rw [hr9]
  refine W.eq (g2 := F0 m 19 ls [.int 108, .int 108]) rfl ?_
  refine lv_icmp_eq (tgt := 30) hx hb dM_says_19 (by decide) (fun _ => ?_) (fun h => ((by revert h; decide : False)).elim)
  refine lv_aload_n hx hb dM_says_30 rfl (lv_at hl 1 rfl) ?_
  refine lv_dup hx hb dM_says_31 rfl ?_
  refine va_get (D := D) (ci := 5) (v := .int 3) (C := "ValueBenchModel") (T := TM) (N := 32) hx hb htx inM hown hK hP 1 rfl rfl 16 (by decide) (htx _ kw_5_103) (fun _ h9 => h9) rfl dM_says_32 ?_
  refine lv_iconst (v := 1) hx hb dM_says_35 (by decide) ?_
  refine lv_iadd hx hb dM_says_36 ?_
  refine W.eq (g2 := F0 m 37 ls [.int 4, .ref a0]) rfl ?_
  refine va_put (D := D) (ci := 5) (v := .int 4) (ty := .int) (C := "ValueBenchModel") (T := TM) (N := 32) hx hb htx inM tyM tyM_ok nmM hown hK hP hD hS 1 rfl rfl 16 (by decide) (htx _ kw_5_103) (fun _ h9 => h9) rfl (by decide +kernel) rfl rfl (Nat.le_of_ble_eq_true rfl) dM_says_37 (fun H locs hP hD hS => ?_)
  obtain ⟨hP, hD⟩ : xPD D xcl A [(a2, .inl (cT 4, 1024, .inr (.inr (.inr (.inr f35))))), (a0, .inr (5, [v3, .ref a2, .int 0, v4, v5, v6, v7, v8, v9, v10, v11, v12, v13, v14, v15, .ref a1, .int 4, .int 4, v16, v17, v18, v19, v20, v21, v22, v23, v24, v25, v26, v27, v28, v29])), (a1, .inl (cT 0, 4096, .inl f30))] H := ⟨hP, hD⟩
  refine lv_iinc (v := 4) (lv' := [(3, .int 4), (0, .ref a0), (1, .ref (aK 10)), (2, .int 0)]) hx hb dM_says_40 hl (k := 0) rfl (by decide) (by decide) rfl (fun ls hl => ?_)
  refine lv_goto (tgt := 2) hx hb dM_says_43 (by decide) ?_
  refine lv_iload_n hx hb dM_says_2 rfl (lv_at hl 0 rfl) ?_
  refine lv_aload_n hx hb dM_says_3 rfl (lv_at hl 2 rfl) ?_
  obtain ⟨hPc, hDc, hFc⟩ := xcut (wc := []) hP hD hS hA [] rfl rfl (by decide)
  refine va_calli (va_runV (C := "java/lang/String") (As := []) (rest := [.int 4]) ⟨hx, hb, hml, hown, htx⟩ (cJS_length_0 l hl9 D cT aK aV H.size) ⟨callB_of 0 htx (xw_goodC kw_2_70) rfl rfl rfl (htx _ kw_1_6) (htx _ kw_5_238) ⟨by decide, by decide, by decide +kernel⟩ ⟨Nat.le_of_ble_eq_true rfl, Nat.le_of_ble_eq_true rfl⟩, (htx _ kw_2_68), (htx _ kw_2_69)⟩ ⟨xPre_blind, vk_recv hZ.2.2.2.2.2.2.2.2.2.1 (i := 10) (by decide) hS, (fun U hU hW => ⟨rfl, xPre_of hZ hS hFc hPc hDc hK U hU hW⟩)⟩ rfl rfl hl.1 rfl (lv_room (Nat.le_of_ble_eq_true rfl)) dM_says_4 ⟨Nat.le_of_ble_eq_true rfl, Nat.le_of_ble_eq_true rfl⟩) hS (fun q _ h => hFc q h) hFc (fun r13 u9 t H1 locs ht hvm hr9 hB hz1 hk1 hS => ?_)
  obtain ⟨hP1, hK1, hD1⟩ := hB
  rw [ht] at hP1
  obtain ⟨hP, hD⟩ := xjoin (W := [(a2, .inl (cT 4, 1024, .inr (.inr (.inr (.inr f35))))), (a0, .inr (5, [v3, .ref a2, .int 0, v4, v5, v6, v7, v8, v9, v10, v11, v12, v13, v14, v15, .ref a1, .int 4, .int 4, v16, v17, v18, v19, v20, v21, v22, v23, v24, v25, v26, v27, v28, v29])), (a1, .inl (cT 0, 4096, .inl f30))]) hP hD [] [0, 1, 2] 3 rfl rfl (by decide) (by decide) hk1 hFc hP1 hD1
  generalize H1 = H at hP hS ⊢
  rw [hr9]
  refine W.eq (g2 := F0 m 7 ls [.int 4, .int 4]) rfl ?_
  refine lv_icmp_ge (tgt := 46) hx hb dM_says_7 (by decide) (fun _ => ?_) (fun h => ((by revert h; decide : False)).elim)
  refine lv_aload_n hx hb dM_says_46 rfl (lv_at hl 1 rfl) ?_
  refine lv_iload_n hx hb dM_says_47 rfl (lv_at hl 3 rfl) ?_
  obtain ⟨hPc, hDc, hFc⟩ := xcut (wc := [(a0, .inr (5, [v3, .ref a2, .int 0, v4, v5, v6, v7, v8, v9, v10, v11, v12, v13, v14, v15, .ref a1, .int 4, .int 4, v16, v17, v18, v19, v20, v21, v22, v23, v24, v25, v26, v27, v28, v29])), (a2, .inl (cT 4, 1024, .inr (.inr (.inr (.inr f35)))))]) hP hD hS hA [1, 0] rfl rfl (by decide)
  refine va_callr (va_runV (C := "ValueBenchModel") (As := [.int 0]) (rest := []) ⟨hx, hb, hml, hown, htx⟩ (cM_fresh_4 l hl9 D cT aK aV H.size a0 a2 v3 v4 v5 v6 v7 v8 v9 v10 v11 v12 v13 v14 v15 (.ref a1) (.int 4) (.int 4) v16 v17 v18 v19 v20 v21 v22 v23 v24 v25 v26 v27 v28 v29 f35 (by first | rfl | exact h31 | exact h32 | exact h33 | exact h34 | exact h36)) ⟨callB_of 1 htx (xw_goodC kw_6_16) rfl rfl rfl (htx _ kw_1_5) (htx _ kw_6_13) ⟨by decide, by decide, by decide +kernel⟩ ⟨Nat.le_of_ble_eq_true rfl, Nat.le_of_ble_eq_true rfl⟩, (htx _ kw_6_15), (htx _ kp_M_fresh)⟩ ⟨xPre_blind, va_recv hK hP (ci := 5) rfl (q0 := 1) rfl, (fun U hU hW => ⟨rfl, xPre_of hZ hS hFc hPc hDc hK U hU hW⟩)⟩ rfl rfl hl.1 rfl (lv_room (Nat.le_of_ble_eq_true rfl)) dM_says_48 ⟨Nat.le_of_ble_eq_true rfl, Nat.le_of_ble_eq_true rfl⟩) hS (fun q _ h => hFc q h) hFc (fun u9 r14 t H1 locs ht hvm hr9 hB hz1 hk1 hS => ?_)
  obtain ⟨hP1, hK1, hD1⟩ := hB
  rw [ht] at hP1
  obtain ⟨hP, hD⟩ := xjoin (W := [(a1, .inl (cT 0, 4096, .inl f30)), (a0, .inr (5, [v3, .ref a2, .int 1, v4, v5, v6, v7, v8, v9, v10, v11, v12, v13, v14, v15, .ref a1, .int 4, .int 4, v16, v17, v18, v19, v20, v21, v22, v23, v24, v25, v26, v27, v28, v29])), (a2, .inl (cT 4, 1024, .inr (.inr (.inr (.inr (va_up f35 0 (some r14))))))), (r14, .inr (6, [.int 0, .long 0, .int 0, .int 0, .int 0, .int 1]))]) hP hD [1, 0] [2] 1 rfl rfl (by decide) (by decide) hk1 hFc hP1 hD1
  generalize H1 = H at hP hS ⊢
  refine W.eq (g2 := F0 m 51 ls [.ref r14]) rfl ?_
  obtain ⟨hP9, hD9⟩ := xsub (wc := [(a0, .inr (5, [v3, .ref a2, .int 1, v4, v5, v6, v7, v8, v9, v10, v11, v12, v13, v14, v15, .ref a1, .int 4, .int 4, v16, v17, v18, v19, v20, v21, v22, v23, v24, v25, v26, v27, v28, v29])), (a1, .inl (cT 0, 4096, .inl f30)), (a2, .inl (cT 4, 1024, .inr (.inr (.inr (.inr (va_up f35 0 (some r14))))))), (r14, .inr (6, [.int 0, .long 0, .int 0, .int 0, .int 0, .int 1]))]) hP hD [1, 0, 2, 3] rfl rfl (by decide)
  refine W.widen (k := 1) (n := 6) (Nat.le_of_ble_eq_true rfl) (Nat.le_of_ble_eq_true rfl) ?_
  exact W.aret hx hb hr (Or.inl ⟨_, rfl⟩) (Or.inr ⟨_, rfl⟩) (fun t ht hW => ⟨⟨(), r14, rfl, trivial, by rw [ht]; exact hP9, va_K.moved hW.alike hK, hD9⟩, hS.F ht⟩) hS.2.2 dM_says_51
set_option maxHeartbeats 400000000 in
set_option maxRecDepth 100000 in
theorem cM_value_3 (l : Launch) (hl9 : l.stackTraces = false) (D : va_G) (cT : Nat → ClassId) (aK aV : Nat → Nat) (sz : Nat) (a0 : Nat) (a1 : Nat) (a2 : Nat) (v3 : Value) (v4 : Value) (v5 : Value) (v6 : Value) (v7 : Value) (v8 : Value) (v9 : Value) (v10 : Value) (v11 : Value) (v12 : Value) (v13 : Value) (v14 : Value) (v15 : Value) (v16 : Value) (v17 : Value) (v18 : Value) (v19 : Value) (v20 : Value) (v21 : Value) (v22 : Value) (v23 : Value) (v24 : Value) (v25 : Value) (v26 : Value) (v27 : Value) (v28 : Value) (v29 : Value) (f30 : Nat → Int32) (f35 : Nat → Option Nat) (h31 : f30 0 = 110) (h32 : f30 1 = 117) (h33 : f30 2 = 108) (h34 : f30 3 = 108) (h36 : f35 0 = none) : xMet l yM_value wyM_value 5 1 6 108 D cT aK aV sz [.ref a0] [(a0, .inr (5, [v3, .ref a2, .int 0, v4, v5, v6, v7, v8, v9, v10, v11, v12, v13, v14, v15, .ref a1, .int 0, .int 4, v16, v17, v18, v19, v20, v21, v22, v23, v24, v25, v26, v27, v28, v29])), (a1, .inl (cT 0, 4096, .inl f30)), (a2, .inl (cT 4, 1024, .inr (.inr (.inr (.inr f35)))))] (fun A => va_Qr (fun _ : Unit => True) (fun _ r2 t => xB D xcl cT A [(a0, .inr (5, [v3, .ref a2, .int 1, v4, v5, v6, v7, v8, v9, v10, v11, v12, v13, v14, v15, .ref a1, .int 4, .int 4, v16, v17, v18, v19, v20, v21, v22, v23, v24, v25, v26, v27, v28, v29])), (a1, .inl (cT 0, 4096, .inl f30)), (a2, .inl (cT 4, 1024, .inr (.inr (.inr (.inr (va_up f35 0 (some r2))))))), (r2, .inr (6, [.int 0, .long 0, .int 0, .int 0, .int 0, .int 1]))] t) A) := by
  refine Met.ofW (cc := prog_13_method_34_code) (maxL := 3) (ret := (some (.object "ValueBenchModel$V"))) (by decide) rfl ?_
  intro p e s m args below meth c s₁ B hml hv
  obtain ⟨rfl, hsz, hZ, hP, hK, hD0⟩ := hv
  have hx := B.exec
  have hb := B.bytes
  have hr := B.returns
  have hts := atoms_spec (ws := wyM_value) B.pre
  have htx := fun w h => hts w (List.mem_cons_of_mem _ h)
  have hown : s.vm.findClass "ValueBenchModel" = some m.cls := findClass_of_methodNamed B.named
  have hlocks := B.notSynchronized
  subst hsz
  have hD := hD0.self (sz := s.heap.size)
  generalize hAe : va_A [(a0, .inr (5, [v3, .ref a2, .int 0, v4, v5, v6, v7, v8, v9, v10, v11, v12, v13, v14, v15, .ref a1, .int 0, .int 4, v16, v17, v18, v19, v20, v21, v22, v23, v24, v25, v26, v27, v28, v29])), (a1, .inl (cT 0, 4096, .inl f30)), (a2, .inl (cT 4, 1024, .inr (.inr (.inr (.inr f35)))))] s.heap.size = A at hD hZ ⊢
  have hA : ∀ q : Nat, s.heap.size ≤ q → A q := fun q h => by rw [← hAe]; exact Or.inr h
  have hS : va_S A s.heap s.heap [] := va_S.rf
  have hP : va_P D xcl [(a0, .inr (5, [v3, .ref a2, .int 0, v4, v5, v6, v7, v8, v9, v10, v11, v12, v13, v14, v15, .ref a1, .int 0, .int 4, v16, v17, v18, v19, v20, v21, v22, v23, v24, v25, v26, v27, v28, v29])), (a1, .inl (cT 0, 4096, .inl f30)), (a2, .inl (cT 4, 1024, .inr (.inr (.inr (.inr f35)))))] s.heap := hP
  have hl := lv_entry ([.ref a0]) (n := 3) (Nat.le_of_ble_eq_true rfl)
  rw [lg_entry_eq]
  generalize (lg_sl ([.ref a0]) ++ List.replicate (3 - (lg_sl ([.ref a0])).length) Slot.unset).toArray = ls at hl ⊢
  have hl : lv_has ls 3 [(0, .ref a0)] := hl
  refine lv_aload_n hx hb dM_value_0 rfl (lv_at hl 0 rfl) ?_
  obtain ⟨hPc, hDc, hFc⟩ := xcut (wc := [(a0, .inr (5, [v3, .ref a2, .int 0, v4, v5, v6, v7, v8, v9, v10, v11, v12, v13, v14, v15, .ref a1, .int 0, .int 4, v16, v17, v18, v19, v20, v21, v22, v23, v24, v25, v26, v27, v28, v29])), (a1, .inl (cT 0, 4096, .inl f30))]) hP hD hS hA [0, 1] rfl rfl (by decide)
  refine va_callv (va_runV (C := "ValueBenchModel") (As := []) (rest := []) ⟨hx, hb, hml, hown, htx⟩ (cM_blanks_1 l hl9 D cT aK aV s.heap.size a0 a1 v3 (.ref a2) (.int 0) v4 v5 v6 v7 v8 v9 v10 v11 v12 v13 v14 v15 v16 v17 v18 v19 v20 v21 v22 v23 v24 v25 v26 v27 v28 v29 f30 (by first | rfl | exact h31 | exact h32 | exact h33 | exact h34 | exact h36)) ⟨callB_of 0 htx (xw_goodC kw_5_229) rfl rfl rfl (htx _ kw_1_5) (htx _ kw_5_226) ⟨by decide, by decide, by decide +kernel⟩ ⟨Nat.le_of_ble_eq_true rfl, Nat.le_of_ble_eq_true rfl⟩, (htx _ kw_5_228), (htx _ kp_M_blanks)⟩ ⟨xPre_blind, va_recv hK hP (ci := 5) rfl (q0 := 0) rfl, (fun U hU hW => ⟨rfl, xPre_of hZ hS hFc hPc hDc hK U hU hW⟩)⟩ rfl rfl hl.1 rfl (lv_room (Nat.le_of_ble_eq_true rfl)) dM_value_1 ⟨Nat.le_of_ble_eq_true rfl, Nat.le_of_ble_eq_true rfl⟩) hS (fun q _ h => hFc q h) hFc (fun u9 t H1 locs ht hvm hr9 hB hz1 hk1 hS => ?_)
  obtain ⟨hP1, hK1, hD1⟩ := hB
  rw [ht] at hP1
  obtain ⟨hP, hD⟩ := xjoin (W := [(a2, .inl (cT 4, 1024, .inr (.inr (.inr (.inr f35))))), (a0, .inr (5, [v3, .ref a2, .int 0, v4, v5, v6, v7, v8, v9, v10, v11, v12, v13, v14, v15, .ref a1, .int 0, .int 4, v16, v17, v18, v19, v20, v21, v22, v23, v24, v25, v26, v27, v28, v29])), (a1, .inl (cT 0, 4096, .inl f30))]) hP hD [0, 1] [2] 1 rfl rfl (by decide) (by decide) hk1 hFc hP1 hD1
  generalize H1 = H at hP hS ⊢
  refine lv_aload_n hx hb dM_value_4 rfl (lv_at hl 0 rfl) ?_
  obtain ⟨hPc, hDc, hFc⟩ := xcut (wc := [(a0, .inr (5, [v3, .ref a2, .int 0, v4, v5, v6, v7, v8, v9, v10, v11, v12, v13, v14, v15, .ref a1, .int 0, .int 4, v16, v17, v18, v19, v20, v21, v22, v23, v24, v25, v26, v27, v28, v29])), (a1, .inl (cT 0, 4096, .inl f30))]) hP hD hS hA [1, 2] rfl rfl (by decide)
  refine va_calli (va_runV (C := "ValueBenchModel") (As := []) (rest := []) ⟨hx, hb, hml, hown, htx⟩ (cM_peek_1 l hl9 D cT aK aV H.size a0 a1 v3 (.ref a2) (.int 0) v4 v5 v6 v7 v8 v9 v10 v11 v12 v13 v14 v15 v16 v17 v18 v19 v20 v21 v22 v23 v24 v25 v26 v27 v28 v29 f30 (by first | rfl | exact h31 | exact h32 | exact h33 | exact h34 | exact h36)) ⟨callB_of 0 htx (xw_goodC kw_5_233) rfl rfl rfl (htx _ kw_1_5) (htx _ kw_5_230) ⟨by decide, by decide, by decide +kernel⟩ ⟨Nat.le_of_ble_eq_true rfl, Nat.le_of_ble_eq_true rfl⟩, (htx _ kw_5_232), (htx _ kp_M_peek)⟩ ⟨xPre_blind, va_recv hK hP (ci := 5) rfl (q0 := 1) rfl, (fun U hU hW => ⟨rfl, xPre_of hZ hS hFc hPc hDc hK U hU hW⟩)⟩ rfl rfl hl.1 rfl (lv_room (Nat.le_of_ble_eq_true rfl)) dM_value_5 ⟨Nat.le_of_ble_eq_true rfl, Nat.le_of_ble_eq_true rfl⟩) hS (fun q _ h => hFc q h) hFc (fun r1 u9 t H1 locs ht hvm hr9 hB hz1 hk1 hS => ?_)
  obtain ⟨hP1, hK1, hD1⟩ := hB
  rw [ht] at hP1
  obtain ⟨hP, hD⟩ := xjoin (W := [(a2, .inl (cT 4, 1024, .inr (.inr (.inr (.inr f35))))), (a0, .inr (5, [v3, .ref a2, .int 0, v4, v5, v6, v7, v8, v9, v10, v11, v12, v13, v14, v15, .ref a1, .int 0, .int 4, v16, v17, v18, v19, v20, v21, v22, v23, v24, v25, v26, v27, v28, v29])), (a1, .inl (cT 0, 4096, .inl f30))]) hP hD [1, 2] [0] 1 rfl rfl (by decide) (by decide) hk1 hFc hP1 hD1
  generalize H1 = H at hP hS ⊢
  rw [hr9]
  refine W.eq (g2 := F0 m 8 ls [.int 110]) rfl ?_
  refine lv_istore_n (lv' := [(1, .int 110), (0, .ref a0)]) hx hb dM_value_8 rfl hl (by decide) rfl (fun ls hl => ?_)
  refine lv_iload_n hx hb dM_value_9 rfl (lv_at hl 0 rfl) ?_
  refine lv_bipush (v := 110) hx hb dM_value_10 (by decide) ?_
  refine lv_icmp_ne (tgt := 23) hx hb dM_value_12 (by decide) (fun h => ((by revert h; decide : False)).elim) (fun _ => ?_)
  refine lv_aload_n hx hb dM_value_15 rfl (lv_at hl 1 rfl) ?_
  refine va_ldcS (q := aK 10) hx hb hown (hZ.2.2.2.2.2.2.2.2.1 _ (List.mem_of_getElem? (i := 17) rfl)) dM_value_16 ?_
  refine lv_iconst (v := 0) hx hb dM_value_18 (by decide) ?_
  obtain ⟨hPc, hDc, hFc⟩ := xcut (wc := [(a0, .inr (5, [v3, .ref a2, .int 0, v4, v5, v6, v7, v8, v9, v10, v11, v12, v13, v14, v15, .ref a1, .int 0, .int 4, v16, v17, v18, v19, v20, v21, v22, v23, v24, v25, v26, v27, v28, v29])), (a1, .inl (cT 0, 4096, .inl f30)), (a2, .inl (cT 4, 1024, .inr (.inr (.inr (.inr f35)))))]) hP hD hS hA [1, 2, 0] rfl rfl (by decide)
  refine va_callr (va_runV (C := "ValueBenchModel") (As := [.ref (aK 10), .int 0]) (rest := []) ⟨hx, hb, hml, hown, htx⟩ (cM_says_2 l hl9 D cT aK aV H.size a0 a1 a2 v3 v4 v5 v6 v7 v8 v9 v10 v11 v12 v13 v14 v15 v16 v17 v18 v19 v20 v21 v22 v23 v24 v25 v26 v27 v28 v29 f30 f35 (by first | rfl | exact h31 | exact h32 | exact h33 | exact h34 | exact h36) (by first | rfl | exact h31 | exact h32 | exact h33 | exact h34 | exact h36) (by first | rfl | exact h31 | exact h32 | exact h33 | exact h34 | exact h36) (by first | rfl | exact h31 | exact h32 | exact h33 | exact h34 | exact h36) (by first | rfl | exact h31 | exact h32 | exact h33 | exact h34 | exact h36)) ⟨callB_of 2 htx (xw_goodC kw_5_237) rfl rfl rfl (htx _ kw_1_5) (htx _ kw_5_234) ⟨by decide, by decide, by decide +kernel⟩ ⟨Nat.le_of_ble_eq_true rfl, Nat.le_of_ble_eq_true rfl⟩, (htx _ kw_5_236), (htx _ kp_M_says)⟩ ⟨xPre_blind, va_recv hK hP (ci := 5) rfl (q0 := 1) rfl, (fun U hU hW => ⟨rfl, xPre_of hZ hS hFc hPc hDc hK U hU hW⟩)⟩ rfl rfl hl.1 rfl (lv_room (Nat.le_of_ble_eq_true rfl)) dM_value_19 ⟨Nat.le_of_ble_eq_true rfl, Nat.le_of_ble_eq_true rfl⟩) hS (fun q _ h => hFc q h) hFc (fun u9 r2 t H1 locs ht hvm hr9 hB hz1 hk1 hS => ?_)
  obtain ⟨hP1, hK1, hD1⟩ := hB
  rw [ht] at hP1
  obtain ⟨hP, hD⟩ := xjoin (W := [(a0, .inr (5, [v3, .ref a2, .int 1, v4, v5, v6, v7, v8, v9, v10, v11, v12, v13, v14, v15, .ref a1, .int 4, .int 4, v16, v17, v18, v19, v20, v21, v22, v23, v24, v25, v26, v27, v28, v29])), (a1, .inl (cT 0, 4096, .inl f30)), (a2, .inl (cT 4, 1024, .inr (.inr (.inr (.inr (va_up f35 0 (some r2))))))), (r2, .inr (6, [.int 0, .long 0, .int 0, .int 0, .int 0, .int 1]))]) hP hD [1, 2, 0] [] 0 rfl rfl (by decide) (by decide) hk1 hFc hP1 hD1
  generalize H1 = H at hP hS ⊢
  refine W.eq (g2 := F0 m 22 ls [.ref r2]) rfl ?_
  obtain ⟨hP9, hD9⟩ := xsub (wc := [(a0, .inr (5, [v3, .ref a2, .int 1, v4, v5, v6, v7, v8, v9, v10, v11, v12, v13, v14, v15, .ref a1, .int 4, .int 4, v16, v17, v18, v19, v20, v21, v22, v23, v24, v25, v26, v27, v28, v29])), (a1, .inl (cT 0, 4096, .inl f30)), (a2, .inl (cT 4, 1024, .inr (.inr (.inr (.inr (va_up f35 0 (some r2))))))), (r2, .inr (6, [.int 0, .long 0, .int 0, .int 0, .int 0, .int 1]))]) hP hD [0, 1, 2, 3] rfl rfl (by decide)
  refine W.widen (k := 1) (n := 6) (Nat.le_of_ble_eq_true rfl) (Nat.le_of_ble_eq_true rfl) ?_
  exact W.aret hx hb hr (Or.inl ⟨_, rfl⟩) (Or.inr ⟨_, rfl⟩) (fun t ht hW => ⟨⟨(), r2, rfl, trivial, by rw [ht]; exact hP9, va_K.moved hW.alike hK, hD9⟩, hS.F ht⟩) hS.2.2 dM_value_22
set_option maxHeartbeats 400000000 in
set_option maxRecDepth 100000 in
theorem cM_json_3 (l : Launch) (hl9 : l.stackTraces = false) (D : va_G) (cT : Nat → ClassId) (aK aV : Nat → Nat) (sz : Nat) (a0 : Nat) (a1 : Nat) (a2 : Nat) (v3 : Value) (v4 : Value) (v5 : Value) (v6 : Value) (v7 : Value) (v8 : Value) (v9 : Value) (v10 : Value) (v11 : Value) (v12 : Value) (v13 : Value) (v14 : Value) (v15 : Value) (v16 : Value) (v17 : Value) (v18 : Value) (v19 : Value) (v20 : Value) (v21 : Value) (v22 : Value) (v23 : Value) (v24 : Value) (v25 : Value) (v26 : Value) (v27 : Value) (v28 : Value) (v29 : Value) (v30 : Value) (v31 : Value) (v32 : Value) (f33 : Nat → Int32) (f38 : Nat → Option Nat) (h34 : f33 0 = 110) (h35 : f33 1 = 117) (h36 : f33 2 = 108) (h37 : f33 3 = 108) (h39 : f38 0 = none) : xMet l yM_json wyM_json 6 1 6 130 D cT aK aV sz [.ref a0, .ref a1, .int 0, .int 4] [(a0, .inr (5, [v3, .ref a2, .int 0, v4, v5, v6, v7, v8, v9, v10, v11, v12, v13, v14, v15, v16, v17, v18, v19, v20, v21, v22, v23, v24, v25, v26, v27, v28, v29, v30, v31, v32])), (a1, .inl (cT 0, 4096, .inl f33)), (a2, .inl (cT 4, 1024, .inr (.inr (.inr (.inr f38)))))] (fun A => va_Qr (fun _ : Unit => True) (fun _ r1 t => xB D xcl cT A [(a0, .inr (5, [v3, .ref a2, .int 1, v4, v5, v6, v7, v8, v9, v10, v11, v12, v13, v14, v15, .ref a1, .int 4, .int 4, .int 0, v20, v21, v22, v23, v24, v25, v26, v27, v28, v29, v30, v31, v32])), (a1, .inl (cT 0, 4096, .inl f33)), (a2, .inl (cT 4, 1024, .inr (.inr (.inr (.inr (va_up f38 0 (some r1))))))), (r1, .inr (6, [.int 0, .long 0, .int 0, .int 0, .int 0, .int 1]))] t) A) := by
  refine Met.ofW (cc := prog_13_method_32_code) (maxL := 5) (ret := (some (.object "ValueBenchModel$V"))) (by decide) rfl ?_
  intro p e s m args below meth c s₁ B hml hv
  obtain ⟨rfl, hsz, hZ, hP, hK, hD0⟩ := hv
  have hx := B.exec
  have hb := B.bytes
  have hr := B.returns
  have hts := atoms_spec (ws := wyM_json) B.pre
  have htx := fun w h => hts w (List.mem_cons_of_mem _ h)
  have hown : s.vm.findClass "ValueBenchModel" = some m.cls := findClass_of_methodNamed B.named
  have hlocks := B.notSynchronized
  subst hsz
  have hD := hD0.self (sz := s.heap.size)
  generalize hAe : va_A [(a0, .inr (5, [v3, .ref a2, .int 0, v4, v5, v6, v7, v8, v9, v10, v11, v12, v13, v14, v15, v16, v17, v18, v19, v20, v21, v22, v23, v24, v25, v26, v27, v28, v29, v30, v31, v32])), (a1, .inl (cT 0, 4096, .inl f33)), (a2, .inl (cT 4, 1024, .inr (.inr (.inr (.inr f38)))))] s.heap.size = A at hD hZ ⊢
  have hA : ∀ q : Nat, s.heap.size ≤ q → A q := fun q h => by rw [← hAe]; exact Or.inr h
  have hS : va_S A s.heap s.heap [] := va_S.rf
  have hP : va_P D xcl [(a0, .inr (5, [v3, .ref a2, .int 0, v4, v5, v6, v7, v8, v9, v10, v11, v12, v13, v14, v15, v16, v17, v18, v19, v20, v21, v22, v23, v24, v25, v26, v27, v28, v29, v30, v31, v32])), (a1, .inl (cT 0, 4096, .inl f33)), (a2, .inl (cT 4, 1024, .inr (.inr (.inr (.inr f38)))))] s.heap := hP
  have hl := lv_entry ([.ref a0, .ref a1, .int 0, .int 4]) (n := 5) (Nat.le_of_ble_eq_true rfl)
  rw [lg_entry_eq]
  generalize (lg_sl ([.ref a0, .ref a1, .int 0, .int 4]) ++ List.replicate (5 - (lg_sl ([.ref a0, .ref a1, .int 0, .int 4])).length) Slot.unset).toArray = ls at hl ⊢
  have hl : lv_has ls 5 [(0, .ref a0), (1, .ref a1), (2, .int 0), (3, .int 4)] := hl
  refine lv_aload_n hx hb dM_json_0 rfl (lv_at hl 0 rfl) ?_
  refine lv_aload_n hx hb dM_json_1 rfl (lv_at hl 1 rfl) ?_
  refine va_put (D := D) (ci := 5) (v := .ref a1) (ty := (.array .byte)) (C := "ValueBenchModel") (T := TM) (N := 32) hx hb htx inM tyM tyM_ok nmM hown hK hP hD hS 0 rfl rfl 15 (by decide) (htx _ kw_5_102) (fun _ h9 => h9) rfl (by decide +kernel) rfl rfl (Nat.le_of_ble_eq_true rfl) dM_json_2 (fun H locs hP hD hS => ?_)
  obtain ⟨hP, hD⟩ : xPD D xcl A [(a0, .inr (5, [v3, .ref a2, .int 0, v4, v5, v6, v7, v8, v9, v10, v11, v12, v13, v14, v15, .ref a1, v17, v18, v19, v20, v21, v22, v23, v24, v25, v26, v27, v28, v29, v30, v31, v32])), (a1, .inl (cT 0, 4096, .inl f33)), (a2, .inl (cT 4, 1024, .inr (.inr (.inr (.inr f38)))))] H := ⟨hP, hD⟩
  refine lv_aload_n hx hb dM_json_5 rfl (lv_at hl 0 rfl) ?_
  refine lv_iload_n hx hb dM_json_6 rfl (lv_at hl 2 rfl) ?_
  refine va_put (D := D) (ci := 5) (v := .int 0) (ty := .int) (C := "ValueBenchModel") (T := TM) (N := 32) hx hb htx inM tyM tyM_ok nmM hown hK hP hD hS 0 rfl rfl 16 (by decide) (htx _ kw_5_103) (fun _ h9 => h9) rfl (by decide +kernel) rfl rfl (Nat.le_of_ble_eq_true rfl) dM_json_7 (fun H locs hP hD hS => ?_)
  obtain ⟨hP, hD⟩ : xPD D xcl A [(a0, .inr (5, [v3, .ref a2, .int 0, v4, v5, v6, v7, v8, v9, v10, v11, v12, v13, v14, v15, .ref a1, .int 0, v18, v19, v20, v21, v22, v23, v24, v25, v26, v27, v28, v29, v30, v31, v32])), (a1, .inl (cT 0, 4096, .inl f33)), (a2, .inl (cT 4, 1024, .inr (.inr (.inr (.inr f38)))))] H := ⟨hP, hD⟩
  refine lv_aload_n hx hb dM_json_10 rfl (lv_at hl 0 rfl) ?_
  refine lv_iload_n hx hb dM_json_11 rfl (lv_at hl 3 rfl) ?_
  refine va_put (D := D) (ci := 5) (v := .int 4) (ty := .int) (C := "ValueBenchModel") (T := TM) (N := 32) hx hb htx inM tyM tyM_ok nmM hown hK hP hD hS 0 rfl rfl 17 (by decide) (htx _ kw_5_104) (fun _ h9 => h9) rfl (by decide +kernel) rfl rfl (Nat.le_of_ble_eq_true rfl) dM_json_12 (fun H locs hP hD hS => ?_)
  obtain ⟨hP, hD⟩ : xPD D xcl A [(a0, .inr (5, [v3, .ref a2, .int 0, v4, v5, v6, v7, v8, v9, v10, v11, v12, v13, v14, v15, .ref a1, .int 0, .int 4, v19, v20, v21, v22, v23, v24, v25, v26, v27, v28, v29, v30, v31, v32])), (a1, .inl (cT 0, 4096, .inl f33)), (a2, .inl (cT 4, 1024, .inr (.inr (.inr (.inr f38)))))] H := ⟨hP, hD⟩
  refine lv_aload_n hx hb dM_json_15 rfl (lv_at hl 0 rfl) ?_
  refine lv_iconst (v := 0) hx hb dM_json_16 (by decide) ?_
  refine va_put (D := D) (ci := 5) (v := .int 0) (ty := .int) (C := "ValueBenchModel") (T := TM) (N := 32) hx hb htx inM tyM tyM_ok nmM hown hK hP hD hS 0 rfl rfl 18 (by decide) (htx _ kw_5_105) (fun _ h9 => h9) rfl (by decide +kernel) rfl rfl (Nat.le_of_ble_eq_true rfl) dM_json_17 (fun H locs hP hD hS => ?_)
  obtain ⟨hP, hD⟩ : xPD D xcl A [(a0, .inr (5, [v3, .ref a2, .int 0, v4, v5, v6, v7, v8, v9, v10, v11, v12, v13, v14, v15, .ref a1, .int 0, .int 4, .int 0, v20, v21, v22, v23, v24, v25, v26, v27, v28, v29, v30, v31, v32])), (a1, .inl (cT 0, 4096, .inl f33)), (a2, .inl (cT 4, 1024, .inr (.inr (.inr (.inr f38)))))] H := ⟨hP, hD⟩
  refine lv_aload_n hx hb dM_json_20 rfl (lv_at hl 0 rfl) ?_
  obtain ⟨hPc, hDc, hFc⟩ := xcut (wc := [(a0, .inr (5, [v3, .ref a2, .int 0, v4, v5, v6, v7, v8, v9, v10, v11, v12, v13, v14, v15, .ref a1, .int 0, .int 4, .int 0, v20, v21, v22, v23, v24, v25, v26, v27, v28, v29, v30, v31, v32])), (a1, .inl (cT 0, 4096, .inl f33)), (a2, .inl (cT 4, 1024, .inr (.inr (.inr (.inr f38)))))]) hP hD hS hA [0, 1, 2] rfl rfl (by decide)
  refine va_callr (va_runV (C := "ValueBenchModel") (As := []) (rest := []) ⟨hx, hb, hml, hown, htx⟩ (cM_value_3 l hl9 D cT aK aV H.size a0 a1 a2 v3 v4 v5 v6 v7 v8 v9 v10 v11 v12 v13 v14 v15 (.int 0) v20 v21 v22 v23 v24 v25 v26 v27 v28 v29 v30 v31 v32 f33 f38 (by first | rfl | exact h34 | exact h35 | exact h36 | exact h37 | exact h39) (by first | rfl | exact h34 | exact h35 | exact h36 | exact h37 | exact h39) (by first | rfl | exact h34 | exact h35 | exact h36 | exact h37 | exact h39) (by first | rfl | exact h34 | exact h35 | exact h36 | exact h37 | exact h39) (by first | rfl | exact h34 | exact h35 | exact h36 | exact h37 | exact h39)) ⟨callB_of 0 htx (xw_goodC kw_5_225) rfl rfl rfl (htx _ kw_1_5) (htx _ kw_5_222) ⟨by decide, by decide, by decide +kernel⟩ ⟨Nat.le_of_ble_eq_true rfl, Nat.le_of_ble_eq_true rfl⟩, (htx _ kw_5_224), (htx _ kp_M_value)⟩ ⟨xPre_blind, va_recv hK hP (ci := 5) rfl (q0 := 0) rfl, (fun U hU hW => ⟨rfl, xPre_of hZ hS hFc hPc hDc hK U hU hW⟩)⟩ rfl rfl hl.1 rfl (lv_room (Nat.le_of_ble_eq_true rfl)) dM_json_21 ⟨Nat.le_of_ble_eq_true rfl, Nat.le_of_ble_eq_true rfl⟩) hS (fun q _ h => hFc q h) hFc (fun u9 r1 t H1 locs ht hvm hr9 hB hz1 hk1 hS => ?_)
  obtain ⟨hP1, hK1, hD1⟩ := hB
  rw [ht] at hP1
  obtain ⟨hP, hD⟩ := xjoin (W := [(a0, .inr (5, [v3, .ref a2, .int 1, v4, v5, v6, v7, v8, v9, v10, v11, v12, v13, v14, v15, .ref a1, .int 4, .int 4, .int 0, v20, v21, v22, v23, v24, v25, v26, v27, v28, v29, v30, v31, v32])), (a1, .inl (cT 0, 4096, .inl f33)), (a2, .inl (cT 4, 1024, .inr (.inr (.inr (.inr (va_up f38 0 (some r1))))))), (r1, .inr (6, [.int 0, .long 0, .int 0, .int 0, .int 0, .int 1]))]) hP hD [0, 1, 2] [] 0 rfl rfl (by decide) (by decide) hk1 hFc hP1 hD1
  generalize H1 = H at hP hS ⊢
  refine W.eq (g2 := F0 m 24 ls [.ref r1]) rfl ?_
  refine lv_astore (lv' := [(4, .ref r1), (0, .ref a0), (1, .ref a1), (2, .int 0), (3, .int 4)]) hx hb dM_json_24 hl (by decide) rfl (fun ls hl => ?_)
  refine lv_aload_n hx hb dM_json_26 rfl (lv_at hl 1 rfl) ?_
  obtain ⟨hPc, hDc, hFc⟩ := xcut (wc := [(a0, .inr (5, [v3, .ref a2, .int 1, v4, v5, v6, v7, v8, v9, v10, v11, v12, v13, v14, v15, .ref a1, .int 4, .int 4, .int 0, v20, v21, v22, v23, v24, v25, v26, v27, v28, v29, v30, v31, v32]))]) hP hD hS hA [0] rfl rfl (by decide)
  refine va_callv (va_runV (C := "ValueBenchModel") (As := []) (rest := []) ⟨hx, hb, hml, hown, htx⟩ (cM_blanks_2 l hl9 D cT aK aV H.size a0 v3 (.ref a2) (.int 1) v4 v5 v6 v7 v8 v9 v10 v11 v12 v13 v14 v15 (.ref a1) (.int 0) v20 v21 v22 v23 v24 v25 v26 v27 v28 v29 v30 v31 v32) ⟨callB_of 0 htx (xw_goodC kw_5_229) rfl rfl rfl (htx _ kw_1_5) (htx _ kw_5_226) ⟨by decide, by decide, by decide +kernel⟩ ⟨Nat.le_of_ble_eq_true rfl, Nat.le_of_ble_eq_true rfl⟩, (htx _ kw_5_228), (htx _ kp_M_blanks)⟩ ⟨xPre_blind, va_recv hK hP (ci := 5) rfl (q0 := 0) rfl, (fun U hU hW => ⟨rfl, xPre_of hZ hS hFc hPc hDc hK U hU hW⟩)⟩ rfl rfl hl.1 rfl (lv_room (Nat.le_of_ble_eq_true rfl)) dM_json_27 ⟨Nat.le_of_ble_eq_true rfl, Nat.le_of_ble_eq_true rfl⟩) hS (fun q _ h => hFc q h) hFc (fun u9 t H1 locs ht hvm hr9 hB hz1 hk1 hS => ?_)
  obtain ⟨hP1, hK1, hD1⟩ := hB
  rw [ht] at hP1
  obtain ⟨hP, hD⟩ := xjoin (W := [(a1, .inl (cT 0, 4096, .inl f33)), (a2, .inl (cT 4, 1024, .inr (.inr (.inr (.inr (va_up f38 0 (some r1))))))), (r1, .inr (6, [.int 0, .long 0, .int 0, .int 0, .int 0, .int 1])), (a0, .inr (5, [v3, .ref a2, .int 1, v4, v5, v6, v7, v8, v9, v10, v11, v12, v13, v14, v15, .ref a1, .int 4, .int 4, .int 0, v20, v21, v22, v23, v24, v25, v26, v27, v28, v29, v30, v31, v32]))]) hP hD [0] [1, 2, 3] 3 rfl rfl (by decide) (by decide) hk1 hFc hP1 hD1
  generalize H1 = H at hP hS ⊢
  refine lv_aload_n hx hb dM_json_30 rfl (lv_at hl 1 rfl) ?_
  refine va_get (D := D) (ci := 5) (v := .int 4) (C := "ValueBenchModel") (T := TM) (N := 32) hx hb htx inM hown hK hP 3 rfl rfl 16 (by decide) (htx _ kw_5_103) (fun _ h9 => h9) rfl dM_json_31 ?_
  refine lv_aload_n hx hb dM_json_34 rfl (lv_at hl 1 rfl) ?_
  refine va_get (D := D) (ci := 5) (v := .int 4) (C := "ValueBenchModel") (T := TM) (N := 32) hx hb htx inM hown hK hP 3 rfl rfl 17 (by decide) (htx _ kw_5_104) (fun _ h9 => h9) rfl dM_json_35 ?_
  refine lv_icmp_ge (tgt := 49) hx hb dM_json_38 (by decide) (fun _ => ?_) (fun h => ((by revert h; decide : False)).elim)
  refine lv_aload hx hb dM_json_49 (lv_at hl 0 rfl) ?_
  obtain ⟨hP9, hD9⟩ := xsub (wc := [(a0, .inr (5, [v3, .ref a2, .int 1, v4, v5, v6, v7, v8, v9, v10, v11, v12, v13, v14, v15, .ref a1, .int 4, .int 4, .int 0, v20, v21, v22, v23, v24, v25, v26, v27, v28, v29, v30, v31, v32])), (a1, .inl (cT 0, 4096, .inl f33)), (a2, .inl (cT 4, 1024, .inr (.inr (.inr (.inr (va_up f38 0 (some r1))))))), (r1, .inr (6, [.int 0, .long 0, .int 0, .int 0, .int 0, .int 1]))]) hP hD [3, 0, 1, 2] rfl rfl (by decide)
  refine W.widen (k := 1) (n := 6) (Nat.le_of_ble_eq_true rfl) (Nat.le_of_ble_eq_true rfl) ?_
  exact W.aret hx hb hr (Or.inl ⟨_, rfl⟩) (Or.inr ⟨_, rfl⟩) (fun t ht hW => ⟨⟨(), r1, rfl, trivial, by rw [ht]; exact hP9, va_K.moved hW.alike hK, hD9⟩, hS.F ht⟩) hS.2.2 dM_json_51
set_option maxHeartbeats 400000000 in
set_option maxRecDepth 100000 in
theorem cM_register_2 (l : Launch) (hl9 : l.stackTraces = false) (D : va_G) (cT : Nat → ClassId) (aK aV : Nat → Nat) (sz : Nat) (a0 : Nat) (a1 : Nat) (a2 : Nat) (a3 : Nat) (a4 : Nat) (x5 : Int32) (v10 : Value) (v11 : Value) (v12 : Value) (v13 : Value) (v14 : Value) (v15 : Value) (v16 : Value) (v17 : Value) (v18 : Value) (v19 : Value) (v20 : Value) (v21 : Value) (v22 : Value) (v23 : Value) (v24 : Value) (v25 : Value) (v26 : Value) (v27 : Value) (v28 : Value) (v29 : Value) (v30 : Value) (v31 : Value) (v32 : Value) (v33 : Value) (v34 : Value) (v35 : Value) (v36 : Value) (v37 : Value) (f38 : Nat → Option Nat) (f40 : Nat → Int32) (f42 : Nat → Int32) (f47 : Nat → Option Nat) (h6 : ¬ x5 < 0) (h7 : ¬ 7 < x5) (h8 : x5 ≤ 7) (h9 : vp_in x5 8) (h39 : f38 x5.toNatClampNeg = some a3) (h41 : f40 x5.toNatClampNeg = 4) (h43 : f42 0 = 110) (h44 : f42 1 = 117) (h45 : f42 2 = 108) (h46 : f42 3 = 108) (h48 : f47 0 = none) : xMet l yM_register wyM_register 7 1 6 154 D cT aK aV sz [.ref a0, .int x5] [(a0, .inr (5, [v10, .ref a4, .int 0, v11, v12, v13, v14, v15, v16, v17, v18, v19, v20, v21, v22, v23, v24, v25, v26, v27, v28, v29, v30, v31, .ref a1, .ref a2, v32, v33, v34, v35, v36, v37])), (a1, .inl (cT 5, 8, .inr (.inr (.inr (.inr f38))))), (a2, .inl (cT 1, 8, .inl f40)), (a3, .inl (cT 0, 4096, .inl f42)), (a4, .inl (cT 4, 1024, .inr (.inr (.inr (.inr f47)))))] (fun A => va_Qr (fun _ : Unit => True) (fun _ r1 t => xB D xcl cT A [(a0, .inr (5, [v10, .ref a4, .int 1, v11, v12, v13, v14, v15, v16, v17, v18, v19, v20, v21, v22, .ref a3, .int 4, .int 4, .int 0, .int 100, v28, v29, v30, v31, .ref a1, .ref a2, v32, v33, v34, v35, v36, v37])), (a1, .inl (cT 5, 8, .inr (.inr (.inr (.inr f38))))), (a2, .inl (cT 1, 8, .inl f40)), (a3, .inl (cT 0, 4096, .inl f42)), (a4, .inl (cT 4, 1024, .inr (.inr (.inr (.inr (va_up f47 0 (some r1))))))), (r1, .inr (6, [.int 0, .long 0, .int 0, .int 0, .int 0, .int 1]))] t) A) := by
  refine Met.ofW (cc := prog_13_method_79_code) (maxL := 2) (ret := (some (.object "ValueBenchModel$V"))) (by decide) rfl ?_
  intro p e s m args below meth c s₁ B hml hv
  obtain ⟨rfl, hsz, hZ, hP, hK, hD0⟩ := hv
  have hx := B.exec
  have hb := B.bytes
  have hr := B.returns
  have hts := atoms_spec (ws := wyM_register) B.pre
  have htx := fun w h => hts w (List.mem_cons_of_mem _ h)
  have hown : s.vm.findClass "ValueBenchModel" = some m.cls := findClass_of_methodNamed B.named
  have hlocks := B.notSynchronized
  subst hsz
  have hD := hD0.self (sz := s.heap.size)
  generalize hAe : va_A [(a0, .inr (5, [v10, .ref a4, .int 0, v11, v12, v13, v14, v15, v16, v17, v18, v19, v20, v21, v22, v23, v24, v25, v26, v27, v28, v29, v30, v31, .ref a1, .ref a2, v32, v33, v34, v35, v36, v37])), (a1, .inl (cT 5, 8, .inr (.inr (.inr (.inr f38))))), (a2, .inl (cT 1, 8, .inl f40)), (a3, .inl (cT 0, 4096, .inl f42)), (a4, .inl (cT 4, 1024, .inr (.inr (.inr (.inr f47)))))] s.heap.size = A at hD hZ ⊢
  have hA : ∀ q : Nat, s.heap.size ≤ q → A q := fun q h => by rw [← hAe]; exact Or.inr h
  have hS : va_S A s.heap s.heap [] := va_S.rf
  have hP : va_P D xcl [(a0, .inr (5, [v10, .ref a4, .int 0, v11, v12, v13, v14, v15, v16, v17, v18, v19, v20, v21, v22, v23, v24, v25, v26, v27, v28, v29, v30, v31, .ref a1, .ref a2, v32, v33, v34, v35, v36, v37])), (a1, .inl (cT 5, 8, .inr (.inr (.inr (.inr f38))))), (a2, .inl (cT 1, 8, .inl f40)), (a3, .inl (cT 0, 4096, .inl f42)), (a4, .inl (cT 4, 1024, .inr (.inr (.inr (.inr f47)))))] s.heap := hP
  have hl := lv_entry ([.ref a0, .int x5]) (n := 2) (Nat.le_of_ble_eq_true rfl)
  rw [lg_entry_eq]
  generalize (lg_sl ([.ref a0, .int x5]) ++ List.replicate (2 - (lg_sl ([.ref a0, .int x5])).length) Slot.unset).toArray = ls at hl ⊢
  have hl : lv_has ls 2 [(0, .ref a0), (1, .int x5)] := hl
  refine lv_aload_n hx hb dM_register_0 rfl (lv_at hl 0 rfl) ?_
  refine lv_bipush (v := 100) hx hb dM_register_1 (by decide) ?_
  refine va_put (D := D) (ci := 5) (v := .int 100) (ty := .int) (C := "ValueBenchModel") (T := TM) (N := 32) hx hb htx inM tyM tyM_ok nmM hown hK hP hD hS 0 rfl rfl 19 (by decide) (htx _ kw_5_106) (fun _ h9 => h9) rfl (by decide +kernel) rfl rfl (Nat.le_of_ble_eq_true rfl) dM_register_3 (fun H locs hP hD hS => ?_)
  obtain ⟨hP, hD⟩ : xPD D xcl A [(a0, .inr (5, [v10, .ref a4, .int 0, v11, v12, v13, v14, v15, v16, v17, v18, v19, v20, v21, v22, v23, v24, v25, v26, .int 100, v28, v29, v30, v31, .ref a1, .ref a2, v32, v33, v34, v35, v36, v37])), (a1, .inl (cT 5, 8, .inr (.inr (.inr (.inr f38))))), (a2, .inl (cT 1, 8, .inl f40)), (a3, .inl (cT 0, 4096, .inl f42)), (a4, .inl (cT 4, 1024, .inr (.inr (.inr (.inr f47)))))] H := ⟨hP, hD⟩
  refine lv_aload_n hx hb dM_register_6 rfl (lv_at hl 0 rfl) ?_
  refine lv_aload_n hx hb dM_register_7 rfl (lv_at hl 0 rfl) ?_
  refine va_get (D := D) (ci := 5) (v := .ref a1) (C := "ValueBenchModel") (T := TM) (N := 32) hx hb htx inM hown hK hP 0 rfl rfl 24 (by decide) (htx _ kw_5_111) (fun _ h9 => h9) rfl dM_register_8 ?_
  refine lv_iload_n hx hb dM_register_11 rfl (lv_at hl 1 rfl) ?_
  refine xx_aldA hx hb hK hP 1 5 rfl rfl h9 dM_register_12 ?_
  refine W.eq (g2 := F0 m 13 ls [va_rf (f38 x5.toNatClampNeg), .ref a0]) rfl ?_
  rw [h39]
  refine W.eq (g2 := F0 m 13 ls [.ref a3, .ref a0]) rfl ?_
  refine lv_iconst (v := 0) hx hb dM_register_13 (by decide) ?_
  refine lv_aload_n hx hb dM_register_14 rfl (lv_at hl 0 rfl) ?_
  refine va_get (D := D) (ci := 5) (v := .ref a2) (C := "ValueBenchModel") (T := TM) (N := 32) hx hb htx inM hown hK hP 0 rfl rfl 25 (by decide) (htx _ kw_5_112) (fun _ h9 => h9) rfl dM_register_15 ?_
  refine lv_iload_n hx hb dM_register_18 rfl (lv_at hl 1 rfl) ?_
  refine va_iald hx hb hK hP 2 1 rfl rfl h9 dM_register_19 ?_
  refine W.eq (g2 := F0 m 20 ls [.int (f40 x5.toNatClampNeg), .int 0, .ref a3, .ref a0]) rfl ?_
  rw [h41]
  refine W.eq (g2 := F0 m 20 ls [.int 4, .int 0, .ref a3, .ref a0]) rfl ?_
  obtain ⟨hPc, hDc, hFc⟩ := xcut (wc := [(a0, .inr (5, [v10, .ref a4, .int 0, v11, v12, v13, v14, v15, v16, v17, v18, v19, v20, v21, v22, v23, v24, v25, v26, .int 100, v28, v29, v30, v31, .ref a1, .ref a2, v32, v33, v34, v35, v36, v37])), (a3, .inl (cT 0, 4096, .inl f42)), (a4, .inl (cT 4, 1024, .inr (.inr (.inr (.inr f47)))))]) hP hD hS hA [0, 3, 4] rfl rfl (by decide)
  refine va_callr (va_runV (C := "ValueBenchModel") (As := [.ref a3, .int 0, .int 4]) (rest := []) ⟨hx, hb, hml, hown, htx⟩ (cM_json_3 l hl9 D cT aK aV H.size a0 a3 a4 v10 v11 v12 v13 v14 v15 v16 v17 v18 v19 v20 v21 v22 v23 v24 v25 v26 (.int 100) v28 v29 v30 v31 (.ref a1) (.ref a2) v32 v33 v34 v35 v36 v37 f42 f47 (by first | rfl | exact h39 | exact h41 | exact h43 | exact h44 | exact h45 | exact h46 | exact h48) (by first | rfl | exact h39 | exact h41 | exact h43 | exact h44 | exact h45 | exact h46 | exact h48) (by first | rfl | exact h39 | exact h41 | exact h43 | exact h44 | exact h45 | exact h46 | exact h48) (by first | rfl | exact h39 | exact h41 | exact h43 | exact h44 | exact h45 | exact h46 | exact h48) (by first | rfl | exact h39 | exact h41 | exact h43 | exact h44 | exact h45 | exact h46 | exact h48)) ⟨callB_of 3 htx (xw_goodC kw_5_221) rfl rfl rfl (htx _ kw_1_5) (htx _ kw_5_218) ⟨by decide, by decide, by decide +kernel⟩ ⟨Nat.le_of_ble_eq_true rfl, Nat.le_of_ble_eq_true rfl⟩, (htx _ kw_5_220), (htx _ kp_M_json)⟩ ⟨xPre_blind, va_recv hK hP (ci := 5) rfl (q0 := 0) rfl, (fun U hU hW => ⟨rfl, xPre_of hZ hS hFc hPc hDc hK U hU hW⟩)⟩ rfl rfl hl.1 rfl (lv_room (Nat.le_of_ble_eq_true rfl)) dM_register_20 ⟨Nat.le_of_ble_eq_true rfl, Nat.le_of_ble_eq_true rfl⟩) hS (fun q _ h => hFc q h) hFc (fun u9 r1 t H1 locs ht hvm hr9 hB hz1 hk1 hS => ?_)
  obtain ⟨hP1, hK1, hD1⟩ := hB
  rw [ht] at hP1
  obtain ⟨hP, hD⟩ := xjoin (W := [(a1, .inl (cT 5, 8, .inr (.inr (.inr (.inr f38))))), (a2, .inl (cT 1, 8, .inl f40)), (a0, .inr (5, [v10, .ref a4, .int 1, v11, v12, v13, v14, v15, v16, v17, v18, v19, v20, v21, v22, .ref a3, .int 4, .int 4, .int 0, .int 100, v28, v29, v30, v31, .ref a1, .ref a2, v32, v33, v34, v35, v36, v37])), (a3, .inl (cT 0, 4096, .inl f42)), (a4, .inl (cT 4, 1024, .inr (.inr (.inr (.inr (va_up f47 0 (some r1))))))), (r1, .inr (6, [.int 0, .long 0, .int 0, .int 0, .int 0, .int 1]))]) hP hD [0, 3, 4] [1, 2] 2 rfl rfl (by decide) (by decide) hk1 hFc hP1 hD1
  generalize H1 = H at hP hS ⊢
  refine W.eq (g2 := F0 m 23 ls [.ref r1]) rfl ?_
  obtain ⟨hP9, hD9⟩ := xsub (wc := [(a0, .inr (5, [v10, .ref a4, .int 1, v11, v12, v13, v14, v15, v16, v17, v18, v19, v20, v21, v22, .ref a3, .int 4, .int 4, .int 0, .int 100, v28, v29, v30, v31, .ref a1, .ref a2, v32, v33, v34, v35, v36, v37])), (a1, .inl (cT 5, 8, .inr (.inr (.inr (.inr f38))))), (a2, .inl (cT 1, 8, .inl f40)), (a3, .inl (cT 0, 4096, .inl f42)), (a4, .inl (cT 4, 1024, .inr (.inr (.inr (.inr (va_up f47 0 (some r1))))))), (r1, .inr (6, [.int 0, .long 0, .int 0, .int 0, .int 0, .int 1]))]) hP hD [2, 0, 1, 3, 4, 5] rfl rfl (by decide)
  refine W.widen (k := 1) (n := 6) (Nat.le_of_ble_eq_true rfl) (Nat.le_of_ble_eq_true rfl) ?_
  exact W.aret hx hb hr (Or.inl ⟨_, rfl⟩) (Or.inr ⟨_, rfl⟩) (fun t ht hW => ⟨⟨(), r1, rfl, trivial, by rw [ht]; exact hP9, va_K.moved hW.alike hK, hD9⟩, hS.F ht⟩) hS.2.2 dM_register_23
set_option maxHeartbeats 400000000 in
set_option maxRecDepth 100000 in
theorem cM_refuse_0 (l : Launch) (hl9 : l.stackTraces = false) (D : va_G) (cT : Nat → ClassId) (aK aV : Nat → Nat) (sz : Nat) (a0 : Nat) (x1 : Int32) (v2 : Value) (v3 : Value) (v4 : Value) (v5 : Value) (v6 : Value) (v7 : Value) (v8 : Value) (v9 : Value) (v10 : Value) (v11 : Value) (v12 : Value) (v13 : Value) (v14 : Value) (v15 : Value) (v16 : Value) (v17 : Value) (v18 : Value) (v19 : Value) (v20 : Value) (v21 : Value) (v22 : Value) (v23 : Value) (v24 : Value) (v25 : Value) (v26 : Value) (v27 : Value) (v28 : Value) (v29 : Value) (v30 : Value) (v31 : Value) (v32 : Value) (v33 : Value) : xMetX l yM_refuse wyM_refuse 6 1 6 100 D cT aK aV sz [.ref a0, .int x1] [(a0, .inr (5, [v2, v3, v4, v5, v6, v7, v8, v9, v10, v11, v12, v13, v14, v15, v16, v17, v18, v19, v20, v21, v22, v23, v24, v25, v26, v27, v28, v29, v30, v31, v32, v33]))] "java/lang/ArithmeticException" (fun A t => xB D xcl cT A [(a0, .inr (5, [v2, v3, v4, v5, v6, v7, v8, v9, .int x1, v11, v12, v13, v14, v15, v16, v17, v18, v19, v20, v21, v22, v23, v24, v25, v26, v27, v28, v29, v30, v31, v32, v33]))] t) := by
  refine vx_ofW (cc := prog_13_method_4_code) (maxL := 2) (ret := (some (.object "ValueBenchModel$V"))) (by decide) rfl ?_
  intro p e s m args below meth c s₁ B hml hne hv
  obtain ⟨rfl, hsz, hZ, hP, hK, hD0⟩ := hv
  have hx := B.exec
  have hb := B.bytes
  have hr := B.returns
  have hts := atoms_spec (ws := wyM_refuse) B.pre
  have htx := fun w h => hts w (List.mem_cons_of_mem _ h)
  have hown : s.vm.findClass "ValueBenchModel" = some m.cls := findClass_of_methodNamed B.named
  have hlocks := B.notSynchronized
  subst hsz
  have hD := hD0.self (sz := s.heap.size)
  generalize hAe : va_A [(a0, .inr (5, [v2, v3, v4, v5, v6, v7, v8, v9, v10, v11, v12, v13, v14, v15, v16, v17, v18, v19, v20, v21, v22, v23, v24, v25, v26, v27, v28, v29, v30, v31, v32, v33]))] s.heap.size = A at hD hZ ⊢
  have hA : ∀ q : Nat, s.heap.size ≤ q → A q := fun q h => by rw [← hAe]; exact Or.inr h
  have hS : va_S A s.heap s.heap [] := va_S.rf
  have hP : va_P D xcl [(a0, .inr (5, [v2, v3, v4, v5, v6, v7, v8, v9, v10, v11, v12, v13, v14, v15, v16, v17, v18, v19, v20, v21, v22, v23, v24, v25, v26, v27, v28, v29, v30, v31, v32, v33]))] s.heap := hP
  have hl := lv_entry ([.ref a0, .int x1]) (n := 2) (Nat.le_of_ble_eq_true rfl)
  rw [lg_entry_eq]
  generalize (lg_sl ([.ref a0, .int x1]) ++ List.replicate (2 - (lg_sl ([.ref a0, .int x1])).length) Slot.unset).toArray = ls at hl ⊢
  have hl : lv_has ls 2 [(0, .ref a0), (1, .int x1)] := hl
  refine lv_aload_n hx hb dM_refuse_0 rfl (lv_at hl 0 rfl) ?_
  refine lv_iload_n hx hb dM_refuse_1 rfl (lv_at hl 1 rfl) ?_
  refine va_put (D := D) (ci := 5) (v := .int x1) (ty := .int) (C := "ValueBenchModel") (T := TM) (N := 32) hx hb htx inM tyM tyM_ok nmM hown hK hP hD hS 0 rfl rfl 8 (by decide) (htx _ kw_5_95) (fun _ h9 => h9) rfl (by decide +kernel) rfl rfl (Nat.le_of_ble_eq_true rfl) dM_refuse_2 (fun H locs hP hD hS => ?_)
  obtain ⟨hP, hD⟩ : xPD D xcl A [(a0, .inr (5, [v2, v3, v4, v5, v6, v7, v8, v9, .int x1, v11, v12, v13, v14, v15, v16, v17, v18, v19, v20, v21, v22, v23, v24, v25, v26, v27, v28, v29, v30, v31, v32, v33]))] H := ⟨hP, hD⟩
  obtain ⟨hP9, hD9⟩ := xsub (wc := [(a0, .inr (5, [v2, v3, v4, v5, v6, v7, v8, v9, .int x1, v11, v12, v13, v14, v15, v16, v17, v18, v19, v20, v21, v22, v23, v24, v25, v26, v27, v28, v29, v30, v31, v32, v33]))]) hP hD [0] rfl rfl (by decide)
  exact vx_throw0 (own := "ValueBenchModel") (cls := "java/lang/ArithmeticException") (names := ["java/lang/RuntimeException", "java/lang/Exception"]) hx hb hl9 hown (by decide +kernel) (by decide +kernel) (htx _ kw_6_94) (htx _ kw_1_20) (vx_hat (B := [.castable "java/lang/ArithmeticException" "java/lang/ArithmeticException", .declares ⟨"java/lang/RuntimeException", "<init>", "()V"⟩, .declares ⟨"java/lang/Exception", "<init>", "()V"⟩, .declares ⟨"java/lang/Throwable", "<init>", "()V"⟩]) (fun w h => htx w (xat_M_83_85 w h)) xat_M_83_85_b (vx_c ((hZ.2.2.2.2.2.1 _ (List.mem_of_getElem? (i := 3) rfl)).use rfl) (vx_c ((hZ.2.2.2.2.2.2.1 _ (List.mem_of_getElem? (i := 0) rfl)).use rfl) (vx_c ((hZ.2.2.2.2.2.2.1 _ (List.mem_of_getElem? (i := 1) rfl)).use rfl) (vx_c ((hZ.2.2.2.2.2.2.1 _ (List.mem_of_getElem? (i := 2) rfl)).use rfl) vx_n))))) xat_M_83_85_g hZ.2.2.2.1 hZ.2.2.2.2.1 hS (hl.1.trans hml.symm) dM_refuse_5 dM_refuse_8 dM_refuse_9 dM_refuse_12 (fun x h => (hne x h).elim) (by decide) (Nat.le_of_ble_eq_true rfl) (Nat.le_of_ble_eq_true rfl) (Nat.le_of_ble_eq_true rfl) hlocks (fun t ha hz hk => ⟨(), trivial, ⟨rfl, xx_keepP hP9 hk, va_K.moved ha hK, hD9⟩, xx_grown hS hz hk⟩) hS.2.2 (Nat.le_of_ble_eq_true rfl) (Nat.le_of_ble_eq_true rfl)
set_option maxHeartbeats 400000000 in
set_option maxRecDepth 100000 in
theorem cM_array_0 (l : Launch) (hl9 : l.stackTraces = false) (D : va_G) (cT : Nat → ClassId) (aK aV : Nat → Nat) (sz : Nat) (a0 : Nat) (a1 : Nat) (v2 : Value) (v3 : Value) (v4 : Value) (v5 : Value) (v6 : Value) (v7 : Value) (v8 : Value) (v9 : Value) (v10 : Value) (v11 : Value) (v12 : Value) (v13 : Value) (v14 : Value) (v15 : Value) (v16 : Value) (v17 : Value) (v18 : Value) (v19 : Value) (v20 : Value) (v21 : Value) (v22 : Value) (v23 : Value) (v24 : Value) (v25 : Value) (v26 : Value) (v27 : Value) (v28 : Value) (v29 : Value) (v30 : Value) (v31 : Value) (v32 : Value) (v33 : Value) (v34 : Value) (v35 : Value) (v36 : Value) (v37 : Value) (v38 : Value) : xMetX l yM_array wyM_array 7 1 6 121 D cT aK aV sz [.ref a1, .ref a0] [(a0, .inr (6, [.int 0, v2, v3, v4, v5, v6])), (a1, .inr (5, [v7, v8, v9, v10, v11, v12, v13, v14, v15, v16, v17, v18, v19, v20, v21, v22, v23, v24, v25, v26, v27, v28, v29, v30, v31, v32, v33, v34, v35, v36, v37, v38]))] "java/lang/ArithmeticException" (fun A t => xB D xcl cT A [(a0, .inr (6, [.int 0, v2, v3, v4, v5, v6])), (a1, .inr (5, [v7, v8, v9, v10, v11, v12, v13, v14, .int 1, v16, v17, v18, v19, v20, v21, v22, v23, v24, v25, v26, v27, v28, v29, v30, v31, v32, v33, v34, v35, v36, v37, v38]))] t) := by
  refine vx_ofW (cc := prog_13_method_55_code) (maxL := 2) (ret := (some (.object "ValueBenchModel$V"))) (by decide) rfl ?_
  intro p e s m args below meth c s₁ B hml hne hv
  obtain ⟨rfl, hsz, hZ, hP, hK, hD0⟩ := hv
  have hx := B.exec
  have hb := B.bytes
  have hr := B.returns
  have hts := atoms_spec (ws := wyM_array) B.pre
  have htx := fun w h => hts w (List.mem_cons_of_mem _ h)
  have hown : s.vm.findClass "ValueBenchModel" = some m.cls := findClass_of_methodNamed B.named
  have hlocks := B.notSynchronized
  subst hsz
  have hD := hD0.self (sz := s.heap.size)
  generalize hAe : va_A [(a0, .inr (6, [.int 0, v2, v3, v4, v5, v6])), (a1, .inr (5, [v7, v8, v9, v10, v11, v12, v13, v14, v15, v16, v17, v18, v19, v20, v21, v22, v23, v24, v25, v26, v27, v28, v29, v30, v31, v32, v33, v34, v35, v36, v37, v38]))] s.heap.size = A at hD hZ ⊢
  have hA : ∀ q : Nat, s.heap.size ≤ q → A q := fun q h => by rw [← hAe]; exact Or.inr h
  have hS : va_S A s.heap s.heap [] := va_S.rf
  have hP : va_P D xcl [(a0, .inr (6, [.int 0, v2, v3, v4, v5, v6])), (a1, .inr (5, [v7, v8, v9, v10, v11, v12, v13, v14, v15, v16, v17, v18, v19, v20, v21, v22, v23, v24, v25, v26, v27, v28, v29, v30, v31, v32, v33, v34, v35, v36, v37, v38]))] s.heap := hP
  have hl := lv_entry ([.ref a1, .ref a0]) (n := 2) (Nat.le_of_ble_eq_true rfl)
  rw [lg_entry_eq]
  generalize (lg_sl ([.ref a1, .ref a0]) ++ List.replicate (2 - (lg_sl ([.ref a1, .ref a0])).length) Slot.unset).toArray = ls at hl ⊢
  have hl : lv_has ls 2 [(0, .ref a1), (1, .ref a0)] := hl
  refine lv_aload_n hx hb dM_array_0 rfl (lv_at hl 1 rfl) ?_
  refine va_getN (D := D) (ci := 6) (v := .int 0) (C := "ValueBenchModel$V") (T := TV) (N := 6) hx hb htx inV hown hK hP 0 rfl rfl 0 (by decide) ((hZ.1 _ (List.mem_of_getElem? (i := 0) rfl)).use rfl) (fun _ h9 => h9) rfl dM_array_1 ?_
  refine lv_iconst (v := 5) hx hb dM_array_4 (by decide) ?_
  refine lv_icmp_ne (tgt := 12) hx hb dM_array_5 (by decide) (fun _ => ?_) (fun h => ((by revert h; decide : False)).elim)
  refine lv_aload_n hx hb dM_array_12 rfl (lv_at hl 0 rfl) ?_
  refine lv_iconst (v := 1) hx hb dM_array_13 (by decide) ?_
  obtain ⟨hPc, hDc, hFc⟩ := xcut (wc := [(a1, .inr (5, [v7, v8, v9, v10, v11, v12, v13, v14, v15, v16, v17, v18, v19, v20, v21, v22, v23, v24, v25, v26, v27, v28, v29, v30, v31, v32, v33, v34, v35, v36, v37, v38]))]) hP hD hS hA [1] rfl rfl (by decide)
  refine xx_thr (vx_runV (C := "ValueBenchModel") (As := [.int 1]) (rest := []) ⟨hx, hb, hml, hown, htx⟩ (cM_refuse_0 l hl9 D cT aK aV s.heap.size a1 1 v7 v8 v9 v10 v11 v12 v13 v14 v15 v16 v17 v18 v19 v20 v21 v22 v23 v24 v25 v26 v27 v28 v29 v30 v31 v32 v33 v34 v35 v36 v37 v38) ⟨callB_of 1 htx (xw_goodC kw_6_93) rfl rfl rfl (htx _ kw_1_5) (htx _ kw_6_90) ⟨by decide, by decide, by decide +kernel⟩ ⟨Nat.le_of_ble_eq_true rfl, Nat.le_of_ble_eq_true rfl⟩, (htx _ kw_6_92), (htx _ kp_M_refuse)⟩ ⟨xPre_blind, va_recv hK hP (ci := 5) rfl (q0 := 1) rfl, (fun U hU hW => ⟨rfl, xPre_of hZ hS hFc hPc hDc hK U hU hW⟩)⟩ rfl rfl hl.1 rfl (lv_room (Nat.le_of_ble_eq_true rfl)) dM_array_14 ⟨Nat.le_of_ble_eq_true rfl, Nat.le_of_ble_eq_true rfl⟩) hS hFc (fun q _ h => hFc q h) (fun E ce q9 u9 t H1 locs ht hvm _ hB hz1 hk1 hS hce hcv hcl => ?_)
  obtain ⟨rfl, hP1, hK1, hD1⟩ := hB
  rw [ht] at hP1
  obtain ⟨hP, hD⟩ := xjoin (W := [(a0, .inr (6, [.int 0, v2, v3, v4, v5, v6])), (a1, .inr (5, [v7, v8, v9, v10, v11, v12, v13, v14, .int 1, v16, v17, v18, v19, v20, v21, v22, v23, v24, v25, v26, v27, v28, v29, v30, v31, v32, v33, v34, v35, v36, v37, v38]))]) hP hD [1] [0] 1 rfl rfl (by decide) (by decide) hk1 hFc hP1 hD1
  generalize H1 = H at hP hS hce ⊢
  obtain ⟨hP9, hD9⟩ := xsub (wc := [(a0, .inr (6, [.int 0, v2, v3, v4, v5, v6])), (a1, .inr (5, [v7, v8, v9, v10, v11, v12, v13, v14, .int 1, v16, v17, v18, v19, v20, v21, v22, v23, v24, v25, v26, v27, v28, v29, v30, v31, v32, v33, v34, v35, v36, v37, v38]))]) hP hD [0, 1] rfl rfl (by decide)
  exact vx_out (E := "java/lang/ArithmeticException") (fun x h => (hne x h).elim) hlocks hce hcv hcl (fun t ht ha => ⟨(), trivial, ⟨rfl, by rw [ht]; exact hP9, va_K.moved ha hK, hD9⟩, hS.F ht⟩) hS.2.2 (Nat.le_of_ble_eq_true rfl) (Nat.le_of_ble_eq_true rfl)
set_option maxHeartbeats 400000000 in
set_option maxRecDepth 100000 in
theorem cM_keysOf_0 (l : Launch) (hl9 : l.stackTraces = false) (D : va_G) (cT : Nat → ClassId) (aK aV : Nat → Nat) (sz : Nat) (a0 : Nat) (a1 : Nat) (x2 : Int32) (v3 : Value) (v4 : Value) (v5 : Value) (v6 : Value) (v7 : Value) (v8 : Value) (v9 : Value) (v10 : Value) (v11 : Value) (v12 : Value) (v13 : Value) (v14 : Value) (v15 : Value) (v16 : Value) (v17 : Value) (v18 : Value) (v19 : Value) (x20 : Int32) (v21 : Value) (v22 : Value) (v23 : Value) (v24 : Value) (v25 : Value) (v26 : Value) (v27 : Value) (v28 : Value) (v29 : Value) (v30 : Value) (v31 : Value) (v32 : Value) (v33 : Value) (v34 : Value) (v35 : Value) (v36 : Value) (v37 : Value) (v38 : Value) (v39 : Value) : xMetX l yM_keysOf wyM_keysOf 8 1 6 142 D cT aK aV sz [.ref a1, .ref a0, .int x2] [(a0, .inr (6, [.int 0, v3, v4, v5, v6, v7])), (a1, .inr (5, [v8, v9, v10, v11, v12, v13, v14, v15, v16, v17, v18, v19, .int x20, v21, v22, v23, v24, v25, v26, v27, v28, v29, v30, v31, v32, v33, v34, v35, v36, v37, v38, v39]))] "java/lang/ArithmeticException" (fun A t => xB D xcl cT A [(a0, .inr (6, [.int 0, v3, v4, v5, v6, v7])), (a1, .inr (5, [v8, v9, v10, v11, v12, v13, v14, v15, .int 1, v17, v18, v19, .int x20, v21, v22, v23, v24, v25, v26, v27, v28, v29, v30, v31, v32, v33, v34, v35, v36, v37, v38, v39]))] t) := by
  refine vx_ofW (cc := prog_13_method_58_code) (maxL := 5) (ret := (some (.object "ValueBenchModel$V"))) (by decide) rfl ?_
  intro p e s m args below meth c s₁ B hml hne hv
  obtain ⟨rfl, hsz, hZ, hP, hK, hD0⟩ := hv
  have hx := B.exec
  have hb := B.bytes
  have hr := B.returns
  have hts := atoms_spec (ws := wyM_keysOf) B.pre
  have htx := fun w h => hts w (List.mem_cons_of_mem _ h)
  have hown : s.vm.findClass "ValueBenchModel" = some m.cls := findClass_of_methodNamed B.named
  have hlocks := B.notSynchronized
  subst hsz
  have hD := hD0.self (sz := s.heap.size)
  generalize hAe : va_A [(a0, .inr (6, [.int 0, v3, v4, v5, v6, v7])), (a1, .inr (5, [v8, v9, v10, v11, v12, v13, v14, v15, v16, v17, v18, v19, .int x20, v21, v22, v23, v24, v25, v26, v27, v28, v29, v30, v31, v32, v33, v34, v35, v36, v37, v38, v39]))] s.heap.size = A at hD hZ ⊢
  have hA : ∀ q : Nat, s.heap.size ≤ q → A q := fun q h => by rw [← hAe]; exact Or.inr h
  have hS : va_S A s.heap s.heap [] := va_S.rf
  have hP : va_P D xcl [(a0, .inr (6, [.int 0, v3, v4, v5, v6, v7])), (a1, .inr (5, [v8, v9, v10, v11, v12, v13, v14, v15, v16, v17, v18, v19, .int x20, v21, v22, v23, v24, v25, v26, v27, v28, v29, v30, v31, v32, v33, v34, v35, v36, v37, v38, v39]))] s.heap := hP
  have hl := lv_entry ([.ref a1, .ref a0, .int x2]) (n := 5) (Nat.le_of_ble_eq_true rfl)
  rw [lg_entry_eq]
  generalize (lg_sl ([.ref a1, .ref a0, .int x2]) ++ List.replicate (5 - (lg_sl ([.ref a1, .ref a0, .int x2])).length) Slot.unset).toArray = ls at hl ⊢
  have hl : lv_has ls 5 [(0, .ref a1), (1, .ref a0), (2, .int x2)] := hl
  refine lv_aload_n hx hb dM_keysOf_0 rfl (lv_at hl 1 rfl) ?_
  refine va_getN (D := D) (ci := 6) (v := .int 0) (C := "ValueBenchModel$V") (T := TV) (N := 6) hx hb htx inV hown hK hP 0 rfl rfl 0 (by decide) ((hZ.1 _ (List.mem_of_getElem? (i := 0) rfl)).use rfl) (fun _ h9 => h9) rfl dM_keysOf_1 ?_
  refine lv_bipush (v := 6) hx hb dM_keysOf_4 (by decide) ?_
  refine lv_icmp_ne (tgt := 16) hx hb dM_keysOf_6 (by decide) (fun _ => ?_) (fun h => ((by revert h; decide : False)).elim)
  refine lv_aload_n hx hb dM_keysOf_16 rfl (lv_at hl 0 rfl) ?_
  refine va_get (D := D) (ci := 5) (v := .int x20) (C := "ValueBenchModel") (T := TM) (N := 32) hx hb htx inM hown hK hP 1 rfl rfl 12 (by decide) (htx _ kw_5_99) (fun _ h9 => h9) rfl dM_keysOf_17 ?_
  refine lv_istore_n (lv' := [(3, .int x20), (0, .ref a1), (1, .ref a0), (2, .int x2)]) hx hb dM_keysOf_20 rfl hl (by decide) rfl (fun ls hl => ?_)
  refine lv_iconst (v := 0) hx hb dM_keysOf_21 (by decide) ?_
  refine lv_istore (lv' := [(4, .int 0), (3, .int x20), (0, .ref a1), (1, .ref a0), (2, .int x2)]) hx hb dM_keysOf_22 hl (by decide) rfl (fun ls hl => ?_)
  refine lv_iload hx hb dM_keysOf_24 (lv_at hl 0 rfl) ?_
  refine lv_aload_n hx hb dM_keysOf_26 rfl (lv_at hl 2 rfl) ?_
  refine lv_aload_n hx hb dM_keysOf_27 rfl (lv_at hl 3 rfl) ?_
  obtain ⟨hPc, hDc, hFc⟩ := xcut (wc := [(a0, .inr (6, [.int 0, v3, v4, v5, v6, v7])), (a1, .inr (5, [v8, v9, v10, v11, v12, v13, v14, v15, v16, v17, v18, v19, .int x20, v21, v22, v23, v24, v25, v26, v27, v28, v29, v30, v31, v32, v33, v34, v35, v36, v37, v38, v39]))]) hP hD hS hA [0, 1] rfl rfl (by decide)
  refine xx_thr (vx_runV (C := "ValueBenchModel") (As := [.ref a0]) (rest := [.int 0]) ⟨hx, hb, hml, hown, htx⟩ (cM_array_0 l hl9 D cT aK aV s.heap.size a0 a1 v3 v4 v5 v6 v7 v8 v9 v10 v11 v12 v13 v14 v15 v16 v17 v18 v19 (.int x20) v21 v22 v23 v24 v25 v26 v27 v28 v29 v30 v31 v32 v33 v34 v35 v36 v37 v38 v39) ⟨callB_of 1 htx (xw_goodC kw_7_42) rfl rfl rfl (htx _ kw_1_5) (htx _ kw_7_39) ⟨by decide, by decide, by decide +kernel⟩ ⟨Nat.le_of_ble_eq_true rfl, Nat.le_of_ble_eq_true rfl⟩, (htx _ kw_7_41), (htx _ kp_M_array)⟩ ⟨xPre_blind, va_recv hK hP (ci := 5) rfl (q0 := 1) rfl, (fun U hU hW => ⟨rfl, xPre_of hZ hS hFc hPc hDc hK U hU hW⟩)⟩ rfl rfl hl.1 rfl (lv_room (Nat.le_of_ble_eq_true rfl)) dM_keysOf_28 ⟨Nat.le_of_ble_eq_true rfl, Nat.le_of_ble_eq_true rfl⟩) hS hFc (fun q _ h => hFc q h) (fun E ce q9 u9 t H1 locs ht hvm _ hB hz1 hk1 hS hce hcv hcl => ?_)
  obtain ⟨rfl, hP1, hK1, hD1⟩ := hB
  rw [ht] at hP1
  obtain ⟨hP, hD⟩ := xjoin (W := [(a0, .inr (6, [.int 0, v3, v4, v5, v6, v7])), (a1, .inr (5, [v8, v9, v10, v11, v12, v13, v14, v15, .int 1, v17, v18, v19, .int x20, v21, v22, v23, v24, v25, v26, v27, v28, v29, v30, v31, v32, v33, v34, v35, v36, v37, v38, v39]))]) hP hD [0, 1] [] 0 rfl rfl (by decide) (by decide) hk1 hFc hP1 hD1
  generalize H1 = H at hP hS hce ⊢
  obtain ⟨hP9, hD9⟩ := xsub (wc := [(a0, .inr (6, [.int 0, v3, v4, v5, v6, v7])), (a1, .inr (5, [v8, v9, v10, v11, v12, v13, v14, v15, .int 1, v17, v18, v19, .int x20, v21, v22, v23, v24, v25, v26, v27, v28, v29, v30, v31, v32, v33, v34, v35, v36, v37, v38, v39]))]) hP hD [0, 1] rfl rfl (by decide)
  exact vx_out (E := "java/lang/ArithmeticException") (fun x h => (hne x h).elim) hlocks hce hcv hcl (fun t ht ha => ⟨(), trivial, ⟨rfl, by rw [ht]; exact hP9, va_K.moved ha hK, hD9⟩, hS.F ht⟩) hS.2.2 (Nat.le_of_ble_eq_true rfl) (Nat.le_of_ble_eq_true rfl)
set_option maxHeartbeats 400000000 in
set_option maxRecDepth 100000 in
theorem cM_one1_2 (l : Launch) (hl9 : l.stackTraces = false) (D : va_G) (cT : Nat → ClassId) (aK aV : Nat → Nat) (sz : Nat) (a0 : Nat) (a1 : Nat) (v2 : Value) (v3 : Value) (v4 : Value) (v5 : Value) (v6 : Value) (v7 : Value) (v8 : Value) (v9 : Value) (v10 : Value) (v11 : Value) (v12 : Value) (v13 : Value) (x14 : Int32) (v15 : Value) (v16 : Value) (v17 : Value) (v18 : Value) (v19 : Value) (v20 : Value) (v21 : Value) (v22 : Value) (v23 : Value) (v24 : Value) (v25 : Value) (v26 : Value) (v27 : Value) (v28 : Value) (v29 : Value) (v30 : Value) (v31 : Value) (v32 : Value) (v33 : Value) (v34 : Value) (v35 : Value) (v36 : Value) (v37 : Value) (v38 : Value) : xMetX l yM_one1 wyM_one1 9 1 6 166 D cT aK aV sz [.ref a0, .int 2, .ref a1] [(a0, .inr (5, [v2, v3, v4, v5, v6, v7, v8, v9, v10, v11, v12, v13, .int x14, v15, v16, v17, v18, v19, v20, v21, v22, v23, v24, v25, v26, v27, v28, v29, v30, v31, v32, v33])), (a1, .inr (6, [.int 0, v34, v35, v36, v37, v38]))] "java/lang/ArithmeticException" (fun A t => xB D xcl cT A [(a0, .inr (5, [v2, v3, v4, v5, v6, v7, v8, v9, .int 1, v11, v12, v13, .int x14, v15, v16, v17, v18, v19, v20, v21, v22, v23, v24, v25, v26, v27, v28, v29, v30, v31, v32, v33])), (a1, .inr (6, [.int 0, v34, v35, v36, v37, v38]))] t) := by
  refine vx_ofW (cc := prog_13_method_66_code) (maxL := 3) (ret := (some (.object "ValueBenchModel$V"))) (by decide) rfl ?_
  intro p e s m args below meth c s₁ B hml hne hv
  obtain ⟨rfl, hsz, hZ, hP, hK, hD0⟩ := hv
  have hx := B.exec
  have hb := B.bytes
  have hr := B.returns
  have hts := atoms_spec (ws := wyM_one1) B.pre
  have htx := fun w h => hts w (List.mem_cons_of_mem _ h)
  have hown : s.vm.findClass "ValueBenchModel" = some m.cls := findClass_of_methodNamed B.named
  have hlocks := B.notSynchronized
  subst hsz
  have hD := hD0.self (sz := s.heap.size)
  generalize hAe : va_A [(a0, .inr (5, [v2, v3, v4, v5, v6, v7, v8, v9, v10, v11, v12, v13, .int x14, v15, v16, v17, v18, v19, v20, v21, v22, v23, v24, v25, v26, v27, v28, v29, v30, v31, v32, v33])), (a1, .inr (6, [.int 0, v34, v35, v36, v37, v38]))] s.heap.size = A at hD hZ ⊢
  have hA : ∀ q : Nat, s.heap.size ≤ q → A q := fun q h => by rw [← hAe]; exact Or.inr h
  have hS : va_S A s.heap s.heap [] := va_S.rf
  have hP : va_P D xcl [(a0, .inr (5, [v2, v3, v4, v5, v6, v7, v8, v9, v10, v11, v12, v13, .int x14, v15, v16, v17, v18, v19, v20, v21, v22, v23, v24, v25, v26, v27, v28, v29, v30, v31, v32, v33])), (a1, .inr (6, [.int 0, v34, v35, v36, v37, v38]))] s.heap := hP
  have hl := lv_entry ([.ref a0, .int 2, .ref a1]) (n := 3) (Nat.le_of_ble_eq_true rfl)
  rw [lg_entry_eq]
  generalize (lg_sl ([.ref a0, .int 2, .ref a1]) ++ List.replicate (3 - (lg_sl ([.ref a0, .int 2, .ref a1])).length) Slot.unset).toArray = ls at hl ⊢
  have hl : lv_has ls 3 [(0, .ref a0), (1, .int 2), (2, .ref a1)] := hl
  refine lv_iload_n hx hb dM_one1_0 rfl (lv_at hl 1 rfl) ?_
  refine lv_tableIn (off := 91) (tgt := 92) hx hb dM_one1_1 (by decide) (by decide) (by decide) (by decide) ?_
  refine lv_aload_n hx hb dM_one1_92 rfl (lv_at hl 0 rfl) ?_
  refine lv_aload_n hx hb dM_one1_93 rfl (lv_at hl 2 rfl) ?_
  refine lv_iconst (v := 1) hx hb dM_one1_94 (by decide) ?_
  obtain ⟨hPc, hDc, hFc⟩ := xcut (wc := [(a1, .inr (6, [.int 0, v34, v35, v36, v37, v38])), (a0, .inr (5, [v2, v3, v4, v5, v6, v7, v8, v9, v10, v11, v12, v13, .int x14, v15, v16, v17, v18, v19, v20, v21, v22, v23, v24, v25, v26, v27, v28, v29, v30, v31, v32, v33]))]) hP hD hS hA [1, 0] rfl rfl (by decide)
  refine xx_thr (vx_runV (C := "ValueBenchModel") (As := [.ref a1, .int 1]) (rest := []) ⟨hx, hb, hml, hown, htx⟩ (cM_keysOf_0 l hl9 D cT aK aV s.heap.size a1 a0 1 v34 v35 v36 v37 v38 v2 v3 v4 v5 v6 v7 v8 v9 v10 v11 v12 v13 x14 v15 v16 v17 v18 v19 v20 v21 v22 v23 v24 v25 v26 v27 v28 v29 v30 v31 v32 v33) ⟨callB_of 2 htx (xw_goodC kw_7_13) rfl rfl rfl (htx _ kw_1_5) (htx _ kw_7_10) ⟨by decide, by decide, by decide +kernel⟩ ⟨Nat.le_of_ble_eq_true rfl, Nat.le_of_ble_eq_true rfl⟩, (htx _ kw_7_12), (htx _ kp_M_keysOf)⟩ ⟨xPre_blind, va_recv hK hP (ci := 5) rfl (q0 := 0) rfl, (fun U hU hW => ⟨rfl, xPre_of hZ hS hFc hPc hDc hK U hU hW⟩)⟩ rfl rfl hl.1 rfl (lv_room (Nat.le_of_ble_eq_true rfl)) dM_one1_95 ⟨Nat.le_of_ble_eq_true rfl, Nat.le_of_ble_eq_true rfl⟩) hS hFc (fun q _ h => hFc q h) (fun E ce q9 u9 t H1 locs ht hvm _ hB hz1 hk1 hS hce hcv hcl => ?_)
  obtain ⟨rfl, hP1, hK1, hD1⟩ := hB
  rw [ht] at hP1
  obtain ⟨hP, hD⟩ := xjoin (W := [(a1, .inr (6, [.int 0, v34, v35, v36, v37, v38])), (a0, .inr (5, [v2, v3, v4, v5, v6, v7, v8, v9, .int 1, v11, v12, v13, .int x14, v15, v16, v17, v18, v19, v20, v21, v22, v23, v24, v25, v26, v27, v28, v29, v30, v31, v32, v33]))]) hP hD [1, 0] [] 0 rfl rfl (by decide) (by decide) hk1 hFc hP1 hD1
  generalize H1 = H at hP hS hce ⊢
  obtain ⟨hP9, hD9⟩ := xsub (wc := [(a0, .inr (5, [v2, v3, v4, v5, v6, v7, v8, v9, .int 1, v11, v12, v13, .int x14, v15, v16, v17, v18, v19, v20, v21, v22, v23, v24, v25, v26, v27, v28, v29, v30, v31, v32, v33])), (a1, .inr (6, [.int 0, v34, v35, v36, v37, v38]))]) hP hD [1, 0] rfl rfl (by decide)
  exact vx_out (E := "java/lang/ArithmeticException") (fun x h => (hne x h).elim) hlocks hce hcv hcl (fun t ht ha => ⟨(), trivial, ⟨rfl, by rw [ht]; exact hP9, va_K.moved ha hK, hD9⟩, hS.F ht⟩) hS.2.2 (Nat.le_of_ble_eq_true rfl) (Nat.le_of_ble_eq_true rfl)
set_option maxHeartbeats 400000000 in
set_option maxRecDepth 100000 in
theorem cM_finish_4 (l : Launch) (hl9 : l.stackTraces = false) (D : va_G) (cT : Nat → ClassId) (aK aV : Nat → Nat) (sz : Nat) (a0 : Nat) (a1 : Nat) (a2 : Nat) (a3 : Nat) (a4 : Nat) (x5 : Int32) (x6 : Int32) (x11 : Int32) (v12 : Value) (v13 : Value) (v14 : Value) (v15 : Value) (v16 : Value) (v17 : Value) (v18 : Value) (v19 : Value) (v20 : Value) (v21 : Value) (x22 : Int32) (v23 : Value) (v24 : Value) (v25 : Value) (v26 : Value) (v27 : Value) (v28 : Value) (v29 : Value) (v30 : Value) (v31 : Value) (v32 : Value) (v33 : Value) (v34 : Value) (v35 : Value) (v36 : Value) (v37 : Value) (v38 : Value) (v39 : Value) (f40 : Nat → Option Nat) (f42 : Nat → Int32) (f44 : Nat → Int32) (f49 : Nat → Option Nat) (h7 : ¬ x6 < 0) (h8 : ¬ 7 < x6) (h9 : x6 ≤ 7) (h10 : vp_in x6 8) (h41 : f40 x6.toNatClampNeg = some a3) (h43 : f42 x6.toNatClampNeg = 4) (h45 : f44 0 = 110) (h46 : f44 1 = 117) (h47 : f44 2 = 108) (h48 : f44 3 = 108) (h50 : f49 0 = none) : xMet l yM_finish wyM_finish 10 2 12 188 D cT aK aV sz [.ref a0, .int x5, .int 1, .int 2, .int x6, .int x11] [(a0, .inr (5, [v12, .ref a4, .int 0, v13, v14, v15, v16, v17, v18, v19, v20, v21, .int x22, v23, v24, v25, v26, v27, v28, v29, v30, v31, v32, v33, .ref a1, .ref a2, v34, v35, v36, v37, v38, v39])), (a1, .inl (cT 5, 8, .inr (.inr (.inr (.inr f40))))), (a2, .inl (cT 1, 8, .inl f42)), (a3, .inl (cT 0, 4096, .inl f44)), (a4, .inl (cT 4, 1024, .inr (.inr (.inr (.inr f49)))))] (fun A => va_Qv (fun _ : Unit => True) (fun _ t => ∃ (r1 : Nat), xB D xcl cT A [(a0, .inr (5, [.int 2, .ref a4, .int 1, v13, v14, v15, v16, v17, .int 1, v19, v20, v21, .int x22, v23, v24, .ref a3, .int 4, .int 4, .int 0, .int 100, v30, v31, v32, v33, .ref a1, .ref a2, v34, v35, v36, v37, .int 1, v39])), (a1, .inl (cT 5, 8, .inr (.inr (.inr (.inr f40))))), (a2, .inl (cT 1, 8, .inl f42)), (a3, .inl (cT 0, 4096, .inl f44)), (a4, .inl (cT 4, 1024, .inr (.inr (.inr (.inr (va_up f49 0 (some r1))))))), (r1, .inr (6, [.int 0, .long 0, .int 0, .int 0, .int 0, .int 1]))] t) A) := by
  refine va_MetW (cc := prog_13_method_90_code) (maxL := 10) (ret := none) (hh := [(0, 128, 131, 83), (0, 128, 149, 86)]) (by decide) rfl ?_
  intro p e s m args below meth c s₁ B hml hv
  obtain ⟨rfl, hsz, hZ, hP, hK, hD0⟩ := hv
  have hx := B.exec
  have hb := B.bytes
  have hr := B.returns
  have hts := atoms_spec (ws := wyM_finish) B.pre
  have htx := fun w h => hts w (List.mem_cons_of_mem _ h)
  have hown : s.vm.findClass "ValueBenchModel" = some m.cls := findClass_of_methodNamed B.named
  have hlocks := B.notSynchronized
  subst hsz
  have hD := hD0.self (sz := s.heap.size)
  generalize hAe : va_A [(a0, .inr (5, [v12, .ref a4, .int 0, v13, v14, v15, v16, v17, v18, v19, v20, v21, .int x22, v23, v24, v25, v26, v27, v28, v29, v30, v31, v32, v33, .ref a1, .ref a2, v34, v35, v36, v37, v38, v39])), (a1, .inl (cT 5, 8, .inr (.inr (.inr (.inr f40))))), (a2, .inl (cT 1, 8, .inl f42)), (a3, .inl (cT 0, 4096, .inl f44)), (a4, .inl (cT 4, 1024, .inr (.inr (.inr (.inr f49)))))] s.heap.size = A at hD hZ ⊢
  have hA : ∀ q : Nat, s.heap.size ≤ q → A q := fun q h => by rw [← hAe]; exact Or.inr h
  have hS : va_S A s.heap s.heap [] := va_S.rf
  have hP : va_P D xcl [(a0, .inr (5, [v12, .ref a4, .int 0, v13, v14, v15, v16, v17, v18, v19, v20, v21, .int x22, v23, v24, v25, v26, v27, v28, v29, v30, v31, v32, v33, .ref a1, .ref a2, v34, v35, v36, v37, v38, v39])), (a1, .inl (cT 5, 8, .inr (.inr (.inr (.inr f40))))), (a2, .inl (cT 1, 8, .inl f42)), (a3, .inl (cT 0, 4096, .inl f44)), (a4, .inl (cT 4, 1024, .inr (.inr (.inr (.inr f49)))))] s.heap := hP
  have hl := lv_entry ([.ref a0, .int x5, .int 1, .int 2, .int x6, .int x11]) (n := 10) (Nat.le_of_ble_eq_true rfl)
  rw [lg_entry_eq]
  generalize (lg_sl ([.ref a0, .int x5, .int 1, .int 2, .int x6, .int x11]) ++ List.replicate (10 - (lg_sl ([.ref a0, .int x5, .int 1, .int 2, .int x6, .int x11])).length) Slot.unset).toArray = ls at hl ⊢
  have hl : lv_has ls 10 [(0, .ref a0), (1, .int x5), (2, .int 1), (3, .int 2), (4, .int x6), (5, .int x11)] := hl
  have htab := vx_table (x := yM_finish) B (hts _ List.mem_cons_self)
  refine lv_aload_n hx hb dM_finish_0 rfl (lv_at hl 0 rfl) ?_
  refine lv_iload hx hb dM_finish_1 (lv_at hl 4 rfl) ?_
  obtain ⟨hPc, hDc, hFc⟩ := xcut (wc := [(a0, .inr (5, [v12, .ref a4, .int 0, v13, v14, v15, v16, v17, v18, v19, v20, v21, .int x22, v23, v24, v25, v26, v27, v28, v29, v30, v31, v32, v33, .ref a1, .ref a2, v34, v35, v36, v37, v38, v39])), (a1, .inl (cT 5, 8, .inr (.inr (.inr (.inr f40))))), (a2, .inl (cT 1, 8, .inl f42)), (a3, .inl (cT 0, 4096, .inl f44)), (a4, .inl (cT 4, 1024, .inr (.inr (.inr (.inr f49)))))]) hP hD hS hA [0, 1, 2, 3, 4] rfl rfl (by decide)
  refine va_callr (va_runV (C := "ValueBenchModel") (As := [.int x6]) (rest := []) ⟨hx, hb, hml, hown, htx⟩ (cM_register_2 l hl9 D cT aK aV s.heap.size a0 a1 a2 a3 a4 x6 v12 v13 v14 v15 v16 v17 v18 v19 v20 v21 (.int x22) v23 v24 v25 v26 v27 v28 v29 v30 v31 v32 v33 v34 v35 v36 v37 v38 v39 f40 f42 f44 f49 h7 h8 h9 h10 (by first | rfl | exact h41 | exact h43 | exact h45 | exact h46 | exact h47 | exact h48 | exact h50) (by first | rfl | exact h41 | exact h43 | exact h45 | exact h46 | exact h47 | exact h48 | exact h50) (by first | rfl | exact h41 | exact h43 | exact h45 | exact h46 | exact h47 | exact h48 | exact h50) (by first | rfl | exact h41 | exact h43 | exact h45 | exact h46 | exact h47 | exact h48 | exact h50) (by first | rfl | exact h41 | exact h43 | exact h45 | exact h46 | exact h47 | exact h48 | exact h50) (by first | rfl | exact h41 | exact h43 | exact h45 | exact h46 | exact h47 | exact h48 | exact h50) (by first | rfl | exact h41 | exact h43 | exact h45 | exact h46 | exact h47 | exact h48 | exact h50)) ⟨callB_of 1 htx (xw_goodC kw_6_170) rfl rfl rfl (htx _ kw_1_5) (htx _ kw_6_167) ⟨by decide, by decide, by decide +kernel⟩ ⟨Nat.le_of_ble_eq_true rfl, Nat.le_of_ble_eq_true rfl⟩, (htx _ kw_6_169), (htx _ kp_M_register)⟩ ⟨xPre_blind, va_recv hK hP (ci := 5) rfl (q0 := 0) rfl, (fun U hU hW => ⟨rfl, xPre_of hZ hS hFc hPc hDc hK U hU hW⟩)⟩ rfl rfl hl.1 rfl (lv_room (Nat.le_of_ble_eq_true rfl)) dM_finish_3 ⟨Nat.le_of_ble_eq_true rfl, Nat.le_of_ble_eq_true rfl⟩) hS (fun q _ h => hFc q h) hFc (fun u9 r1 t H1 locs ht hvm hr9 hB hz1 hk1 hS => ?_)
  obtain ⟨hP1, hK1, hD1⟩ := hB
  rw [ht] at hP1
  obtain ⟨hP, hD⟩ := xjoin (W := [(a0, .inr (5, [v12, .ref a4, .int 1, v13, v14, v15, v16, v17, v18, v19, v20, v21, .int x22, v23, v24, .ref a3, .int 4, .int 4, .int 0, .int 100, v30, v31, v32, v33, .ref a1, .ref a2, v34, v35, v36, v37, v38, v39])), (a1, .inl (cT 5, 8, .inr (.inr (.inr (.inr f40))))), (a2, .inl (cT 1, 8, .inl f42)), (a3, .inl (cT 0, 4096, .inl f44)), (a4, .inl (cT 4, 1024, .inr (.inr (.inr (.inr (va_up f49 0 (some r1))))))), (r1, .inr (6, [.int 0, .long 0, .int 0, .int 0, .int 0, .int 1]))]) hP hD [0, 1, 2, 3, 4] [] 0 rfl rfl (by decide) (by decide) hk1 hFc hP1 hD1
  generalize H1 = H at hP hS ⊢
  refine W.eq (g2 := F0 m 6 ls [.ref r1]) rfl ?_
  refine lv_astore (lv' := [(6, .ref r1), (0, .ref a0), (1, .int x5), (2, .int 1), (3, .int 2), (4, .int x6), (5, .int x11)]) hx hb dM_finish_6 hl (by decide) rfl (fun ls hl => ?_)
  refine lv_iload_n hx hb dM_finish_8 rfl (lv_at hl 3 rfl) ?_
  refine lv_iconst (v := 1) hx hb dM_finish_9 (by decide) ?_
  refine lv_icmp_ne (tgt := 17) hx hb dM_finish_10 (by decide) (fun h => ((by revert h; decide : False)).elim) (fun _ => ?_)
  refine lv_null hx hb dM_finish_13 ?_
  refine lv_goto (tgt := 23) hx hb dM_finish_14 (by decide) ?_
  refine lv_astoreN (lv' := [(7, .null), (6, .ref r1), (0, .ref a0), (1, .int x5), (2, .int 1), (3, .int 2), (4, .int x6), (5, .int x11)]) hx hb dM_finish_23 hl (by decide) rfl (fun ls hl => ?_)
  refine lv_iload_n hx hb dM_finish_25 rfl (lv_at hl 4 rfl) ?_
  refine lv_if_ne (tgt := 43) hx hb dM_finish_26 (by decide) (fun _ => ?_) (fun h => ((by revert h; decide : False)).elim)
  refine lv_iload_n hx hb dM_finish_43 rfl (lv_at hl 4 rfl) ?_
  refine lv_iconst (v := 1) hx hb dM_finish_44 (by decide) ?_
  refine lv_icmp_ne (tgt := 60) hx hb dM_finish_45 (by decide) (fun h => ((by revert h; decide : False)).elim) (fun _ => ?_)
  refine lv_aload_n hx hb dM_finish_48 rfl (lv_at hl 2 rfl) ?_
  refine lv_iload_n hx hb dM_finish_49 rfl (lv_at hl 5 rfl) ?_
  refine lv_aload hx hb dM_finish_50 (lv_at hl 1 rfl) ?_
  obtain ⟨hPc, hDc, hFc⟩ := xcut (wc := [(a0, .inr (5, [v12, .ref a4, .int 1, v13, v14, v15, v16, v17, v18, v19, v20, v21, .int x22, v23, v24, .ref a3, .int 4, .int 4, .int 0, .int 100, v30, v31, v32, v33, .ref a1, .ref a2, v34, v35, v36, v37, v38, v39])), (r1, .inr (6, [.int 0, .long 0, .int 0, .int 0, .int 0, .int 1]))]) hP hD hS hA [0, 5] rfl rfl (by decide)
  refine xx_thr (vx_runV (C := "ValueBenchModel") (As := [.int 2, .ref r1]) (rest := []) ⟨hx, hb, hml, hown, htx⟩ (cM_one1_2 l hl9 D cT aK aV H.size a0 r1 v12 (.ref a4) (.int 1) v13 v14 v15 v16 v17 v18 v19 v20 v21 x22 v23 v24 (.ref a3) (.int 4) (.int 4) (.int 0) (.int 100) v30 v31 v32 v33 (.ref a1) (.ref a2) v34 v35 v36 v37 v38 v39 (.long 0) (.int 0) (.int 0) (.int 0) (.int 1)) ⟨callB_of 2 htx (xw_goodC kw_6_237) rfl rfl rfl (htx _ kw_1_5) (htx _ kw_6_234) ⟨by decide, by decide, by decide +kernel⟩ ⟨Nat.le_of_ble_eq_true rfl, Nat.le_of_ble_eq_true rfl⟩, (htx _ kw_6_236), (htx _ kp_M_one1)⟩ ⟨xPre_blind, va_recv hK hP (ci := 5) rfl (q0 := 0) rfl, (fun U hU hW => ⟨rfl, xPre_of hZ hS hFc hPc hDc hK U hU hW⟩)⟩ rfl rfl hl.1 rfl (lv_room (Nat.le_of_ble_eq_true rfl)) dM_finish_52 ⟨Nat.le_of_ble_eq_true rfl, Nat.le_of_ble_eq_true rfl⟩) hS hFc (fun q _ h => hFc q h) (fun E ce q9 u9 t H1 locs ht hvm _ hB hz1 hk1 hS hce hcv hcl => ?_)
  obtain ⟨rfl, hP1, hK1, hD1⟩ := hB
  rw [ht] at hP1
  obtain ⟨hP, hD⟩ := xjoin (W := [(a1, .inl (cT 5, 8, .inr (.inr (.inr (.inr f40))))), (a2, .inl (cT 1, 8, .inl f42)), (a3, .inl (cT 0, 4096, .inl f44)), (a4, .inl (cT 4, 1024, .inr (.inr (.inr (.inr (va_up f49 0 (some r1))))))), (a0, .inr (5, [v12, .ref a4, .int 1, v13, v14, v15, v16, v17, .int 1, v19, v20, v21, .int x22, v23, v24, .ref a3, .int 4, .int 4, .int 0, .int 100, v30, v31, v32, v33, .ref a1, .ref a2, v34, v35, v36, v37, v38, v39])), (r1, .inr (6, [.int 0, .long 0, .int 0, .int 0, .int 0, .int 1]))]) hP hD [0, 5] [1, 2, 3, 4] 4 rfl rfl (by decide) (by decide) hk1 hFc hP1 hD1
  generalize H1 = H at hP hS hce ⊢
  refine vx_catch (own := "ValueBenchModel") (name := "java/lang/ArithmeticException") (E := "java/lang/ArithmeticException") hown [] ⟨0, 128, 131, 83⟩ [⟨0, 128, 149, 86⟩] (by rw [htab]; rfl) (fun z hz => nomatch hz) (by decide) (by decide) (htx _ kw_6_94) ((hZ.2.2.2.2.2.1 _ (List.mem_of_getElem? (i := 3) rfl)).use rfl) hce hcv hcl ?_
  refine lv_astore (lv' := [(6, .ref q9), (7, .null), (0, .ref a0), (1, .int x5), (2, .int 1), (3, .int 2), (4, .int x6), (5, .int x11)]) hx hb dM_finish_131 hl (by decide) rfl (fun ls hl => ?_)
  refine lv_aload_n hx hb dM_finish_133 rfl (lv_at hl 2 rfl) ?_
  refine lv_aload_n hx hb dM_finish_134 rfl (lv_at hl 2 rfl) ?_
  refine va_get (D := D) (ci := 5) (v := .int 1) (C := "ValueBenchModel") (T := TM) (N := 32) hx hb htx inM hown hK hP 4 rfl rfl 8 (by decide) (htx _ kw_5_95) (fun _ h9 => h9) rfl dM_finish_135 ?_
  refine va_put (D := D) (ci := 5) (v := .int 1) (ty := .int) (C := "ValueBenchModel") (T := TM) (N := 32) hx hb htx inM tyM tyM_ok nmM hown hK hP hD hS 4 rfl rfl 30 (by decide) (htx _ kw_5_117) (fun _ h9 => h9) rfl (by decide +kernel) rfl rfl (Nat.le_of_ble_eq_true rfl) dM_finish_138 (fun H locs hP hD hS => ?_)
  obtain ⟨hP, hD⟩ : xPD D xcl A [(a1, .inl (cT 5, 8, .inr (.inr (.inr (.inr f40))))), (a2, .inl (cT 1, 8, .inl f42)), (a3, .inl (cT 0, 4096, .inl f44)), (a4, .inl (cT 4, 1024, .inr (.inr (.inr (.inr (va_up f49 0 (some r1))))))), (a0, .inr (5, [v12, .ref a4, .int 1, v13, v14, v15, v16, v17, .int 1, v19, v20, v21, .int x22, v23, v24, .ref a3, .int 4, .int 4, .int 0, .int 100, v30, v31, v32, v33, .ref a1, .ref a2, v34, v35, v36, v37, .int 1, v39])), (r1, .inr (6, [.int 0, .long 0, .int 0, .int 0, .int 0, .int 1]))] H := ⟨hP, hD⟩
  refine lv_aload_n hx hb dM_finish_141 rfl (lv_at hl 2 rfl) ?_
  refine lv_iconst (v := 2) hx hb dM_finish_142 (by decide) ?_
  refine va_put (D := D) (ci := 5) (v := .int 2) (ty := .int) (C := "ValueBenchModel") (T := TM) (N := 32) hx hb htx inM tyM tyM_ok nmM hown hK hP hD hS 4 rfl rfl 0 (by decide) (htx _ kw_5_87) (fun _ h9 => h9) rfl (by decide +kernel) rfl rfl (Nat.le_of_ble_eq_true rfl) dM_finish_143 (fun H locs hP hD hS => ?_)
  obtain ⟨hP, hD⟩ : xPD D xcl A [(a1, .inl (cT 5, 8, .inr (.inr (.inr (.inr f40))))), (a2, .inl (cT 1, 8, .inl f42)), (a3, .inl (cT 0, 4096, .inl f44)), (a4, .inl (cT 4, 1024, .inr (.inr (.inr (.inr (va_up f49 0 (some r1))))))), (a0, .inr (5, [.int 2, .ref a4, .int 1, v13, v14, v15, v16, v17, .int 1, v19, v20, v21, .int x22, v23, v24, .ref a3, .int 4, .int 4, .int 0, .int 100, v30, v31, v32, v33, .ref a1, .ref a2, v34, v35, v36, v37, .int 1, v39])), (r1, .inr (6, [.int 0, .long 0, .int 0, .int 0, .int 0, .int 1]))] H := ⟨hP, hD⟩
  refine lv_goto (tgt := 156) hx hb dM_finish_146 (by decide) ?_
  obtain ⟨hP9, hD9⟩ := xsub (wc := [(a0, .inr (5, [.int 2, .ref a4, .int 1, v13, v14, v15, v16, v17, .int 1, v19, v20, v21, .int x22, v23, v24, .ref a3, .int 4, .int 4, .int 0, .int 100, v30, v31, v32, v33, .ref a1, .ref a2, v34, v35, v36, v37, .int 1, v39])), (a1, .inl (cT 5, 8, .inr (.inr (.inr (.inr f40))))), (a2, .inl (cT 1, 8, .inl f42)), (a3, .inl (cT 0, 4096, .inl f44)), (a4, .inl (cT 4, 1024, .inr (.inr (.inr (.inr (va_up f49 0 (some r1))))))), (r1, .inr (6, [.int 0, .long 0, .int 0, .int 0, .int 0, .int 1]))]) hP hD [4, 0, 1, 2, 3, 5] rfl rfl (by decide)
  refine W.widen (k := 2) (n := 12) (Nat.le_of_ble_eq_true rfl) (Nat.le_of_ble_eq_true rfl) ?_
  exact W.vret hx hb hr (fun t ht hW => ⟨⟨(), rfl, trivial, r1, by rw [ht]; exact hP9, va_K.moved hW.alike hK, hD9⟩, hS.F ht⟩) hS.2.2 dM_finish_156
set_option maxHeartbeats 400000000 in
set_option maxRecDepth 100000 in
theorem cM_one0_4 (l : Launch) (hl9 : l.stackTraces = false) (D : va_G) (cT : Nat → ClassId) (aK aV : Nat → Nat) (sz : Nat) (a0 : Nat) (a1 : Nat) (a2 : Nat) (a3 : Nat) (a4 : Nat) (x5 : Int32) (x10 : Int32) (v15 : Value) (v16 : Value) (v17 : Value) (v18 : Value) (v19 : Value) (v20 : Value) (v21 : Value) (v22 : Value) (v23 : Value) (v24 : Value) (v25 : Value) (v26 : Value) (v27 : Value) (v28 : Value) (v29 : Value) (v30 : Value) (v31 : Value) (v32 : Value) (v33 : Value) (v34 : Value) (v35 : Value) (v36 : Value) (v37 : Value) (v38 : Value) (v39 : Value) (v40 : Value) (v41 : Value) (v42 : Value) (v43 : Value) (f44 : Nat → Option Nat) (f46 : Nat → Int32) (f48 : Nat → Int32) (f53 : Nat → Option Nat) (h6 : ¬ x5 < 0) (h7 : ¬ 7 < x5) (h8 : x5 ≤ 7) (h9 : vp_in x5 8) (h11 : ¬ x10 < 0) (h12 : ¬ 7 < x10) (h13 : x10 ≤ 7) (h14 : vp_in x10 8) (h45 : f44 x10.toNatClampNeg = some a3) (h47 : f46 x10.toNatClampNeg = 4) (h49 : f48 0 = 110) (h50 : f48 1 = 117) (h51 : f48 2 = 108) (h52 : f48 3 = 108) (h54 : f53 0 = none) : xMet l yM_one0 wyM_one0 11 2 12 217 D cT aK aV sz [.ref a0, .int x5, .int 2, .int x10] [(a0, .inr (5, [v15, .ref a4, v16, v17, v18, v19, v20, v21, v22, v23, v24, v25, v26, v27, v28, v29, v30, v31, v32, v33, v34, v35, v36, v37, .ref a1, .ref a2, v38, v39, v40, v41, v42, v43])), (a1, .inl (cT 5, 8, .inr (.inr (.inr (.inr f44))))), (a2, .inl (cT 1, 8, .inl f46)), (a3, .inl (cT 0, 4096, .inl f48)), (a4, .inl (cT 4, 1024, .inr (.inr (.inr (.inr f53)))))] (fun A => va_Qv (fun _ : Unit => True) (fun _ t => ∃ (q3 : Nat), xB D xcl cT A [(a0, .inr (5, [.int 2, .ref a4, .int 1, v17, .int 0, v19, v20, .int 0, .int 1, .int 0, v24, v25, .int 0, v27, v28, .ref a3, .int 4, .int 4, .int 0, .int 100, v34, v35, .int 0, .int 1000000000, .ref a1, .ref a2, v38, v39, v40, v41, .int 1, v43])), (a1, .inl (cT 5, 8, .inr (.inr (.inr (.inr f44))))), (a2, .inl (cT 1, 8, .inl f46)), (a3, .inl (cT 0, 4096, .inl f48)), (a4, .inl (cT 4, 1024, .inr (.inr (.inr (.inr (va_up f53 0 (some q3))))))), (q3, .inr (6, [.int 0, .long 0, .int 0, .int 0, .int 0, .int 1]))] t) A) := by
  refine Met.ofW (cc := prog_13_method_92_code) (maxL := 4) (ret := none) (by decide) rfl ?_
  intro p e s m args below meth c s₁ B hml hv
  obtain ⟨rfl, hsz, hZ, hP, hK, hD0⟩ := hv
  have hx := B.exec
  have hb := B.bytes
  have hr := B.returns
  have hts := atoms_spec (ws := wyM_one0) B.pre
  have htx := fun w h => hts w (List.mem_cons_of_mem _ h)
  have hown : s.vm.findClass "ValueBenchModel" = some m.cls := findClass_of_methodNamed B.named
  have hlocks := B.notSynchronized
  subst hsz
  have hD := hD0.self (sz := s.heap.size)
  generalize hAe : va_A [(a0, .inr (5, [v15, .ref a4, v16, v17, v18, v19, v20, v21, v22, v23, v24, v25, v26, v27, v28, v29, v30, v31, v32, v33, v34, v35, v36, v37, .ref a1, .ref a2, v38, v39, v40, v41, v42, v43])), (a1, .inl (cT 5, 8, .inr (.inr (.inr (.inr f44))))), (a2, .inl (cT 1, 8, .inl f46)), (a3, .inl (cT 0, 4096, .inl f48)), (a4, .inl (cT 4, 1024, .inr (.inr (.inr (.inr f53)))))] s.heap.size = A at hD hZ ⊢
  have hA : ∀ q : Nat, s.heap.size ≤ q → A q := fun q h => by rw [← hAe]; exact Or.inr h
  have hS : va_S A s.heap s.heap [] := va_S.rf
  have hP : va_P D xcl [(a0, .inr (5, [v15, .ref a4, v16, v17, v18, v19, v20, v21, v22, v23, v24, v25, v26, v27, v28, v29, v30, v31, v32, v33, v34, v35, v36, v37, .ref a1, .ref a2, v38, v39, v40, v41, v42, v43])), (a1, .inl (cT 5, 8, .inr (.inr (.inr (.inr f44))))), (a2, .inl (cT 1, 8, .inl f46)), (a3, .inl (cT 0, 4096, .inl f48)), (a4, .inl (cT 4, 1024, .inr (.inr (.inr (.inr f53)))))] s.heap := hP
  have hl := lv_entry ([.ref a0, .int x5, .int 2, .int x10]) (n := 4) (Nat.le_of_ble_eq_true rfl)
  rw [lg_entry_eq]
  generalize (lg_sl ([.ref a0, .int x5, .int 2, .int x10]) ++ List.replicate (4 - (lg_sl ([.ref a0, .int x5, .int 2, .int x10])).length) Slot.unset).toArray = ls at hl ⊢
  have hl : lv_has ls 4 [(0, .ref a0), (1, .int x5), (2, .int 2), (3, .int x10)] := hl
  refine lv_aload_n hx hb dM_one0_0 rfl (lv_at hl 0 rfl) ?_
  obtain ⟨hPc, hDc, hFc⟩ := xcut (wc := [(a0, .inr (5, [v15, .ref a4, v16, v17, v18, v19, v20, v21, v22, v23, v24, v25, v26, v27, v28, v29, v30, v31, v32, v33, v34, v35, v36, v37, .ref a1, .ref a2, v38, v39, v40, v41, v42, v43]))]) hP hD hS hA [0] rfl rfl (by decide)
  refine va_callv (va_runV (C := "ValueBenchModel") (As := []) (rest := []) ⟨hx, hb, hml, hown, htx⟩ (cM_begin_0 l hl9 D cT aK aV s.heap.size a0 v15 (.ref a4) v16 v17 v18 v19 v20 v21 v22 v23 v24 v25 v26 v27 v28 v29 v30 v31 v32 v33 v34 v35 v36 v37 (.ref a1) (.ref a2) v38 v39 v40 v41 v42 v43) ⟨callB_of 0 htx (xw_goodC kw_5_209) rfl rfl rfl (htx _ kw_1_5) (htx _ kw_5_206) ⟨by decide, by decide, by decide +kernel⟩ ⟨Nat.le_of_ble_eq_true rfl, Nat.le_of_ble_eq_true rfl⟩, (htx _ kw_5_208), (htx _ kp_M_begin)⟩ ⟨xPre_blind, va_recv hK hP (ci := 5) rfl (q0 := 0) rfl, (fun U hU hW => ⟨rfl, xPre_of hZ hS hFc hPc hDc hK U hU hW⟩)⟩ rfl rfl hl.1 rfl (lv_room (Nat.le_of_ble_eq_true rfl)) dM_one0_1 ⟨Nat.le_of_ble_eq_true rfl, Nat.le_of_ble_eq_true rfl⟩) hS (fun q _ h => hFc q h) hFc (fun u9 t H1 locs ht hvm hr9 hB hz1 hk1 hS => ?_)
  obtain ⟨hP1, hK1, hD1⟩ := hB
  rw [ht] at hP1
  obtain ⟨hP, hD⟩ := xjoin (W := [(a1, .inl (cT 5, 8, .inr (.inr (.inr (.inr f44))))), (a2, .inl (cT 1, 8, .inl f46)), (a3, .inl (cT 0, 4096, .inl f48)), (a4, .inl (cT 4, 1024, .inr (.inr (.inr (.inr f53))))), (a0, .inr (5, [.int 0, .ref a4, .int 0, v17, .int 0, v19, v20, .int 0, v22, .int 0, v24, v25, .int 0, v27, v28, v29, v30, v31, v32, v33, v34, v35, .int 0, .int 1000000000, .ref a1, .ref a2, v38, v39, v40, v41, v42, v43]))]) hP hD [0] [1, 2, 3, 4] 4 rfl rfl (by decide) (by decide) hk1 hFc hP1 hD1
  generalize H1 = H at hP hS ⊢
  refine lv_aload_n hx hb dM_one0_4 rfl (lv_at hl 0 rfl) ?_
  refine lv_iload_n hx hb dM_one0_5 rfl (lv_at hl 1 rfl) ?_
  obtain ⟨hPc, hDc, hFc⟩ := xcut (wc := []) hP hD hS hA [] rfl rfl (by decide)
  refine va_calli (va_runV (C := "ValueBenchModel") (As := [.int x5]) (rest := []) ⟨hx, hb, hml, hown, htx⟩ (cM_out_0 l hl9 D cT aK aV H.size a0 x5 h6 h7 h8 h9) ⟨callB_of 1 htx (xw_goodC kw_5_217) rfl rfl rfl (htx _ kw_1_5) (htx _ kw_5_214) ⟨by decide, by decide, by decide +kernel⟩ ⟨Nat.le_of_ble_eq_true rfl, Nat.le_of_ble_eq_true rfl⟩, (htx _ kw_5_216), (htx _ kp_M_out)⟩ ⟨xPre_blind, va_recv hK hP (ci := 5) rfl (q0 := 4) rfl, (fun U hU hW => ⟨rfl, xPre_of hZ hS hFc hPc hDc hK U hU hW⟩)⟩ rfl rfl hl.1 rfl (lv_room (Nat.le_of_ble_eq_true rfl)) dM_one0_6 ⟨Nat.le_of_ble_eq_true rfl, Nat.le_of_ble_eq_true rfl⟩) hS (fun q _ h => hFc q h) hFc (fun r1 u9 t H1 locs ht hvm hr9 hB hz1 hk1 hS => ?_)
  obtain ⟨hP1, hK1, hD1⟩ := hB
  rw [ht] at hP1
  obtain ⟨hP, hD⟩ := xjoin (W := [(a1, .inl (cT 5, 8, .inr (.inr (.inr (.inr f44))))), (a2, .inl (cT 1, 8, .inl f46)), (a3, .inl (cT 0, 4096, .inl f48)), (a4, .inl (cT 4, 1024, .inr (.inr (.inr (.inr f53))))), (a0, .inr (5, [.int 0, .ref a4, .int 0, v17, .int 0, v19, v20, .int 0, v22, .int 0, v24, v25, .int 0, v27, v28, v29, v30, v31, v32, v33, v34, v35, .int 0, .int 1000000000, .ref a1, .ref a2, v38, v39, v40, v41, v42, v43]))]) hP hD [] [0, 1, 2, 3, 4] 5 rfl rfl (by decide) (by decide) hk1 hFc hP1 hD1
  generalize H1 = H at hP hS ⊢
  rw [hr9]
  refine W.eq (g2 := F0 m 9 ls [.int 0]) rfl ?_
  refine lv_if_ne (tgt := 30) hx hb dM_one0_9 (by decide) (fun h => ((by revert h; decide : False)).elim) (fun _ => ?_)
  refine lv_iload_n hx hb dM_one0_12 rfl (lv_at hl 2 rfl) ?_
  refine lv_if_lt (tgt := 30) hx hb dM_one0_13 (by decide) (fun h => ((by revert h; decide : False)).elim) (fun _ => ?_)
  refine lv_iload_n hx hb dM_one0_16 rfl (lv_at hl 2 rfl) ?_
  refine lv_bipush (v := 13) hx hb dM_one0_17 (by decide) ?_
  refine lv_icmp_gt (tgt := 30) hx hb dM_one0_19 (by decide) (fun h => ((by revert h; decide : False)).elim) (fun _ => ?_)
  refine lv_aload_n hx hb dM_one0_22 rfl (lv_at hl 0 rfl) ?_
  refine lv_iload_n hx hb dM_one0_23 rfl (lv_at hl 3 rfl) ?_
  obtain ⟨hPc, hDc, hFc⟩ := xcut (wc := []) hP hD hS hA [] rfl rfl (by decide)
  refine va_calli (va_runV (C := "ValueBenchModel") (As := [.int x10]) (rest := []) ⟨hx, hb, hml, hown, htx⟩ (cM_out_0 l hl9 D cT aK aV H.size a0 x10 h11 h12 h13 h14) ⟨callB_of 1 htx (xw_goodC kw_5_217) rfl rfl rfl (htx _ kw_1_5) (htx _ kw_5_214) ⟨by decide, by decide, by decide +kernel⟩ ⟨Nat.le_of_ble_eq_true rfl, Nat.le_of_ble_eq_true rfl⟩, (htx _ kw_5_216), (htx _ kp_M_out)⟩ ⟨xPre_blind, va_recv hK hP (ci := 5) rfl (q0 := 4) rfl, (fun U hU hW => ⟨rfl, xPre_of hZ hS hFc hPc hDc hK U hU hW⟩)⟩ rfl rfl hl.1 rfl (lv_room (Nat.le_of_ble_eq_true rfl)) dM_one0_24 ⟨Nat.le_of_ble_eq_true rfl, Nat.le_of_ble_eq_true rfl⟩) hS (fun q _ h => hFc q h) hFc (fun r2 u9 t H1 locs ht hvm hr9 hB hz1 hk1 hS => ?_)
  obtain ⟨hP1, hK1, hD1⟩ := hB
  rw [ht] at hP1
  obtain ⟨hP, hD⟩ := xjoin (W := [(a1, .inl (cT 5, 8, .inr (.inr (.inr (.inr f44))))), (a2, .inl (cT 1, 8, .inl f46)), (a3, .inl (cT 0, 4096, .inl f48)), (a4, .inl (cT 4, 1024, .inr (.inr (.inr (.inr f53))))), (a0, .inr (5, [.int 0, .ref a4, .int 0, v17, .int 0, v19, v20, .int 0, v22, .int 0, v24, v25, .int 0, v27, v28, v29, v30, v31, v32, v33, v34, v35, .int 0, .int 1000000000, .ref a1, .ref a2, v38, v39, v40, v41, v42, v43]))]) hP hD [] [0, 1, 2, 3, 4] 5 rfl rfl (by decide) (by decide) hk1 hFc hP1 hD1
  generalize H1 = H at hP hS ⊢
  rw [hr9]
  refine W.eq (g2 := F0 m 27 ls [.int 0]) rfl ?_
  refine lv_if_eq (tgt := 38) hx hb dM_one0_27 (by decide) (fun _ => ?_) (fun h => ((by revert h; decide : False)).elim)
  refine lv_aload_n hx hb dM_one0_38 rfl (lv_at hl 0 rfl) ?_
  refine lv_iload_n hx hb dM_one0_39 rfl (lv_at hl 1 rfl) ?_
  refine lv_iconst (v := 1) hx hb dM_one0_40 (by decide) ?_
  refine lv_iload_n hx hb dM_one0_41 rfl (lv_at hl 2 rfl) ?_
  refine lv_iload_n hx hb dM_one0_42 rfl (lv_at hl 3 rfl) ?_
  refine lv_iload_n hx hb dM_one0_43 rfl (lv_at hl 3 rfl) ?_
  obtain ⟨hPc, hDc, hFc⟩ := xcut (wc := [(a0, .inr (5, [.int 0, .ref a4, .int 0, v17, .int 0, v19, v20, .int 0, v22, .int 0, v24, v25, .int 0, v27, v28, v29, v30, v31, v32, v33, v34, v35, .int 0, .int 1000000000, .ref a1, .ref a2, v38, v39, v40, v41, v42, v43])), (a1, .inl (cT 5, 8, .inr (.inr (.inr (.inr f44))))), (a2, .inl (cT 1, 8, .inl f46)), (a3, .inl (cT 0, 4096, .inl f48)), (a4, .inl (cT 4, 1024, .inr (.inr (.inr (.inr f53)))))]) hP hD hS hA [4, 0, 1, 2, 3] rfl rfl (by decide)
  refine va_callv (vx_runVW (C := "ValueBenchModel") (As := [.int x5, .int 1, .int 2, .int x10, .int x10]) (rest := []) ⟨hx, hb, hml, hown, htx⟩ (cM_finish_4 l hl9 D cT aK aV H.size a0 a1 a2 a3 a4 x5 x10 x10 (.int 0) v17 (.int 0) v19 v20 (.int 0) v22 (.int 0) v24 v25 0 v27 v28 v29 v30 v31 v32 v33 v34 v35 (.int 0) (.int 1000000000) v38 v39 v40 v41 v42 v43 f44 f46 f48 f53 h11 h12 h13 h14 (by first | rfl | exact h45 | exact h47 | exact h49 | exact h50 | exact h51 | exact h52 | exact h54) (by first | rfl | exact h45 | exact h47 | exact h49 | exact h50 | exact h51 | exact h52 | exact h54) (by first | rfl | exact h45 | exact h47 | exact h49 | exact h50 | exact h51 | exact h52 | exact h54) (by first | rfl | exact h45 | exact h47 | exact h49 | exact h50 | exact h51 | exact h52 | exact h54) (by first | rfl | exact h45 | exact h47 | exact h49 | exact h50 | exact h51 | exact h52 | exact h54) (by first | rfl | exact h45 | exact h47 | exact h49 | exact h50 | exact h51 | exact h52 | exact h54) (by first | rfl | exact h45 | exact h47 | exact h49 | exact h50 | exact h51 | exact h52 | exact h54)) (xcVW 5 htx (xw_goodC kw_6_195) rfl rfl rfl (htx _ kw_1_5) (htx _ kw_6_192) ⟨by decide, by decide, by decide +kernel⟩ ⟨Nat.le_of_ble_eq_true rfl, Nat.le_of_ble_eq_true rfl⟩ (htx _ kw_6_194) (htx _ kp_M_finish)) ⟨xPre_blind, va_recv hK hP (ci := 5) rfl (q0 := 4) rfl, (fun U hU hW => ⟨rfl, xPre_of hZ hS hFc hPc hDc hK U hU hW⟩)⟩ rfl rfl hl.1 rfl (lv_room (Nat.le_of_ble_eq_true rfl)) dM_one0_44 ⟨Nat.le_of_ble_eq_true rfl, Nat.le_of_ble_eq_true rfl⟩) hS (fun q _ h => hFc q h) hFc (fun u9 t H1 locs ht hvm hr9 hB hz1 hk1 hS => ?_)
  obtain ⟨q3, hP1, hK1, hD1⟩ := hB
  rw [ht] at hP1
  obtain ⟨hP, hD⟩ := xjoin (W := [(a0, .inr (5, [.int 2, .ref a4, .int 1, v17, .int 0, v19, v20, .int 0, .int 1, .int 0, v24, v25, .int 0, v27, v28, .ref a3, .int 4, .int 4, .int 0, .int 100, v34, v35, .int 0, .int 1000000000, .ref a1, .ref a2, v38, v39, v40, v41, .int 1, v43])), (a1, .inl (cT 5, 8, .inr (.inr (.inr (.inr f44))))), (a2, .inl (cT 1, 8, .inl f46)), (a3, .inl (cT 0, 4096, .inl f48)), (a4, .inl (cT 4, 1024, .inr (.inr (.inr (.inr (va_up f53 0 (some q3))))))), (q3, .inr (6, [.int 0, .long 0, .int 0, .int 0, .int 0, .int 1]))]) hP hD [4, 0, 1, 2, 3] [] 0 rfl rfl (by decide) (by decide) hk1 hFc hP1 hD1
  generalize H1 = H at hP hS ⊢
  obtain ⟨hP9, hD9⟩ := xsub (wc := [(a0, .inr (5, [.int 2, .ref a4, .int 1, v17, .int 0, v19, v20, .int 0, .int 1, .int 0, v24, v25, .int 0, v27, v28, .ref a3, .int 4, .int 4, .int 0, .int 100, v34, v35, .int 0, .int 1000000000, .ref a1, .ref a2, v38, v39, v40, v41, .int 1, v43])), (a1, .inl (cT 5, 8, .inr (.inr (.inr (.inr f44))))), (a2, .inl (cT 1, 8, .inl f46)), (a3, .inl (cT 0, 4096, .inl f48)), (a4, .inl (cT 4, 1024, .inr (.inr (.inr (.inr (va_up f53 0 (some q3))))))), (q3, .inr (6, [.int 0, .long 0, .int 0, .int 0, .int 0, .int 1]))]) hP hD [0, 1, 2, 3, 4, 5] rfl rfl (by decide)
  refine W.widen (k := 2) (n := 12) (Nat.le_of_ble_eq_true rfl) (Nat.le_of_ble_eq_true rfl) ?_
  exact W.vret hx hb hr (fun t ht hW => ⟨⟨(), rfl, trivial, q3, by rw [ht]; exact hP9, va_K.moved hW.alike hK, hD9⟩, hS.F ht⟩) hS.2.2 dM_one0_47
set_option maxHeartbeats 400000000 in
set_option maxRecDepth 100000 in
theorem cM_one1_3 (l : Launch) (hl9 : l.stackTraces = false) (D : va_G) (cT : Nat → ClassId) (aK aV : Nat → Nat) (sz : Nat) (a0 : Nat) (a1 : Nat) (v2 : Value) (v3 : Value) (v4 : Value) (v5 : Value) (v6 : Value) (v7 : Value) (v8 : Value) (v9 : Value) (v10 : Value) (v11 : Value) (v12 : Value) (v13 : Value) (x14 : Int32) (v15 : Value) (v16 : Value) (v17 : Value) (v18 : Value) (v19 : Value) (v20 : Value) (v21 : Value) (v22 : Value) (v23 : Value) (v24 : Value) (v25 : Value) (v26 : Value) (v27 : Value) (v28 : Value) (v29 : Value) (v30 : Value) (v31 : Value) (v32 : Value) (v33 : Value) (v34 : Value) (v35 : Value) (v36 : Value) (v37 : Value) (v38 : Value) : xMetX l yM_one1 wyM_one1 9 1 6 166 D cT aK aV sz [.ref a0, .int 3, .ref a1] [(a0, .inr (5, [v2, v3, v4, v5, v6, v7, v8, v9, v10, v11, v12, v13, .int x14, v15, v16, v17, v18, v19, v20, v21, v22, v23, v24, v25, v26, v27, v28, v29, v30, v31, v32, v33])), (a1, .inr (6, [.int 0, v34, v35, v36, v37, v38]))] "java/lang/ArithmeticException" (fun A t => xB D xcl cT A [(a0, .inr (5, [v2, v3, v4, v5, v6, v7, v8, v9, .int 1, v11, v12, v13, .int x14, v15, v16, v17, v18, v19, v20, v21, v22, v23, v24, v25, v26, v27, v28, v29, v30, v31, v32, v33])), (a1, .inr (6, [.int 0, v34, v35, v36, v37, v38]))] t) := by
  refine vx_ofW (cc := prog_13_method_66_code) (maxL := 3) (ret := (some (.object "ValueBenchModel$V"))) (by decide) rfl ?_
  intro p e s m args below meth c s₁ B hml hne hv
  obtain ⟨rfl, hsz, hZ, hP, hK, hD0⟩ := hv
  have hx := B.exec
  have hb := B.bytes
  have hr := B.returns
  have hts := atoms_spec (ws := wyM_one1) B.pre
  have htx := fun w h => hts w (List.mem_cons_of_mem _ h)
  have hown : s.vm.findClass "ValueBenchModel" = some m.cls := findClass_of_methodNamed B.named
  have hlocks := B.notSynchronized
  subst hsz
  have hD := hD0.self (sz := s.heap.size)
  generalize hAe : va_A [(a0, .inr (5, [v2, v3, v4, v5, v6, v7, v8, v9, v10, v11, v12, v13, .int x14, v15, v16, v17, v18, v19, v20, v21, v22, v23, v24, v25, v26, v27, v28, v29, v30, v31, v32, v33])), (a1, .inr (6, [.int 0, v34, v35, v36, v37, v38]))] s.heap.size = A at hD hZ ⊢
  have hA : ∀ q : Nat, s.heap.size ≤ q → A q := fun q h => by rw [← hAe]; exact Or.inr h
  have hS : va_S A s.heap s.heap [] := va_S.rf
  have hP : va_P D xcl [(a0, .inr (5, [v2, v3, v4, v5, v6, v7, v8, v9, v10, v11, v12, v13, .int x14, v15, v16, v17, v18, v19, v20, v21, v22, v23, v24, v25, v26, v27, v28, v29, v30, v31, v32, v33])), (a1, .inr (6, [.int 0, v34, v35, v36, v37, v38]))] s.heap := hP
  have hl := lv_entry ([.ref a0, .int 3, .ref a1]) (n := 3) (Nat.le_of_ble_eq_true rfl)
  rw [lg_entry_eq]
  generalize (lg_sl ([.ref a0, .int 3, .ref a1]) ++ List.replicate (3 - (lg_sl ([.ref a0, .int 3, .ref a1])).length) Slot.unset).toArray = ls at hl ⊢
  have hl : lv_has ls 3 [(0, .ref a0), (1, .int 3), (2, .ref a1)] := hl
  refine lv_iload_n hx hb dM_one1_0 rfl (lv_at hl 1 rfl) ?_
  refine lv_tableIn (off := 98) (tgt := 99) hx hb dM_one1_1 (by decide) (by decide) (by decide) (by decide) ?_
  refine lv_aload_n hx hb dM_one1_99 rfl (lv_at hl 0 rfl) ?_
  refine lv_aload_n hx hb dM_one1_100 rfl (lv_at hl 2 rfl) ?_
  refine lv_iconst (v := 0) hx hb dM_one1_101 (by decide) ?_
  obtain ⟨hPc, hDc, hFc⟩ := xcut (wc := [(a1, .inr (6, [.int 0, v34, v35, v36, v37, v38])), (a0, .inr (5, [v2, v3, v4, v5, v6, v7, v8, v9, v10, v11, v12, v13, .int x14, v15, v16, v17, v18, v19, v20, v21, v22, v23, v24, v25, v26, v27, v28, v29, v30, v31, v32, v33]))]) hP hD hS hA [1, 0] rfl rfl (by decide)
  refine xx_thr (vx_runV (C := "ValueBenchModel") (As := [.ref a1, .int 0]) (rest := []) ⟨hx, hb, hml, hown, htx⟩ (cM_keysOf_0 l hl9 D cT aK aV s.heap.size a1 a0 0 v34 v35 v36 v37 v38 v2 v3 v4 v5 v6 v7 v8 v9 v10 v11 v12 v13 x14 v15 v16 v17 v18 v19 v20 v21 v22 v23 v24 v25 v26 v27 v28 v29 v30 v31 v32 v33) ⟨callB_of 2 htx (xw_goodC kw_7_13) rfl rfl rfl (htx _ kw_1_5) (htx _ kw_7_10) ⟨by decide, by decide, by decide +kernel⟩ ⟨Nat.le_of_ble_eq_true rfl, Nat.le_of_ble_eq_true rfl⟩, (htx _ kw_7_12), (htx _ kp_M_keysOf)⟩ ⟨xPre_blind, va_recv hK hP (ci := 5) rfl (q0 := 0) rfl, (fun U hU hW => ⟨rfl, xPre_of hZ hS hFc hPc hDc hK U hU hW⟩)⟩ rfl rfl hl.1 rfl (lv_room (Nat.le_of_ble_eq_true rfl)) dM_one1_102 ⟨Nat.le_of_ble_eq_true rfl, Nat.le_of_ble_eq_true rfl⟩) hS hFc (fun q _ h => hFc q h) (fun E ce q9 u9 t H1 locs ht hvm _ hB hz1 hk1 hS hce hcv hcl => ?_)
  obtain ⟨rfl, hP1, hK1, hD1⟩ := hB
  rw [ht] at hP1
  obtain ⟨hP, hD⟩ := xjoin (W := [(a1, .inr (6, [.int 0, v34, v35, v36, v37, v38])), (a0, .inr (5, [v2, v3, v4, v5, v6, v7, v8, v9, .int 1, v11, v12, v13, .int x14, v15, v16, v17, v18, v19, v20, v21, v22, v23, v24, v25, v26, v27, v28, v29, v30, v31, v32, v33]))]) hP hD [1, 0] [] 0 rfl rfl (by decide) (by decide) hk1 hFc hP1 hD1
  generalize H1 = H at hP hS hce ⊢
  obtain ⟨hP9, hD9⟩ := xsub (wc := [(a0, .inr (5, [v2, v3, v4, v5, v6, v7, v8, v9, .int 1, v11, v12, v13, .int x14, v15, v16, v17, v18, v19, v20, v21, v22, v23, v24, v25, v26, v27, v28, v29, v30, v31, v32, v33])), (a1, .inr (6, [.int 0, v34, v35, v36, v37, v38]))]) hP hD [1, 0] rfl rfl (by decide)
  exact vx_out (E := "java/lang/ArithmeticException") (fun x h => (hne x h).elim) hlocks hce hcv hcl (fun t ht ha => ⟨(), trivial, ⟨rfl, by rw [ht]; exact hP9, va_K.moved ha hK, hD9⟩, hS.F ht⟩) hS.2.2 (Nat.le_of_ble_eq_true rfl) (Nat.le_of_ble_eq_true rfl)
set_option maxHeartbeats 400000000 in
set_option maxRecDepth 100000 in
theorem cM_finish_5 (l : Launch) (hl9 : l.stackTraces = false) (D : va_G) (cT : Nat → ClassId) (aK aV : Nat → Nat) (sz : Nat) (a0 : Nat) (a1 : Nat) (a2 : Nat) (a3 : Nat) (a4 : Nat) (x5 : Int32) (x6 : Int32) (x11 : Int32) (v12 : Value) (v13 : Value) (v14 : Value) (v15 : Value) (v16 : Value) (v17 : Value) (v18 : Value) (v19 : Value) (v20 : Value) (v21 : Value) (x22 : Int32) (v23 : Value) (v24 : Value) (v25 : Value) (v26 : Value) (v27 : Value) (v28 : Value) (v29 : Value) (v30 : Value) (v31 : Value) (v32 : Value) (v33 : Value) (v34 : Value) (v35 : Value) (v36 : Value) (v37 : Value) (v38 : Value) (v39 : Value) (f40 : Nat → Option Nat) (f42 : Nat → Int32) (f44 : Nat → Int32) (f49 : Nat → Option Nat) (h7 : ¬ x6 < 0) (h8 : ¬ 7 < x6) (h9 : x6 ≤ 7) (h10 : vp_in x6 8) (h41 : f40 x6.toNatClampNeg = some a3) (h43 : f42 x6.toNatClampNeg = 4) (h45 : f44 0 = 110) (h46 : f44 1 = 117) (h47 : f44 2 = 108) (h48 : f44 3 = 108) (h50 : f49 0 = none) : xMet l yM_finish wyM_finish 10 2 12 188 D cT aK aV sz [.ref a0, .int x5, .int 1, .int 3, .int x6, .int x11] [(a0, .inr (5, [v12, .ref a4, .int 0, v13, v14, v15, v16, v17, v18, v19, v20, v21, .int x22, v23, v24, v25, v26, v27, v28, v29, v30, v31, v32, v33, .ref a1, .ref a2, v34, v35, v36, v37, v38, v39])), (a1, .inl (cT 5, 8, .inr (.inr (.inr (.inr f40))))), (a2, .inl (cT 1, 8, .inl f42)), (a3, .inl (cT 0, 4096, .inl f44)), (a4, .inl (cT 4, 1024, .inr (.inr (.inr (.inr f49)))))] (fun A => va_Qv (fun _ : Unit => True) (fun _ t => ∃ (r1 : Nat), xB D xcl cT A [(a0, .inr (5, [.int 2, .ref a4, .int 1, v13, v14, v15, v16, v17, .int 1, v19, v20, v21, .int x22, v23, v24, .ref a3, .int 4, .int 4, .int 0, .int 100, v30, v31, v32, v33, .ref a1, .ref a2, v34, v35, v36, v37, .int 1, v39])), (a1, .inl (cT 5, 8, .inr (.inr (.inr (.inr f40))))), (a2, .inl (cT 1, 8, .inl f42)), (a3, .inl (cT 0, 4096, .inl f44)), (a4, .inl (cT 4, 1024, .inr (.inr (.inr (.inr (va_up f49 0 (some r1))))))), (r1, .inr (6, [.int 0, .long 0, .int 0, .int 0, .int 0, .int 1]))] t) A) := by
  refine va_MetW (cc := prog_13_method_90_code) (maxL := 10) (ret := none) (hh := [(0, 128, 131, 83), (0, 128, 149, 86)]) (by decide) rfl ?_
  intro p e s m args below meth c s₁ B hml hv
  obtain ⟨rfl, hsz, hZ, hP, hK, hD0⟩ := hv
  have hx := B.exec
  have hb := B.bytes
  have hr := B.returns
  have hts := atoms_spec (ws := wyM_finish) B.pre
  have htx := fun w h => hts w (List.mem_cons_of_mem _ h)
  have hown : s.vm.findClass "ValueBenchModel" = some m.cls := findClass_of_methodNamed B.named
  have hlocks := B.notSynchronized
  subst hsz
  have hD := hD0.self (sz := s.heap.size)
  generalize hAe : va_A [(a0, .inr (5, [v12, .ref a4, .int 0, v13, v14, v15, v16, v17, v18, v19, v20, v21, .int x22, v23, v24, v25, v26, v27, v28, v29, v30, v31, v32, v33, .ref a1, .ref a2, v34, v35, v36, v37, v38, v39])), (a1, .inl (cT 5, 8, .inr (.inr (.inr (.inr f40))))), (a2, .inl (cT 1, 8, .inl f42)), (a3, .inl (cT 0, 4096, .inl f44)), (a4, .inl (cT 4, 1024, .inr (.inr (.inr (.inr f49)))))] s.heap.size = A at hD hZ ⊢
  have hA : ∀ q : Nat, s.heap.size ≤ q → A q := fun q h => by rw [← hAe]; exact Or.inr h
  have hS : va_S A s.heap s.heap [] := va_S.rf
  have hP : va_P D xcl [(a0, .inr (5, [v12, .ref a4, .int 0, v13, v14, v15, v16, v17, v18, v19, v20, v21, .int x22, v23, v24, v25, v26, v27, v28, v29, v30, v31, v32, v33, .ref a1, .ref a2, v34, v35, v36, v37, v38, v39])), (a1, .inl (cT 5, 8, .inr (.inr (.inr (.inr f40))))), (a2, .inl (cT 1, 8, .inl f42)), (a3, .inl (cT 0, 4096, .inl f44)), (a4, .inl (cT 4, 1024, .inr (.inr (.inr (.inr f49)))))] s.heap := hP
  have hl := lv_entry ([.ref a0, .int x5, .int 1, .int 3, .int x6, .int x11]) (n := 10) (Nat.le_of_ble_eq_true rfl)
  rw [lg_entry_eq]
  generalize (lg_sl ([.ref a0, .int x5, .int 1, .int 3, .int x6, .int x11]) ++ List.replicate (10 - (lg_sl ([.ref a0, .int x5, .int 1, .int 3, .int x6, .int x11])).length) Slot.unset).toArray = ls at hl ⊢
  have hl : lv_has ls 10 [(0, .ref a0), (1, .int x5), (2, .int 1), (3, .int 3), (4, .int x6), (5, .int x11)] := hl
  have htab := vx_table (x := yM_finish) B (hts _ List.mem_cons_self)
  refine lv_aload_n hx hb dM_finish_0 rfl (lv_at hl 0 rfl) ?_
  refine lv_iload hx hb dM_finish_1 (lv_at hl 4 rfl) ?_
  obtain ⟨hPc, hDc, hFc⟩ := xcut (wc := [(a0, .inr (5, [v12, .ref a4, .int 0, v13, v14, v15, v16, v17, v18, v19, v20, v21, .int x22, v23, v24, v25, v26, v27, v28, v29, v30, v31, v32, v33, .ref a1, .ref a2, v34, v35, v36, v37, v38, v39])), (a1, .inl (cT 5, 8, .inr (.inr (.inr (.inr f40))))), (a2, .inl (cT 1, 8, .inl f42)), (a3, .inl (cT 0, 4096, .inl f44)), (a4, .inl (cT 4, 1024, .inr (.inr (.inr (.inr f49)))))]) hP hD hS hA [0, 1, 2, 3, 4] rfl rfl (by decide)
  refine va_callr (va_runV (C := "ValueBenchModel") (As := [.int x6]) (rest := []) ⟨hx, hb, hml, hown, htx⟩ (cM_register_2 l hl9 D cT aK aV s.heap.size a0 a1 a2 a3 a4 x6 v12 v13 v14 v15 v16 v17 v18 v19 v20 v21 (.int x22) v23 v24 v25 v26 v27 v28 v29 v30 v31 v32 v33 v34 v35 v36 v37 v38 v39 f40 f42 f44 f49 h7 h8 h9 h10 (by first | rfl | exact h41 | exact h43 | exact h45 | exact h46 | exact h47 | exact h48 | exact h50) (by first | rfl | exact h41 | exact h43 | exact h45 | exact h46 | exact h47 | exact h48 | exact h50) (by first | rfl | exact h41 | exact h43 | exact h45 | exact h46 | exact h47 | exact h48 | exact h50) (by first | rfl | exact h41 | exact h43 | exact h45 | exact h46 | exact h47 | exact h48 | exact h50) (by first | rfl | exact h41 | exact h43 | exact h45 | exact h46 | exact h47 | exact h48 | exact h50) (by first | rfl | exact h41 | exact h43 | exact h45 | exact h46 | exact h47 | exact h48 | exact h50) (by first | rfl | exact h41 | exact h43 | exact h45 | exact h46 | exact h47 | exact h48 | exact h50)) ⟨callB_of 1 htx (xw_goodC kw_6_170) rfl rfl rfl (htx _ kw_1_5) (htx _ kw_6_167) ⟨by decide, by decide, by decide +kernel⟩ ⟨Nat.le_of_ble_eq_true rfl, Nat.le_of_ble_eq_true rfl⟩, (htx _ kw_6_169), (htx _ kp_M_register)⟩ ⟨xPre_blind, va_recv hK hP (ci := 5) rfl (q0 := 0) rfl, (fun U hU hW => ⟨rfl, xPre_of hZ hS hFc hPc hDc hK U hU hW⟩)⟩ rfl rfl hl.1 rfl (lv_room (Nat.le_of_ble_eq_true rfl)) dM_finish_3 ⟨Nat.le_of_ble_eq_true rfl, Nat.le_of_ble_eq_true rfl⟩) hS (fun q _ h => hFc q h) hFc (fun u9 r1 t H1 locs ht hvm hr9 hB hz1 hk1 hS => ?_)
  obtain ⟨hP1, hK1, hD1⟩ := hB
  rw [ht] at hP1
  obtain ⟨hP, hD⟩ := xjoin (W := [(a0, .inr (5, [v12, .ref a4, .int 1, v13, v14, v15, v16, v17, v18, v19, v20, v21, .int x22, v23, v24, .ref a3, .int 4, .int 4, .int 0, .int 100, v30, v31, v32, v33, .ref a1, .ref a2, v34, v35, v36, v37, v38, v39])), (a1, .inl (cT 5, 8, .inr (.inr (.inr (.inr f40))))), (a2, .inl (cT 1, 8, .inl f42)), (a3, .inl (cT 0, 4096, .inl f44)), (a4, .inl (cT 4, 1024, .inr (.inr (.inr (.inr (va_up f49 0 (some r1))))))), (r1, .inr (6, [.int 0, .long 0, .int 0, .int 0, .int 0, .int 1]))]) hP hD [0, 1, 2, 3, 4] [] 0 rfl rfl (by decide) (by decide) hk1 hFc hP1 hD1
  generalize H1 = H at hP hS ⊢
  refine W.eq (g2 := F0 m 6 ls [.ref r1]) rfl ?_
  refine lv_astore (lv' := [(6, .ref r1), (0, .ref a0), (1, .int x5), (2, .int 1), (3, .int 3), (4, .int x6), (5, .int x11)]) hx hb dM_finish_6 hl (by decide) rfl (fun ls hl => ?_)
  refine lv_iload_n hx hb dM_finish_8 rfl (lv_at hl 3 rfl) ?_
  refine lv_iconst (v := 1) hx hb dM_finish_9 (by decide) ?_
  refine lv_icmp_ne (tgt := 17) hx hb dM_finish_10 (by decide) (fun h => ((by revert h; decide : False)).elim) (fun _ => ?_)
  refine lv_null hx hb dM_finish_13 ?_
  refine lv_goto (tgt := 23) hx hb dM_finish_14 (by decide) ?_
  refine lv_astoreN (lv' := [(7, .null), (6, .ref r1), (0, .ref a0), (1, .int x5), (2, .int 1), (3, .int 3), (4, .int x6), (5, .int x11)]) hx hb dM_finish_23 hl (by decide) rfl (fun ls hl => ?_)
  refine lv_iload_n hx hb dM_finish_25 rfl (lv_at hl 4 rfl) ?_
  refine lv_if_ne (tgt := 43) hx hb dM_finish_26 (by decide) (fun _ => ?_) (fun h => ((by revert h; decide : False)).elim)
  refine lv_iload_n hx hb dM_finish_43 rfl (lv_at hl 4 rfl) ?_
  refine lv_iconst (v := 1) hx hb dM_finish_44 (by decide) ?_
  refine lv_icmp_ne (tgt := 60) hx hb dM_finish_45 (by decide) (fun h => ((by revert h; decide : False)).elim) (fun _ => ?_)
  refine lv_aload_n hx hb dM_finish_48 rfl (lv_at hl 2 rfl) ?_
  refine lv_iload_n hx hb dM_finish_49 rfl (lv_at hl 5 rfl) ?_
  refine lv_aload hx hb dM_finish_50 (lv_at hl 1 rfl) ?_
  obtain ⟨hPc, hDc, hFc⟩ := xcut (wc := [(a0, .inr (5, [v12, .ref a4, .int 1, v13, v14, v15, v16, v17, v18, v19, v20, v21, .int x22, v23, v24, .ref a3, .int 4, .int 4, .int 0, .int 100, v30, v31, v32, v33, .ref a1, .ref a2, v34, v35, v36, v37, v38, v39])), (r1, .inr (6, [.int 0, .long 0, .int 0, .int 0, .int 0, .int 1]))]) hP hD hS hA [0, 5] rfl rfl (by decide)
  refine xx_thr (vx_runV (C := "ValueBenchModel") (As := [.int 3, .ref r1]) (rest := []) ⟨hx, hb, hml, hown, htx⟩ (cM_one1_3 l hl9 D cT aK aV H.size a0 r1 v12 (.ref a4) (.int 1) v13 v14 v15 v16 v17 v18 v19 v20 v21 x22 v23 v24 (.ref a3) (.int 4) (.int 4) (.int 0) (.int 100) v30 v31 v32 v33 (.ref a1) (.ref a2) v34 v35 v36 v37 v38 v39 (.long 0) (.int 0) (.int 0) (.int 0) (.int 1)) ⟨callB_of 2 htx (xw_goodC kw_6_237) rfl rfl rfl (htx _ kw_1_5) (htx _ kw_6_234) ⟨by decide, by decide, by decide +kernel⟩ ⟨Nat.le_of_ble_eq_true rfl, Nat.le_of_ble_eq_true rfl⟩, (htx _ kw_6_236), (htx _ kp_M_one1)⟩ ⟨xPre_blind, va_recv hK hP (ci := 5) rfl (q0 := 0) rfl, (fun U hU hW => ⟨rfl, xPre_of hZ hS hFc hPc hDc hK U hU hW⟩)⟩ rfl rfl hl.1 rfl (lv_room (Nat.le_of_ble_eq_true rfl)) dM_finish_52 ⟨Nat.le_of_ble_eq_true rfl, Nat.le_of_ble_eq_true rfl⟩) hS hFc (fun q _ h => hFc q h) (fun E ce q9 u9 t H1 locs ht hvm _ hB hz1 hk1 hS hce hcv hcl => ?_)
  obtain ⟨rfl, hP1, hK1, hD1⟩ := hB
  rw [ht] at hP1
  obtain ⟨hP, hD⟩ := xjoin (W := [(a1, .inl (cT 5, 8, .inr (.inr (.inr (.inr f40))))), (a2, .inl (cT 1, 8, .inl f42)), (a3, .inl (cT 0, 4096, .inl f44)), (a4, .inl (cT 4, 1024, .inr (.inr (.inr (.inr (va_up f49 0 (some r1))))))), (a0, .inr (5, [v12, .ref a4, .int 1, v13, v14, v15, v16, v17, .int 1, v19, v20, v21, .int x22, v23, v24, .ref a3, .int 4, .int 4, .int 0, .int 100, v30, v31, v32, v33, .ref a1, .ref a2, v34, v35, v36, v37, v38, v39])), (r1, .inr (6, [.int 0, .long 0, .int 0, .int 0, .int 0, .int 1]))]) hP hD [0, 5] [1, 2, 3, 4] 4 rfl rfl (by decide) (by decide) hk1 hFc hP1 hD1
  generalize H1 = H at hP hS hce ⊢
  refine vx_catch (own := "ValueBenchModel") (name := "java/lang/ArithmeticException") (E := "java/lang/ArithmeticException") hown [] ⟨0, 128, 131, 83⟩ [⟨0, 128, 149, 86⟩] (by rw [htab]; rfl) (fun z hz => nomatch hz) (by decide) (by decide) (htx _ kw_6_94) ((hZ.2.2.2.2.2.1 _ (List.mem_of_getElem? (i := 3) rfl)).use rfl) hce hcv hcl ?_
  refine lv_astore (lv' := [(6, .ref q9), (7, .null), (0, .ref a0), (1, .int x5), (2, .int 1), (3, .int 3), (4, .int x6), (5, .int x11)]) hx hb dM_finish_131 hl (by decide) rfl (fun ls hl => ?_)
  refine lv_aload_n hx hb dM_finish_133 rfl (lv_at hl 2 rfl) ?_
  refine lv_aload_n hx hb dM_finish_134 rfl (lv_at hl 2 rfl) ?_
  refine va_get (D := D) (ci := 5) (v := .int 1) (C := "ValueBenchModel") (T := TM) (N := 32) hx hb htx inM hown hK hP 4 rfl rfl 8 (by decide) (htx _ kw_5_95) (fun _ h9 => h9) rfl dM_finish_135 ?_
  refine va_put (D := D) (ci := 5) (v := .int 1) (ty := .int) (C := "ValueBenchModel") (T := TM) (N := 32) hx hb htx inM tyM tyM_ok nmM hown hK hP hD hS 4 rfl rfl 30 (by decide) (htx _ kw_5_117) (fun _ h9 => h9) rfl (by decide +kernel) rfl rfl (Nat.le_of_ble_eq_true rfl) dM_finish_138 (fun H locs hP hD hS => ?_)
  obtain ⟨hP, hD⟩ : xPD D xcl A [(a1, .inl (cT 5, 8, .inr (.inr (.inr (.inr f40))))), (a2, .inl (cT 1, 8, .inl f42)), (a3, .inl (cT 0, 4096, .inl f44)), (a4, .inl (cT 4, 1024, .inr (.inr (.inr (.inr (va_up f49 0 (some r1))))))), (a0, .inr (5, [v12, .ref a4, .int 1, v13, v14, v15, v16, v17, .int 1, v19, v20, v21, .int x22, v23, v24, .ref a3, .int 4, .int 4, .int 0, .int 100, v30, v31, v32, v33, .ref a1, .ref a2, v34, v35, v36, v37, .int 1, v39])), (r1, .inr (6, [.int 0, .long 0, .int 0, .int 0, .int 0, .int 1]))] H := ⟨hP, hD⟩
  refine lv_aload_n hx hb dM_finish_141 rfl (lv_at hl 2 rfl) ?_
  refine lv_iconst (v := 2) hx hb dM_finish_142 (by decide) ?_
  refine va_put (D := D) (ci := 5) (v := .int 2) (ty := .int) (C := "ValueBenchModel") (T := TM) (N := 32) hx hb htx inM tyM tyM_ok nmM hown hK hP hD hS 4 rfl rfl 0 (by decide) (htx _ kw_5_87) (fun _ h9 => h9) rfl (by decide +kernel) rfl rfl (Nat.le_of_ble_eq_true rfl) dM_finish_143 (fun H locs hP hD hS => ?_)
  obtain ⟨hP, hD⟩ : xPD D xcl A [(a1, .inl (cT 5, 8, .inr (.inr (.inr (.inr f40))))), (a2, .inl (cT 1, 8, .inl f42)), (a3, .inl (cT 0, 4096, .inl f44)), (a4, .inl (cT 4, 1024, .inr (.inr (.inr (.inr (va_up f49 0 (some r1))))))), (a0, .inr (5, [.int 2, .ref a4, .int 1, v13, v14, v15, v16, v17, .int 1, v19, v20, v21, .int x22, v23, v24, .ref a3, .int 4, .int 4, .int 0, .int 100, v30, v31, v32, v33, .ref a1, .ref a2, v34, v35, v36, v37, .int 1, v39])), (r1, .inr (6, [.int 0, .long 0, .int 0, .int 0, .int 0, .int 1]))] H := ⟨hP, hD⟩
  refine lv_goto (tgt := 156) hx hb dM_finish_146 (by decide) ?_
  obtain ⟨hP9, hD9⟩ := xsub (wc := [(a0, .inr (5, [.int 2, .ref a4, .int 1, v13, v14, v15, v16, v17, .int 1, v19, v20, v21, .int x22, v23, v24, .ref a3, .int 4, .int 4, .int 0, .int 100, v30, v31, v32, v33, .ref a1, .ref a2, v34, v35, v36, v37, .int 1, v39])), (a1, .inl (cT 5, 8, .inr (.inr (.inr (.inr f40))))), (a2, .inl (cT 1, 8, .inl f42)), (a3, .inl (cT 0, 4096, .inl f44)), (a4, .inl (cT 4, 1024, .inr (.inr (.inr (.inr (va_up f49 0 (some r1))))))), (r1, .inr (6, [.int 0, .long 0, .int 0, .int 0, .int 0, .int 1]))]) hP hD [4, 0, 1, 2, 3, 5] rfl rfl (by decide)
  refine W.widen (k := 2) (n := 12) (Nat.le_of_ble_eq_true rfl) (Nat.le_of_ble_eq_true rfl) ?_
  exact W.vret hx hb hr (fun t ht hW => ⟨⟨(), rfl, trivial, r1, by rw [ht]; exact hP9, va_K.moved hW.alike hK, hD9⟩, hS.F ht⟩) hS.2.2 dM_finish_156
set_option maxHeartbeats 400000000 in
set_option maxRecDepth 100000 in
theorem cM_one0_5 (l : Launch) (hl9 : l.stackTraces = false) (D : va_G) (cT : Nat → ClassId) (aK aV : Nat → Nat) (sz : Nat) (a0 : Nat) (a1 : Nat) (a2 : Nat) (a3 : Nat) (a4 : Nat) (x5 : Int32) (x10 : Int32) (v15 : Value) (v16 : Value) (v17 : Value) (v18 : Value) (v19 : Value) (v20 : Value) (v21 : Value) (v22 : Value) (v23 : Value) (v24 : Value) (v25 : Value) (v26 : Value) (v27 : Value) (v28 : Value) (v29 : Value) (v30 : Value) (v31 : Value) (v32 : Value) (v33 : Value) (v34 : Value) (v35 : Value) (v36 : Value) (v37 : Value) (v38 : Value) (v39 : Value) (v40 : Value) (v41 : Value) (v42 : Value) (v43 : Value) (f44 : Nat → Option Nat) (f46 : Nat → Int32) (f48 : Nat → Int32) (f53 : Nat → Option Nat) (h6 : ¬ x5 < 0) (h7 : ¬ 7 < x5) (h8 : x5 ≤ 7) (h9 : vp_in x5 8) (h11 : ¬ x10 < 0) (h12 : ¬ 7 < x10) (h13 : x10 ≤ 7) (h14 : vp_in x10 8) (h45 : f44 x10.toNatClampNeg = some a3) (h47 : f46 x10.toNatClampNeg = 4) (h49 : f48 0 = 110) (h50 : f48 1 = 117) (h51 : f48 2 = 108) (h52 : f48 3 = 108) (h54 : f53 0 = none) : xMet l yM_one0 wyM_one0 11 2 12 217 D cT aK aV sz [.ref a0, .int x5, .int 3, .int x10] [(a0, .inr (5, [v15, .ref a4, v16, v17, v18, v19, v20, v21, v22, v23, v24, v25, v26, v27, v28, v29, v30, v31, v32, v33, v34, v35, v36, v37, .ref a1, .ref a2, v38, v39, v40, v41, v42, v43])), (a1, .inl (cT 5, 8, .inr (.inr (.inr (.inr f44))))), (a2, .inl (cT 1, 8, .inl f46)), (a3, .inl (cT 0, 4096, .inl f48)), (a4, .inl (cT 4, 1024, .inr (.inr (.inr (.inr f53)))))] (fun A => va_Qv (fun _ : Unit => True) (fun _ t => ∃ (q3 : Nat), xB D xcl cT A [(a0, .inr (5, [.int 2, .ref a4, .int 1, v17, .int 0, v19, v20, .int 0, .int 1, .int 0, v24, v25, .int 0, v27, v28, .ref a3, .int 4, .int 4, .int 0, .int 100, v34, v35, .int 0, .int 1000000000, .ref a1, .ref a2, v38, v39, v40, v41, .int 1, v43])), (a1, .inl (cT 5, 8, .inr (.inr (.inr (.inr f44))))), (a2, .inl (cT 1, 8, .inl f46)), (a3, .inl (cT 0, 4096, .inl f48)), (a4, .inl (cT 4, 1024, .inr (.inr (.inr (.inr (va_up f53 0 (some q3))))))), (q3, .inr (6, [.int 0, .long 0, .int 0, .int 0, .int 0, .int 1]))] t) A) := by
  refine Met.ofW (cc := prog_13_method_92_code) (maxL := 4) (ret := none) (by decide) rfl ?_
  intro p e s m args below meth c s₁ B hml hv
  obtain ⟨rfl, hsz, hZ, hP, hK, hD0⟩ := hv
  have hx := B.exec
  have hb := B.bytes
  have hr := B.returns
  have hts := atoms_spec (ws := wyM_one0) B.pre
  have htx := fun w h => hts w (List.mem_cons_of_mem _ h)
  have hown : s.vm.findClass "ValueBenchModel" = some m.cls := findClass_of_methodNamed B.named
  have hlocks := B.notSynchronized
  subst hsz
  have hD := hD0.self (sz := s.heap.size)
  generalize hAe : va_A [(a0, .inr (5, [v15, .ref a4, v16, v17, v18, v19, v20, v21, v22, v23, v24, v25, v26, v27, v28, v29, v30, v31, v32, v33, v34, v35, v36, v37, .ref a1, .ref a2, v38, v39, v40, v41, v42, v43])), (a1, .inl (cT 5, 8, .inr (.inr (.inr (.inr f44))))), (a2, .inl (cT 1, 8, .inl f46)), (a3, .inl (cT 0, 4096, .inl f48)), (a4, .inl (cT 4, 1024, .inr (.inr (.inr (.inr f53)))))] s.heap.size = A at hD hZ ⊢
  have hA : ∀ q : Nat, s.heap.size ≤ q → A q := fun q h => by rw [← hAe]; exact Or.inr h
  have hS : va_S A s.heap s.heap [] := va_S.rf
  have hP : va_P D xcl [(a0, .inr (5, [v15, .ref a4, v16, v17, v18, v19, v20, v21, v22, v23, v24, v25, v26, v27, v28, v29, v30, v31, v32, v33, v34, v35, v36, v37, .ref a1, .ref a2, v38, v39, v40, v41, v42, v43])), (a1, .inl (cT 5, 8, .inr (.inr (.inr (.inr f44))))), (a2, .inl (cT 1, 8, .inl f46)), (a3, .inl (cT 0, 4096, .inl f48)), (a4, .inl (cT 4, 1024, .inr (.inr (.inr (.inr f53)))))] s.heap := hP
  have hl := lv_entry ([.ref a0, .int x5, .int 3, .int x10]) (n := 4) (Nat.le_of_ble_eq_true rfl)
  rw [lg_entry_eq]
  generalize (lg_sl ([.ref a0, .int x5, .int 3, .int x10]) ++ List.replicate (4 - (lg_sl ([.ref a0, .int x5, .int 3, .int x10])).length) Slot.unset).toArray = ls at hl ⊢
  have hl : lv_has ls 4 [(0, .ref a0), (1, .int x5), (2, .int 3), (3, .int x10)] := hl
  refine lv_aload_n hx hb dM_one0_0 rfl (lv_at hl 0 rfl) ?_
  obtain ⟨hPc, hDc, hFc⟩ := xcut (wc := [(a0, .inr (5, [v15, .ref a4, v16, v17, v18, v19, v20, v21, v22, v23, v24, v25, v26, v27, v28, v29, v30, v31, v32, v33, v34, v35, v36, v37, .ref a1, .ref a2, v38, v39, v40, v41, v42, v43]))]) hP hD hS hA [0] rfl rfl (by decide)
  refine va_callv (va_runV (C := "ValueBenchModel") (As := []) (rest := []) ⟨hx, hb, hml, hown, htx⟩ (cM_begin_0 l hl9 D cT aK aV s.heap.size a0 v15 (.ref a4) v16 v17 v18 v19 v20 v21 v22 v23 v24 v25 v26 v27 v28 v29 v30 v31 v32 v33 v34 v35 v36 v37 (.ref a1) (.ref a2) v38 v39 v40 v41 v42 v43) ⟨callB_of 0 htx (xw_goodC kw_5_209) rfl rfl rfl (htx _ kw_1_5) (htx _ kw_5_206) ⟨by decide, by decide, by decide +kernel⟩ ⟨Nat.le_of_ble_eq_true rfl, Nat.le_of_ble_eq_true rfl⟩, (htx _ kw_5_208), (htx _ kp_M_begin)⟩ ⟨xPre_blind, va_recv hK hP (ci := 5) rfl (q0 := 0) rfl, (fun U hU hW => ⟨rfl, xPre_of hZ hS hFc hPc hDc hK U hU hW⟩)⟩ rfl rfl hl.1 rfl (lv_room (Nat.le_of_ble_eq_true rfl)) dM_one0_1 ⟨Nat.le_of_ble_eq_true rfl, Nat.le_of_ble_eq_true rfl⟩) hS (fun q _ h => hFc q h) hFc (fun u9 t H1 locs ht hvm hr9 hB hz1 hk1 hS => ?_)
  obtain ⟨hP1, hK1, hD1⟩ := hB
  rw [ht] at hP1
  obtain ⟨hP, hD⟩ := xjoin (W := [(a1, .inl (cT 5, 8, .inr (.inr (.inr (.inr f44))))), (a2, .inl (cT 1, 8, .inl f46)), (a3, .inl (cT 0, 4096, .inl f48)), (a4, .inl (cT 4, 1024, .inr (.inr (.inr (.inr f53))))), (a0, .inr (5, [.int 0, .ref a4, .int 0, v17, .int 0, v19, v20, .int 0, v22, .int 0, v24, v25, .int 0, v27, v28, v29, v30, v31, v32, v33, v34, v35, .int 0, .int 1000000000, .ref a1, .ref a2, v38, v39, v40, v41, v42, v43]))]) hP hD [0] [1, 2, 3, 4] 4 rfl rfl (by decide) (by decide) hk1 hFc hP1 hD1
  generalize H1 = H at hP hS ⊢
  refine lv_aload_n hx hb dM_one0_4 rfl (lv_at hl 0 rfl) ?_
  refine lv_iload_n hx hb dM_one0_5 rfl (lv_at hl 1 rfl) ?_
  obtain ⟨hPc, hDc, hFc⟩ := xcut (wc := []) hP hD hS hA [] rfl rfl (by decide)
  refine va_calli (va_runV (C := "ValueBenchModel") (As := [.int x5]) (rest := []) ⟨hx, hb, hml, hown, htx⟩ (cM_out_0 l hl9 D cT aK aV H.size a0 x5 h6 h7 h8 h9) ⟨callB_of 1 htx (xw_goodC kw_5_217) rfl rfl rfl (htx _ kw_1_5) (htx _ kw_5_214) ⟨by decide, by decide, by decide +kernel⟩ ⟨Nat.le_of_ble_eq_true rfl, Nat.le_of_ble_eq_true rfl⟩, (htx _ kw_5_216), (htx _ kp_M_out)⟩ ⟨xPre_blind, va_recv hK hP (ci := 5) rfl (q0 := 4) rfl, (fun U hU hW => ⟨rfl, xPre_of hZ hS hFc hPc hDc hK U hU hW⟩)⟩ rfl rfl hl.1 rfl (lv_room (Nat.le_of_ble_eq_true rfl)) dM_one0_6 ⟨Nat.le_of_ble_eq_true rfl, Nat.le_of_ble_eq_true rfl⟩) hS (fun q _ h => hFc q h) hFc (fun r1 u9 t H1 locs ht hvm hr9 hB hz1 hk1 hS => ?_)
  obtain ⟨hP1, hK1, hD1⟩ := hB
  rw [ht] at hP1
  obtain ⟨hP, hD⟩ := xjoin (W := [(a1, .inl (cT 5, 8, .inr (.inr (.inr (.inr f44))))), (a2, .inl (cT 1, 8, .inl f46)), (a3, .inl (cT 0, 4096, .inl f48)), (a4, .inl (cT 4, 1024, .inr (.inr (.inr (.inr f53))))), (a0, .inr (5, [.int 0, .ref a4, .int 0, v17, .int 0, v19, v20, .int 0, v22, .int 0, v24, v25, .int 0, v27, v28, v29, v30, v31, v32, v33, v34, v35, .int 0, .int 1000000000, .ref a1, .ref a2, v38, v39, v40, v41, v42, v43]))]) hP hD [] [0, 1, 2, 3, 4] 5 rfl rfl (by decide) (by decide) hk1 hFc hP1 hD1
  generalize H1 = H at hP hS ⊢
  rw [hr9]
  refine W.eq (g2 := F0 m 9 ls [.int 0]) rfl ?_
  refine lv_if_ne (tgt := 30) hx hb dM_one0_9 (by decide) (fun h => ((by revert h; decide : False)).elim) (fun _ => ?_)
  refine lv_iload_n hx hb dM_one0_12 rfl (lv_at hl 2 rfl) ?_
  refine lv_if_lt (tgt := 30) hx hb dM_one0_13 (by decide) (fun h => ((by revert h; decide : False)).elim) (fun _ => ?_)
  refine lv_iload_n hx hb dM_one0_16 rfl (lv_at hl 2 rfl) ?_
  refine lv_bipush (v := 13) hx hb dM_one0_17 (by decide) ?_
  refine lv_icmp_gt (tgt := 30) hx hb dM_one0_19 (by decide) (fun h => ((by revert h; decide : False)).elim) (fun _ => ?_)
  refine lv_aload_n hx hb dM_one0_22 rfl (lv_at hl 0 rfl) ?_
  refine lv_iload_n hx hb dM_one0_23 rfl (lv_at hl 3 rfl) ?_
  obtain ⟨hPc, hDc, hFc⟩ := xcut (wc := []) hP hD hS hA [] rfl rfl (by decide)
  refine va_calli (va_runV (C := "ValueBenchModel") (As := [.int x10]) (rest := []) ⟨hx, hb, hml, hown, htx⟩ (cM_out_0 l hl9 D cT aK aV H.size a0 x10 h11 h12 h13 h14) ⟨callB_of 1 htx (xw_goodC kw_5_217) rfl rfl rfl (htx _ kw_1_5) (htx _ kw_5_214) ⟨by decide, by decide, by decide +kernel⟩ ⟨Nat.le_of_ble_eq_true rfl, Nat.le_of_ble_eq_true rfl⟩, (htx _ kw_5_216), (htx _ kp_M_out)⟩ ⟨xPre_blind, va_recv hK hP (ci := 5) rfl (q0 := 4) rfl, (fun U hU hW => ⟨rfl, xPre_of hZ hS hFc hPc hDc hK U hU hW⟩)⟩ rfl rfl hl.1 rfl (lv_room (Nat.le_of_ble_eq_true rfl)) dM_one0_24 ⟨Nat.le_of_ble_eq_true rfl, Nat.le_of_ble_eq_true rfl⟩) hS (fun q _ h => hFc q h) hFc (fun r2 u9 t H1 locs ht hvm hr9 hB hz1 hk1 hS => ?_)
  obtain ⟨hP1, hK1, hD1⟩ := hB
  rw [ht] at hP1
  obtain ⟨hP, hD⟩ := xjoin (W := [(a1, .inl (cT 5, 8, .inr (.inr (.inr (.inr f44))))), (a2, .inl (cT 1, 8, .inl f46)), (a3, .inl (cT 0, 4096, .inl f48)), (a4, .inl (cT 4, 1024, .inr (.inr (.inr (.inr f53))))), (a0, .inr (5, [.int 0, .ref a4, .int 0, v17, .int 0, v19, v20, .int 0, v22, .int 0, v24, v25, .int 0, v27, v28, v29, v30, v31, v32, v33, v34, v35, .int 0, .int 1000000000, .ref a1, .ref a2, v38, v39, v40, v41, v42, v43]))]) hP hD [] [0, 1, 2, 3, 4] 5 rfl rfl (by decide) (by decide) hk1 hFc hP1 hD1
  generalize H1 = H at hP hS ⊢
  rw [hr9]
  refine W.eq (g2 := F0 m 27 ls [.int 0]) rfl ?_
  refine lv_if_eq (tgt := 38) hx hb dM_one0_27 (by decide) (fun _ => ?_) (fun h => ((by revert h; decide : False)).elim)
  refine lv_aload_n hx hb dM_one0_38 rfl (lv_at hl 0 rfl) ?_
  refine lv_iload_n hx hb dM_one0_39 rfl (lv_at hl 1 rfl) ?_
  refine lv_iconst (v := 1) hx hb dM_one0_40 (by decide) ?_
  refine lv_iload_n hx hb dM_one0_41 rfl (lv_at hl 2 rfl) ?_
  refine lv_iload_n hx hb dM_one0_42 rfl (lv_at hl 3 rfl) ?_
  refine lv_iload_n hx hb dM_one0_43 rfl (lv_at hl 3 rfl) ?_
  obtain ⟨hPc, hDc, hFc⟩ := xcut (wc := [(a0, .inr (5, [.int 0, .ref a4, .int 0, v17, .int 0, v19, v20, .int 0, v22, .int 0, v24, v25, .int 0, v27, v28, v29, v30, v31, v32, v33, v34, v35, .int 0, .int 1000000000, .ref a1, .ref a2, v38, v39, v40, v41, v42, v43])), (a1, .inl (cT 5, 8, .inr (.inr (.inr (.inr f44))))), (a2, .inl (cT 1, 8, .inl f46)), (a3, .inl (cT 0, 4096, .inl f48)), (a4, .inl (cT 4, 1024, .inr (.inr (.inr (.inr f53)))))]) hP hD hS hA [4, 0, 1, 2, 3] rfl rfl (by decide)
  refine va_callv (vx_runVW (C := "ValueBenchModel") (As := [.int x5, .int 1, .int 3, .int x10, .int x10]) (rest := []) ⟨hx, hb, hml, hown, htx⟩ (cM_finish_5 l hl9 D cT aK aV H.size a0 a1 a2 a3 a4 x5 x10 x10 (.int 0) v17 (.int 0) v19 v20 (.int 0) v22 (.int 0) v24 v25 0 v27 v28 v29 v30 v31 v32 v33 v34 v35 (.int 0) (.int 1000000000) v38 v39 v40 v41 v42 v43 f44 f46 f48 f53 h11 h12 h13 h14 (by first | rfl | exact h45 | exact h47 | exact h49 | exact h50 | exact h51 | exact h52 | exact h54) (by first | rfl | exact h45 | exact h47 | exact h49 | exact h50 | exact h51 | exact h52 | exact h54) (by first | rfl | exact h45 | exact h47 | exact h49 | exact h50 | exact h51 | exact h52 | exact h54) (by first | rfl | exact h45 | exact h47 | exact h49 | exact h50 | exact h51 | exact h52 | exact h54) (by first | rfl | exact h45 | exact h47 | exact h49 | exact h50 | exact h51 | exact h52 | exact h54) (by first | rfl | exact h45 | exact h47 | exact h49 | exact h50 | exact h51 | exact h52 | exact h54) (by first | rfl | exact h45 | exact h47 | exact h49 | exact h50 | exact h51 | exact h52 | exact h54)) (xcVW 5 htx (xw_goodC kw_6_195) rfl rfl rfl (htx _ kw_1_5) (htx _ kw_6_192) ⟨by decide, by decide, by decide +kernel⟩ ⟨Nat.le_of_ble_eq_true rfl, Nat.le_of_ble_eq_true rfl⟩ (htx _ kw_6_194) (htx _ kp_M_finish)) ⟨xPre_blind, va_recv hK hP (ci := 5) rfl (q0 := 4) rfl, (fun U hU hW => ⟨rfl, xPre_of hZ hS hFc hPc hDc hK U hU hW⟩)⟩ rfl rfl hl.1 rfl (lv_room (Nat.le_of_ble_eq_true rfl)) dM_one0_44 ⟨Nat.le_of_ble_eq_true rfl, Nat.le_of_ble_eq_true rfl⟩) hS (fun q _ h => hFc q h) hFc (fun u9 t H1 locs ht hvm hr9 hB hz1 hk1 hS => ?_)
  obtain ⟨q3, hP1, hK1, hD1⟩ := hB
  rw [ht] at hP1
  obtain ⟨hP, hD⟩ := xjoin (W := [(a0, .inr (5, [.int 2, .ref a4, .int 1, v17, .int 0, v19, v20, .int 0, .int 1, .int 0, v24, v25, .int 0, v27, v28, .ref a3, .int 4, .int 4, .int 0, .int 100, v34, v35, .int 0, .int 1000000000, .ref a1, .ref a2, v38, v39, v40, v41, .int 1, v43])), (a1, .inl (cT 5, 8, .inr (.inr (.inr (.inr f44))))), (a2, .inl (cT 1, 8, .inl f46)), (a3, .inl (cT 0, 4096, .inl f48)), (a4, .inl (cT 4, 1024, .inr (.inr (.inr (.inr (va_up f53 0 (some q3))))))), (q3, .inr (6, [.int 0, .long 0, .int 0, .int 0, .int 0, .int 1]))]) hP hD [4, 0, 1, 2, 3] [] 0 rfl rfl (by decide) (by decide) hk1 hFc hP1 hD1
  generalize H1 = H at hP hS ⊢
  obtain ⟨hP9, hD9⟩ := xsub (wc := [(a0, .inr (5, [.int 2, .ref a4, .int 1, v17, .int 0, v19, v20, .int 0, .int 1, .int 0, v24, v25, .int 0, v27, v28, .ref a3, .int 4, .int 4, .int 0, .int 100, v34, v35, .int 0, .int 1000000000, .ref a1, .ref a2, v38, v39, v40, v41, .int 1, v43])), (a1, .inl (cT 5, 8, .inr (.inr (.inr (.inr f44))))), (a2, .inl (cT 1, 8, .inl f46)), (a3, .inl (cT 0, 4096, .inl f48)), (a4, .inl (cT 4, 1024, .inr (.inr (.inr (.inr (va_up f53 0 (some q3))))))), (q3, .inr (6, [.int 0, .long 0, .int 0, .int 0, .int 0, .int 1]))]) hP hD [0, 1, 2, 3, 4, 5] rfl rfl (by decide)
  refine W.widen (k := 2) (n := 12) (Nat.le_of_ble_eq_true rfl) (Nat.le_of_ble_eq_true rfl) ?_
  exact W.vret hx hb hr (fun t ht hW => ⟨⟨(), rfl, trivial, q3, by rw [ht]; exact hP9, va_K.moved hW.alike hK, hD9⟩, hS.F ht⟩) hS.2.2 dM_one0_47
set_option maxHeartbeats 400000000 in
set_option maxRecDepth 100000 in
theorem cM_put0_4 (l : Launch) (hl9 : l.stackTraces = false) (D : va_G) (cT : Nat → ClassId) (aK aV : Nat → Nat) (sz : Nat) (a0 : Nat) (a1 : Nat) (v2 : Value) (v3 : Value) (v4 : Value) (v5 : Value) (v6 : Value) (v7 : Value) (v8 : Value) (v9 : Value) (v10 : Value) (v11 : Value) (v12 : Value) (v13 : Value) (v14 : Value) (v15 : Value) (v16 : Value) (v17 : Value) (v18 : Value) (v19 : Value) (v20 : Value) (v21 : Value) (v22 : Value) (v23 : Value) (v24 : Value) (v25 : Value) (v26 : Value) (v27 : Value) (v28 : Value) (v29 : Value) (v30 : Value) (f31 : Nat → Int32) : xMet l yM_put0 wyM_put0 0 0 0 0 D cT aK aV sz [.ref a0, .int 110] [(a0, .inr (5, [v2, v3, v4, v5, v6, v7, v8, v9, v10, v11, v12, v13, v14, v15, v16, v17, v18, v19, v20, v21, v22, .ref a1, .int 0, .int 60000, v23, v24, v25, v26, v27, v28, v29, v30])), (a1, .inl (cT 0, 1024, .inl f31))] (fun A => va_Qv (fun _ : Unit => True) (fun _ t => xB D xcl cT A [(a0, .inr (5, [v2, v3, v4, v5, v6, v7, v8, v9, v10, v11, v12, v13, v14, v15, v16, v17, v18, v19, v20, v21, v22, .ref a1, .int 1, .int 60000, v23, v24, v25, v26, v27, v28, v29, v30])), (a1, .inl (cT 0, 1024, .inl (upd f31 0 110)))] t) A) := by
  refine Met.ofW (cc := prog_13_method_41_code) (maxL := 4) (ret := none) (by decide) rfl ?_
  intro p e s m args below meth c s₁ B hml hv
  obtain ⟨rfl, hsz, hZ, hP, hK, hD0⟩ := hv
  have hx := B.exec
  have hb := B.bytes
  have hr := B.returns
  have hts := atoms_spec (ws := wyM_put0) B.pre
  have htx := fun w h => hts w (List.mem_cons_of_mem _ h)
  have hown : s.vm.findClass "ValueBenchModel" = some m.cls := findClass_of_methodNamed B.named
  have hlocks := B.notSynchronized
  subst hsz
  have hD := hD0.self (sz := s.heap.size)
  generalize hAe : va_A [(a0, .inr (5, [v2, v3, v4, v5, v6, v7, v8, v9, v10, v11, v12, v13, v14, v15, v16, v17, v18, v19, v20, v21, v22, .ref a1, .int 0, .int 60000, v23, v24, v25, v26, v27, v28, v29, v30])), (a1, .inl (cT 0, 1024, .inl f31))] s.heap.size = A at hD hZ ⊢
  have hA : ∀ q : Nat, s.heap.size ≤ q → A q := fun q h => by rw [← hAe]; exact Or.inr h
  have hS : va_S A s.heap s.heap [] := va_S.rf
  have hP : va_P D xcl [(a0, .inr (5, [v2, v3, v4, v5, v6, v7, v8, v9, v10, v11, v12, v13, v14, v15, v16, v17, v18, v19, v20, v21, v22, .ref a1, .int 0, .int 60000, v23, v24, v25, v26, v27, v28, v29, v30])), (a1, .inl (cT 0, 1024, .inl f31))] s.heap := hP
  have hl := lv_entry ([.ref a0, .int 110]) (n := 4) (Nat.le_of_ble_eq_true rfl)
  rw [lg_entry_eq]
  generalize (lg_sl ([.ref a0, .int 110]) ++ List.replicate (4 - (lg_sl ([.ref a0, .int 110])).length) Slot.unset).toArray = ls at hl ⊢
  have hl : lv_has ls 4 [(0, .ref a0), (1, .int 110)] := hl
  refine lv_aload_n hx hb dM_put0_0 rfl (lv_at hl 0 rfl) ?_
  refine va_get (D := D) (ci := 5) (v := .int 0) (C := "ValueBenchModel") (T := TM) (N := 32) hx hb htx inM hown hK hP 0 rfl rfl 22 (by decide) (htx _ kw_5_109) (fun _ h9 => h9) rfl dM_put0_1 ?_
  refine lv_aload_n hx hb dM_put0_4 rfl (lv_at hl 0 rfl) ?_
  refine va_get (D := D) (ci := 5) (v := .int 60000) (C := "ValueBenchModel") (T := TM) (N := 32) hx hb htx inM hown hK hP 0 rfl rfl 23 (by decide) (htx _ kw_5_110) (fun _ h9 => h9) rfl dM_put0_5 ?_
  refine lv_icmp_ne (tgt := 19) hx hb dM_put0_8 (by decide) (fun _ => ?_) (fun h => ((by revert h; decide : False)).elim)
  refine lv_aload_n hx hb dM_put0_19 rfl (lv_at hl 0 rfl) ?_
  refine va_get (D := D) (ci := 5) (v := .int 0) (C := "ValueBenchModel") (T := TM) (N := 32) hx hb htx inM hown hK hP 0 rfl rfl 22 (by decide) (htx _ kw_5_109) (fun _ h9 => h9) rfl dM_put0_20 ?_
  refine lv_aload_n hx hb dM_put0_23 rfl (lv_at hl 0 rfl) ?_
  refine va_get (D := D) (ci := 5) (v := .ref a1) (C := "ValueBenchModel") (T := TM) (N := 32) hx hb htx inM hown hK hP 0 rfl rfl 21 (by decide) (htx _ kw_5_108) (fun _ h9 => h9) rfl dM_put0_24 ?_
  refine va_alen (v := 1024) hx hb hK hP 1 0 rfl rfl rfl dM_put0_27 ?_
  refine lv_icmp_ne (tgt := 70) hx hb dM_put0_28 (by decide) (fun _ => ?_) (fun h => ((by revert h; decide : False)).elim)
  refine lv_aload_n hx hb dM_put0_70 rfl (lv_at hl 0 rfl) ?_
  refine va_get (D := D) (ci := 5) (v := .ref a1) (C := "ValueBenchModel") (T := TM) (N := 32) hx hb htx inM hown hK hP 0 rfl rfl 21 (by decide) (htx _ kw_5_108) (fun _ h9 => h9) rfl dM_put0_71 ?_
  refine lv_aload_n hx hb dM_put0_74 rfl (lv_at hl 0 rfl) ?_
  refine va_get (D := D) (ci := 5) (v := .int 0) (C := "ValueBenchModel") (T := TM) (N := 32) hx hb htx inM hown hK hP 0 rfl rfl 22 (by decide) (htx _ kw_5_109) (fun _ h9 => h9) rfl dM_put0_75 ?_
  refine lv_iload_n hx hb dM_put0_78 rfl (lv_at hl 1 rfl) ?_
  refine lv_i2b hx hb dM_put0_79 rfl ?_
  refine W.eq (g2 := F0 m 80 ls [.int 110, .int 0, .ref a1]) rfl ?_
  refine va_bast hx hb hK hP hD hS 1 0 rfl rfl (show ¬ ((0 : Int32) < 0 ∨ 1024 ≤ (0 : Int32).toNatClampNeg) by decide) dM_put0_80 (fun H locs hP hD hS => ?_)
  obtain ⟨hP, hD⟩ : xPD D xcl A [(a0, .inr (5, [v2, v3, v4, v5, v6, v7, v8, v9, v10, v11, v12, v13, v14, v15, v16, v17, v18, v19, v20, v21, v22, .ref a1, .int 0, .int 60000, v23, v24, v25, v26, v27, v28, v29, v30])), (a1, .inl (cT 0, 1024, .inl (upd f31 0 110)))] H := ⟨hP, hD⟩
  refine lv_aload_n hx hb dM_put0_81 rfl (lv_at hl 0 rfl) ?_
  refine lv_dup hx hb dM_put0_82 rfl ?_
  refine va_get (D := D) (ci := 5) (v := .int 0) (C := "ValueBenchModel") (T := TM) (N := 32) hx hb htx inM hown hK hP 0 rfl rfl 22 (by decide) (htx _ kw_5_109) (fun _ h9 => h9) rfl dM_put0_83 ?_
  refine lv_iconst (v := 1) hx hb dM_put0_86 (by decide) ?_
  refine lv_iadd hx hb dM_put0_87 ?_
  refine W.eq (g2 := F0 m 88 ls [.int 1, .ref a0]) rfl ?_
  refine va_put (D := D) (ci := 5) (v := .int 1) (ty := .int) (C := "ValueBenchModel") (T := TM) (N := 32) hx hb htx inM tyM tyM_ok nmM hown hK hP hD hS 0 rfl rfl 22 (by decide) (htx _ kw_5_109) (fun _ h9 => h9) rfl (by decide +kernel) rfl rfl (Nat.le_of_ble_eq_true rfl) dM_put0_88 (fun H locs hP hD hS => ?_)
  obtain ⟨hP, hD⟩ : xPD D xcl A [(a0, .inr (5, [v2, v3, v4, v5, v6, v7, v8, v9, v10, v11, v12, v13, v14, v15, v16, v17, v18, v19, v20, v21, v22, .ref a1, .int 1, .int 60000, v23, v24, v25, v26, v27, v28, v29, v30])), (a1, .inl (cT 0, 1024, .inl (upd f31 0 110)))] H := ⟨hP, hD⟩
  obtain ⟨hP9, hD9⟩ := xsub (wc := [(a0, .inr (5, [v2, v3, v4, v5, v6, v7, v8, v9, v10, v11, v12, v13, v14, v15, v16, v17, v18, v19, v20, v21, v22, .ref a1, .int 1, .int 60000, v23, v24, v25, v26, v27, v28, v29, v30])), (a1, .inl (cT 0, 1024, .inl (upd f31 0 110)))]) hP hD [0, 1] rfl rfl (by decide)
  refine W.widen (k := 0) (n := 0) (Nat.le_of_ble_eq_true rfl) (Nat.le_of_ble_eq_true rfl) ?_
  exact W.vret hx hb hr (fun t ht hW => ⟨⟨(), rfl, trivial, by rw [ht]; exact hP9, va_K.moved hW.alike hK, hD9⟩, hS.F ht⟩) hS.2.2 dM_put0_91
set_option maxHeartbeats 400000000 in
set_option maxRecDepth 100000 in
theorem cM_put0_5 (l : Launch) (hl9 : l.stackTraces = false) (D : va_G) (cT : Nat → ClassId) (aK aV : Nat → Nat) (sz : Nat) (a0 : Nat) (a1 : Nat) (v2 : Value) (v3 : Value) (v4 : Value) (v5 : Value) (v6 : Value) (v7 : Value) (v8 : Value) (v9 : Value) (v10 : Value) (v11 : Value) (v12 : Value) (v13 : Value) (v14 : Value) (v15 : Value) (v16 : Value) (v17 : Value) (v18 : Value) (v19 : Value) (v20 : Value) (v21 : Value) (v22 : Value) (v23 : Value) (v24 : Value) (v25 : Value) (v26 : Value) (v27 : Value) (v28 : Value) (v29 : Value) (v30 : Value) (f31 : Nat → Int32) : xMet l yM_put0 wyM_put0 0 0 0 0 D cT aK aV sz [.ref a0, .int 117] [(a0, .inr (5, [v2, v3, v4, v5, v6, v7, v8, v9, v10, v11, v12, v13, v14, v15, v16, v17, v18, v19, v20, v21, v22, .ref a1, .int 1, .int 60000, v23, v24, v25, v26, v27, v28, v29, v30])), (a1, .inl (cT 0, 1024, .inl f31))] (fun A => va_Qv (fun _ : Unit => True) (fun _ t => xB D xcl cT A [(a0, .inr (5, [v2, v3, v4, v5, v6, v7, v8, v9, v10, v11, v12, v13, v14, v15, v16, v17, v18, v19, v20, v21, v22, .ref a1, .int 2, .int 60000, v23, v24, v25, v26, v27, v28, v29, v30])), (a1, .inl (cT 0, 1024, .inl (upd f31 1 117)))] t) A) := by
  refine Met.ofW (cc := prog_13_method_41_code) (maxL := 4) (ret := none) (by decide) rfl ?_
  intro p e s m args below meth c s₁ B hml hv
  obtain ⟨rfl, hsz, hZ, hP, hK, hD0⟩ := hv
  have hx := B.exec
  have hb := B.bytes
  have hr := B.returns
  have hts := atoms_spec (ws := wyM_put0) B.pre
  have htx := fun w h => hts w (List.mem_cons_of_mem _ h)
  have hown : s.vm.findClass "ValueBenchModel" = some m.cls := findClass_of_methodNamed B.named
  have hlocks := B.notSynchronized
  subst hsz
  have hD := hD0.self (sz := s.heap.size)
  generalize hAe : va_A [(a0, .inr (5, [v2, v3, v4, v5, v6, v7, v8, v9, v10, v11, v12, v13, v14, v15, v16, v17, v18, v19, v20, v21, v22, .ref a1, .int 1, .int 60000, v23, v24, v25, v26, v27, v28, v29, v30])), (a1, .inl (cT 0, 1024, .inl f31))] s.heap.size = A at hD hZ ⊢
  have hA : ∀ q : Nat, s.heap.size ≤ q → A q := fun q h => by rw [← hAe]; exact Or.inr h
  have hS : va_S A s.heap s.heap [] := va_S.rf
  have hP : va_P D xcl [(a0, .inr (5, [v2, v3, v4, v5, v6, v7, v8, v9, v10, v11, v12, v13, v14, v15, v16, v17, v18, v19, v20, v21, v22, .ref a1, .int 1, .int 60000, v23, v24, v25, v26, v27, v28, v29, v30])), (a1, .inl (cT 0, 1024, .inl f31))] s.heap := hP
  have hl := lv_entry ([.ref a0, .int 117]) (n := 4) (Nat.le_of_ble_eq_true rfl)
  rw [lg_entry_eq]
  generalize (lg_sl ([.ref a0, .int 117]) ++ List.replicate (4 - (lg_sl ([.ref a0, .int 117])).length) Slot.unset).toArray = ls at hl ⊢
  have hl : lv_has ls 4 [(0, .ref a0), (1, .int 117)] := hl
  refine lv_aload_n hx hb dM_put0_0 rfl (lv_at hl 0 rfl) ?_
  refine va_get (D := D) (ci := 5) (v := .int 1) (C := "ValueBenchModel") (T := TM) (N := 32) hx hb htx inM hown hK hP 0 rfl rfl 22 (by decide) (htx _ kw_5_109) (fun _ h9 => h9) rfl dM_put0_1 ?_
  refine lv_aload_n hx hb dM_put0_4 rfl (lv_at hl 0 rfl) ?_
  refine va_get (D := D) (ci := 5) (v := .int 60000) (C := "ValueBenchModel") (T := TM) (N := 32) hx hb htx inM hown hK hP 0 rfl rfl 23 (by decide) (htx _ kw_5_110) (fun _ h9 => h9) rfl dM_put0_5 ?_
  refine lv_icmp_ne (tgt := 19) hx hb dM_put0_8 (by decide) (fun _ => ?_) (fun h => ((by revert h; decide : False)).elim)
  refine lv_aload_n hx hb dM_put0_19 rfl (lv_at hl 0 rfl) ?_
  refine va_get (D := D) (ci := 5) (v := .int 1) (C := "ValueBenchModel") (T := TM) (N := 32) hx hb htx inM hown hK hP 0 rfl rfl 22 (by decide) (htx _ kw_5_109) (fun _ h9 => h9) rfl dM_put0_20 ?_
  refine lv_aload_n hx hb dM_put0_23 rfl (lv_at hl 0 rfl) ?_
  refine va_get (D := D) (ci := 5) (v := .ref a1) (C := "ValueBenchModel") (T := TM) (N := 32) hx hb htx inM hown hK hP 0 rfl rfl 21 (by decide) (htx _ kw_5_108) (fun _ h9 => h9) rfl dM_put0_24 ?_
  refine va_alen (v := 1024) hx hb hK hP 1 0 rfl rfl rfl dM_put0_27 ?_
  refine lv_icmp_ne (tgt := 70) hx hb dM_put0_28 (by decide) (fun _ => ?_) (fun h => ((by revert h; decide : False)).elim)
  refine lv_aload_n hx hb dM_put0_70 rfl (lv_at hl 0 rfl) ?_
  refine va_get (D := D) (ci := 5) (v := .ref a1) (C := "ValueBenchModel") (T := TM) (N := 32) hx hb htx inM hown hK hP 0 rfl rfl 21 (by decide) (htx _ kw_5_108) (fun _ h9 => h9) rfl dM_put0_71 ?_
  refine lv_aload_n hx hb dM_put0_74 rfl (lv_at hl 0 rfl) ?_
  refine va_get (D := D) (ci := 5) (v := .int 1) (C := "ValueBenchModel") (T := TM) (N := 32) hx hb htx inM hown hK hP 0 rfl rfl 22 (by decide) (htx _ kw_5_109) (fun _ h9 => h9) rfl dM_put0_75 ?_
  refine lv_iload_n hx hb dM_put0_78 rfl (lv_at hl 1 rfl) ?_
  refine lv_i2b hx hb dM_put0_79 rfl ?_
  refine W.eq (g2 := F0 m 80 ls [.int 117, .int 1, .ref a1]) rfl ?_
  refine va_bast hx hb hK hP hD hS 1 0 rfl rfl (show ¬ ((1 : Int32) < 0 ∨ 1024 ≤ (1 : Int32).toNatClampNeg) by decide) dM_put0_80 (fun H locs hP hD hS => ?_)
  obtain ⟨hP, hD⟩ : xPD D xcl A [(a0, .inr (5, [v2, v3, v4, v5, v6, v7, v8, v9, v10, v11, v12, v13, v14, v15, v16, v17, v18, v19, v20, v21, v22, .ref a1, .int 1, .int 60000, v23, v24, v25, v26, v27, v28, v29, v30])), (a1, .inl (cT 0, 1024, .inl (upd f31 1 117)))] H := ⟨hP, hD⟩
  refine lv_aload_n hx hb dM_put0_81 rfl (lv_at hl 0 rfl) ?_
  refine lv_dup hx hb dM_put0_82 rfl ?_
  refine va_get (D := D) (ci := 5) (v := .int 1) (C := "ValueBenchModel") (T := TM) (N := 32) hx hb htx inM hown hK hP 0 rfl rfl 22 (by decide) (htx _ kw_5_109) (fun _ h9 => h9) rfl dM_put0_83 ?_
  refine lv_iconst (v := 1) hx hb dM_put0_86 (by decide) ?_
  refine lv_iadd hx hb dM_put0_87 ?_
  refine W.eq (g2 := F0 m 88 ls [.int 2, .ref a0]) rfl ?_
  refine va_put (D := D) (ci := 5) (v := .int 2) (ty := .int) (C := "ValueBenchModel") (T := TM) (N := 32) hx hb htx inM tyM tyM_ok nmM hown hK hP hD hS 0 rfl rfl 22 (by decide) (htx _ kw_5_109) (fun _ h9 => h9) rfl (by decide +kernel) rfl rfl (Nat.le_of_ble_eq_true rfl) dM_put0_88 (fun H locs hP hD hS => ?_)
  obtain ⟨hP, hD⟩ : xPD D xcl A [(a0, .inr (5, [v2, v3, v4, v5, v6, v7, v8, v9, v10, v11, v12, v13, v14, v15, v16, v17, v18, v19, v20, v21, v22, .ref a1, .int 2, .int 60000, v23, v24, v25, v26, v27, v28, v29, v30])), (a1, .inl (cT 0, 1024, .inl (upd f31 1 117)))] H := ⟨hP, hD⟩
  obtain ⟨hP9, hD9⟩ := xsub (wc := [(a0, .inr (5, [v2, v3, v4, v5, v6, v7, v8, v9, v10, v11, v12, v13, v14, v15, v16, v17, v18, v19, v20, v21, v22, .ref a1, .int 2, .int 60000, v23, v24, v25, v26, v27, v28, v29, v30])), (a1, .inl (cT 0, 1024, .inl (upd f31 1 117)))]) hP hD [0, 1] rfl rfl (by decide)
  refine W.widen (k := 0) (n := 0) (Nat.le_of_ble_eq_true rfl) (Nat.le_of_ble_eq_true rfl) ?_
  exact W.vret hx hb hr (fun t ht hW => ⟨⟨(), rfl, trivial, by rw [ht]; exact hP9, va_K.moved hW.alike hK, hD9⟩, hS.F ht⟩) hS.2.2 dM_put0_91
set_option maxHeartbeats 400000000 in
set_option maxRecDepth 100000 in
theorem cM_put0_6 (l : Launch) (hl9 : l.stackTraces = false) (D : va_G) (cT : Nat → ClassId) (aK aV : Nat → Nat) (sz : Nat) (a0 : Nat) (a1 : Nat) (v2 : Value) (v3 : Value) (v4 : Value) (v5 : Value) (v6 : Value) (v7 : Value) (v8 : Value) (v9 : Value) (v10 : Value) (v11 : Value) (v12 : Value) (v13 : Value) (v14 : Value) (v15 : Value) (v16 : Value) (v17 : Value) (v18 : Value) (v19 : Value) (v20 : Value) (v21 : Value) (v22 : Value) (v23 : Value) (v24 : Value) (v25 : Value) (v26 : Value) (v27 : Value) (v28 : Value) (v29 : Value) (v30 : Value) (f31 : Nat → Int32) : xMet l yM_put0 wyM_put0 0 0 0 0 D cT aK aV sz [.ref a0, .int 108] [(a0, .inr (5, [v2, v3, v4, v5, v6, v7, v8, v9, v10, v11, v12, v13, v14, v15, v16, v17, v18, v19, v20, v21, v22, .ref a1, .int 2, .int 60000, v23, v24, v25, v26, v27, v28, v29, v30])), (a1, .inl (cT 0, 1024, .inl f31))] (fun A => va_Qv (fun _ : Unit => True) (fun _ t => xB D xcl cT A [(a0, .inr (5, [v2, v3, v4, v5, v6, v7, v8, v9, v10, v11, v12, v13, v14, v15, v16, v17, v18, v19, v20, v21, v22, .ref a1, .int 3, .int 60000, v23, v24, v25, v26, v27, v28, v29, v30])), (a1, .inl (cT 0, 1024, .inl (upd f31 2 108)))] t) A) := by
  refine Met.ofW (cc := prog_13_method_41_code) (maxL := 4) (ret := none) (by decide) rfl ?_
  intro p e s m args below meth c s₁ B hml hv
  obtain ⟨rfl, hsz, hZ, hP, hK, hD0⟩ := hv
  have hx := B.exec
  have hb := B.bytes
  have hr := B.returns
  have hts := atoms_spec (ws := wyM_put0) B.pre
  have htx := fun w h => hts w (List.mem_cons_of_mem _ h)
  have hown : s.vm.findClass "ValueBenchModel" = some m.cls := findClass_of_methodNamed B.named
  have hlocks := B.notSynchronized
  subst hsz
  have hD := hD0.self (sz := s.heap.size)
  generalize hAe : va_A [(a0, .inr (5, [v2, v3, v4, v5, v6, v7, v8, v9, v10, v11, v12, v13, v14, v15, v16, v17, v18, v19, v20, v21, v22, .ref a1, .int 2, .int 60000, v23, v24, v25, v26, v27, v28, v29, v30])), (a1, .inl (cT 0, 1024, .inl f31))] s.heap.size = A at hD hZ ⊢
  have hA : ∀ q : Nat, s.heap.size ≤ q → A q := fun q h => by rw [← hAe]; exact Or.inr h
  have hS : va_S A s.heap s.heap [] := va_S.rf
  have hP : va_P D xcl [(a0, .inr (5, [v2, v3, v4, v5, v6, v7, v8, v9, v10, v11, v12, v13, v14, v15, v16, v17, v18, v19, v20, v21, v22, .ref a1, .int 2, .int 60000, v23, v24, v25, v26, v27, v28, v29, v30])), (a1, .inl (cT 0, 1024, .inl f31))] s.heap := hP
  have hl := lv_entry ([.ref a0, .int 108]) (n := 4) (Nat.le_of_ble_eq_true rfl)
  rw [lg_entry_eq]
  generalize (lg_sl ([.ref a0, .int 108]) ++ List.replicate (4 - (lg_sl ([.ref a0, .int 108])).length) Slot.unset).toArray = ls at hl ⊢
  have hl : lv_has ls 4 [(0, .ref a0), (1, .int 108)] := hl
  refine lv_aload_n hx hb dM_put0_0 rfl (lv_at hl 0 rfl) ?_
  refine va_get (D := D) (ci := 5) (v := .int 2) (C := "ValueBenchModel") (T := TM) (N := 32) hx hb htx inM hown hK hP 0 rfl rfl 22 (by decide) (htx _ kw_5_109) (fun _ h9 => h9) rfl dM_put0_1 ?_
  refine lv_aload_n hx hb dM_put0_4 rfl (lv_at hl 0 rfl) ?_
  refine va_get (D := D) (ci := 5) (v := .int 60000) (C := "ValueBenchModel") (T := TM) (N := 32) hx hb htx inM hown hK hP 0 rfl rfl 23 (by decide) (htx _ kw_5_110) (fun _ h9 => h9) rfl dM_put0_5 ?_
  refine lv_icmp_ne (tgt := 19) hx hb dM_put0_8 (by decide) (fun _ => ?_) (fun h => ((by revert h; decide : False)).elim)
  refine lv_aload_n hx hb dM_put0_19 rfl (lv_at hl 0 rfl) ?_
  refine va_get (D := D) (ci := 5) (v := .int 2) (C := "ValueBenchModel") (T := TM) (N := 32) hx hb htx inM hown hK hP 0 rfl rfl 22 (by decide) (htx _ kw_5_109) (fun _ h9 => h9) rfl dM_put0_20 ?_
  refine lv_aload_n hx hb dM_put0_23 rfl (lv_at hl 0 rfl) ?_
  refine va_get (D := D) (ci := 5) (v := .ref a1) (C := "ValueBenchModel") (T := TM) (N := 32) hx hb htx inM hown hK hP 0 rfl rfl 21 (by decide) (htx _ kw_5_108) (fun _ h9 => h9) rfl dM_put0_24 ?_
  refine va_alen (v := 1024) hx hb hK hP 1 0 rfl rfl rfl dM_put0_27 ?_
  refine lv_icmp_ne (tgt := 70) hx hb dM_put0_28 (by decide) (fun _ => ?_) (fun h => ((by revert h; decide : False)).elim)
  refine lv_aload_n hx hb dM_put0_70 rfl (lv_at hl 0 rfl) ?_
  refine va_get (D := D) (ci := 5) (v := .ref a1) (C := "ValueBenchModel") (T := TM) (N := 32) hx hb htx inM hown hK hP 0 rfl rfl 21 (by decide) (htx _ kw_5_108) (fun _ h9 => h9) rfl dM_put0_71 ?_
  refine lv_aload_n hx hb dM_put0_74 rfl (lv_at hl 0 rfl) ?_
  refine va_get (D := D) (ci := 5) (v := .int 2) (C := "ValueBenchModel") (T := TM) (N := 32) hx hb htx inM hown hK hP 0 rfl rfl 22 (by decide) (htx _ kw_5_109) (fun _ h9 => h9) rfl dM_put0_75 ?_
  refine lv_iload_n hx hb dM_put0_78 rfl (lv_at hl 1 rfl) ?_
  refine lv_i2b hx hb dM_put0_79 rfl ?_
  refine W.eq (g2 := F0 m 80 ls [.int 108, .int 2, .ref a1]) rfl ?_
  refine va_bast hx hb hK hP hD hS 1 0 rfl rfl (show ¬ ((2 : Int32) < 0 ∨ 1024 ≤ (2 : Int32).toNatClampNeg) by decide) dM_put0_80 (fun H locs hP hD hS => ?_)
  obtain ⟨hP, hD⟩ : xPD D xcl A [(a0, .inr (5, [v2, v3, v4, v5, v6, v7, v8, v9, v10, v11, v12, v13, v14, v15, v16, v17, v18, v19, v20, v21, v22, .ref a1, .int 2, .int 60000, v23, v24, v25, v26, v27, v28, v29, v30])), (a1, .inl (cT 0, 1024, .inl (upd f31 2 108)))] H := ⟨hP, hD⟩
  refine lv_aload_n hx hb dM_put0_81 rfl (lv_at hl 0 rfl) ?_
  refine lv_dup hx hb dM_put0_82 rfl ?_
  refine va_get (D := D) (ci := 5) (v := .int 2) (C := "ValueBenchModel") (T := TM) (N := 32) hx hb htx inM hown hK hP 0 rfl rfl 22 (by decide) (htx _ kw_5_109) (fun _ h9 => h9) rfl dM_put0_83 ?_
  refine lv_iconst (v := 1) hx hb dM_put0_86 (by decide) ?_
  refine lv_iadd hx hb dM_put0_87 ?_
  refine W.eq (g2 := F0 m 88 ls [.int 3, .ref a0]) rfl ?_
  refine va_put (D := D) (ci := 5) (v := .int 3) (ty := .int) (C := "ValueBenchModel") (T := TM) (N := 32) hx hb htx inM tyM tyM_ok nmM hown hK hP hD hS 0 rfl rfl 22 (by decide) (htx _ kw_5_109) (fun _ h9 => h9) rfl (by decide +kernel) rfl rfl (Nat.le_of_ble_eq_true rfl) dM_put0_88 (fun H locs hP hD hS => ?_)
  obtain ⟨hP, hD⟩ : xPD D xcl A [(a0, .inr (5, [v2, v3, v4, v5, v6, v7, v8, v9, v10, v11, v12, v13, v14, v15, v16, v17, v18, v19, v20, v21, v22, .ref a1, .int 3, .int 60000, v23, v24, v25, v26, v27, v28, v29, v30])), (a1, .inl (cT 0, 1024, .inl (upd f31 2 108)))] H := ⟨hP, hD⟩
  obtain ⟨hP9, hD9⟩ := xsub (wc := [(a0, .inr (5, [v2, v3, v4, v5, v6, v7, v8, v9, v10, v11, v12, v13, v14, v15, v16, v17, v18, v19, v20, v21, v22, .ref a1, .int 3, .int 60000, v23, v24, v25, v26, v27, v28, v29, v30])), (a1, .inl (cT 0, 1024, .inl (upd f31 2 108)))]) hP hD [0, 1] rfl rfl (by decide)
  refine W.widen (k := 0) (n := 0) (Nat.le_of_ble_eq_true rfl) (Nat.le_of_ble_eq_true rfl) ?_
  exact W.vret hx hb hr (fun t ht hW => ⟨⟨(), rfl, trivial, by rw [ht]; exact hP9, va_K.moved hW.alike hK, hD9⟩, hS.F ht⟩) hS.2.2 dM_put0_91
set_option maxHeartbeats 400000000 in
set_option maxRecDepth 100000 in
theorem cM_put0_7 (l : Launch) (hl9 : l.stackTraces = false) (D : va_G) (cT : Nat → ClassId) (aK aV : Nat → Nat) (sz : Nat) (a0 : Nat) (a1 : Nat) (v2 : Value) (v3 : Value) (v4 : Value) (v5 : Value) (v6 : Value) (v7 : Value) (v8 : Value) (v9 : Value) (v10 : Value) (v11 : Value) (v12 : Value) (v13 : Value) (v14 : Value) (v15 : Value) (v16 : Value) (v17 : Value) (v18 : Value) (v19 : Value) (v20 : Value) (v21 : Value) (v22 : Value) (v23 : Value) (v24 : Value) (v25 : Value) (v26 : Value) (v27 : Value) (v28 : Value) (v29 : Value) (v30 : Value) (f31 : Nat → Int32) : xMet l yM_put0 wyM_put0 0 0 0 0 D cT aK aV sz [.ref a0, .int 108] [(a0, .inr (5, [v2, v3, v4, v5, v6, v7, v8, v9, v10, v11, v12, v13, v14, v15, v16, v17, v18, v19, v20, v21, v22, .ref a1, .int 3, .int 60000, v23, v24, v25, v26, v27, v28, v29, v30])), (a1, .inl (cT 0, 1024, .inl f31))] (fun A => va_Qv (fun _ : Unit => True) (fun _ t => xB D xcl cT A [(a0, .inr (5, [v2, v3, v4, v5, v6, v7, v8, v9, v10, v11, v12, v13, v14, v15, v16, v17, v18, v19, v20, v21, v22, .ref a1, .int 4, .int 60000, v23, v24, v25, v26, v27, v28, v29, v30])), (a1, .inl (cT 0, 1024, .inl (upd f31 3 108)))] t) A) := by
  refine Met.ofW (cc := prog_13_method_41_code) (maxL := 4) (ret := none) (by decide) rfl ?_
  intro p e s m args below meth c s₁ B hml hv
  obtain ⟨rfl, hsz, hZ, hP, hK, hD0⟩ := hv
  have hx := B.exec
  have hb := B.bytes
  have hr := B.returns
  have hts := atoms_spec (ws := wyM_put0) B.pre
  have htx := fun w h => hts w (List.mem_cons_of_mem _ h)
  have hown : s.vm.findClass "ValueBenchModel" = some m.cls := findClass_of_methodNamed B.named
  have hlocks := B.notSynchronized
  subst hsz
  have hD := hD0.self (sz := s.heap.size)
  generalize hAe : va_A [(a0, .inr (5, [v2, v3, v4, v5, v6, v7, v8, v9, v10, v11, v12, v13, v14, v15, v16, v17, v18, v19, v20, v21, v22, .ref a1, .int 3, .int 60000, v23, v24, v25, v26, v27, v28, v29, v30])), (a1, .inl (cT 0, 1024, .inl f31))] s.heap.size = A at hD hZ ⊢
  have hA : ∀ q : Nat, s.heap.size ≤ q → A q := fun q h => by rw [← hAe]; exact Or.inr h
  have hS : va_S A s.heap s.heap [] := va_S.rf
  have hP : va_P D xcl [(a0, .inr (5, [v2, v3, v4, v5, v6, v7, v8, v9, v10, v11, v12, v13, v14, v15, v16, v17, v18, v19, v20, v21, v22, .ref a1, .int 3, .int 60000, v23, v24, v25, v26, v27, v28, v29, v30])), (a1, .inl (cT 0, 1024, .inl f31))] s.heap := hP
  have hl := lv_entry ([.ref a0, .int 108]) (n := 4) (Nat.le_of_ble_eq_true rfl)
  rw [lg_entry_eq]
  generalize (lg_sl ([.ref a0, .int 108]) ++ List.replicate (4 - (lg_sl ([.ref a0, .int 108])).length) Slot.unset).toArray = ls at hl ⊢
  have hl : lv_has ls 4 [(0, .ref a0), (1, .int 108)] := hl
  refine lv_aload_n hx hb dM_put0_0 rfl (lv_at hl 0 rfl) ?_
  refine va_get (D := D) (ci := 5) (v := .int 3) (C := "ValueBenchModel") (T := TM) (N := 32) hx hb htx inM hown hK hP 0 rfl rfl 22 (by decide) (htx _ kw_5_109) (fun _ h9 => h9) rfl dM_put0_1 ?_
  refine lv_aload_n hx hb dM_put0_4 rfl (lv_at hl 0 rfl) ?_
  refine va_get (D := D) (ci := 5) (v := .int 60000) (C := "ValueBenchModel") (T := TM) (N := 32) hx hb htx inM hown hK hP 0 rfl rfl 23 (by decide) (htx _ kw_5_110) (fun _ h9 => h9) rfl dM_put0_5 ?_
  refine lv_icmp_ne (tgt := 19) hx hb dM_put0_8 (by decide) (fun _ => ?_) (fun h => ((by revert h; decide : False)).elim)
  refine lv_aload_n hx hb dM_put0_19 rfl (lv_at hl 0 rfl) ?_
  refine va_get (D := D) (ci := 5) (v := .int 3) (C := "ValueBenchModel") (T := TM) (N := 32) hx hb htx inM hown hK hP 0 rfl rfl 22 (by decide) (htx _ kw_5_109) (fun _ h9 => h9) rfl dM_put0_20 ?_
  refine lv_aload_n hx hb dM_put0_23 rfl (lv_at hl 0 rfl) ?_
  refine va_get (D := D) (ci := 5) (v := .ref a1) (C := "ValueBenchModel") (T := TM) (N := 32) hx hb htx inM hown hK hP 0 rfl rfl 21 (by decide) (htx _ kw_5_108) (fun _ h9 => h9) rfl dM_put0_24 ?_
  refine va_alen (v := 1024) hx hb hK hP 1 0 rfl rfl rfl dM_put0_27 ?_
  refine lv_icmp_ne (tgt := 70) hx hb dM_put0_28 (by decide) (fun _ => ?_) (fun h => ((by revert h; decide : False)).elim)
  refine lv_aload_n hx hb dM_put0_70 rfl (lv_at hl 0 rfl) ?_
  refine va_get (D := D) (ci := 5) (v := .ref a1) (C := "ValueBenchModel") (T := TM) (N := 32) hx hb htx inM hown hK hP 0 rfl rfl 21 (by decide) (htx _ kw_5_108) (fun _ h9 => h9) rfl dM_put0_71 ?_
  refine lv_aload_n hx hb dM_put0_74 rfl (lv_at hl 0 rfl) ?_
  refine va_get (D := D) (ci := 5) (v := .int 3) (C := "ValueBenchModel") (T := TM) (N := 32) hx hb htx inM hown hK hP 0 rfl rfl 22 (by decide) (htx _ kw_5_109) (fun _ h9 => h9) rfl dM_put0_75 ?_
  refine lv_iload_n hx hb dM_put0_78 rfl (lv_at hl 1 rfl) ?_
  refine lv_i2b hx hb dM_put0_79 rfl ?_
  refine W.eq (g2 := F0 m 80 ls [.int 108, .int 3, .ref a1]) rfl ?_
  refine va_bast hx hb hK hP hD hS 1 0 rfl rfl (show ¬ ((3 : Int32) < 0 ∨ 1024 ≤ (3 : Int32).toNatClampNeg) by decide) dM_put0_80 (fun H locs hP hD hS => ?_)
  obtain ⟨hP, hD⟩ : xPD D xcl A [(a0, .inr (5, [v2, v3, v4, v5, v6, v7, v8, v9, v10, v11, v12, v13, v14, v15, v16, v17, v18, v19, v20, v21, v22, .ref a1, .int 3, .int 60000, v23, v24, v25, v26, v27, v28, v29, v30])), (a1, .inl (cT 0, 1024, .inl (upd f31 3 108)))] H := ⟨hP, hD⟩
  refine lv_aload_n hx hb dM_put0_81 rfl (lv_at hl 0 rfl) ?_
  refine lv_dup hx hb dM_put0_82 rfl ?_
  refine va_get (D := D) (ci := 5) (v := .int 3) (C := "ValueBenchModel") (T := TM) (N := 32) hx hb htx inM hown hK hP 0 rfl rfl 22 (by decide) (htx _ kw_5_109) (fun _ h9 => h9) rfl dM_put0_83 ?_
  refine lv_iconst (v := 1) hx hb dM_put0_86 (by decide) ?_
  refine lv_iadd hx hb dM_put0_87 ?_
  refine W.eq (g2 := F0 m 88 ls [.int 4, .ref a0]) rfl ?_
  refine va_put (D := D) (ci := 5) (v := .int 4) (ty := .int) (C := "ValueBenchModel") (T := TM) (N := 32) hx hb htx inM tyM tyM_ok nmM hown hK hP hD hS 0 rfl rfl 22 (by decide) (htx _ kw_5_109) (fun _ h9 => h9) rfl (by decide +kernel) rfl rfl (Nat.le_of_ble_eq_true rfl) dM_put0_88 (fun H locs hP hD hS => ?_)
  obtain ⟨hP, hD⟩ : xPD D xcl A [(a0, .inr (5, [v2, v3, v4, v5, v6, v7, v8, v9, v10, v11, v12, v13, v14, v15, v16, v17, v18, v19, v20, v21, v22, .ref a1, .int 4, .int 60000, v23, v24, v25, v26, v27, v28, v29, v30])), (a1, .inl (cT 0, 1024, .inl (upd f31 3 108)))] H := ⟨hP, hD⟩
  obtain ⟨hP9, hD9⟩ := xsub (wc := [(a0, .inr (5, [v2, v3, v4, v5, v6, v7, v8, v9, v10, v11, v12, v13, v14, v15, v16, v17, v18, v19, v20, v21, v22, .ref a1, .int 4, .int 60000, v23, v24, v25, v26, v27, v28, v29, v30])), (a1, .inl (cT 0, 1024, .inl (upd f31 3 108)))]) hP hD [0, 1] rfl rfl (by decide)
  refine W.widen (k := 0) (n := 0) (Nat.le_of_ble_eq_true rfl) (Nat.le_of_ble_eq_true rfl) ?_
  exact W.vret hx hb hr (fun t ht hW => ⟨⟨(), rfl, trivial, by rw [ht]; exact hP9, va_K.moved hW.alike hK, hD9⟩, hS.F ht⟩) hS.2.2 dM_put0_91
set_option maxHeartbeats 400000000 in
set_option maxRecDepth 100000 in
theorem cM_put1_1 (l : Launch) (hl9 : l.stackTraces = false) (D : va_G) (cT : Nat → ClassId) (aK aV : Nat → Nat) (sz : Nat) (a0 : Nat) (a1 : Nat) (v2 : Value) (v3 : Value) (v4 : Value) (v5 : Value) (v6 : Value) (v7 : Value) (v8 : Value) (v9 : Value) (v10 : Value) (v11 : Value) (v12 : Value) (v13 : Value) (v14 : Value) (v15 : Value) (v16 : Value) (v17 : Value) (v18 : Value) (v19 : Value) (v20 : Value) (v21 : Value) (v22 : Value) (v23 : Value) (v24 : Value) (v25 : Value) (v26 : Value) (v27 : Value) (v28 : Value) (v29 : Value) (v30 : Value) (f31 : Nat → Int32) : xMet l yM_put1 wyM_put1 4 0 0 85 D cT aK aV sz [.ref a0, .ref (aK 10)] [(a0, .inr (5, [v2, v3, v4, v5, v6, v7, v8, v9, v10, v11, v12, v13, v14, v15, v16, v17, v18, v19, v20, v21, v22, .ref a1, .int 0, .int 60000, v23, v24, v25, v26, v27, v28, v29, v30])), (a1, .inl (cT 0, 1024, .inl f31))] (fun A => va_Qv (fun _ : Unit => True) (fun _ t => xB D xcl cT A [(a0, .inr (5, [v2, v3, v4, v5, v6, v7, v8, v9, v10, v11, v12, v13, v14, v15, v16, v17, v18, v19, v20, v21, v22, .ref a1, .int 4, .int 60000, v23, v24, v25, v26, v27, v28, v29, v30])), (a1, .inl (cT 0, 1024, .inl (upd (upd (upd (upd f31 0 110) 1 117) 2 108) 3 108)))] t) A) := by
  refine Met.ofW (cc := prog_13_method_42_code) (maxL := 3) (ret := none) (by decide) rfl ?_
  intro p e s m args below meth c s₁ B hml hv
  obtain ⟨rfl, hsz, hZ, hP, hK, hD0⟩ := hv
  have hx := B.exec
  have hb := B.bytes
  have hr := B.returns
  have hts := atoms_spec (ws := wyM_put1) B.pre
  have htx := fun w h => hts w (List.mem_cons_of_mem _ h)
  have hown : s.vm.findClass "ValueBenchModel" = some m.cls := findClass_of_methodNamed B.named
  have hlocks := B.notSynchronized
  subst hsz
  have hD := hD0.self (sz := s.heap.size)
  generalize hAe : va_A [(a0, .inr (5, [v2, v3, v4, v5, v6, v7, v8, v9, v10, v11, v12, v13, v14, v15, v16, v17, v18, v19, v20, v21, v22, .ref a1, .int 0, .int 60000, v23, v24, v25, v26, v27, v28, v29, v30])), (a1, .inl (cT 0, 1024, .inl f31))] s.heap.size = A at hD hZ ⊢
  have hA : ∀ q : Nat, s.heap.size ≤ q → A q := fun q h => by rw [← hAe]; exact Or.inr h
  have hS : va_S A s.heap s.heap [] := va_S.rf
  have hP : va_P D xcl [(a0, .inr (5, [v2, v3, v4, v5, v6, v7, v8, v9, v10, v11, v12, v13, v14, v15, v16, v17, v18, v19, v20, v21, v22, .ref a1, .int 0, .int 60000, v23, v24, v25, v26, v27, v28, v29, v30])), (a1, .inl (cT 0, 1024, .inl f31))] s.heap := hP
  have hl := lv_entry ([.ref a0, .ref (aK 10)]) (n := 3) (Nat.le_of_ble_eq_true rfl)
  rw [lg_entry_eq]
  generalize (lg_sl ([.ref a0, .ref (aK 10)]) ++ List.replicate (3 - (lg_sl ([.ref a0, .ref (aK 10)])).length) Slot.unset).toArray = ls at hl ⊢
  have hl : lv_has ls 3 [(0, .ref a0), (1, .ref (aK 10))] := hl
  refine lv_iconst (v := 0) hx hb dM_put1_0 (by decide) ?_
  refine lv_istore_n (lv' := [(2, .int 0), (0, .ref a0), (1, .ref (aK 10))]) hx hb dM_put1_1 rfl hl (by decide) rfl (fun ls hl => ?_)
  refine lv_iload_n hx hb dM_put1_2 rfl (lv_at hl 0 rfl) ?_
  refine lv_aload_n hx hb dM_put1_3 rfl (lv_at hl 2 rfl) ?_
  obtain ⟨hPc, hDc, hFc⟩ := xcut (wc := []) hP hD hS hA [] rfl rfl (by decide)
  refine va_calli (va_runV (C := "java/lang/String") (As := []) (rest := [.int 0]) ⟨hx, hb, hml, hown, htx⟩ (cJS_length_0 l hl9 D cT aK aV s.heap.size) ⟨callB_of 0 htx (xw_goodC kw_2_70) rfl rfl rfl (htx _ kw_1_6) (htx _ kw_5_238) ⟨by decide, by decide, by decide +kernel⟩ ⟨Nat.le_of_ble_eq_true rfl, Nat.le_of_ble_eq_true rfl⟩, (htx _ kw_2_68), (htx _ kw_2_69)⟩ ⟨xPre_blind, vk_recv hZ.2.2.2.2.2.2.2.2.2.1 (i := 10) (by decide) hS, (fun U hU hW => ⟨rfl, xPre_of hZ hS hFc hPc hDc hK U hU hW⟩)⟩ rfl rfl hl.1 rfl (lv_room (Nat.le_of_ble_eq_true rfl)) dM_put1_4 ⟨Nat.le_of_ble_eq_true rfl, Nat.le_of_ble_eq_true rfl⟩) hS (fun q _ h => hFc q h) hFc (fun r1 u9 t H1 locs ht hvm hr9 hB hz1 hk1 hS => ?_)
  obtain ⟨hP1, hK1, hD1⟩ := hB
  rw [ht] at hP1
  obtain ⟨hP, hD⟩ := xjoin (W := [(a0, .inr (5, [v2, v3, v4, v5, v6, v7, v8, v9, v10, v11, v12, v13, v14, v15, v16, v17, v18, v19, v20, v21, v22, .ref a1, .int 0, .int 60000, v23, v24, v25, v26, v27, v28, v29, v30])), (a1, .inl (cT 0, 1024, .inl f31))]) hP hD [] [0, 1] 2 rfl rfl (by decide) (by decide) hk1 hFc hP1 hD1
  generalize H1 = H at hP hS ⊢
  rw [hr9]
  refine W.eq (g2 := F0 m 7 ls [.int 4, .int 0]) rfl ?_
  refine lv_icmp_ge (tgt := 25) hx hb dM_put1_7 (by decide) (fun h => ((by revert h; decide : False)).elim) (fun _ => ?_)
  refine lv_aload_n hx hb dM_put1_10 rfl (lv_at hl 1 rfl) ?_
  refine lv_aload_n hx hb dM_put1_11 rfl (lv_at hl 2 rfl) ?_
  refine lv_iload_n hx hb dM_put1_12 rfl (lv_at hl 0 rfl) ?_
  obtain ⟨hPc, hDc, hFc⟩ := xcut (wc := []) hP hD hS hA [] rfl rfl (by decide)
  refine va_calli (va_runV (C := "java/lang/String") (As := [.int 0]) (rest := [.ref a0]) ⟨hx, hb, hml, hown, htx⟩ (cJS_charAt_0 l hl9 D cT aK aV H.size) ⟨callB_of 1 htx (xw_goodC kw_2_80) rfl rfl rfl (htx _ kw_1_6) (htx _ kw_5_86) ⟨by decide, by decide, by decide +kernel⟩ ⟨Nat.le_of_ble_eq_true rfl, Nat.le_of_ble_eq_true rfl⟩, (htx _ kw_2_78), (htx _ kw_2_79)⟩ ⟨xPre_blind, vk_recv hZ.2.2.2.2.2.2.2.2.2.1 (i := 10) (by decide) hS, (fun U hU hW => ⟨rfl, xPre_of hZ hS hFc hPc hDc hK U hU hW⟩)⟩ rfl rfl hl.1 rfl (lv_room (Nat.le_of_ble_eq_true rfl)) dM_put1_13 ⟨Nat.le_of_ble_eq_true rfl, Nat.le_of_ble_eq_true rfl⟩) hS (fun q _ h => hFc q h) hFc (fun r2 u9 t H1 locs ht hvm hr9 hB hz1 hk1 hS => ?_)
  obtain ⟨hP1, hK1, hD1⟩ := hB
  rw [ht] at hP1
  obtain ⟨hP, hD⟩ := xjoin (W := [(a0, .inr (5, [v2, v3, v4, v5, v6, v7, v8, v9, v10, v11, v12, v13, v14, v15, v16, v17, v18, v19, v20, v21, v22, .ref a1, .int 0, .int 60000, v23, v24, v25, v26, v27, v28, v29, v30])), (a1, .inl (cT 0, 1024, .inl f31))]) hP hD [] [0, 1] 2 rfl rfl (by decide) (by decide) hk1 hFc hP1 hD1
  generalize H1 = H at hP hS ⊢
  rw [hr9]
  refine W.eq (g2 := F0 m 16 ls [.int 110, .ref a0]) rfl ?_
  obtain ⟨hPc, hDc, hFc⟩ := xcut (wc := [(a0, .inr (5, [v2, v3, v4, v5, v6, v7, v8, v9, v10, v11, v12, v13, v14, v15, v16, v17, v18, v19, v20, v21, v22, .ref a1, .int 0, .int 60000, v23, v24, v25, v26, v27, v28, v29, v30])), (a1, .inl (cT 0, 1024, .inl f31))]) hP hD hS hA [0, 1] rfl rfl (by decide)
  refine va_callv (va_runV (C := "ValueBenchModel") (As := [.int 110]) (rest := []) ⟨hx, hb, hml, hown, htx⟩ (cM_put0_4 l hl9 D cT aK aV H.size a0 a1 v2 v3 v4 v5 v6 v7 v8 v9 v10 v11 v12 v13 v14 v15 v16 v17 v18 v19 v20 v21 v22 v23 v24 v25 v26 v27 v28 v29 v30 f31) ⟨callB_of 1 htx (xw_goodC kw_6_136) rfl rfl rfl (htx _ kw_1_5) (htx _ kw_6_133) ⟨by decide, by decide, by decide +kernel⟩ ⟨Nat.le_of_ble_eq_true rfl, Nat.le_of_ble_eq_true rfl⟩, (htx _ kw_6_135), (htx _ kp_M_put0)⟩ ⟨xPre_blind, va_recv hK hP (ci := 5) rfl (q0 := 0) rfl, (fun U hU hW => ⟨rfl, xPre_of hZ hS hFc hPc hDc hK U hU hW⟩)⟩ rfl rfl hl.1 rfl (lv_room (Nat.le_of_ble_eq_true rfl)) dM_put1_16 ⟨Nat.le_of_ble_eq_true rfl, Nat.le_of_ble_eq_true rfl⟩) hS (fun q _ h => hFc q h) hFc (fun u9 t H1 locs ht hvm hr9 hB hz1 hk1 hS => ?_)
  obtain ⟨hP1, hK1, hD1⟩ := hB
  rw [ht] at hP1
  obtain ⟨hP, hD⟩ := xjoin (W := [(a0, .inr (5, [v2, v3, v4, v5, v6, v7, v8, v9, v10, v11, v12, v13, v14, v15, v16, v17, v18, v19, v20, v21, v22, .ref a1, .int 1, .int 60000, v23, v24, v25, v26, v27, v28, v29, v30])), (a1, .inl (cT 0, 1024, .inl (upd f31 0 110)))]) hP hD [0, 1] [] 0 rfl rfl (by decide) (by decide) hk1 hFc hP1 hD1
  generalize H1 = H at hP hS ⊢
  refine lv_iinc (v := 1) (lv' := [(2, .int 1), (0, .ref a0), (1, .ref (aK 10))]) hx hb dM_put1_19 hl (k := 0) rfl (by decide) (by decide) rfl (fun ls hl => ?_)
  refine lv_goto (tgt := 2) hx hb dM_put1_22 (by decide) ?_
  refine lv_iload_n hx hb dM_put1_2 rfl (lv_at hl 0 rfl) ?_
  refine lv_aload_n hx hb dM_put1_3 rfl (lv_at hl 2 rfl) ?_
  obtain ⟨hPc, hDc, hFc⟩ := xcut (wc := []) hP hD hS hA [] rfl rfl (by decide)
  refine va_calli (va_runV (C := "java/lang/String") (As := []) (rest := [.int 1]) ⟨hx, hb, hml, hown, htx⟩ (cJS_length_0 l hl9 D cT aK aV H.size) ⟨callB_of 0 htx (xw_goodC kw_2_70) rfl rfl rfl (htx _ kw_1_6) (htx _ kw_5_238) ⟨by decide, by decide, by decide +kernel⟩ ⟨Nat.le_of_ble_eq_true rfl, Nat.le_of_ble_eq_true rfl⟩, (htx _ kw_2_68), (htx _ kw_2_69)⟩ ⟨xPre_blind, vk_recv hZ.2.2.2.2.2.2.2.2.2.1 (i := 10) (by decide) hS, (fun U hU hW => ⟨rfl, xPre_of hZ hS hFc hPc hDc hK U hU hW⟩)⟩ rfl rfl hl.1 rfl (lv_room (Nat.le_of_ble_eq_true rfl)) dM_put1_4 ⟨Nat.le_of_ble_eq_true rfl, Nat.le_of_ble_eq_true rfl⟩) hS (fun q _ h => hFc q h) hFc (fun r3 u9 t H1 locs ht hvm hr9 hB hz1 hk1 hS => ?_)
  obtain ⟨hP1, hK1, hD1⟩ := hB
  rw [ht] at hP1
  obtain ⟨hP, hD⟩ := xjoin (W := [(a0, .inr (5, [v2, v3, v4, v5, v6, v7, v8, v9, v10, v11, v12, v13, v14, v15, v16, v17, v18, v19, v20, v21, v22, .ref a1, .int 1, .int 60000, v23, v24, v25, v26, v27, v28, v29, v30])), (a1, .inl (cT 0, 1024, .inl (upd f31 0 110)))]) hP hD [] [0, 1] 2 rfl rfl (by decide) (by decide) hk1 hFc hP1 hD1
  generalize H1 = H at hP hS ⊢
  rw [hr9]
  refine W.eq (g2 := F0 m 7 ls [.int 4, .int 1]) rfl ?_
  refine lv_icmp_ge (tgt := 25) hx hb dM_put1_7 (by decide) (fun h => ((by revert h; decide : False)).elim) (fun _ => ?_)
  refine lv_aload_n hx hb dM_put1_10 rfl (lv_at hl 1 rfl) ?_
  refine lv_aload_n hx hb dM_put1_11 rfl (lv_at hl 2 rfl) ?_
  refine lv_iload_n hx hb dM_put1_12 rfl (lv_at hl 0 rfl) ?_
  obtain ⟨hPc, hDc, hFc⟩ := xcut (wc := []) hP hD hS hA [] rfl rfl (by decide)
  refine va_calli (va_runV (C := "java/lang/String") (As := [.int 1]) (rest := [.ref a0]) ⟨hx, hb, hml, hown, htx⟩ (cJS_charAt_1 l hl9 D cT aK aV H.size) ⟨callB_of 1 htx (xw_goodC kw_2_80) rfl rfl rfl (htx _ kw_1_6) (htx _ kw_5_86) ⟨by decide, by decide, by decide +kernel⟩ ⟨Nat.le_of_ble_eq_true rfl, Nat.le_of_ble_eq_true rfl⟩, (htx _ kw_2_78), (htx _ kw_2_79)⟩ ⟨xPre_blind, vk_recv hZ.2.2.2.2.2.2.2.2.2.1 (i := 10) (by decide) hS, (fun U hU hW => ⟨rfl, xPre_of hZ hS hFc hPc hDc hK U hU hW⟩)⟩ rfl rfl hl.1 rfl (lv_room (Nat.le_of_ble_eq_true rfl)) dM_put1_13 ⟨Nat.le_of_ble_eq_true rfl, Nat.le_of_ble_eq_true rfl⟩) hS (fun q _ h => hFc q h) hFc (fun r4 u9 t H1 locs ht hvm hr9 hB hz1 hk1 hS => ?_)
  obtain ⟨hP1, hK1, hD1⟩ := hB
  rw [ht] at hP1
  obtain ⟨hP, hD⟩ := xjoin (W := [(a0, .inr (5, [v2, v3, v4, v5, v6, v7, v8, v9, v10, v11, v12, v13, v14, v15, v16, v17, v18, v19, v20, v21, v22, .ref a1, .int 1, .int 60000, v23, v24, v25, v26, v27, v28, v29, v30])), (a1, .inl (cT 0, 1024, .inl (upd f31 0 110)))]) hP hD [] [0, 1] 2 rfl rfl (by decide) (by decide) hk1 hFc hP1 hD1
  generalize H1 = H at hP hS ⊢
  rw [hr9]
  refine W.eq (g2 := F0 m 16 ls [.int 117, .ref a0]) rfl ?_
  obtain ⟨hPc, hDc, hFc⟩ := xcut (wc := [(a0, .inr (5, [v2, v3, v4, v5, v6, v7, v8, v9, v10, v11, v12, v13, v14, v15, v16, v17, v18, v19, v20, v21, v22, .ref a1, .int 1, .int 60000, v23, v24, v25, v26, v27, v28, v29, v30])), (a1, .inl (cT 0, 1024, .inl (upd f31 0 110)))]) hP hD hS hA [0, 1] rfl rfl (by decide)
  refine va_callv (va_runV (C := "ValueBenchModel") (As := [.int 117]) (rest := []) ⟨hx, hb, hml, hown, htx⟩ (cM_put0_5 l hl9 D cT aK aV H.size a0 a1 v2 v3 v4 v5 v6 v7 v8 v9 v10 v11 v12 v13 v14 v15 v16 v17 v18 v19 v20 v21 v22 v23 v24 v25 v26 v27 v28 v29 v30 (upd f31 0 110)) ⟨callB_of 1 htx (xw_goodC kw_6_136) rfl rfl rfl (htx _ kw_1_5) (htx _ kw_6_133) ⟨by decide, by decide, by decide +kernel⟩ ⟨Nat.le_of_ble_eq_true rfl, Nat.le_of_ble_eq_true rfl⟩, (htx _ kw_6_135), (htx _ kp_M_put0)⟩ ⟨xPre_blind, va_recv hK hP (ci := 5) rfl (q0 := 0) rfl, (fun U hU hW => ⟨rfl, xPre_of hZ hS hFc hPc hDc hK U hU hW⟩)⟩ rfl rfl hl.1 rfl (lv_room (Nat.le_of_ble_eq_true rfl)) dM_put1_16 ⟨Nat.le_of_ble_eq_true rfl, Nat.le_of_ble_eq_true rfl⟩) hS (fun q _ h => hFc q h) hFc (fun u9 t H1 locs ht hvm hr9 hB hz1 hk1 hS => ?_)
  obtain ⟨hP1, hK1, hD1⟩ := hB
  rw [ht] at hP1
  obtain ⟨hP, hD⟩ := xjoin (W := [(a0, .inr (5, [v2, v3, v4, v5, v6, v7, v8, v9, v10, v11, v12, v13, v14, v15, v16, v17, v18, v19, v20, v21, v22, .ref a1, .int 2, .int 60000, v23, v24, v25, v26, v27, v28, v29, v30])), (a1, .inl (cT 0, 1024, .inl (upd (upd f31 0 110) 1 117)))]) hP hD [0, 1] [] 0 rfl rfl (by decide) (by decide) hk1 hFc hP1 hD1
  generalize H1 = H at hP hS ⊢
  refine lv_iinc (v := 2) (lv' := [(2, .int 2), (0, .ref a0), (1, .ref (aK 10))]) hx hb dM_put1_19 hl (k := 0) rfl (by decide) (by decide) rfl (fun ls hl => ?_)
  refine lv_goto (tgt := 2) hx hb dM_put1_22 (by decide) ?_
  refine lv_iload_n hx hb dM_put1_2 rfl (lv_at hl 0 rfl) ?_
  refine lv_aload_n hx hb dM_put1_3 rfl (lv_at hl 2 rfl) ?_
  obtain ⟨hPc, hDc, hFc⟩ := xcut (wc := []) hP hD hS hA [] rfl rfl (by decide)
  refine va_calli (va_runV (C := "java/lang/String") (As := []) (rest := [.int 2]) ⟨hx, hb, hml, hown, htx⟩ (cJS_length_0 l hl9 D cT aK aV H.size) ⟨callB_of 0 htx (xw_goodC kw_2_70) rfl rfl rfl (htx _ kw_1_6) (htx _ kw_5_238) ⟨by decide, by decide, by decide +kernel⟩ ⟨Nat.le_of_ble_eq_true rfl, Nat.le_of_ble_eq_true rfl⟩, (htx _ kw_2_68), (htx _ kw_2_69)⟩ ⟨xPre_blind, vk_recv hZ.2.2.2.2.2.2.2.2.2.1 (i := 10) (by decide) hS, (fun U hU hW => ⟨rfl, xPre_of hZ hS hFc hPc hDc hK U hU hW⟩)⟩ rfl rfl hl.1 rfl (lv_room (Nat.le_of_ble_eq_true rfl)) dM_put1_4 ⟨Nat.le_of_ble_eq_true rfl, Nat.le_of_ble_eq_true rfl⟩) hS (fun q _ h => hFc q h) hFc (fun r5 u9 t H1 locs ht hvm hr9 hB hz1 hk1 hS => ?_)
  obtain ⟨hP1, hK1, hD1⟩ := hB
  rw [ht] at hP1
  obtain ⟨hP, hD⟩ := xjoin (W := [(a0, .inr (5, [v2, v3, v4, v5, v6, v7, v8, v9, v10, v11, v12, v13, v14, v15, v16, v17, v18, v19, v20, v21, v22, .ref a1, .int 2, .int 60000, v23, v24, v25, v26, v27, v28, v29, v30])), (a1, .inl (cT 0, 1024, .inl (upd (upd f31 0 110) 1 117)))]) hP hD [] [0, 1] 2 rfl rfl (by decide) (by decide) hk1 hFc hP1 hD1
  generalize H1 = H at hP hS ⊢
  rw [hr9]
  refine W.eq (g2 := F0 m 7 ls [.int 4, .int 2]) rfl ?_
  refine lv_icmp_ge (tgt := 25) hx hb dM_put1_7 (by decide) (fun h => ((by revert h; decide : False)).elim) (fun _ => ?_)
  refine lv_aload_n hx hb dM_put1_10 rfl (lv_at hl 1 rfl) ?_
  refine lv_aload_n hx hb dM_put1_11 rfl (lv_at hl 2 rfl) ?_
  refine lv_iload_n hx hb dM_put1_12 rfl (lv_at hl 0 rfl) ?_
  obtain ⟨hPc, hDc, hFc⟩ := xcut (wc := []) hP hD hS hA [] rfl rfl (by decide)
  refine va_calli (va_runV (C := "java/lang/String") (As := [.int 2]) (rest := [.ref a0]) ⟨hx, hb, hml, hown, htx⟩ (cJS_charAt_2 l hl9 D cT aK aV H.size) ⟨callB_of 1 htx (xw_goodC kw_2_80) rfl rfl rfl (htx _ kw_1_6) (htx _ kw_5_86) ⟨by decide, by decide, by decide +kernel⟩ ⟨Nat.le_of_ble_eq_true rfl, Nat.le_of_ble_eq_true rfl⟩, (htx _ kw_2_78), (htx _ kw_2_79)⟩ ⟨xPre_blind, vk_recv hZ.2.2.2.2.2.2.2.2.2.1 (i := 10) (by decide) hS, (fun U hU hW => ⟨rfl, xPre_of hZ hS hFc hPc hDc hK U hU hW⟩)⟩ rfl rfl hl.1 rfl (lv_room (Nat.le_of_ble_eq_true rfl)) dM_put1_13 ⟨Nat.le_of_ble_eq_true rfl, Nat.le_of_ble_eq_true rfl⟩) hS (fun q _ h => hFc q h) hFc (fun r6 u9 t H1 locs ht hvm hr9 hB hz1 hk1 hS => ?_)
  obtain ⟨hP1, hK1, hD1⟩ := hB
  rw [ht] at hP1
  obtain ⟨hP, hD⟩ := xjoin (W := [(a0, .inr (5, [v2, v3, v4, v5, v6, v7, v8, v9, v10, v11, v12, v13, v14, v15, v16, v17, v18, v19, v20, v21, v22, .ref a1, .int 2, .int 60000, v23, v24, v25, v26, v27, v28, v29, v30])), (a1, .inl (cT 0, 1024, .inl (upd (upd f31 0 110) 1 117)))]) hP hD [] [0, 1] 2 rfl rfl (by decide) (by decide) hk1 hFc hP1 hD1
  generalize H1 = H at hP hS ⊢
  rw [hr9]
  refine W.eq (g2 := F0 m 16 ls [.int 108, .ref a0]) rfl ?_
  obtain ⟨hPc, hDc, hFc⟩ := xcut (wc := [(a0, .inr (5, [v2, v3, v4, v5, v6, v7, v8, v9, v10, v11, v12, v13, v14, v15, v16, v17, v18, v19, v20, v21, v22, .ref a1, .int 2, .int 60000, v23, v24, v25, v26, v27, v28, v29, v30])), (a1, .inl (cT 0, 1024, .inl (upd (upd f31 0 110) 1 117)))]) hP hD hS hA [0, 1] rfl rfl (by decide)
  refine va_callv (va_runV (C := "ValueBenchModel") (As := [.int 108]) (rest := []) ⟨hx, hb, hml, hown, htx⟩ (cM_put0_6 l hl9 D cT aK aV H.size a0 a1 v2 v3 v4 v5 v6 v7 v8 v9 v10 v11 v12 v13 v14 v15 v16 v17 v18 v19 v20 v21 v22 v23 v24 v25 v26 v27 v28 v29 v30 (upd (upd f31 0 110) 1 117)) ⟨callB_of 1 htx (xw_goodC kw_6_136) rfl rfl rfl (htx _ kw_1_5) (htx _ kw_6_133) ⟨by decide, by decide, by decide +kernel⟩ ⟨Nat.le_of_ble_eq_true rfl, Nat.le_of_ble_eq_true rfl⟩, (htx _ kw_6_135), (htx _ kp_M_put0)⟩ ⟨xPre_blind, va_recv hK hP (ci := 5) rfl (q0 := 0) rfl, (fun U hU hW => ⟨rfl, xPre_of hZ hS hFc hPc hDc hK U hU hW⟩)⟩ rfl rfl hl.1 rfl (lv_room (Nat.le_of_ble_eq_true rfl)) dM_put1_16 ⟨Nat.le_of_ble_eq_true rfl, Nat.le_of_ble_eq_true rfl⟩) hS (fun q _ h => hFc q h) hFc (fun u9 t H1 locs ht hvm hr9 hB hz1 hk1 hS => ?_)
  obtain ⟨hP1, hK1, hD1⟩ := hB
  rw [ht] at hP1
  obtain ⟨hP, hD⟩ := xjoin (W := [(a0, .inr (5, [v2, v3, v4, v5, v6, v7, v8, v9, v10, v11, v12, v13, v14, v15, v16, v17, v18, v19, v20, v21, v22, .ref a1, .int 3, .int 60000, v23, v24, v25, v26, v27, v28, v29, v30])), (a1, .inl (cT 0, 1024, .inl (upd (upd (upd f31 0 110) 1 117) 2 108)))]) hP hD [0, 1] [] 0 rfl rfl (by decide) (by decide) hk1 hFc hP1 hD1
  generalize H1 = H at hP hS ⊢
  refine lv_iinc (v := 3) (lv' := [(2, .int 3), (0, .ref a0), (1, .ref (aK 10))]) hx hb dM_put1_19 hl (k := 0) rfl (by decide) (by decide) rfl (fun ls hl => ?_)
  refine lv_goto (tgt := 2) hx hb dM_put1_22 (by decide) ?_
  refine lv_iload_n hx hb dM_put1_2 rfl (lv_at hl 0 rfl) ?_
  refine lv_aload_n hx hb dM_put1_3 rfl (lv_at hl 2 rfl) ?_
  obtain ⟨hPc, hDc, hFc⟩ := xcut (wc := []) hP hD hS hA [] rfl rfl (by decide)
  refine va_calli (va_runV (C := "java/lang/String") (As := []) (rest := [.int 3]) ⟨hx, hb, hml, hown, htx⟩ (cJS_length_0 l hl9 D cT aK aV H.size) ⟨callB_of 0 htx (xw_goodC kw_2_70) rfl rfl rfl (htx _ kw_1_6) (htx _ kw_5_238) ⟨by decide, by decide, by decide +kernel⟩ ⟨Nat.le_of_ble_eq_true rfl, Nat.le_of_ble_eq_true rfl⟩, (htx _ kw_2_68), (htx _ kw_2_69)⟩ ⟨xPre_blind, vk_recv hZ.2.2.2.2.2.2.2.2.2.1 (i := 10) (by decide) hS, (fun U hU hW => ⟨rfl, xPre_of hZ hS hFc hPc hDc hK U hU hW⟩)⟩ rfl rfl hl.1 rfl (lv_room (Nat.le_of_ble_eq_true rfl)) dM_put1_4 ⟨Nat.le_of_ble_eq_true rfl, Nat.le_of_ble_eq_true rfl⟩) hS (fun q _ h => hFc q h) hFc (fun r7 u9 t H1 locs ht hvm hr9 hB hz1 hk1 hS => ?_)
  obtain ⟨hP1, hK1, hD1⟩ := hB
  rw [ht] at hP1
  obtain ⟨hP, hD⟩ := xjoin (W := [(a0, .inr (5, [v2, v3, v4, v5, v6, v7, v8, v9, v10, v11, v12, v13, v14, v15, v16, v17, v18, v19, v20, v21, v22, .ref a1, .int 3, .int 60000, v23, v24, v25, v26, v27, v28, v29, v30])), (a1, .inl (cT 0, 1024, .inl (upd (upd (upd f31 0 110) 1 117) 2 108)))]) hP hD [] [0, 1] 2 rfl rfl (by decide) (by decide) hk1 hFc hP1 hD1
  generalize H1 = H at hP hS ⊢
  rw [hr9]
  refine W.eq (g2 := F0 m 7 ls [.int 4, .int 3]) rfl ?_
  refine lv_icmp_ge (tgt := 25) hx hb dM_put1_7 (by decide) (fun h => ((by revert h; decide : False)).elim) (fun _ => ?_)
  refine lv_aload_n hx hb dM_put1_10 rfl (lv_at hl 1 rfl) ?_
  refine lv_aload_n hx hb dM_put1_11 rfl (lv_at hl 2 rfl) ?_
  refine lv_iload_n hx hb dM_put1_12 rfl (lv_at hl 0 rfl) ?_
  obtain ⟨hPc, hDc, hFc⟩ := xcut (wc := []) hP hD hS hA [] rfl rfl (by decide)
  refine va_calli (va_runV (C := "java/lang/String") (As := [.int 3]) (rest := [.ref a0]) ⟨hx, hb, hml, hown, htx⟩ (cJS_charAt_3 l hl9 D cT aK aV H.size) ⟨callB_of 1 htx (xw_goodC kw_2_80) rfl rfl rfl (htx _ kw_1_6) (htx _ kw_5_86) ⟨by decide, by decide, by decide +kernel⟩ ⟨Nat.le_of_ble_eq_true rfl, Nat.le_of_ble_eq_true rfl⟩, (htx _ kw_2_78), (htx _ kw_2_79)⟩ ⟨xPre_blind, vk_recv hZ.2.2.2.2.2.2.2.2.2.1 (i := 10) (by decide) hS, (fun U hU hW => ⟨rfl, xPre_of hZ hS hFc hPc hDc hK U hU hW⟩)⟩ rfl rfl hl.1 rfl (lv_room (Nat.le_of_ble_eq_true rfl)) dM_put1_13 ⟨Nat.le_of_ble_eq_true rfl, Nat.le_of_ble_eq_true rfl⟩) hS (fun q _ h => hFc q h) hFc (fun r8 u9 t H1 locs ht hvm hr9 hB hz1 hk1 hS => ?_)
  obtain ⟨hP1, hK1, hD1⟩ := hB
  rw [ht] at hP1
  obtain ⟨hP, hD⟩ := xjoin (W := [(a0, .inr (5, [v2, v3, v4, v5, v6, v7, v8, v9, v10, v11, v12, v13, v14, v15, v16, v17, v18, v19, v20, v21, v22, .ref a1, .int 3, .int 60000, v23, v24, v25, v26, v27, v28, v29, v30])), (a1, .inl (cT 0, 1024, .inl (upd (upd (upd f31 0 110) 1 117) 2 108)))]) hP hD [] [0, 1] 2 rfl rfl (by decide) (by decide) hk1 hFc hP1 hD1
  generalize H1 = H at hP hS ⊢
  rw [hr9]
  refine W.eq (g2 := F0 m 16 ls [.int 108, .ref a0]) rfl ?_
  obtain ⟨hPc, hDc, hFc⟩ := xcut (wc := [(a0, .inr (5, [v2, v3, v4, v5, v6, v7, v8, v9, v10, v11, v12, v13, v14, v15, v16, v17, v18, v19, v20, v21, v22, .ref a1, .int 3, .int 60000, v23, v24, v25, v26, v27, v28, v29, v30])), (a1, .inl (cT 0, 1024, .inl (upd (upd (upd f31 0 110) 1 117) 2 108)))]) hP hD hS hA [0, 1] rfl rfl (by decide)
  refine va_callv (va_runV (C := "ValueBenchModel") (As := [.int 108]) (rest := []) ⟨hx, hb, hml, hown, htx⟩ (cM_put0_7 l hl9 D cT aK aV H.size a0 a1 v2 v3 v4 v5 v6 v7 v8 v9 v10 v11 v12 v13 v14 v15 v16 v17 v18 v19 v20 v21 v22 v23 v24 v25 v26 v27 v28 v29 v30 (upd (upd (upd f31 0 110) 1 117) 2 108)) ⟨callB_of 1 htx (xw_goodC kw_6_136) rfl rfl rfl (htx _ kw_1_5) (htx _ kw_6_133) ⟨by decide, by decide, by decide +kernel⟩ ⟨Nat.le_of_ble_eq_true rfl, Nat.le_of_ble_eq_true rfl⟩, (htx _ kw_6_135), (htx _ kp_M_put0)⟩ ⟨xPre_blind, va_recv hK hP (ci := 5) rfl (q0 := 0) rfl, (fun U hU hW => ⟨rfl, xPre_of hZ hS hFc hPc hDc hK U hU hW⟩)⟩ rfl rfl hl.1 rfl (lv_room (Nat.le_of_ble_eq_true rfl)) dM_put1_16 ⟨Nat.le_of_ble_eq_true rfl, Nat.le_of_ble_eq_true rfl⟩) hS (fun q _ h => hFc q h) hFc (fun u9 t H1 locs ht hvm hr9 hB hz1 hk1 hS => ?_)
  obtain ⟨hP1, hK1, hD1⟩ := hB
  rw [ht] at hP1
  obtain ⟨hP, hD⟩ := xjoin (W := [(a0, .inr (5, [v2, v3, v4, v5, v6, v7, v8, v9, v10, v11, v12, v13, v14, v15, v16, v17, v18, v19, v20, v21, v22, .ref a1, .int 4, .int 60000, v23, v24, v25, v26, v27, v28, v29, v30])), (a1, .inl (cT 0, 1024, .inl (upd (upd (upd (upd f31 0 110) 1 117) 2 108) 3 108)))]) hP hD [0, 1] [] 0 rfl rfl (by decide) (by decide) hk1 hFc hP1 hD1
  generalize H1 = H at hP hS ⊢
  refine lv_iinc (v := 4) (lv' := [(2, .int 4), (0, .ref a0), (1, .ref (aK 10))]) hx hb dM_put1_19 hl (k := 0) rfl (by decide) (by decide) rfl (fun ls hl => ?_)
  refine lv_goto (tgt := 2) hx hb dM_put1_22 (by decide) ?_
  refine lv_iload_n hx hb dM_put1_2 rfl (lv_at hl 0 rfl) ?_
  refine lv_aload_n hx hb dM_put1_3 rfl (lv_at hl 2 rfl) ?_
  obtain ⟨hPc, hDc, hFc⟩ := xcut (wc := []) hP hD hS hA [] rfl rfl (by decide)
  refine va_calli (va_runV (C := "java/lang/String") (As := []) (rest := [.int 4]) ⟨hx, hb, hml, hown, htx⟩ (cJS_length_0 l hl9 D cT aK aV H.size) ⟨callB_of 0 htx (xw_goodC kw_2_70) rfl rfl rfl (htx _ kw_1_6) (htx _ kw_5_238) ⟨by decide, by decide, by decide +kernel⟩ ⟨Nat.le_of_ble_eq_true rfl, Nat.le_of_ble_eq_true rfl⟩, (htx _ kw_2_68), (htx _ kw_2_69)⟩ ⟨xPre_blind, vk_recv hZ.2.2.2.2.2.2.2.2.2.1 (i := 10) (by decide) hS, (fun U hU hW => ⟨rfl, xPre_of hZ hS hFc hPc hDc hK U hU hW⟩)⟩ rfl rfl hl.1 rfl (lv_room (Nat.le_of_ble_eq_true rfl)) dM_put1_4 ⟨Nat.le_of_ble_eq_true rfl, Nat.le_of_ble_eq_true rfl⟩) hS (fun q _ h => hFc q h) hFc (fun r9 u9 t H1 locs ht hvm hr9 hB hz1 hk1 hS => ?_)
  obtain ⟨hP1, hK1, hD1⟩ := hB
  rw [ht] at hP1
  obtain ⟨hP, hD⟩ := xjoin (W := [(a0, .inr (5, [v2, v3, v4, v5, v6, v7, v8, v9, v10, v11, v12, v13, v14, v15, v16, v17, v18, v19, v20, v21, v22, .ref a1, .int 4, .int 60000, v23, v24, v25, v26, v27, v28, v29, v30])), (a1, .inl (cT 0, 1024, .inl (upd (upd (upd (upd f31 0 110) 1 117) 2 108) 3 108)))]) hP hD [] [0, 1] 2 rfl rfl (by decide) (by decide) hk1 hFc hP1 hD1
  generalize H1 = H at hP hS ⊢
  rw [hr9]
  refine W.eq (g2 := F0 m 7 ls [.int 4, .int 4]) rfl ?_
  refine lv_icmp_ge (tgt := 25) hx hb dM_put1_7 (by decide) (fun _ => ?_) (fun h => ((by revert h; decide : False)).elim)
  obtain ⟨hP9, hD9⟩ := xsub (wc := [(a0, .inr (5, [v2, v3, v4, v5, v6, v7, v8, v9, v10, v11, v12, v13, v14, v15, v16, v17, v18, v19, v20, v21, v22, .ref a1, .int 4, .int 60000, v23, v24, v25, v26, v27, v28, v29, v30])), (a1, .inl (cT 0, 1024, .inl (upd (upd (upd (upd f31 0 110) 1 117) 2 108) 3 108)))]) hP hD [0, 1] rfl rfl (by decide)
  refine W.widen (k := 0) (n := 0) (Nat.le_of_ble_eq_true rfl) (Nat.le_of_ble_eq_true rfl) ?_
  exact W.vret hx hb hr (fun t ht hW => ⟨⟨(), rfl, trivial, by rw [ht]; exact hP9, va_K.moved hW.alike hK, hD9⟩, hS.F ht⟩) hS.2.2 dM_put1_25
set_option maxHeartbeats 400000000 in
set_option maxRecDepth 100000 in
theorem cM_print1_2 (l : Launch) (hl9 : l.stackTraces = false) (D : va_G) (cT : Nat → ClassId) (aK aV : Nat → Nat) (sz : Nat) (a0 : Nat) (a1 : Nat) (a2 : Nat) (v3 : Value) (v4 : Value) (v5 : Value) (v6 : Value) (v7 : Value) (v8 : Value) (v9 : Value) (v10 : Value) (v11 : Value) (v12 : Value) (v13 : Value) (v14 : Value) (v15 : Value) (v16 : Value) (v17 : Value) (v18 : Value) (v19 : Value) (v20 : Value) (v21 : Value) (v22 : Value) (v23 : Value) (v24 : Value) (v25 : Value) (v26 : Value) (v27 : Value) (v28 : Value) (v29 : Value) (v30 : Value) (v31 : Value) (v32 : Value) (v33 : Value) (v34 : Value) (v35 : Value) (v36 : Value) (f37 : Nat → Int32) : xMet l yM_print1 wyM_print1 5 0 0 107 D cT aK aV sz [.ref a1, .ref a0] [(a0, .inr (6, [.int 0, v3, v4, v5, v6, v7])), (a1, .inr (5, [v8, v9, v10, v11, v12, v13, v14, v15, v16, v17, v18, v19, v20, v21, v22, v23, v24, v25, v26, v27, v28, .ref a2, .int 0, .int 60000, v29, v30, v31, v32, v33, v34, v35, v36])), (a2, .inl (cT 0, 1024, .inl f37))] (fun A => va_Qv (fun _ : Unit => True) (fun _ t => xB D xcl cT A [(a0, .inr (6, [.int 0, v3, v4, v5, v6, v7])), (a1, .inr (5, [v8, v9, v10, v11, v12, v13, v14, v15, v16, v17, v18, v19, v20, v21, v22, v23, v24, v25, v26, v27, v28, .ref a2, .int 4, .int 60000, v29, v30, v31, v32, v33, v34, v35, v36])), (a2, .inl (cT 0, 1024, .inl (upd (upd (upd (upd f37 0 110) 1 117) 2 108) 3 108)))] t) A) := by
  refine Met.ofW (cc := prog_13_method_46_code) (maxL := 3) (ret := none) (by decide) rfl ?_
  intro p e s m args below meth c s₁ B hml hv
  obtain ⟨rfl, hsz, hZ, hP, hK, hD0⟩ := hv
  have hx := B.exec
  have hb := B.bytes
  have hr := B.returns
  have hts := atoms_spec (ws := wyM_print1) B.pre
  have htx := fun w h => hts w (List.mem_cons_of_mem _ h)
  have hown : s.vm.findClass "ValueBenchModel" = some m.cls := findClass_of_methodNamed B.named
  have hlocks := B.notSynchronized
  subst hsz
  have hD := hD0.self (sz := s.heap.size)
  generalize hAe : va_A [(a0, .inr (6, [.int 0, v3, v4, v5, v6, v7])), (a1, .inr (5, [v8, v9, v10, v11, v12, v13, v14, v15, v16, v17, v18, v19, v20, v21, v22, v23, v24, v25, v26, v27, v28, .ref a2, .int 0, .int 60000, v29, v30, v31, v32, v33, v34, v35, v36])), (a2, .inl (cT 0, 1024, .inl f37))] s.heap.size = A at hD hZ ⊢
  have hA : ∀ q : Nat, s.heap.size ≤ q → A q := fun q h => by rw [← hAe]; exact Or.inr h
  have hS : va_S A s.heap s.heap [] := va_S.rf
  have hP : va_P D xcl [(a0, .inr (6, [.int 0, v3, v4, v5, v6, v7])), (a1, .inr (5, [v8, v9, v10, v11, v12, v13, v14, v15, v16, v17, v18, v19, v20, v21, v22, v23, v24, v25, v26, v27, v28, .ref a2, .int 0, .int 60000, v29, v30, v31, v32, v33, v34, v35, v36])), (a2, .inl (cT 0, 1024, .inl f37))] s.heap := hP
  have hl := lv_entry ([.ref a1, .ref a0]) (n := 3) (Nat.le_of_ble_eq_true rfl)
  rw [lg_entry_eq]
  generalize (lg_sl ([.ref a1, .ref a0]) ++ List.replicate (3 - (lg_sl ([.ref a1, .ref a0])).length) Slot.unset).toArray = ls at hl ⊢
  have hl : lv_has ls 3 [(0, .ref a1), (1, .ref a0)] := hl
  refine lv_aload_n hx hb dM_print1_0 rfl (lv_at hl 1 rfl) ?_
  refine va_getN (D := D) (ci := 6) (v := .int 0) (C := "ValueBenchModel$V") (T := TV) (N := 6) hx hb htx inV hown hK hP 0 rfl rfl 0 (by decide) ((hZ.1 _ (List.mem_of_getElem? (i := 0) rfl)).use rfl) (fun _ h9 => h9) rfl dM_print1_1 ?_
  refine lv_tableIn (off := 36) (tgt := 40) hx hb dM_print1_4 (by decide) (by decide) (by decide) (by decide) ?_
  refine lv_aload_n hx hb dM_print1_40 rfl (lv_at hl 0 rfl) ?_
  refine va_ldcS (q := aK 10) hx hb hown (hZ.2.2.2.2.2.2.2.2.1 _ (List.mem_of_getElem? (i := 17) rfl)) dM_print1_41 ?_
  obtain ⟨hPc, hDc, hFc⟩ := xcut (wc := [(a1, .inr (5, [v8, v9, v10, v11, v12, v13, v14, v15, v16, v17, v18, v19, v20, v21, v22, v23, v24, v25, v26, v27, v28, .ref a2, .int 0, .int 60000, v29, v30, v31, v32, v33, v34, v35, v36])), (a2, .inl (cT 0, 1024, .inl f37))]) hP hD hS hA [1, 2] rfl rfl (by decide)
  refine va_callv (va_runV (C := "ValueBenchModel") (As := [.ref (aK 10)]) (rest := []) ⟨hx, hb, hml, hown, htx⟩ (cM_put1_1 l hl9 D cT aK aV s.heap.size a1 a2 v8 v9 v10 v11 v12 v13 v14 v15 v16 v17 v18 v19 v20 v21 v22 v23 v24 v25 v26 v27 v28 v29 v30 v31 v32 v33 v34 v35 v36 f37) ⟨callB_of 1 htx (xw_goodC kw_6_132) rfl rfl rfl (htx _ kw_1_5) (htx _ kw_6_129) ⟨by decide, by decide, by decide +kernel⟩ ⟨Nat.le_of_ble_eq_true rfl, Nat.le_of_ble_eq_true rfl⟩, (htx _ kw_6_131), (htx _ kp_M_put1)⟩ ⟨xPre_blind, va_recv hK hP (ci := 5) rfl (q0 := 1) rfl, (fun U hU hW => ⟨rfl, xPre_of hZ hS hFc hPc hDc hK U hU hW⟩)⟩ rfl rfl hl.1 rfl (lv_room (Nat.le_of_ble_eq_true rfl)) dM_print1_43 ⟨Nat.le_of_ble_eq_true rfl, Nat.le_of_ble_eq_true rfl⟩) hS (fun q _ h => hFc q h) hFc (fun u9 t H1 locs ht hvm hr9 hB hz1 hk1 hS => ?_)
  obtain ⟨hP1, hK1, hD1⟩ := hB
  rw [ht] at hP1
  obtain ⟨hP, hD⟩ := xjoin (W := [(a0, .inr (6, [.int 0, v3, v4, v5, v6, v7])), (a1, .inr (5, [v8, v9, v10, v11, v12, v13, v14, v15, v16, v17, v18, v19, v20, v21, v22, v23, v24, v25, v26, v27, v28, .ref a2, .int 4, .int 60000, v29, v30, v31, v32, v33, v34, v35, v36])), (a2, .inl (cT 0, 1024, .inl (upd (upd (upd (upd f37 0 110) 1 117) 2 108) 3 108)))]) hP hD [1, 2] [0] 1 rfl rfl (by decide) (by decide) hk1 hFc hP1 hD1
  generalize H1 = H at hP hS ⊢
  obtain ⟨hP9, hD9⟩ := xsub (wc := [(a0, .inr (6, [.int 0, v3, v4, v5, v6, v7])), (a1, .inr (5, [v8, v9, v10, v11, v12, v13, v14, v15, v16, v17, v18, v19, v20, v21, v22, v23, v24, v25, v26, v27, v28, .ref a2, .int 4, .int 60000, v29, v30, v31, v32, v33, v34, v35, v36])), (a2, .inl (cT 0, 1024, .inl (upd (upd (upd (upd f37 0 110) 1 117) 2 108) 3 108)))]) hP hD [0, 1, 2] rfl rfl (by decide)
  refine W.widen (k := 0) (n := 0) (Nat.le_of_ble_eq_true rfl) (Nat.le_of_ble_eq_true rfl) ?_
  exact W.vret hx hb hr (fun t ht hW => ⟨⟨(), rfl, trivial, by rw [ht]; exact hP9, va_K.moved hW.alike hK, hD9⟩, hS.F ht⟩) hS.2.2 dM_print1_46
set_option maxHeartbeats 400000000 in
set_option maxRecDepth 100000 in
theorem cM_letter_0 (l : Launch) (hl9 : l.stackTraces = false) (D : va_G) (cT : Nat → ClassId) (aK aV : Nat → Nat) (sz : Nat) (a0 : Nat) (a1 : Nat) (v2 : Value) (v3 : Value) (v4 : Value) (v5 : Value) (v6 : Value) (v7 : Value) (v8 : Value) (v9 : Value) (v10 : Value) (v11 : Value) (v12 : Value) (v13 : Value) (v14 : Value) (v15 : Value) (v16 : Value) (v17 : Value) (v18 : Value) (v19 : Value) (v20 : Value) (v21 : Value) (v22 : Value) (v23 : Value) (v24 : Value) (v25 : Value) (v26 : Value) (v27 : Value) (v28 : Value) (v29 : Value) (v30 : Value) (v31 : Value) (f32 : Nat → Int32) : xMet l yM_letter wyM_letter 0 0 0 0 D cT aK aV sz [.ref a0, .int 110] [(a0, .inr (5, [v2, v3, v4, .ref a1, .int 0, v5, v6, v7, v8, v9, v10, v11, v12, v13, v14, v15, v16, v17, v18, v19, v20, v21, v22, v23, v24, v25, v26, v27, v28, v29, v30, v31])), (a1, .inl (cT 0, 4096, .inl f32))] (fun A => va_Qv (fun _ : Unit => True) (fun _ t => xB D xcl cT A [(a0, .inr (5, [v2, v3, v4, .ref a1, .int 1, v5, v6, v7, v8, v9, v10, v11, v12, v13, v14, v15, v16, v17, v18, v19, v20, v21, v22, v23, v24, v25, v26, v27, v28, v29, v30, v31])), (a1, .inl (cT 0, 4096, .inl (upd f32 0 110)))] t) A) := by
  refine Met.ofW (cc := prog_13_method_9_code) (maxL := 4) (ret := none) (by decide) rfl ?_
  intro p e s m args below meth c s₁ B hml hv
  obtain ⟨rfl, hsz, hZ, hP, hK, hD0⟩ := hv
  have hx := B.exec
  have hb := B.bytes
  have hr := B.returns
  have hts := atoms_spec (ws := wyM_letter) B.pre
  have htx := fun w h => hts w (List.mem_cons_of_mem _ h)
  have hown : s.vm.findClass "ValueBenchModel" = some m.cls := findClass_of_methodNamed B.named
  have hlocks := B.notSynchronized
  subst hsz
  have hD := hD0.self (sz := s.heap.size)
  generalize hAe : va_A [(a0, .inr (5, [v2, v3, v4, .ref a1, .int 0, v5, v6, v7, v8, v9, v10, v11, v12, v13, v14, v15, v16, v17, v18, v19, v20, v21, v22, v23, v24, v25, v26, v27, v28, v29, v30, v31])), (a1, .inl (cT 0, 4096, .inl f32))] s.heap.size = A at hD hZ ⊢
  have hA : ∀ q : Nat, s.heap.size ≤ q → A q := fun q h => by rw [← hAe]; exact Or.inr h
  have hS : va_S A s.heap s.heap [] := va_S.rf
  have hP : va_P D xcl [(a0, .inr (5, [v2, v3, v4, .ref a1, .int 0, v5, v6, v7, v8, v9, v10, v11, v12, v13, v14, v15, v16, v17, v18, v19, v20, v21, v22, v23, v24, v25, v26, v27, v28, v29, v30, v31])), (a1, .inl (cT 0, 4096, .inl f32))] s.heap := hP
  have hl := lv_entry ([.ref a0, .int 110]) (n := 4) (Nat.le_of_ble_eq_true rfl)
  rw [lg_entry_eq]
  generalize (lg_sl ([.ref a0, .int 110]) ++ List.replicate (4 - (lg_sl ([.ref a0, .int 110])).length) Slot.unset).toArray = ls at hl ⊢
  have hl : lv_has ls 4 [(0, .ref a0), (1, .int 110)] := hl
  refine lv_aload_n hx hb dM_letter_0 rfl (lv_at hl 0 rfl) ?_
  refine va_get (D := D) (ci := 5) (v := .int 0) (C := "ValueBenchModel") (T := TM) (N := 32) hx hb htx inM hown hK hP 0 rfl rfl 4 (by decide) (htx _ kw_5_91) (fun _ h9 => h9) rfl dM_letter_1 ?_
  refine lv_aload_n hx hb dM_letter_4 rfl (lv_at hl 0 rfl) ?_
  refine va_get (D := D) (ci := 5) (v := .ref a1) (C := "ValueBenchModel") (T := TM) (N := 32) hx hb htx inM hown hK hP 0 rfl rfl 3 (by decide) (htx _ kw_5_90) (fun _ h9 => h9) rfl dM_letter_5 ?_
  refine va_alen (v := 4096) hx hb hK hP 1 0 rfl rfl rfl dM_letter_8 ?_
  refine lv_icmp_ne (tgt := 51) hx hb dM_letter_9 (by decide) (fun _ => ?_) (fun h => ((by revert h; decide : False)).elim)
  refine lv_aload_n hx hb dM_letter_51 rfl (lv_at hl 0 rfl) ?_
  refine va_get (D := D) (ci := 5) (v := .ref a1) (C := "ValueBenchModel") (T := TM) (N := 32) hx hb htx inM hown hK hP 0 rfl rfl 3 (by decide) (htx _ kw_5_90) (fun _ h9 => h9) rfl dM_letter_52 ?_
  refine lv_aload_n hx hb dM_letter_55 rfl (lv_at hl 0 rfl) ?_
  refine va_get (D := D) (ci := 5) (v := .int 0) (C := "ValueBenchModel") (T := TM) (N := 32) hx hb htx inM hown hK hP 0 rfl rfl 4 (by decide) (htx _ kw_5_91) (fun _ h9 => h9) rfl dM_letter_56 ?_
  refine lv_iload_n hx hb dM_letter_59 rfl (lv_at hl 1 rfl) ?_
  refine lv_i2b hx hb dM_letter_60 rfl ?_
  refine W.eq (g2 := F0 m 61 ls [.int 110, .int 0, .ref a1]) rfl ?_
  refine va_bast hx hb hK hP hD hS 1 0 rfl rfl (show ¬ ((0 : Int32) < 0 ∨ 4096 ≤ (0 : Int32).toNatClampNeg) by decide) dM_letter_61 (fun H locs hP hD hS => ?_)
  obtain ⟨hP, hD⟩ : xPD D xcl A [(a0, .inr (5, [v2, v3, v4, .ref a1, .int 0, v5, v6, v7, v8, v9, v10, v11, v12, v13, v14, v15, v16, v17, v18, v19, v20, v21, v22, v23, v24, v25, v26, v27, v28, v29, v30, v31])), (a1, .inl (cT 0, 4096, .inl (upd f32 0 110)))] H := ⟨hP, hD⟩
  refine lv_aload_n hx hb dM_letter_62 rfl (lv_at hl 0 rfl) ?_
  refine lv_dup hx hb dM_letter_63 rfl ?_
  refine va_get (D := D) (ci := 5) (v := .int 0) (C := "ValueBenchModel") (T := TM) (N := 32) hx hb htx inM hown hK hP 0 rfl rfl 4 (by decide) (htx _ kw_5_91) (fun _ h9 => h9) rfl dM_letter_64 ?_
  refine lv_iconst (v := 1) hx hb dM_letter_67 (by decide) ?_
  refine lv_iadd hx hb dM_letter_68 ?_
  refine W.eq (g2 := F0 m 69 ls [.int 1, .ref a0]) rfl ?_
  refine va_put (D := D) (ci := 5) (v := .int 1) (ty := .int) (C := "ValueBenchModel") (T := TM) (N := 32) hx hb htx inM tyM tyM_ok nmM hown hK hP hD hS 0 rfl rfl 4 (by decide) (htx _ kw_5_91) (fun _ h9 => h9) rfl (by decide +kernel) rfl rfl (Nat.le_of_ble_eq_true rfl) dM_letter_69 (fun H locs hP hD hS => ?_)
  obtain ⟨hP, hD⟩ : xPD D xcl A [(a0, .inr (5, [v2, v3, v4, .ref a1, .int 1, v5, v6, v7, v8, v9, v10, v11, v12, v13, v14, v15, v16, v17, v18, v19, v20, v21, v22, v23, v24, v25, v26, v27, v28, v29, v30, v31])), (a1, .inl (cT 0, 4096, .inl (upd f32 0 110)))] H := ⟨hP, hD⟩
  obtain ⟨hP9, hD9⟩ := xsub (wc := [(a0, .inr (5, [v2, v3, v4, .ref a1, .int 1, v5, v6, v7, v8, v9, v10, v11, v12, v13, v14, v15, v16, v17, v18, v19, v20, v21, v22, v23, v24, v25, v26, v27, v28, v29, v30, v31])), (a1, .inl (cT 0, 4096, .inl (upd f32 0 110)))]) hP hD [0, 1] rfl rfl (by decide)
  refine W.widen (k := 0) (n := 0) (Nat.le_of_ble_eq_true rfl) (Nat.le_of_ble_eq_true rfl) ?_
  exact W.vret hx hb hr (fun t ht hW => ⟨⟨(), rfl, trivial, by rw [ht]; exact hP9, va_K.moved hW.alike hK, hD9⟩, hS.F ht⟩) hS.2.2 dM_letter_72
set_option maxHeartbeats 400000000 in
set_option maxRecDepth 100000 in
theorem cM_letter_1 (l : Launch) (hl9 : l.stackTraces = false) (D : va_G) (cT : Nat → ClassId) (aK aV : Nat → Nat) (sz : Nat) (a0 : Nat) (a1 : Nat) (v2 : Value) (v3 : Value) (v4 : Value) (v5 : Value) (v6 : Value) (v7 : Value) (v8 : Value) (v9 : Value) (v10 : Value) (v11 : Value) (v12 : Value) (v13 : Value) (v14 : Value) (v15 : Value) (v16 : Value) (v17 : Value) (v18 : Value) (v19 : Value) (v20 : Value) (v21 : Value) (v22 : Value) (v23 : Value) (v24 : Value) (v25 : Value) (v26 : Value) (v27 : Value) (v28 : Value) (v29 : Value) (v30 : Value) (v31 : Value) (f32 : Nat → Int32) : xMet l yM_letter wyM_letter 0 0 0 0 D cT aK aV sz [.ref a0, .int 117] [(a0, .inr (5, [v2, v3, v4, .ref a1, .int 1, v5, v6, v7, v8, v9, v10, v11, v12, v13, v14, v15, v16, v17, v18, v19, v20, v21, v22, v23, v24, v25, v26, v27, v28, v29, v30, v31])), (a1, .inl (cT 0, 4096, .inl f32))] (fun A => va_Qv (fun _ : Unit => True) (fun _ t => xB D xcl cT A [(a0, .inr (5, [v2, v3, v4, .ref a1, .int 2, v5, v6, v7, v8, v9, v10, v11, v12, v13, v14, v15, v16, v17, v18, v19, v20, v21, v22, v23, v24, v25, v26, v27, v28, v29, v30, v31])), (a1, .inl (cT 0, 4096, .inl (upd f32 1 117)))] t) A) := by
  refine Met.ofW (cc := prog_13_method_9_code) (maxL := 4) (ret := none) (by decide) rfl ?_
  intro p e s m args below meth c s₁ B hml hv
  obtain ⟨rfl, hsz, hZ, hP, hK, hD0⟩ := hv
  have hx := B.exec
  have hb := B.bytes
  have hr := B.returns
  have hts := atoms_spec (ws := wyM_letter) B.pre
  have htx := fun w h => hts w (List.mem_cons_of_mem _ h)
  have hown : s.vm.findClass "ValueBenchModel" = some m.cls := findClass_of_methodNamed B.named
  have hlocks := B.notSynchronized
  subst hsz
  have hD := hD0.self (sz := s.heap.size)
  generalize hAe : va_A [(a0, .inr (5, [v2, v3, v4, .ref a1, .int 1, v5, v6, v7, v8, v9, v10, v11, v12, v13, v14, v15, v16, v17, v18, v19, v20, v21, v22, v23, v24, v25, v26, v27, v28, v29, v30, v31])), (a1, .inl (cT 0, 4096, .inl f32))] s.heap.size = A at hD hZ ⊢
  have hA : ∀ q : Nat, s.heap.size ≤ q → A q := fun q h => by rw [← hAe]; exact Or.inr h
  have hS : va_S A s.heap s.heap [] := va_S.rf
  have hP : va_P D xcl [(a0, .inr (5, [v2, v3, v4, .ref a1, .int 1, v5, v6, v7, v8, v9, v10, v11, v12, v13, v14, v15, v16, v17, v18, v19, v20, v21, v22, v23, v24, v25, v26, v27, v28, v29, v30, v31])), (a1, .inl (cT 0, 4096, .inl f32))] s.heap := hP
  have hl := lv_entry ([.ref a0, .int 117]) (n := 4) (Nat.le_of_ble_eq_true rfl)
  rw [lg_entry_eq]
  generalize (lg_sl ([.ref a0, .int 117]) ++ List.replicate (4 - (lg_sl ([.ref a0, .int 117])).length) Slot.unset).toArray = ls at hl ⊢
  have hl : lv_has ls 4 [(0, .ref a0), (1, .int 117)] := hl
  refine lv_aload_n hx hb dM_letter_0 rfl (lv_at hl 0 rfl) ?_
  refine va_get (D := D) (ci := 5) (v := .int 1) (C := "ValueBenchModel") (T := TM) (N := 32) hx hb htx inM hown hK hP 0 rfl rfl 4 (by decide) (htx _ kw_5_91) (fun _ h9 => h9) rfl dM_letter_1 ?_
  refine lv_aload_n hx hb dM_letter_4 rfl (lv_at hl 0 rfl) ?_
  refine va_get (D := D) (ci := 5) (v := .ref a1) (C := "ValueBenchModel") (T := TM) (N := 32) hx hb htx inM hown hK hP 0 rfl rfl 3 (by decide) (htx _ kw_5_90) (fun _ h9 => h9) rfl dM_letter_5 ?_
  refine va_alen (v := 4096) hx hb hK hP 1 0 rfl rfl rfl dM_letter_8 ?_
  refine lv_icmp_ne (tgt := 51) hx hb dM_letter_9 (by decide) (fun _ => ?_) (fun h => ((by revert h; decide : False)).elim)
  refine lv_aload_n hx hb dM_letter_51 rfl (lv_at hl 0 rfl) ?_
  refine va_get (D := D) (ci := 5) (v := .ref a1) (C := "ValueBenchModel") (T := TM) (N := 32) hx hb htx inM hown hK hP 0 rfl rfl 3 (by decide) (htx _ kw_5_90) (fun _ h9 => h9) rfl dM_letter_52 ?_
  refine lv_aload_n hx hb dM_letter_55 rfl (lv_at hl 0 rfl) ?_
  refine va_get (D := D) (ci := 5) (v := .int 1) (C := "ValueBenchModel") (T := TM) (N := 32) hx hb htx inM hown hK hP 0 rfl rfl 4 (by decide) (htx _ kw_5_91) (fun _ h9 => h9) rfl dM_letter_56 ?_
  refine lv_iload_n hx hb dM_letter_59 rfl (lv_at hl 1 rfl) ?_
  refine lv_i2b hx hb dM_letter_60 rfl ?_
  refine W.eq (g2 := F0 m 61 ls [.int 117, .int 1, .ref a1]) rfl ?_
  refine va_bast hx hb hK hP hD hS 1 0 rfl rfl (show ¬ ((1 : Int32) < 0 ∨ 4096 ≤ (1 : Int32).toNatClampNeg) by decide) dM_letter_61 (fun H locs hP hD hS => ?_)
  obtain ⟨hP, hD⟩ : xPD D xcl A [(a0, .inr (5, [v2, v3, v4, .ref a1, .int 1, v5, v6, v7, v8, v9, v10, v11, v12, v13, v14, v15, v16, v17, v18, v19, v20, v21, v22, v23, v24, v25, v26, v27, v28, v29, v30, v31])), (a1, .inl (cT 0, 4096, .inl (upd f32 1 117)))] H := ⟨hP, hD⟩
  refine lv_aload_n hx hb dM_letter_62 rfl (lv_at hl 0 rfl) ?_
  refine lv_dup hx hb dM_letter_63 rfl ?_
  refine va_get (D := D) (ci := 5) (v := .int 1) (C := "ValueBenchModel") (T := TM) (N := 32) hx hb htx inM hown hK hP 0 rfl rfl 4 (by decide) (htx _ kw_5_91) (fun _ h9 => h9) rfl dM_letter_64 ?_
  refine lv_iconst (v := 1) hx hb dM_letter_67 (by decide) ?_
  refine lv_iadd hx hb dM_letter_68 ?_
  refine W.eq (g2 := F0 m 69 ls [.int 2, .ref a0]) rfl ?_
  refine va_put (D := D) (ci := 5) (v := .int 2) (ty := .int) (C := "ValueBenchModel") (T := TM) (N := 32) hx hb htx inM tyM tyM_ok nmM hown hK hP hD hS 0 rfl rfl 4 (by decide) (htx _ kw_5_91) (fun _ h9 => h9) rfl (by decide +kernel) rfl rfl (Nat.le_of_ble_eq_true rfl) dM_letter_69 (fun H locs hP hD hS => ?_)
  obtain ⟨hP, hD⟩ : xPD D xcl A [(a0, .inr (5, [v2, v3, v4, .ref a1, .int 2, v5, v6, v7, v8, v9, v10, v11, v12, v13, v14, v15, v16, v17, v18, v19, v20, v21, v22, v23, v24, v25, v26, v27, v28, v29, v30, v31])), (a1, .inl (cT 0, 4096, .inl (upd f32 1 117)))] H := ⟨hP, hD⟩
  obtain ⟨hP9, hD9⟩ := xsub (wc := [(a0, .inr (5, [v2, v3, v4, .ref a1, .int 2, v5, v6, v7, v8, v9, v10, v11, v12, v13, v14, v15, v16, v17, v18, v19, v20, v21, v22, v23, v24, v25, v26, v27, v28, v29, v30, v31])), (a1, .inl (cT 0, 4096, .inl (upd f32 1 117)))]) hP hD [0, 1] rfl rfl (by decide)
  refine W.widen (k := 0) (n := 0) (Nat.le_of_ble_eq_true rfl) (Nat.le_of_ble_eq_true rfl) ?_
  exact W.vret hx hb hr (fun t ht hW => ⟨⟨(), rfl, trivial, by rw [ht]; exact hP9, va_K.moved hW.alike hK, hD9⟩, hS.F ht⟩) hS.2.2 dM_letter_72
set_option maxHeartbeats 400000000 in
set_option maxRecDepth 100000 in
theorem cM_letter_2 (l : Launch) (hl9 : l.stackTraces = false) (D : va_G) (cT : Nat → ClassId) (aK aV : Nat → Nat) (sz : Nat) (a0 : Nat) (a1 : Nat) (v2 : Value) (v3 : Value) (v4 : Value) (v5 : Value) (v6 : Value) (v7 : Value) (v8 : Value) (v9 : Value) (v10 : Value) (v11 : Value) (v12 : Value) (v13 : Value) (v14 : Value) (v15 : Value) (v16 : Value) (v17 : Value) (v18 : Value) (v19 : Value) (v20 : Value) (v21 : Value) (v22 : Value) (v23 : Value) (v24 : Value) (v25 : Value) (v26 : Value) (v27 : Value) (v28 : Value) (v29 : Value) (v30 : Value) (v31 : Value) (f32 : Nat → Int32) : xMet l yM_letter wyM_letter 0 0 0 0 D cT aK aV sz [.ref a0, .int 108] [(a0, .inr (5, [v2, v3, v4, .ref a1, .int 2, v5, v6, v7, v8, v9, v10, v11, v12, v13, v14, v15, v16, v17, v18, v19, v20, v21, v22, v23, v24, v25, v26, v27, v28, v29, v30, v31])), (a1, .inl (cT 0, 4096, .inl f32))] (fun A => va_Qv (fun _ : Unit => True) (fun _ t => xB D xcl cT A [(a0, .inr (5, [v2, v3, v4, .ref a1, .int 3, v5, v6, v7, v8, v9, v10, v11, v12, v13, v14, v15, v16, v17, v18, v19, v20, v21, v22, v23, v24, v25, v26, v27, v28, v29, v30, v31])), (a1, .inl (cT 0, 4096, .inl (upd f32 2 108)))] t) A) := by
  refine Met.ofW (cc := prog_13_method_9_code) (maxL := 4) (ret := none) (by decide) rfl ?_
  intro p e s m args below meth c s₁ B hml hv
  obtain ⟨rfl, hsz, hZ, hP, hK, hD0⟩ := hv
  have hx := B.exec
  have hb := B.bytes
  have hr := B.returns
  have hts := atoms_spec (ws := wyM_letter) B.pre
  have htx := fun w h => hts w (List.mem_cons_of_mem _ h)
  have hown : s.vm.findClass "ValueBenchModel" = some m.cls := findClass_of_methodNamed B.named
  have hlocks := B.notSynchronized
  subst hsz
  have hD := hD0.self (sz := s.heap.size)
  generalize hAe : va_A [(a0, .inr (5, [v2, v3, v4, .ref a1, .int 2, v5, v6, v7, v8, v9, v10, v11, v12, v13, v14, v15, v16, v17, v18, v19, v20, v21, v22, v23, v24, v25, v26, v27, v28, v29, v30, v31])), (a1, .inl (cT 0, 4096, .inl f32))] s.heap.size = A at hD hZ ⊢
  have hA : ∀ q : Nat, s.heap.size ≤ q → A q := fun q h => by rw [← hAe]; exact Or.inr h
  have hS : va_S A s.heap s.heap [] := va_S.rf
  have hP : va_P D xcl [(a0, .inr (5, [v2, v3, v4, .ref a1, .int 2, v5, v6, v7, v8, v9, v10, v11, v12, v13, v14, v15, v16, v17, v18, v19, v20, v21, v22, v23, v24, v25, v26, v27, v28, v29, v30, v31])), (a1, .inl (cT 0, 4096, .inl f32))] s.heap := hP
  have hl := lv_entry ([.ref a0, .int 108]) (n := 4) (Nat.le_of_ble_eq_true rfl)
  rw [lg_entry_eq]
  generalize (lg_sl ([.ref a0, .int 108]) ++ List.replicate (4 - (lg_sl ([.ref a0, .int 108])).length) Slot.unset).toArray = ls at hl ⊢
  have hl : lv_has ls 4 [(0, .ref a0), (1, .int 108)] := hl
  refine lv_aload_n hx hb dM_letter_0 rfl (lv_at hl 0 rfl) ?_
  refine va_get (D := D) (ci := 5) (v := .int 2) (C := "ValueBenchModel") (T := TM) (N := 32) hx hb htx inM hown hK hP 0 rfl rfl 4 (by decide) (htx _ kw_5_91) (fun _ h9 => h9) rfl dM_letter_1 ?_
  refine lv_aload_n hx hb dM_letter_4 rfl (lv_at hl 0 rfl) ?_
  refine va_get (D := D) (ci := 5) (v := .ref a1) (C := "ValueBenchModel") (T := TM) (N := 32) hx hb htx inM hown hK hP 0 rfl rfl 3 (by decide) (htx _ kw_5_90) (fun _ h9 => h9) rfl dM_letter_5 ?_
  refine va_alen (v := 4096) hx hb hK hP 1 0 rfl rfl rfl dM_letter_8 ?_
  refine lv_icmp_ne (tgt := 51) hx hb dM_letter_9 (by decide) (fun _ => ?_) (fun h => ((by revert h; decide : False)).elim)
  refine lv_aload_n hx hb dM_letter_51 rfl (lv_at hl 0 rfl) ?_
  refine va_get (D := D) (ci := 5) (v := .ref a1) (C := "ValueBenchModel") (T := TM) (N := 32) hx hb htx inM hown hK hP 0 rfl rfl 3 (by decide) (htx _ kw_5_90) (fun _ h9 => h9) rfl dM_letter_52 ?_
  refine lv_aload_n hx hb dM_letter_55 rfl (lv_at hl 0 rfl) ?_
  refine va_get (D := D) (ci := 5) (v := .int 2) (C := "ValueBenchModel") (T := TM) (N := 32) hx hb htx inM hown hK hP 0 rfl rfl 4 (by decide) (htx _ kw_5_91) (fun _ h9 => h9) rfl dM_letter_56 ?_
  refine lv_iload_n hx hb dM_letter_59 rfl (lv_at hl 1 rfl) ?_
  refine lv_i2b hx hb dM_letter_60 rfl ?_
  refine W.eq (g2 := F0 m 61 ls [.int 108, .int 2, .ref a1]) rfl ?_
  refine va_bast hx hb hK hP hD hS 1 0 rfl rfl (show ¬ ((2 : Int32) < 0 ∨ 4096 ≤ (2 : Int32).toNatClampNeg) by decide) dM_letter_61 (fun H locs hP hD hS => ?_)
  obtain ⟨hP, hD⟩ : xPD D xcl A [(a0, .inr (5, [v2, v3, v4, .ref a1, .int 2, v5, v6, v7, v8, v9, v10, v11, v12, v13, v14, v15, v16, v17, v18, v19, v20, v21, v22, v23, v24, v25, v26, v27, v28, v29, v30, v31])), (a1, .inl (cT 0, 4096, .inl (upd f32 2 108)))] H := ⟨hP, hD⟩
  refine lv_aload_n hx hb dM_letter_62 rfl (lv_at hl 0 rfl) ?_
  refine lv_dup hx hb dM_letter_63 rfl ?_
  refine va_get (D := D) (ci := 5) (v := .int 2) (C := "ValueBenchModel") (T := TM) (N := 32) hx hb htx inM hown hK hP 0 rfl rfl 4 (by decide) (htx _ kw_5_91) (fun _ h9 => h9) rfl dM_letter_64 ?_
  refine lv_iconst (v := 1) hx hb dM_letter_67 (by decide) ?_
  refine lv_iadd hx hb dM_letter_68 ?_
  refine W.eq (g2 := F0 m 69 ls [.int 3, .ref a0]) rfl ?_
  refine va_put (D := D) (ci := 5) (v := .int 3) (ty := .int) (C := "ValueBenchModel") (T := TM) (N := 32) hx hb htx inM tyM tyM_ok nmM hown hK hP hD hS 0 rfl rfl 4 (by decide) (htx _ kw_5_91) (fun _ h9 => h9) rfl (by decide +kernel) rfl rfl (Nat.le_of_ble_eq_true rfl) dM_letter_69 (fun H locs hP hD hS => ?_)
  obtain ⟨hP, hD⟩ : xPD D xcl A [(a0, .inr (5, [v2, v3, v4, .ref a1, .int 3, v5, v6, v7, v8, v9, v10, v11, v12, v13, v14, v15, v16, v17, v18, v19, v20, v21, v22, v23, v24, v25, v26, v27, v28, v29, v30, v31])), (a1, .inl (cT 0, 4096, .inl (upd f32 2 108)))] H := ⟨hP, hD⟩
  obtain ⟨hP9, hD9⟩ := xsub (wc := [(a0, .inr (5, [v2, v3, v4, .ref a1, .int 3, v5, v6, v7, v8, v9, v10, v11, v12, v13, v14, v15, v16, v17, v18, v19, v20, v21, v22, v23, v24, v25, v26, v27, v28, v29, v30, v31])), (a1, .inl (cT 0, 4096, .inl (upd f32 2 108)))]) hP hD [0, 1] rfl rfl (by decide)
  refine W.widen (k := 0) (n := 0) (Nat.le_of_ble_eq_true rfl) (Nat.le_of_ble_eq_true rfl) ?_
  exact W.vret hx hb hr (fun t ht hW => ⟨⟨(), rfl, trivial, by rw [ht]; exact hP9, va_K.moved hW.alike hK, hD9⟩, hS.F ht⟩) hS.2.2 dM_letter_72
set_option maxHeartbeats 400000000 in
set_option maxRecDepth 100000 in
theorem cM_letter_3 (l : Launch) (hl9 : l.stackTraces = false) (D : va_G) (cT : Nat → ClassId) (aK aV : Nat → Nat) (sz : Nat) (a0 : Nat) (a1 : Nat) (v2 : Value) (v3 : Value) (v4 : Value) (v5 : Value) (v6 : Value) (v7 : Value) (v8 : Value) (v9 : Value) (v10 : Value) (v11 : Value) (v12 : Value) (v13 : Value) (v14 : Value) (v15 : Value) (v16 : Value) (v17 : Value) (v18 : Value) (v19 : Value) (v20 : Value) (v21 : Value) (v22 : Value) (v23 : Value) (v24 : Value) (v25 : Value) (v26 : Value) (v27 : Value) (v28 : Value) (v29 : Value) (v30 : Value) (v31 : Value) (f32 : Nat → Int32) : xMet l yM_letter wyM_letter 0 0 0 0 D cT aK aV sz [.ref a0, .int 108] [(a0, .inr (5, [v2, v3, v4, .ref a1, .int 3, v5, v6, v7, v8, v9, v10, v11, v12, v13, v14, v15, v16, v17, v18, v19, v20, v21, v22, v23, v24, v25, v26, v27, v28, v29, v30, v31])), (a1, .inl (cT 0, 4096, .inl f32))] (fun A => va_Qv (fun _ : Unit => True) (fun _ t => xB D xcl cT A [(a0, .inr (5, [v2, v3, v4, .ref a1, .int 4, v5, v6, v7, v8, v9, v10, v11, v12, v13, v14, v15, v16, v17, v18, v19, v20, v21, v22, v23, v24, v25, v26, v27, v28, v29, v30, v31])), (a1, .inl (cT 0, 4096, .inl (upd f32 3 108)))] t) A) := by
  refine Met.ofW (cc := prog_13_method_9_code) (maxL := 4) (ret := none) (by decide) rfl ?_
  intro p e s m args below meth c s₁ B hml hv
  obtain ⟨rfl, hsz, hZ, hP, hK, hD0⟩ := hv
  have hx := B.exec
  have hb := B.bytes
  have hr := B.returns
  have hts := atoms_spec (ws := wyM_letter) B.pre
  have htx := fun w h => hts w (List.mem_cons_of_mem _ h)
  have hown : s.vm.findClass "ValueBenchModel" = some m.cls := findClass_of_methodNamed B.named
  have hlocks := B.notSynchronized
  subst hsz
  have hD := hD0.self (sz := s.heap.size)
  generalize hAe : va_A [(a0, .inr (5, [v2, v3, v4, .ref a1, .int 3, v5, v6, v7, v8, v9, v10, v11, v12, v13, v14, v15, v16, v17, v18, v19, v20, v21, v22, v23, v24, v25, v26, v27, v28, v29, v30, v31])), (a1, .inl (cT 0, 4096, .inl f32))] s.heap.size = A at hD hZ ⊢
  have hA : ∀ q : Nat, s.heap.size ≤ q → A q := fun q h => by rw [← hAe]; exact Or.inr h
  have hS : va_S A s.heap s.heap [] := va_S.rf
  have hP : va_P D xcl [(a0, .inr (5, [v2, v3, v4, .ref a1, .int 3, v5, v6, v7, v8, v9, v10, v11, v12, v13, v14, v15, v16, v17, v18, v19, v20, v21, v22, v23, v24, v25, v26, v27, v28, v29, v30, v31])), (a1, .inl (cT 0, 4096, .inl f32))] s.heap := hP
  have hl := lv_entry ([.ref a0, .int 108]) (n := 4) (Nat.le_of_ble_eq_true rfl)
  rw [lg_entry_eq]
  generalize (lg_sl ([.ref a0, .int 108]) ++ List.replicate (4 - (lg_sl ([.ref a0, .int 108])).length) Slot.unset).toArray = ls at hl ⊢
  have hl : lv_has ls 4 [(0, .ref a0), (1, .int 108)] := hl
  refine lv_aload_n hx hb dM_letter_0 rfl (lv_at hl 0 rfl) ?_
  refine va_get (D := D) (ci := 5) (v := .int 3) (C := "ValueBenchModel") (T := TM) (N := 32) hx hb htx inM hown hK hP 0 rfl rfl 4 (by decide) (htx _ kw_5_91) (fun _ h9 => h9) rfl dM_letter_1 ?_
  refine lv_aload_n hx hb dM_letter_4 rfl (lv_at hl 0 rfl) ?_
  refine va_get (D := D) (ci := 5) (v := .ref a1) (C := "ValueBenchModel") (T := TM) (N := 32) hx hb htx inM hown hK hP 0 rfl rfl 3 (by decide) (htx _ kw_5_90) (fun _ h9 => h9) rfl dM_letter_5 ?_
  refine va_alen (v := 4096) hx hb hK hP 1 0 rfl rfl rfl dM_letter_8 ?_
  refine lv_icmp_ne (tgt := 51) hx hb dM_letter_9 (by decide) (fun _ => ?_) (fun h => ((by revert h; decide : False)).elim)
  refine lv_aload_n hx hb dM_letter_51 rfl (lv_at hl 0 rfl) ?_
  refine va_get (D := D) (ci := 5) (v := .ref a1) (C := "ValueBenchModel") (T := TM) (N := 32) hx hb htx inM hown hK hP 0 rfl rfl 3 (by decide) (htx _ kw_5_90) (fun _ h9 => h9) rfl dM_letter_52 ?_
  refine lv_aload_n hx hb dM_letter_55 rfl (lv_at hl 0 rfl) ?_
  refine va_get (D := D) (ci := 5) (v := .int 3) (C := "ValueBenchModel") (T := TM) (N := 32) hx hb htx inM hown hK hP 0 rfl rfl 4 (by decide) (htx _ kw_5_91) (fun _ h9 => h9) rfl dM_letter_56 ?_
  refine lv_iload_n hx hb dM_letter_59 rfl (lv_at hl 1 rfl) ?_
  refine lv_i2b hx hb dM_letter_60 rfl ?_
  refine W.eq (g2 := F0 m 61 ls [.int 108, .int 3, .ref a1]) rfl ?_
  refine va_bast hx hb hK hP hD hS 1 0 rfl rfl (show ¬ ((3 : Int32) < 0 ∨ 4096 ≤ (3 : Int32).toNatClampNeg) by decide) dM_letter_61 (fun H locs hP hD hS => ?_)
  obtain ⟨hP, hD⟩ : xPD D xcl A [(a0, .inr (5, [v2, v3, v4, .ref a1, .int 3, v5, v6, v7, v8, v9, v10, v11, v12, v13, v14, v15, v16, v17, v18, v19, v20, v21, v22, v23, v24, v25, v26, v27, v28, v29, v30, v31])), (a1, .inl (cT 0, 4096, .inl (upd f32 3 108)))] H := ⟨hP, hD⟩
  refine lv_aload_n hx hb dM_letter_62 rfl (lv_at hl 0 rfl) ?_
  refine lv_dup hx hb dM_letter_63 rfl ?_
  refine va_get (D := D) (ci := 5) (v := .int 3) (C := "ValueBenchModel") (T := TM) (N := 32) hx hb htx inM hown hK hP 0 rfl rfl 4 (by decide) (htx _ kw_5_91) (fun _ h9 => h9) rfl dM_letter_64 ?_
  refine lv_iconst (v := 1) hx hb dM_letter_67 (by decide) ?_
  refine lv_iadd hx hb dM_letter_68 ?_
  refine W.eq (g2 := F0 m 69 ls [.int 4, .ref a0]) rfl ?_
  refine va_put (D := D) (ci := 5) (v := .int 4) (ty := .int) (C := "ValueBenchModel") (T := TM) (N := 32) hx hb htx inM tyM tyM_ok nmM hown hK hP hD hS 0 rfl rfl 4 (by decide) (htx _ kw_5_91) (fun _ h9 => h9) rfl (by decide +kernel) rfl rfl (Nat.le_of_ble_eq_true rfl) dM_letter_69 (fun H locs hP hD hS => ?_)
  obtain ⟨hP, hD⟩ : xPD D xcl A [(a0, .inr (5, [v2, v3, v4, .ref a1, .int 4, v5, v6, v7, v8, v9, v10, v11, v12, v13, v14, v15, v16, v17, v18, v19, v20, v21, v22, v23, v24, v25, v26, v27, v28, v29, v30, v31])), (a1, .inl (cT 0, 4096, .inl (upd f32 3 108)))] H := ⟨hP, hD⟩
  obtain ⟨hP9, hD9⟩ := xsub (wc := [(a0, .inr (5, [v2, v3, v4, .ref a1, .int 4, v5, v6, v7, v8, v9, v10, v11, v12, v13, v14, v15, v16, v17, v18, v19, v20, v21, v22, v23, v24, v25, v26, v27, v28, v29, v30, v31])), (a1, .inl (cT 0, 4096, .inl (upd f32 3 108)))]) hP hD [0, 1] rfl rfl (by decide)
  refine W.widen (k := 0) (n := 0) (Nat.le_of_ble_eq_true rfl) (Nat.le_of_ble_eq_true rfl) ?_
  exact W.vret hx hb hr (fun t ht hW => ⟨⟨(), rfl, trivial, by rw [ht]; exact hP9, va_K.moved hW.alike hK, hD9⟩, hS.F ht⟩) hS.2.2 dM_letter_72
set_option maxHeartbeats 400000000 in
set_option maxRecDepth 100000 in
theorem cM_fresh_5 (l : Launch) (hl9 : l.stackTraces = false) (D : va_G) (cT : Nat → ClassId) (aK aV : Nat → Nat) (sz : Nat) (a0 : Nat) (a1 : Nat) (v2 : Value) (v3 : Value) (v4 : Value) (v5 : Value) (v6 : Value) (v7 : Value) (v8 : Value) (v9 : Value) (v10 : Value) (v11 : Value) (v12 : Value) (v13 : Value) (v14 : Value) (v15 : Value) (v16 : Value) (v17 : Value) (v18 : Value) (v19 : Value) (v20 : Value) (v21 : Value) (v22 : Value) (v23 : Value) (v24 : Value) (v25 : Value) (v26 : Value) (v27 : Value) (v28 : Value) (v29 : Value) (v30 : Value) (v31 : Value) (f32 : Nat → Option Nat) (h33 : f32 1 = none) : xMet l yM_fresh wyM_fresh 2 1 6 32 D cT aK aV sz [.ref a0, .int 4] [(a0, .inr (5, [v2, .ref a1, .int 1, v3, v4, v5, v6, v7, v8, v9, v10, v11, v12, v13, v14, v15, v16, v17, v18, v19, v20, v21, v22, v23, v24, v25, v26, v27, v28, v29, v30, v31])), (a1, .inl (cT 4, 1024, .inr (.inr (.inr (.inr f32)))))] (fun A => va_Qr (fun _ : Unit => True) (fun _ q1 t => xB D xcl cT A [(a0, .inr (5, [v2, .ref a1, .int 2, v3, v4, v5, v6, v7, v8, v9, v10, v11, v12, v13, v14, v15, v16, v17, v18, v19, v20, v21, v22, v23, v24, v25, v26, v27, v28, v29, v30, v31])), (a1, .inl (cT 4, 1024, .inr (.inr (.inr (.inr (va_up f32 1 (some q1))))))), (q1, .inr (6, [.int 4, .long 0, .int 0, .int 0, .int 0, .int 1]))] t) A) := by
  refine Met.ofW (cc := prog_13_method_6_code) (maxL := 4) (ret := (some (.object "ValueBenchModel$V"))) (by decide) rfl ?_
  intro p e s m args below meth c s₁ B hml hv
  obtain ⟨rfl, hsz, hZ, hP, hK, hD0⟩ := hv
  have hx := B.exec
  have hb := B.bytes
  have hr := B.returns
  have hts := atoms_spec (ws := wyM_fresh) B.pre
  have htx := fun w h => hts w (List.mem_cons_of_mem _ h)
  have hown : s.vm.findClass "ValueBenchModel" = some m.cls := findClass_of_methodNamed B.named
  have hlocks := B.notSynchronized
  subst hsz
  have hD := hD0.self (sz := s.heap.size)
  generalize hAe : va_A [(a0, .inr (5, [v2, .ref a1, .int 1, v3, v4, v5, v6, v7, v8, v9, v10, v11, v12, v13, v14, v15, v16, v17, v18, v19, v20, v21, v22, v23, v24, v25, v26, v27, v28, v29, v30, v31])), (a1, .inl (cT 4, 1024, .inr (.inr (.inr (.inr f32)))))] s.heap.size = A at hD hZ ⊢
  have hA : ∀ q : Nat, s.heap.size ≤ q → A q := fun q h => by rw [← hAe]; exact Or.inr h
  have hS : va_S A s.heap s.heap [] := va_S.rf
  have hP : va_P D xcl [(a0, .inr (5, [v2, .ref a1, .int 1, v3, v4, v5, v6, v7, v8, v9, v10, v11, v12, v13, v14, v15, v16, v17, v18, v19, v20, v21, v22, v23, v24, v25, v26, v27, v28, v29, v30, v31])), (a1, .inl (cT 4, 1024, .inr (.inr (.inr (.inr f32)))))] s.heap := hP
  have hl := lv_entry ([.ref a0, .int 4]) (n := 4) (Nat.le_of_ble_eq_true rfl)
  rw [lg_entry_eq]
  generalize (lg_sl ([.ref a0, .int 4]) ++ List.replicate (4 - (lg_sl ([.ref a0, .int 4])).length) Slot.unset).toArray = ls at hl ⊢
  have hl : lv_has ls 4 [(0, .ref a0), (1, .int 4)] := hl
  refine lv_aload_n hx hb dM_fresh_0 rfl (lv_at hl 0 rfl) ?_
  refine va_get (D := D) (ci := 5) (v := .int 1) (C := "ValueBenchModel") (T := TM) (N := 32) hx hb htx inM hown hK hP 0 rfl rfl 2 (by decide) (htx _ kw_5_89) (fun _ h9 => h9) rfl dM_fresh_1 ?_
  refine lv_aload_n hx hb dM_fresh_4 rfl (lv_at hl 0 rfl) ?_
  refine va_get (D := D) (ci := 5) (v := .ref a1) (C := "ValueBenchModel") (T := TM) (N := 32) hx hb htx inM hown hK hP 0 rfl rfl 1 (by decide) (htx _ kw_5_88) (fun _ h9 => h9) rfl dM_fresh_5 ?_
  refine va_alen (v := 1024) hx hb hK hP 1 4 rfl rfl rfl dM_fresh_8 ?_
  refine lv_icmp_ne (tgt := 52) hx hb dM_fresh_9 (by decide) (fun _ => ?_) (fun h => ((by revert h; decide : False)).elim)
  refine lv_aload_n hx hb dM_fresh_52 rfl (lv_at hl 0 rfl) ?_
  refine va_get (D := D) (ci := 5) (v := .ref a1) (C := "ValueBenchModel") (T := TM) (N := 32) hx hb htx inM hown hK hP 0 rfl rfl 1 (by decide) (htx _ kw_5_88) (fun _ h9 => h9) rfl dM_fresh_53 ?_
  refine lv_aload_n hx hb dM_fresh_56 rfl (lv_at hl 0 rfl) ?_
  refine va_get (D := D) (ci := 5) (v := .int 1) (C := "ValueBenchModel") (T := TM) (N := 32) hx hb htx inM hown hK hP 0 rfl rfl 2 (by decide) (htx _ kw_5_89) (fun _ h9 => h9) rfl dM_fresh_57 ?_
  refine va_aldq hx hb hK hP 1 4 rfl rfl (show ¬ ((1 : Int32) < 0 ∨ 1024 ≤ (1 : Int32).toNatClampNeg) by decide) dM_fresh_60 ?_
  refine W.eq (g2 := F0 m 61 ls [va_rf (f32 1)]) rfl ?_
  rw [h33]
  refine W.eq (g2 := F0 m 61 ls [.null]) rfl ?_
  refine lv_ifnonnullN hx hb dM_fresh_61 ?_
  refine lv_aload_n hx hb dM_fresh_64 rfl (lv_at hl 0 rfl) ?_
  refine va_get (D := D) (ci := 5) (v := .ref a1) (C := "ValueBenchModel") (T := TM) (N := 32) hx hb htx inM hown hK hP 0 rfl rfl 1 (by decide) (htx _ kw_5_88) (fun _ h9 => h9) rfl dM_fresh_65 ?_
  refine lv_aload_n hx hb dM_fresh_68 rfl (lv_at hl 0 rfl) ?_
  refine va_get (D := D) (ci := 5) (v := .int 1) (C := "ValueBenchModel") (T := TM) (N := 32) hx hb htx inM hown hK hP 0 rfl rfl 2 (by decide) (htx _ kw_5_89) (fun _ h9 => h9) rfl dM_fresh_69 ?_
  refine va_new (ci := 6) (fs := [.int 0, .long 0, .int 0, .int 0, .int 0, .int 0]) (C := "ValueBenchModel$V") (T := TV) (N := 6) hx hb htx inV tyV tyV_ok hown (htx _ kw_5_80) (htx _ kw_6_17) (htx _ kw_1_19) hK hP hD hS hA rfl (by decide +kernel) (Nat.le_of_ble_eq_true rfl) (Nat.le_of_ble_eq_true rfl) dM_fresh_72 (fun q1 H hP hD hS => ?_)
  obtain ⟨hP, hD⟩ : xPD D xcl A [(a0, .inr (5, [v2, .ref a1, .int 1, v3, v4, v5, v6, v7, v8, v9, v10, v11, v12, v13, v14, v15, v16, v17, v18, v19, v20, v21, v22, v23, v24, v25, v26, v27, v28, v29, v30, v31])), (a1, .inl (cT 4, 1024, .inr (.inr (.inr (.inr f32))))), (q1, .inr (6, [.int 0, .long 0, .int 0, .int 0, .int 0, .int 0]))] H := ⟨hP, hD⟩
  refine lv_dup hx hb dM_fresh_75 rfl ?_
  obtain ⟨hPc, hDc, hFc⟩ := xcut (wc := []) hP hD hS hA [] rfl rfl (by decide)
  refine va_callv (va_runIN (As := []) (rest := [.ref q1, .int 1, .ref a1]) ⟨hx, hb, hml, hown, htx⟩ (cV_init_0 l hl9 D cT aK aV H.size q1) ⟨va_cnB (host := "ValueBenchModel") 0 htx (xw_goodC kw_6_20) rfl rfl rfl (hZ.2.1 _ (List.mem_of_getElem? (i := 3) rfl)) (htx _ kw_1_19) ⟨by decide, by decide, by decide +kernel⟩ ⟨Nat.le_of_ble_eq_true rfl, Nat.le_of_ble_eq_true rfl⟩, rfl, (htx _ kw_6_19)⟩ ⟨xPre_blind, (fun U hU hW => ⟨rfl, xPre_of hZ hS hFc hPc hDc hK U hU hW⟩)⟩ rfl rfl hl.1 rfl (lv_room (Nat.le_of_ble_eq_true rfl)) dM_fresh_76 ⟨Nat.le_of_ble_eq_true rfl, Nat.le_of_ble_eq_true rfl⟩) hS (fun q _ h => hFc q h) hFc (fun u9 t H1 locs ht hvm hr9 hB hz1 hk1 hS => ?_)
  obtain ⟨hP1, hK1, hD1⟩ := hB
  rw [ht] at hP1
  obtain ⟨hP, hD⟩ := xjoin (W := [(a0, .inr (5, [v2, .ref a1, .int 1, v3, v4, v5, v6, v7, v8, v9, v10, v11, v12, v13, v14, v15, v16, v17, v18, v19, v20, v21, v22, v23, v24, v25, v26, v27, v28, v29, v30, v31])), (a1, .inl (cT 4, 1024, .inr (.inr (.inr (.inr f32))))), (q1, .inr (6, [.int 0, .long 0, .int 0, .int 0, .int 0, .int 0]))]) hP hD [] [0, 1, 2] 3 rfl rfl (by decide) (by decide) hk1 hFc hP1 hD1
  generalize H1 = H at hP hS ⊢
  refine va_astq (r := ("ValueBenchModel$V", TV, 6)) hx hb hK hP hD hS 1 4 2 6 rfl rfl rfl rfl (show ¬ ((1 : Int32) < 0 ∨ 1024 ≤ (1 : Int32).toNatClampNeg) by decide) dM_fresh_79 (fun H locs hP hD hS => ?_)
  obtain ⟨hP, hD⟩ : xPD D xcl A [(a0, .inr (5, [v2, .ref a1, .int 1, v3, v4, v5, v6, v7, v8, v9, v10, v11, v12, v13, v14, v15, v16, v17, v18, v19, v20, v21, v22, v23, v24, v25, v26, v27, v28, v29, v30, v31])), (a1, .inl (cT 4, 1024, .inr (.inr (.inr (.inr (va_up f32 1 (some q1))))))), (q1, .inr (6, [.int 0, .long 0, .int 0, .int 0, .int 0, .int 0]))] H := ⟨hP, hD⟩
  refine lv_aload_n hx hb dM_fresh_80 rfl (lv_at hl 0 rfl) ?_
  refine va_get (D := D) (ci := 5) (v := .ref a1) (C := "ValueBenchModel") (T := TM) (N := 32) hx hb htx inM hown hK hP 0 rfl rfl 1 (by decide) (htx _ kw_5_88) (fun _ h9 => h9) rfl dM_fresh_81 ?_
  refine lv_aload_n hx hb dM_fresh_84 rfl (lv_at hl 0 rfl) ?_
  refine va_get (D := D) (ci := 5) (v := .int 1) (C := "ValueBenchModel") (T := TM) (N := 32) hx hb htx inM hown hK hP 0 rfl rfl 2 (by decide) (htx _ kw_5_89) (fun _ h9 => h9) rfl dM_fresh_85 ?_
  refine va_aldq hx hb hK hP 1 4 rfl rfl (show ¬ ((1 : Int32) < 0 ∨ 1024 ≤ (1 : Int32).toNatClampNeg) by decide) dM_fresh_88 ?_
  refine W.eq (g2 := F0 m 89 ls [.ref q1]) rfl ?_
  refine lv_astore_n (lv' := [(2, .ref q1), (0, .ref a0), (1, .int 4)]) hx hb dM_fresh_89 rfl hl (by decide) rfl (fun ls hl => ?_)
  refine lv_aload_n hx hb dM_fresh_90 rfl (lv_at hl 1 rfl) ?_
  refine lv_dup hx hb dM_fresh_91 rfl ?_
  refine va_get (D := D) (ci := 5) (v := .int 1) (C := "ValueBenchModel") (T := TM) (N := 32) hx hb htx inM hown hK hP 0 rfl rfl 2 (by decide) (htx _ kw_5_89) (fun _ h9 => h9) rfl dM_fresh_92 ?_
  refine lv_iconst (v := 1) hx hb dM_fresh_95 (by decide) ?_
  refine lv_iadd hx hb dM_fresh_96 ?_
  refine W.eq (g2 := F0 m 97 ls [.int 2, .ref a0]) rfl ?_
  refine va_put (D := D) (ci := 5) (v := .int 2) (ty := .int) (C := "ValueBenchModel") (T := TM) (N := 32) hx hb htx inM tyM tyM_ok nmM hown hK hP hD hS 0 rfl rfl 2 (by decide) (htx _ kw_5_89) (fun _ h9 => h9) rfl (by decide +kernel) rfl rfl (Nat.le_of_ble_eq_true rfl) dM_fresh_97 (fun H locs hP hD hS => ?_)
  obtain ⟨hP, hD⟩ : xPD D xcl A [(a0, .inr (5, [v2, .ref a1, .int 2, v3, v4, v5, v6, v7, v8, v9, v10, v11, v12, v13, v14, v15, v16, v17, v18, v19, v20, v21, v22, v23, v24, v25, v26, v27, v28, v29, v30, v31])), (a1, .inl (cT 4, 1024, .inr (.inr (.inr (.inr (va_up f32 1 (some q1))))))), (q1, .inr (6, [.int 0, .long 0, .int 0, .int 0, .int 0, .int 0]))] H := ⟨hP, hD⟩
  refine lv_aload_n hx hb dM_fresh_100 rfl (lv_at hl 0 rfl) ?_
  refine lv_iload_n hx hb dM_fresh_101 rfl (lv_at hl 2 rfl) ?_
  refine va_putN (D := D) (ci := 6) (v := .int 4) (ty := .int) (C := "ValueBenchModel$V") (T := TV) (N := 6) hx hb htx inV tyV tyV_ok nmV hown hK hP hD hS 2 rfl rfl 0 (by decide) ((hZ.1 _ (List.mem_of_getElem? (i := 0) rfl)).use rfl) (fun _ h9 => h9) rfl (by decide +kernel) rfl rfl (Nat.le_of_ble_eq_true rfl) dM_fresh_102 (fun H locs hP hD hS => ?_)
  obtain ⟨hP, hD⟩ : xPD D xcl A [(a0, .inr (5, [v2, .ref a1, .int 2, v3, v4, v5, v6, v7, v8, v9, v10, v11, v12, v13, v14, v15, v16, v17, v18, v19, v20, v21, v22, v23, v24, v25, v26, v27, v28, v29, v30, v31])), (a1, .inl (cT 4, 1024, .inr (.inr (.inr (.inr (va_up f32 1 (some q1))))))), (q1, .inr (6, [.int 4, .long 0, .int 0, .int 0, .int 0, .int 0]))] H := ⟨hP, hD⟩
  refine lv_aload_n hx hb dM_fresh_105 rfl (lv_at hl 0 rfl) ?_
  refine lv_lconst (v := 0) hx hb dM_fresh_106 (by decide) ?_
  refine va_putN (D := D) (ci := 6) (v := .long 0) (ty := .long) (C := "ValueBenchModel$V") (T := TV) (N := 6) hx hb htx inV tyV tyV_ok nmV hown hK hP hD hS 2 rfl rfl 1 (by decide) ((hZ.1 _ (List.mem_of_getElem? (i := 1) rfl)).use rfl) (fun _ h9 => h9) rfl (by decide +kernel) rfl rfl (Nat.le_of_ble_eq_true rfl) dM_fresh_107 (fun H locs hP hD hS => ?_)
  obtain ⟨hP, hD⟩ : xPD D xcl A [(a0, .inr (5, [v2, .ref a1, .int 2, v3, v4, v5, v6, v7, v8, v9, v10, v11, v12, v13, v14, v15, v16, v17, v18, v19, v20, v21, v22, v23, v24, v25, v26, v27, v28, v29, v30, v31])), (a1, .inl (cT 4, 1024, .inr (.inr (.inr (.inr (va_up f32 1 (some q1))))))), (q1, .inr (6, [.int 4, .long 0, .int 0, .int 0, .int 0, .int 0]))] H := ⟨hP, hD⟩
  refine lv_aload_n hx hb dM_fresh_110 rfl (lv_at hl 0 rfl) ?_
  refine lv_iconst (v := 0) hx hb dM_fresh_111 (by decide) ?_
  refine va_putN (D := D) (ci := 6) (v := .int 0) (ty := .int) (C := "ValueBenchModel$V") (T := TV) (N := 6) hx hb htx inV tyV tyV_ok nmV hown hK hP hD hS 2 rfl rfl 2 (by decide) ((hZ.1 _ (List.mem_of_getElem? (i := 2) rfl)).use rfl) (fun _ h9 => h9) rfl (by decide +kernel) rfl rfl (Nat.le_of_ble_eq_true rfl) dM_fresh_112 (fun H locs hP hD hS => ?_)
  obtain ⟨hP, hD⟩ : xPD D xcl A [(a0, .inr (5, [v2, .ref a1, .int 2, v3, v4, v5, v6, v7, v8, v9, v10, v11, v12, v13, v14, v15, v16, v17, v18, v19, v20, v21, v22, v23, v24, v25, v26, v27, v28, v29, v30, v31])), (a1, .inl (cT 4, 1024, .inr (.inr (.inr (.inr (va_up f32 1 (some q1))))))), (q1, .inr (6, [.int 4, .long 0, .int 0, .int 0, .int 0, .int 0]))] H := ⟨hP, hD⟩
  refine lv_aload_n hx hb dM_fresh_115 rfl (lv_at hl 0 rfl) ?_
  refine lv_iconst (v := 0) hx hb dM_fresh_116 (by decide) ?_
  refine va_putN (D := D) (ci := 6) (v := .int 0) (ty := .int) (C := "ValueBenchModel$V") (T := TV) (N := 6) hx hb htx inV tyV tyV_ok nmV hown hK hP hD hS 2 rfl rfl 3 (by decide) ((hZ.1 _ (List.mem_of_getElem? (i := 3) rfl)).use rfl) (fun _ h9 => h9) rfl (by decide +kernel) rfl rfl (Nat.le_of_ble_eq_true rfl) dM_fresh_117 (fun H locs hP hD hS => ?_)
  obtain ⟨hP, hD⟩ : xPD D xcl A [(a0, .inr (5, [v2, .ref a1, .int 2, v3, v4, v5, v6, v7, v8, v9, v10, v11, v12, v13, v14, v15, v16, v17, v18, v19, v20, v21, v22, v23, v24, v25, v26, v27, v28, v29, v30, v31])), (a1, .inl (cT 4, 1024, .inr (.inr (.inr (.inr (va_up f32 1 (some q1))))))), (q1, .inr (6, [.int 4, .long 0, .int 0, .int 0, .int 0, .int 0]))] H := ⟨hP, hD⟩
  refine lv_aload_n hx hb dM_fresh_120 rfl (lv_at hl 0 rfl) ?_
  refine lv_iconst (v := 0) hx hb dM_fresh_121 (by decide) ?_
  refine va_putN (D := D) (ci := 6) (v := .int 0) (ty := .int) (C := "ValueBenchModel$V") (T := TV) (N := 6) hx hb htx inV tyV tyV_ok nmV hown hK hP hD hS 2 rfl rfl 4 (by decide) ((hZ.1 _ (List.mem_of_getElem? (i := 4) rfl)).use rfl) (fun _ h9 => h9) rfl (by decide +kernel) rfl rfl (Nat.le_of_ble_eq_true rfl) dM_fresh_122 (fun H locs hP hD hS => ?_)
  obtain ⟨hP, hD⟩ : xPD D xcl A [(a0, .inr (5, [v2, .ref a1, .int 2, v3, v4, v5, v6, v7, v8, v9, v10, v11, v12, v13, v14, v15, v16, v17, v18, v19, v20, v21, v22, v23, v24, v25, v26, v27, v28, v29, v30, v31])), (a1, .inl (cT 4, 1024, .inr (.inr (.inr (.inr (va_up f32 1 (some q1))))))), (q1, .inr (6, [.int 4, .long 0, .int 0, .int 0, .int 0, .int 0]))] H := ⟨hP, hD⟩
  refine lv_aload_n hx hb dM_fresh_125 rfl (lv_at hl 0 rfl) ?_
  refine lv_iconst (v := 1) hx hb dM_fresh_126 (by decide) ?_
  refine va_putN (D := D) (ci := 6) (v := .int 1) (ty := .int) (C := "ValueBenchModel$V") (T := TV) (N := 6) hx hb htx inV tyV tyV_ok nmV hown hK hP hD hS 2 rfl rfl 5 (by decide) ((hZ.1 _ (List.mem_of_getElem? (i := 5) rfl)).use rfl) (fun _ h9 => h9) rfl (by decide +kernel) rfl rfl (Nat.le_of_ble_eq_true rfl) dM_fresh_127 (fun H locs hP hD hS => ?_)
  obtain ⟨hP, hD⟩ : xPD D xcl A [(a0, .inr (5, [v2, .ref a1, .int 2, v3, v4, v5, v6, v7, v8, v9, v10, v11, v12, v13, v14, v15, v16, v17, v18, v19, v20, v21, v22, v23, v24, v25, v26, v27, v28, v29, v30, v31])), (a1, .inl (cT 4, 1024, .inr (.inr (.inr (.inr (va_up f32 1 (some q1))))))), (q1, .inr (6, [.int 4, .long 0, .int 0, .int 0, .int 0, .int 1]))] H := ⟨hP, hD⟩
  refine lv_aload_n hx hb dM_fresh_130 rfl (lv_at hl 0 rfl) ?_
  obtain ⟨hP9, hD9⟩ := xsub (wc := [(a0, .inr (5, [v2, .ref a1, .int 2, v3, v4, v5, v6, v7, v8, v9, v10, v11, v12, v13, v14, v15, v16, v17, v18, v19, v20, v21, v22, v23, v24, v25, v26, v27, v28, v29, v30, v31])), (a1, .inl (cT 4, 1024, .inr (.inr (.inr (.inr (va_up f32 1 (some q1))))))), (q1, .inr (6, [.int 4, .long 0, .int 0, .int 0, .int 0, .int 1]))]) hP hD [0, 1, 2] rfl rfl (by decide)
  refine W.widen (k := 1) (n := 6) (Nat.le_of_ble_eq_true rfl) (Nat.le_of_ble_eq_true rfl) ?_
  exact W.aret hx hb hr (Or.inl ⟨_, rfl⟩) (Or.inr ⟨_, rfl⟩) (fun t ht hW => ⟨⟨(), q1, rfl, trivial, by rw [ht]; exact hP9, va_K.moved hW.alike hK, hD9⟩, hS.F ht⟩) hS.2.2 dM_fresh_131
set_option maxHeartbeats 400000000 in
set_option maxRecDepth 100000 in
theorem cM_string_0 (l : Launch) (hl9 : l.stackTraces = false) (D : va_G) (cT : Nat → ClassId) (aK aV : Nat → Nat) (sz : Nat) (a0 : Nat) (a1 : Nat) (v2 : Value) (v3 : Value) (v4 : Value) (v5 : Value) (v6 : Value) (v7 : Value) (v8 : Value) (v9 : Value) (v10 : Value) (v11 : Value) (v12 : Value) (v13 : Value) (v14 : Value) (v15 : Value) (v16 : Value) (v17 : Value) (v18 : Value) (v19 : Value) (v20 : Value) (v21 : Value) (v22 : Value) (v23 : Value) (v24 : Value) (v25 : Value) (v26 : Value) (v27 : Value) (v28 : Value) (v29 : Value) (v30 : Value) (f31 : Nat → Option Nat) (h32 : f31 1 = none) : xMet l yM_string wyM_string 3 1 6 55 D cT aK aV sz [.ref a0, .int 0] [(a0, .inr (5, [v2, .ref a1, .int 1, v3, .int 4, v4, v5, v6, v7, v8, v9, v10, v11, v12, v13, v14, v15, v16, v17, v18, v19, v20, v21, v22, v23, v24, v25, v26, v27, v28, v29, v30])), (a1, .inl (cT 4, 1024, .inr (.inr (.inr (.inr f31)))))] (fun A => va_Qr (fun _ : Unit => True) (fun _ r1 t => xB D xcl cT A [(a0, .inr (5, [v2, .ref a1, .int 2, v3, .int 4, v4, v5, v6, v7, v8, v9, v10, v11, v12, v13, v14, v15, v16, v17, v18, v19, v20, v21, v22, v23, v24, v25, v26, v27, v28, v29, v30])), (a1, .inl (cT 4, 1024, .inr (.inr (.inr (.inr (va_up f31 1 (some r1))))))), (r1, .inr (6, [.int 4, .long 0, .int 0, .int 4, .int 0, .int 5]))] t) A) := by
  refine Met.ofW (cc := prog_13_method_10_code) (maxL := 3) (ret := (some (.object "ValueBenchModel$V"))) (by decide) rfl ?_
  intro p e s m args below meth c s₁ B hml hv
  obtain ⟨rfl, hsz, hZ, hP, hK, hD0⟩ := hv
  have hx := B.exec
  have hb := B.bytes
  have hr := B.returns
  have hts := atoms_spec (ws := wyM_string) B.pre
  have htx := fun w h => hts w (List.mem_cons_of_mem _ h)
  have hown : s.vm.findClass "ValueBenchModel" = some m.cls := findClass_of_methodNamed B.named
  have hlocks := B.notSynchronized
  subst hsz
  have hD := hD0.self (sz := s.heap.size)
  generalize hAe : va_A [(a0, .inr (5, [v2, .ref a1, .int 1, v3, .int 4, v4, v5, v6, v7, v8, v9, v10, v11, v12, v13, v14, v15, v16, v17, v18, v19, v20, v21, v22, v23, v24, v25, v26, v27, v28, v29, v30])), (a1, .inl (cT 4, 1024, .inr (.inr (.inr (.inr f31)))))] s.heap.size = A at hD hZ ⊢
  have hA : ∀ q : Nat, s.heap.size ≤ q → A q := fun q h => by rw [← hAe]; exact Or.inr h
  have hS : va_S A s.heap s.heap [] := va_S.rf
  have hP : va_P D xcl [(a0, .inr (5, [v2, .ref a1, .int 1, v3, .int 4, v4, v5, v6, v7, v8, v9, v10, v11, v12, v13, v14, v15, v16, v17, v18, v19, v20, v21, v22, v23, v24, v25, v26, v27, v28, v29, v30])), (a1, .inl (cT 4, 1024, .inr (.inr (.inr (.inr f31)))))] s.heap := hP
  have hl := lv_entry ([.ref a0, .int 0]) (n := 3) (Nat.le_of_ble_eq_true rfl)
  rw [lg_entry_eq]
  generalize (lg_sl ([.ref a0, .int 0]) ++ List.replicate (3 - (lg_sl ([.ref a0, .int 0])).length) Slot.unset).toArray = ls at hl ⊢
  have hl : lv_has ls 3 [(0, .ref a0), (1, .int 0)] := hl
  refine lv_aload_n hx hb dM_string_0 rfl (lv_at hl 0 rfl) ?_
  refine lv_iconst (v := 4) hx hb dM_string_1 (by decide) ?_
  obtain ⟨hPc, hDc, hFc⟩ := xcut (wc := [(a0, .inr (5, [v2, .ref a1, .int 1, v3, .int 4, v4, v5, v6, v7, v8, v9, v10, v11, v12, v13, v14, v15, v16, v17, v18, v19, v20, v21, v22, v23, v24, v25, v26, v27, v28, v29, v30])), (a1, .inl (cT 4, 1024, .inr (.inr (.inr (.inr f31)))))]) hP hD hS hA [0, 1] rfl rfl (by decide)
  refine va_callr (va_runV (C := "ValueBenchModel") (As := [.int 4]) (rest := []) ⟨hx, hb, hml, hown, htx⟩ (cM_fresh_5 l hl9 D cT aK aV s.heap.size a0 a1 v2 v3 (.int 4) v4 v5 v6 v7 v8 v9 v10 v11 v12 v13 v14 v15 v16 v17 v18 v19 v20 v21 v22 v23 v24 v25 v26 v27 v28 v29 v30 f31 (by first | rfl | exact h32)) ⟨callB_of 1 htx (xw_goodC kw_6_16) rfl rfl rfl (htx _ kw_1_5) (htx _ kw_6_13) ⟨by decide, by decide, by decide +kernel⟩ ⟨Nat.le_of_ble_eq_true rfl, Nat.le_of_ble_eq_true rfl⟩, (htx _ kw_6_15), (htx _ kp_M_fresh)⟩ ⟨xPre_blind, va_recv hK hP (ci := 5) rfl (q0 := 0) rfl, (fun U hU hW => ⟨rfl, xPre_of hZ hS hFc hPc hDc hK U hU hW⟩)⟩ rfl rfl hl.1 rfl (lv_room (Nat.le_of_ble_eq_true rfl)) dM_string_2 ⟨Nat.le_of_ble_eq_true rfl, Nat.le_of_ble_eq_true rfl⟩) hS (fun q _ h => hFc q h) hFc (fun u9 r1 t H1 locs ht hvm hr9 hB hz1 hk1 hS => ?_)
  obtain ⟨hP1, hK1, hD1⟩ := hB
  rw [ht] at hP1
  obtain ⟨hP, hD⟩ := xjoin (W := [(a0, .inr (5, [v2, .ref a1, .int 2, v3, .int 4, v4, v5, v6, v7, v8, v9, v10, v11, v12, v13, v14, v15, v16, v17, v18, v19, v20, v21, v22, v23, v24, v25, v26, v27, v28, v29, v30])), (a1, .inl (cT 4, 1024, .inr (.inr (.inr (.inr (va_up f31 1 (some r1))))))), (r1, .inr (6, [.int 4, .long 0, .int 0, .int 0, .int 0, .int 1]))]) hP hD [0, 1] [] 0 rfl rfl (by decide) (by decide) hk1 hFc hP1 hD1
  generalize H1 = H at hP hS ⊢
  refine W.eq (g2 := F0 m 5 ls [.ref r1]) rfl ?_
  refine lv_astore_n (lv' := [(2, .ref r1), (0, .ref a0), (1, .int 0)]) hx hb dM_string_5 rfl hl (by decide) rfl (fun ls hl => ?_)
  refine lv_aload_n hx hb dM_string_6 rfl (lv_at hl 0 rfl) ?_
  refine lv_iload_n hx hb dM_string_7 rfl (lv_at hl 2 rfl) ?_
  refine va_putN (D := D) (ci := 6) (v := .int 0) (ty := .int) (C := "ValueBenchModel$V") (T := TV) (N := 6) hx hb htx inV tyV tyV_ok nmV hown hK hP hD hS 2 rfl rfl 2 (by decide) ((hZ.1 _ (List.mem_of_getElem? (i := 2) rfl)).use rfl) (fun _ h9 => h9) rfl (by decide +kernel) rfl rfl (Nat.le_of_ble_eq_true rfl) dM_string_8 (fun H locs hP hD hS => ?_)
  obtain ⟨hP, hD⟩ : xPD D xcl A [(a0, .inr (5, [v2, .ref a1, .int 2, v3, .int 4, v4, v5, v6, v7, v8, v9, v10, v11, v12, v13, v14, v15, v16, v17, v18, v19, v20, v21, v22, v23, v24, v25, v26, v27, v28, v29, v30])), (a1, .inl (cT 4, 1024, .inr (.inr (.inr (.inr (va_up f31 1 (some r1))))))), (r1, .inr (6, [.int 4, .long 0, .int 0, .int 0, .int 0, .int 1]))] H := ⟨hP, hD⟩
  refine lv_aload_n hx hb dM_string_11 rfl (lv_at hl 0 rfl) ?_
  refine lv_aload_n hx hb dM_string_12 rfl (lv_at hl 1 rfl) ?_
  refine va_get (D := D) (ci := 5) (v := .int 4) (C := "ValueBenchModel") (T := TM) (N := 32) hx hb htx inM hown hK hP 0 rfl rfl 4 (by decide) (htx _ kw_5_91) (fun _ h9 => h9) rfl dM_string_13 ?_
  refine lv_iload_n hx hb dM_string_16 rfl (lv_at hl 2 rfl) ?_
  refine lv_isub hx hb dM_string_17 ?_
  refine W.eq (g2 := F0 m 18 ls [.int 4, .ref r1]) rfl ?_
  refine va_putN (D := D) (ci := 6) (v := .int 4) (ty := .int) (C := "ValueBenchModel$V") (T := TV) (N := 6) hx hb htx inV tyV tyV_ok nmV hown hK hP hD hS 2 rfl rfl 3 (by decide) ((hZ.1 _ (List.mem_of_getElem? (i := 3) rfl)).use rfl) (fun _ h9 => h9) rfl (by decide +kernel) rfl rfl (Nat.le_of_ble_eq_true rfl) dM_string_18 (fun H locs hP hD hS => ?_)
  obtain ⟨hP, hD⟩ : xPD D xcl A [(a0, .inr (5, [v2, .ref a1, .int 2, v3, .int 4, v4, v5, v6, v7, v8, v9, v10, v11, v12, v13, v14, v15, v16, v17, v18, v19, v20, v21, v22, v23, v24, v25, v26, v27, v28, v29, v30])), (a1, .inl (cT 4, 1024, .inr (.inr (.inr (.inr (va_up f31 1 (some r1))))))), (r1, .inr (6, [.int 4, .long 0, .int 0, .int 4, .int 0, .int 1]))] H := ⟨hP, hD⟩
  refine lv_aload_n hx hb dM_string_21 rfl (lv_at hl 0 rfl) ?_
  refine lv_iconst (v := 1) hx hb dM_string_22 (by decide) ?_
  refine lv_aload_n hx hb dM_string_23 rfl (lv_at hl 0 rfl) ?_
  refine va_getN (D := D) (ci := 6) (v := .int 4) (C := "ValueBenchModel$V") (T := TV) (N := 6) hx hb htx inV hown hK hP 2 rfl rfl 3 (by decide) ((hZ.1 _ (List.mem_of_getElem? (i := 3) rfl)).use rfl) (fun _ h9 => h9) rfl dM_string_24 ?_
  refine lv_iadd hx hb dM_string_27 ?_
  refine W.eq (g2 := F0 m 28 ls [.int 5, .ref r1]) rfl ?_
  refine va_putN (D := D) (ci := 6) (v := .int 5) (ty := .int) (C := "ValueBenchModel$V") (T := TV) (N := 6) hx hb htx inV tyV tyV_ok nmV hown hK hP hD hS 2 rfl rfl 5 (by decide) ((hZ.1 _ (List.mem_of_getElem? (i := 5) rfl)).use rfl) (fun _ h9 => h9) rfl (by decide +kernel) rfl rfl (Nat.le_of_ble_eq_true rfl) dM_string_28 (fun H locs hP hD hS => ?_)
  obtain ⟨hP, hD⟩ : xPD D xcl A [(a0, .inr (5, [v2, .ref a1, .int 2, v3, .int 4, v4, v5, v6, v7, v8, v9, v10, v11, v12, v13, v14, v15, v16, v17, v18, v19, v20, v21, v22, v23, v24, v25, v26, v27, v28, v29, v30])), (a1, .inl (cT 4, 1024, .inr (.inr (.inr (.inr (va_up f31 1 (some r1))))))), (r1, .inr (6, [.int 4, .long 0, .int 0, .int 4, .int 0, .int 5]))] H := ⟨hP, hD⟩
  refine lv_aload_n hx hb dM_string_31 rfl (lv_at hl 0 rfl) ?_
  refine va_getN (D := D) (ci := 6) (v := .int 5) (C := "ValueBenchModel$V") (T := TV) (N := 6) hx hb htx inV hown hK hP 2 rfl rfl 5 (by decide) ((hZ.1 _ (List.mem_of_getElem? (i := 5) rfl)).use rfl) (fun _ h9 => h9) rfl dM_string_32 ?_
  refine lv_ldc hx hb hown (htx _ kw_6_62) dM_string_35 ?_
  refine lv_icmp_le (tgt := 45) hx hb dM_string_37 (by decide) (fun _ => ?_) (fun h => ((by revert h; decide : False)).elim)
  refine lv_aload_n hx hb dM_string_45 rfl (lv_at hl 0 rfl) ?_
  obtain ⟨hP9, hD9⟩ := xsub (wc := [(a0, .inr (5, [v2, .ref a1, .int 2, v3, .int 4, v4, v5, v6, v7, v8, v9, v10, v11, v12, v13, v14, v15, v16, v17, v18, v19, v20, v21, v22, v23, v24, v25, v26, v27, v28, v29, v30])), (a1, .inl (cT 4, 1024, .inr (.inr (.inr (.inr (va_up f31 1 (some r1))))))), (r1, .inr (6, [.int 4, .long 0, .int 0, .int 4, .int 0, .int 5]))]) hP hD [0, 1, 2] rfl rfl (by decide)
  refine W.widen (k := 1) (n := 6) (Nat.le_of_ble_eq_true rfl) (Nat.le_of_ble_eq_true rfl) ?_
  exact W.aret hx hb hr (Or.inl ⟨_, rfl⟩) (Or.inr ⟨_, rfl⟩) (fun t ht hW => ⟨⟨(), r1, rfl, trivial, by rw [ht]; exact hP9, va_K.moved hW.alike hK, hD9⟩, hS.F ht⟩) hS.2.2 dM_string_46
set_option maxHeartbeats 400000000 in
set_option maxRecDepth 100000 in
theorem cM_told_0 (l : Launch) (hl9 : l.stackTraces = false) (D : va_G) (cT : Nat → ClassId) (aK aV : Nat → Nat) (sz : Nat) (a0 : Nat) (a1 : Nat) (a2 : Nat) (a3 : Nat) (a4 : Nat) (v5 : Value) (v6 : Value) (v7 : Value) (v8 : Value) (v9 : Value) (v10 : Value) (v11 : Value) (v12 : Value) (v13 : Value) (v14 : Value) (v15 : Value) (v16 : Value) (v17 : Value) (v18 : Value) (v19 : Value) (v20 : Value) (v21 : Value) (x22 : Int32) (v23 : Value) (v24 : Value) (v25 : Value) (v26 : Value) (v27 : Value) (v28 : Value) (v29 : Value) (v30 : Value) (v31 : Value) (v32 : Value) (v33 : Value) (v34 : Value) (v35 : Value) (f36 : Nat → Int32) (f37 : Nat → Int32) (f38 : Nat → Option Nat) (h39 : f38 1 = none) : xMet l yM_told wyM_told 6 1 6 129 D cT aK aV sz [.ref a0, .ref a1] [(a0, .inr (5, [v5, .ref a4, .int 1, .ref a3, .int 0, v6, v7, v8, v9, v10, v11, v12, v13, v14, v15, v16, v17, v18, v19, v20, v21, .ref a2, .int 0, .int x22, v23, v24, v25, v26, v27, v28, v29, v30])), (a1, .inr (6, [.int 0, v31, v32, v33, v34, v35])), (a2, .inl (cT 0, 1024, .inl f36)), (a3, .inl (cT 0, 4096, .inl f37)), (a4, .inl (cT 4, 1024, .inr (.inr (.inr (.inr f38)))))] (fun A => va_Qr (fun _ : Unit => True) (fun _ r1 t => xB D xcl cT A [(a0, .inr (5, [v5, .ref a4, .int 2, .ref a3, .int 4, v6, v7, v8, v9, v10, v11, v12, v13, v14, v15, v16, v17, v18, v19, v20, v21, .ref a2, .int 0, .int x22, v23, v24, v25, v26, v27, v28, v29, v30])), (a1, .inr (6, [.int 0, v31, v32, v33, v34, v35])), (a2, .inl (cT 0, 1024, .inl (upd (upd (upd (upd f36 0 110) 1 117) 2 108) 3 108))), (a3, .inl (cT 0, 4096, .inl (upd (upd (upd (upd f37 0 110) 1 117) 2 108) 3 108))), (a4, .inl (cT 4, 1024, .inr (.inr (.inr (.inr (va_up f38 1 (some r1))))))), (r1, .inr (6, [.int 4, .long 0, .int 0, .int 4, .int 0, .int 5]))] t) A) := by
  refine Met.ofW (cc := prog_13_method_47_code) (maxL := 6) (ret := (some (.object "ValueBenchModel$V"))) (by decide) rfl ?_
  intro p e s m args below meth c s₁ B hml hv
  obtain ⟨rfl, hsz, hZ, hP, hK, hD0⟩ := hv
  have hx := B.exec
  have hb := B.bytes
  have hr := B.returns
  have hts := atoms_spec (ws := wyM_told) B.pre
  have htx := fun w h => hts w (List.mem_cons_of_mem _ h)
  have hown : s.vm.findClass "ValueBenchModel" = some m.cls := findClass_of_methodNamed B.named
  have hlocks := B.notSynchronized
  subst hsz
  have hD := hD0.self (sz := s.heap.size)
  generalize hAe : va_A [(a0, .inr (5, [v5, .ref a4, .int 1, .ref a3, .int 0, v6, v7, v8, v9, v10, v11, v12, v13, v14, v15, v16, v17, v18, v19, v20, v21, .ref a2, .int 0, .int x22, v23, v24, v25, v26, v27, v28, v29, v30])), (a1, .inr (6, [.int 0, v31, v32, v33, v34, v35])), (a2, .inl (cT 0, 1024, .inl f36)), (a3, .inl (cT 0, 4096, .inl f37)), (a4, .inl (cT 4, 1024, .inr (.inr (.inr (.inr f38)))))] s.heap.size = A at hD hZ ⊢
  have hA : ∀ q : Nat, s.heap.size ≤ q → A q := fun q h => by rw [← hAe]; exact Or.inr h
  have hS : va_S A s.heap s.heap [] := va_S.rf
  have hP : va_P D xcl [(a0, .inr (5, [v5, .ref a4, .int 1, .ref a3, .int 0, v6, v7, v8, v9, v10, v11, v12, v13, v14, v15, v16, v17, v18, v19, v20, v21, .ref a2, .int 0, .int x22, v23, v24, v25, v26, v27, v28, v29, v30])), (a1, .inr (6, [.int 0, v31, v32, v33, v34, v35])), (a2, .inl (cT 0, 1024, .inl f36)), (a3, .inl (cT 0, 4096, .inl f37)), (a4, .inl (cT 4, 1024, .inr (.inr (.inr (.inr f38)))))] s.heap := hP
  have hl := lv_entry ([.ref a0, .ref a1]) (n := 6) (Nat.le_of_ble_eq_true rfl)
  rw [lg_entry_eq]
  generalize (lg_sl ([.ref a0, .ref a1]) ++ List.replicate (6 - (lg_sl ([.ref a0, .ref a1])).length) Slot.unset).toArray = ls at hl ⊢
  have hl : lv_has ls 6 [(0, .ref a0), (1, .ref a1)] := hl
  refine lv_aload_n hx hb dM_told_0 rfl (lv_at hl 0 rfl) ?_
  refine va_get (D := D) (ci := 5) (v := .int 0) (C := "ValueBenchModel") (T := TM) (N := 32) hx hb htx inM hown hK hP 0 rfl rfl 22 (by decide) (htx _ kw_5_109) (fun _ h9 => h9) rfl dM_told_1 ?_
  refine lv_istore_n (lv' := [(2, .int 0), (0, .ref a0), (1, .ref a1)]) hx hb dM_told_4 rfl hl (by decide) rfl (fun ls hl => ?_)
  refine lv_aload_n hx hb dM_told_5 rfl (lv_at hl 1 rfl) ?_
  refine va_get (D := D) (ci := 5) (v := .int x22) (C := "ValueBenchModel") (T := TM) (N := 32) hx hb htx inM hown hK hP 0 rfl rfl 23 (by decide) (htx _ kw_5_110) (fun _ h9 => h9) rfl dM_told_6 ?_
  refine lv_istore_n (lv' := [(3, .int x22), (2, .int 0), (0, .ref a0), (1, .ref a1)]) hx hb dM_told_9 rfl hl (by decide) rfl (fun ls hl => ?_)
  refine lv_aload_n hx hb dM_told_10 rfl (lv_at hl 2 rfl) ?_
  refine lv_iload_n hx hb dM_told_11 rfl (lv_at hl 1 rfl) ?_
  refine lv_ldc hx hb hown (htx _ kw_6_62) dM_told_12 ?_
  refine lv_iadd hx hb dM_told_14 ?_
  refine W.eq (g2 := F0 m 15 ls [.int 60000, .ref a0]) rfl ?_
  refine va_put (D := D) (ci := 5) (v := .int 60000) (ty := .int) (C := "ValueBenchModel") (T := TM) (N := 32) hx hb htx inM tyM tyM_ok nmM hown hK hP hD hS 0 rfl rfl 23 (by decide) (htx _ kw_5_110) (fun _ h9 => h9) rfl (by decide +kernel) rfl rfl (Nat.le_of_ble_eq_true rfl) dM_told_15 (fun H locs hP hD hS => ?_)
  obtain ⟨hP, hD⟩ : xPD D xcl A [(a0, .inr (5, [v5, .ref a4, .int 1, .ref a3, .int 0, v6, v7, v8, v9, v10, v11, v12, v13, v14, v15, v16, v17, v18, v19, v20, v21, .ref a2, .int 0, .int 60000, v23, v24, v25, v26, v27, v28, v29, v30])), (a1, .inr (6, [.int 0, v31, v32, v33, v34, v35])), (a2, .inl (cT 0, 1024, .inl f36)), (a3, .inl (cT 0, 4096, .inl f37)), (a4, .inl (cT 4, 1024, .inr (.inr (.inr (.inr f38)))))] H := ⟨hP, hD⟩
  refine lv_aload_n hx hb dM_told_18 rfl (lv_at hl 2 rfl) ?_
  refine va_get (D := D) (ci := 5) (v := .int 0) (C := "ValueBenchModel") (T := TM) (N := 32) hx hb htx inM hown hK hP 0 rfl rfl 4 (by decide) (htx _ kw_5_91) (fun _ h9 => h9) rfl dM_told_19 ?_
  refine lv_istore (lv' := [(4, .int 0), (3, .int x22), (2, .int 0), (0, .ref a0), (1, .ref a1)]) hx hb dM_told_22 hl (by decide) rfl (fun ls hl => ?_)
  refine lv_aload_n hx hb dM_told_24 rfl (lv_at hl 3 rfl) ?_
  refine lv_aload_n hx hb dM_told_25 rfl (lv_at hl 4 rfl) ?_
  obtain ⟨hPc, hDc, hFc⟩ := xcut (wc := [(a1, .inr (6, [.int 0, v31, v32, v33, v34, v35])), (a0, .inr (5, [v5, .ref a4, .int 1, .ref a3, .int 0, v6, v7, v8, v9, v10, v11, v12, v13, v14, v15, v16, v17, v18, v19, v20, v21, .ref a2, .int 0, .int 60000, v23, v24, v25, v26, v27, v28, v29, v30])), (a2, .inl (cT 0, 1024, .inl f36))]) hP hD hS hA [1, 0, 2] rfl rfl (by decide)
  refine va_callv (va_runV (C := "ValueBenchModel") (As := [.ref a1]) (rest := []) ⟨hx, hb, hml, hown, htx⟩ (cM_print1_2 l hl9 D cT aK aV H.size a1 a0 a2 v31 v32 v33 v34 v35 v5 (.ref a4) (.int 1) (.ref a3) (.int 0) v6 v7 v8 v9 v10 v11 v12 v13 v14 v15 v16 v17 v18 v19 v20 v21 v23 v24 v25 v26 v27 v28 v29 v30 f36) ⟨callB_of 1 htx (xw_goodC kw_6_128) rfl rfl rfl (htx _ kw_1_5) (htx _ kw_6_125) ⟨by decide, by decide, by decide +kernel⟩ ⟨Nat.le_of_ble_eq_true rfl, Nat.le_of_ble_eq_true rfl⟩, (htx _ kw_6_127), (htx _ kp_M_print1)⟩ ⟨xPre_blind, va_recv hK hP (ci := 5) rfl (q0 := 0) rfl, (fun U hU hW => ⟨rfl, xPre_of hZ hS hFc hPc hDc hK U hU hW⟩)⟩ rfl rfl hl.1 rfl (lv_room (Nat.le_of_ble_eq_true rfl)) dM_told_26 ⟨Nat.le_of_ble_eq_true rfl, Nat.le_of_ble_eq_true rfl⟩) hS (fun q _ h => hFc q h) hFc (fun u9 t H1 locs ht hvm hr9 hB hz1 hk1 hS => ?_)
  obtain ⟨hP1, hK1, hD1⟩ := hB
  rw [ht] at hP1
  obtain ⟨hP, hD⟩ := xjoin (W := [(a3, .inl (cT 0, 4096, .inl f37)), (a4, .inl (cT 4, 1024, .inr (.inr (.inr (.inr f38))))), (a1, .inr (6, [.int 0, v31, v32, v33, v34, v35])), (a0, .inr (5, [v5, .ref a4, .int 1, .ref a3, .int 0, v6, v7, v8, v9, v10, v11, v12, v13, v14, v15, v16, v17, v18, v19, v20, v21, .ref a2, .int 4, .int 60000, v23, v24, v25, v26, v27, v28, v29, v30])), (a2, .inl (cT 0, 1024, .inl (upd (upd (upd (upd f36 0 110) 1 117) 2 108) 3 108)))]) hP hD [1, 0, 2] [3, 4] 2 rfl rfl (by decide) (by decide) hk1 hFc hP1 hD1
  generalize H1 = H at hP hS ⊢
  refine lv_iload_n hx hb dM_told_29 rfl (lv_at hl 2 rfl) ?_
  refine lv_istore (lv' := [(5, .int 0), (4, .int 0), (3, .int x22), (2, .int 0), (0, .ref a0), (1, .ref a1)]) hx hb dM_told_30 hl (by decide) rfl (fun ls hl => ?_)
  refine lv_iload hx hb dM_told_32 (lv_at hl 0 rfl) ?_
  refine lv_aload_n hx hb dM_told_34 rfl (lv_at hl 4 rfl) ?_
  refine va_get (D := D) (ci := 5) (v := .int 4) (C := "ValueBenchModel") (T := TM) (N := 32) hx hb htx inM hown hK hP 3 rfl rfl 22 (by decide) (htx _ kw_5_109) (fun _ h9 => h9) rfl dM_told_35 ?_
  refine lv_icmp_ge (tgt := 58) hx hb dM_told_38 (by decide) (fun h => ((by revert h; decide : False)).elim) (fun _ => ?_)
  refine lv_aload_n hx hb dM_told_41 rfl (lv_at hl 4 rfl) ?_
  refine lv_aload_n hx hb dM_told_42 rfl (lv_at hl 4 rfl) ?_
  refine va_get (D := D) (ci := 5) (v := .ref a2) (C := "ValueBenchModel") (T := TM) (N := 32) hx hb htx inM hown hK hP 3 rfl rfl 21 (by decide) (htx _ kw_5_108) (fun _ h9 => h9) rfl dM_told_43 ?_
  refine lv_iload hx hb dM_told_46 (lv_at hl 0 rfl) ?_
  refine va_bald hx hb hK hP 4 0 rfl rfl (show ¬ ((0 : Int32) < 0 ∨ 1024 ≤ (0 : Int32).toNatClampNeg) by decide) dM_told_48 ?_
  refine W.eq (g2 := F0 m 49 ls [.int 110, .ref a0]) rfl ?_
  obtain ⟨hPc, hDc, hFc⟩ := xcut (wc := [(a0, .inr (5, [v5, .ref a4, .int 1, .ref a3, .int 0, v6, v7, v8, v9, v10, v11, v12, v13, v14, v15, v16, v17, v18, v19, v20, v21, .ref a2, .int 4, .int 60000, v23, v24, v25, v26, v27, v28, v29, v30])), (a3, .inl (cT 0, 4096, .inl f37))]) hP hD hS hA [3, 0] rfl rfl (by decide)
  refine va_callv (va_runV (C := "ValueBenchModel") (As := [.int 110]) (rest := []) ⟨hx, hb, hml, hown, htx⟩ (cM_letter_0 l hl9 D cT aK aV H.size a0 a3 v5 (.ref a4) (.int 1) v6 v7 v8 v9 v10 v11 v12 v13 v14 v15 v16 v17 v18 v19 v20 v21 (.ref a2) (.int 4) (.int 60000) v23 v24 v25 v26 v27 v28 v29 v30 f37) ⟨callB_of 1 htx (xw_goodC kw_6_54) rfl rfl rfl (htx _ kw_1_5) (htx _ kw_6_51) ⟨by decide, by decide, by decide +kernel⟩ ⟨Nat.le_of_ble_eq_true rfl, Nat.le_of_ble_eq_true rfl⟩, (htx _ kw_6_53), (htx _ kp_M_letter)⟩ ⟨xPre_blind, va_recv hK hP (ci := 5) rfl (q0 := 3) rfl, (fun U hU hW => ⟨rfl, xPre_of hZ hS hFc hPc hDc hK U hU hW⟩)⟩ rfl rfl hl.1 rfl (lv_room (Nat.le_of_ble_eq_true rfl)) dM_told_49 ⟨Nat.le_of_ble_eq_true rfl, Nat.le_of_ble_eq_true rfl⟩) hS (fun q _ h => hFc q h) hFc (fun u9 t H1 locs ht hvm hr9 hB hz1 hk1 hS => ?_)
  obtain ⟨hP1, hK1, hD1⟩ := hB
  rw [ht] at hP1
  obtain ⟨hP, hD⟩ := xjoin (W := [(a4, .inl (cT 4, 1024, .inr (.inr (.inr (.inr f38))))), (a1, .inr (6, [.int 0, v31, v32, v33, v34, v35])), (a2, .inl (cT 0, 1024, .inl (upd (upd (upd (upd f36 0 110) 1 117) 2 108) 3 108))), (a0, .inr (5, [v5, .ref a4, .int 1, .ref a3, .int 1, v6, v7, v8, v9, v10, v11, v12, v13, v14, v15, v16, v17, v18, v19, v20, v21, .ref a2, .int 4, .int 60000, v23, v24, v25, v26, v27, v28, v29, v30])), (a3, .inl (cT 0, 4096, .inl (upd f37 0 110)))]) hP hD [3, 0] [1, 2, 4] 3 rfl rfl (by decide) (by decide) hk1 hFc hP1 hD1
  generalize H1 = H at hP hS ⊢
  refine lv_iinc (v := 1) (lv' := [(5, .int 1), (4, .int 0), (3, .int x22), (2, .int 0), (0, .ref a0), (1, .ref a1)]) hx hb dM_told_52 hl (k := 0) rfl (by decide) (by decide) rfl (fun ls hl => ?_)
  refine lv_goto (tgt := 32) hx hb dM_told_55 (by decide) ?_
  refine lv_iload hx hb dM_told_32 (lv_at hl 0 rfl) ?_
  refine lv_aload_n hx hb dM_told_34 rfl (lv_at hl 4 rfl) ?_
  refine va_get (D := D) (ci := 5) (v := .int 4) (C := "ValueBenchModel") (T := TM) (N := 32) hx hb htx inM hown hK hP 3 rfl rfl 22 (by decide) (htx _ kw_5_109) (fun _ h9 => h9) rfl dM_told_35 ?_
  refine lv_icmp_ge (tgt := 58) hx hb dM_told_38 (by decide) (fun h => ((by revert h; decide : False)).elim) (fun _ => ?_)
  refine lv_aload_n hx hb dM_told_41 rfl (lv_at hl 4 rfl) ?_
  refine lv_aload_n hx hb dM_told_42 rfl (lv_at hl 4 rfl) ?_
  refine va_get (D := D) (ci := 5) (v := .ref a2) (C := "ValueBenchModel") (T := TM) (N := 32) hx hb htx inM hown hK hP 3 rfl rfl 21 (by decide) (htx _ kw_5_108) (fun _ h9 => h9) rfl dM_told_43 ?_
  refine lv_iload hx hb dM_told_46 (lv_at hl 0 rfl) ?_
  refine va_bald hx hb hK hP 2 0 rfl rfl (show ¬ ((1 : Int32) < 0 ∨ 1024 ≤ (1 : Int32).toNatClampNeg) by decide) dM_told_48 ?_
  refine W.eq (g2 := F0 m 49 ls [.int 117, .ref a0]) rfl ?_
  obtain ⟨hPc, hDc, hFc⟩ := xcut (wc := [(a0, .inr (5, [v5, .ref a4, .int 1, .ref a3, .int 1, v6, v7, v8, v9, v10, v11, v12, v13, v14, v15, v16, v17, v18, v19, v20, v21, .ref a2, .int 4, .int 60000, v23, v24, v25, v26, v27, v28, v29, v30])), (a3, .inl (cT 0, 4096, .inl (upd f37 0 110)))]) hP hD hS hA [3, 4] rfl rfl (by decide)
  refine va_callv (va_runV (C := "ValueBenchModel") (As := [.int 117]) (rest := []) ⟨hx, hb, hml, hown, htx⟩ (cM_letter_1 l hl9 D cT aK aV H.size a0 a3 v5 (.ref a4) (.int 1) v6 v7 v8 v9 v10 v11 v12 v13 v14 v15 v16 v17 v18 v19 v20 v21 (.ref a2) (.int 4) (.int 60000) v23 v24 v25 v26 v27 v28 v29 v30 (upd f37 0 110)) ⟨callB_of 1 htx (xw_goodC kw_6_54) rfl rfl rfl (htx _ kw_1_5) (htx _ kw_6_51) ⟨by decide, by decide, by decide +kernel⟩ ⟨Nat.le_of_ble_eq_true rfl, Nat.le_of_ble_eq_true rfl⟩, (htx _ kw_6_53), (htx _ kp_M_letter)⟩ ⟨xPre_blind, va_recv hK hP (ci := 5) rfl (q0 := 3) rfl, (fun U hU hW => ⟨rfl, xPre_of hZ hS hFc hPc hDc hK U hU hW⟩)⟩ rfl rfl hl.1 rfl (lv_room (Nat.le_of_ble_eq_true rfl)) dM_told_49 ⟨Nat.le_of_ble_eq_true rfl, Nat.le_of_ble_eq_true rfl⟩) hS (fun q _ h => hFc q h) hFc (fun u9 t H1 locs ht hvm hr9 hB hz1 hk1 hS => ?_)
  obtain ⟨hP1, hK1, hD1⟩ := hB
  rw [ht] at hP1
  obtain ⟨hP, hD⟩ := xjoin (W := [(a4, .inl (cT 4, 1024, .inr (.inr (.inr (.inr f38))))), (a1, .inr (6, [.int 0, v31, v32, v33, v34, v35])), (a2, .inl (cT 0, 1024, .inl (upd (upd (upd (upd f36 0 110) 1 117) 2 108) 3 108))), (a0, .inr (5, [v5, .ref a4, .int 1, .ref a3, .int 2, v6, v7, v8, v9, v10, v11, v12, v13, v14, v15, v16, v17, v18, v19, v20, v21, .ref a2, .int 4, .int 60000, v23, v24, v25, v26, v27, v28, v29, v30])), (a3, .inl (cT 0, 4096, .inl (upd (upd f37 0 110) 1 117)))]) hP hD [3, 4] [0, 1, 2] 3 rfl rfl (by decide) (by decide) hk1 hFc hP1 hD1
  generalize H1 = H at hP hS ⊢
  refine lv_iinc (v := 2) (lv' := [(5, .int 2), (4, .int 0), (3, .int x22), (2, .int 0), (0, .ref a0), (1, .ref a1)]) hx hb dM_told_52 hl (k := 0) rfl (by decide) (by decide) rfl (fun ls hl => ?_)
  refine lv_goto (tgt := 32) hx hb dM_told_55 (by decide) ?_
  refine lv_iload hx hb dM_told_32 (lv_at hl 0 rfl) ?_
  refine lv_aload_n hx hb dM_told_34 rfl (lv_at hl 4 rfl) ?_
  refine va_get (D := D) (ci := 5) (v := .int 4) (C := "ValueBenchModel") (T := TM) (N := 32) hx hb htx inM hown hK hP 3 rfl rfl 22 (by decide) (htx _ kw_5_109) (fun _ h9 => h9) rfl dM_told_35 ?_
  refine lv_icmp_ge (tgt := 58) hx hb dM_told_38 (by decide) (fun h => ((by revert h; decide : False)).elim) (fun _ => ?_)
  refine lv_aload_n hx hb dM_told_41 rfl (lv_at hl 4 rfl) ?_
  refine lv_aload_n hx hb dM_told_42 rfl (lv_at hl 4 rfl) ?_
  refine va_get (D := D) (ci := 5) (v := .ref a2) (C := "ValueBenchModel") (T := TM) (N := 32) hx hb htx inM hown hK hP 3 rfl rfl 21 (by decide) (htx _ kw_5_108) (fun _ h9 => h9) rfl dM_told_43 ?_
  refine lv_iload hx hb dM_told_46 (lv_at hl 0 rfl) ?_
  refine va_bald hx hb hK hP 2 0 rfl rfl (show ¬ ((2 : Int32) < 0 ∨ 1024 ≤ (2 : Int32).toNatClampNeg) by decide) dM_told_48 ?_
  refine W.eq (g2 := F0 m 49 ls [.int 108, .ref a0]) rfl ?_
  obtain ⟨hPc, hDc, hFc⟩ := xcut (wc := [(a0, .inr (5, [v5, .ref a4, .int 1, .ref a3, .int 2, v6, v7, v8, v9, v10, v11, v12, v13, v14, v15, v16, v17, v18, v19, v20, v21, .ref a2, .int 4, .int 60000, v23, v24, v25, v26, v27, v28, v29, v30])), (a3, .inl (cT 0, 4096, .inl (upd (upd f37 0 110) 1 117)))]) hP hD hS hA [3, 4] rfl rfl (by decide)
  refine va_callv (va_runV (C := "ValueBenchModel") (As := [.int 108]) (rest := []) ⟨hx, hb, hml, hown, htx⟩ (cM_letter_2 l hl9 D cT aK aV H.size a0 a3 v5 (.ref a4) (.int 1) v6 v7 v8 v9 v10 v11 v12 v13 v14 v15 v16 v17 v18 v19 v20 v21 (.ref a2) (.int 4) (.int 60000) v23 v24 v25 v26 v27 v28 v29 v30 (upd (upd f37 0 110) 1 117)) ⟨callB_of 1 htx (xw_goodC kw_6_54) rfl rfl rfl (htx _ kw_1_5) (htx _ kw_6_51) ⟨by decide, by decide, by decide +kernel⟩ ⟨Nat.le_of_ble_eq_true rfl, Nat.le_of_ble_eq_true rfl⟩, (htx _ kw_6_53), (htx _ kp_M_letter)⟩ ⟨xPre_blind, va_recv hK hP (ci := 5) rfl (q0 := 3) rfl, (fun U hU hW => ⟨rfl, xPre_of hZ hS hFc hPc hDc hK U hU hW⟩)⟩ rfl rfl hl.1 rfl (lv_room (Nat.le_of_ble_eq_true rfl)) dM_told_49 ⟨Nat.le_of_ble_eq_true rfl, Nat.le_of_ble_eq_true rfl⟩) hS (fun q _ h => hFc q h) hFc (fun u9 t H1 locs ht hvm hr9 hB hz1 hk1 hS => ?_)
  obtain ⟨hP1, hK1, hD1⟩ := hB
  rw [ht] at hP1
  obtain ⟨hP, hD⟩ := xjoin (W := [(a4, .inl (cT 4, 1024, .inr (.inr (.inr (.inr f38))))), (a1, .inr (6, [.int 0, v31, v32, v33, v34, v35])), (a2, .inl (cT 0, 1024, .inl (upd (upd (upd (upd f36 0 110) 1 117) 2 108) 3 108))), (a0, .inr (5, [v5, .ref a4, .int 1, .ref a3, .int 3, v6, v7, v8, v9, v10, v11, v12, v13, v14, v15, v16, v17, v18, v19, v20, v21, .ref a2, .int 4, .int 60000, v23, v24, v25, v26, v27, v28, v29, v30])), (a3, .inl (cT 0, 4096, .inl (upd (upd (upd f37 0 110) 1 117) 2 108)))]) hP hD [3, 4] [0, 1, 2] 3 rfl rfl (by decide) (by decide) hk1 hFc hP1 hD1
  generalize H1 = H at hP hS ⊢
  refine lv_iinc (v := 3) (lv' := [(5, .int 3), (4, .int 0), (3, .int x22), (2, .int 0), (0, .ref a0), (1, .ref a1)]) hx hb dM_told_52 hl (k := 0) rfl (by decide) (by decide) rfl (fun ls hl => ?_)
  refine lv_goto (tgt := 32) hx hb dM_told_55 (by decide) ?_
  refine lv_iload hx hb dM_told_32 (lv_at hl 0 rfl) ?_
  refine lv_aload_n hx hb dM_told_34 rfl (lv_at hl 4 rfl) ?_
  refine va_get (D := D) (ci := 5) (v := .int 4) (C := "ValueBenchModel") (T := TM) (N := 32) hx hb htx inM hown hK hP 3 rfl rfl 22 (by decide) (htx _ kw_5_109) (fun _ h9 => h9) rfl dM_told_35 ?_
  refine lv_icmp_ge (tgt := 58) hx hb dM_told_38 (by decide) (fun h => ((by revert h; decide : False)).elim) (fun _ => ?_)
  refine lv_aload_n hx hb dM_told_41 rfl (lv_at hl 4 rfl) ?_
  refine lv_aload_n hx hb dM_told_42 rfl (lv_at hl 4 rfl) ?_
  refine va_get (D := D) (ci := 5) (v := .ref a2) (C := "ValueBenchModel") (T := TM) (N := 32) hx hb htx inM hown hK hP 3 rfl rfl 21 (by decide) (htx _ kw_5_108) (fun _ h9 => h9) rfl dM_told_43 ?_
  refine lv_iload hx hb dM_told_46 (lv_at hl 0 rfl) ?_
  refine va_bald hx hb hK hP 2 0 rfl rfl (show ¬ ((3 : Int32) < 0 ∨ 1024 ≤ (3 : Int32).toNatClampNeg) by decide) dM_told_48 ?_
  refine W.eq (g2 := F0 m 49 ls [.int 108, .ref a0]) rfl ?_
  obtain ⟨hPc, hDc, hFc⟩ := xcut (wc := [(a0, .inr (5, [v5, .ref a4, .int 1, .ref a3, .int 3, v6, v7, v8, v9, v10, v11, v12, v13, v14, v15, v16, v17, v18, v19, v20, v21, .ref a2, .int 4, .int 60000, v23, v24, v25, v26, v27, v28, v29, v30])), (a3, .inl (cT 0, 4096, .inl (upd (upd (upd f37 0 110) 1 117) 2 108)))]) hP hD hS hA [3, 4] rfl rfl (by decide)
  refine va_callv (va_runV (C := "ValueBenchModel") (As := [.int 108]) (rest := []) ⟨hx, hb, hml, hown, htx⟩ (cM_letter_3 l hl9 D cT aK aV H.size a0 a3 v5 (.ref a4) (.int 1) v6 v7 v8 v9 v10 v11 v12 v13 v14 v15 v16 v17 v18 v19 v20 v21 (.ref a2) (.int 4) (.int 60000) v23 v24 v25 v26 v27 v28 v29 v30 (upd (upd (upd f37 0 110) 1 117) 2 108)) ⟨callB_of 1 htx (xw_goodC kw_6_54) rfl rfl rfl (htx _ kw_1_5) (htx _ kw_6_51) ⟨by decide, by decide, by decide +kernel⟩ ⟨Nat.le_of_ble_eq_true rfl, Nat.le_of_ble_eq_true rfl⟩, (htx _ kw_6_53), (htx _ kp_M_letter)⟩ ⟨xPre_blind, va_recv hK hP (ci := 5) rfl (q0 := 3) rfl, (fun U hU hW => ⟨rfl, xPre_of hZ hS hFc hPc hDc hK U hU hW⟩)⟩ rfl rfl hl.1 rfl (lv_room (Nat.le_of_ble_eq_true rfl)) dM_told_49 ⟨Nat.le_of_ble_eq_true rfl, Nat.le_of_ble_eq_true rfl⟩) hS (fun q _ h => hFc q h) hFc (fun u9 t H1 locs ht hvm hr9 hB hz1 hk1 hS => ?_)
  obtain ⟨hP1, hK1, hD1⟩ := hB
  rw [ht] at hP1
  obtain ⟨hP, hD⟩ := xjoin (W := [(a4, .inl (cT 4, 1024, .inr (.inr (.inr (.inr f38))))), (a1, .inr (6, [.int 0, v31, v32, v33, v34, v35])), (a2, .inl (cT 0, 1024, .inl (upd (upd (upd (upd f36 0 110) 1 117) 2 108) 3 108))), (a0, .inr (5, [v5, .ref a4, .int 1, .ref a3, .int 4, v6, v7, v8, v9, v10, v11, v12, v13, v14, v15, v16, v17, v18, v19, v20, v21, .ref a2, .int 4, .int 60000, v23, v24, v25, v26, v27, v28, v29, v30])), (a3, .inl (cT 0, 4096, .inl (upd (upd (upd (upd f37 0 110) 1 117) 2 108) 3 108)))]) hP hD [3, 4] [0, 1, 2] 3 rfl rfl (by decide) (by decide) hk1 hFc hP1 hD1
  generalize H1 = H at hP hS ⊢
  refine lv_iinc (v := 4) (lv' := [(5, .int 4), (4, .int 0), (3, .int x22), (2, .int 0), (0, .ref a0), (1, .ref a1)]) hx hb dM_told_52 hl (k := 0) rfl (by decide) (by decide) rfl (fun ls hl => ?_)
  refine lv_goto (tgt := 32) hx hb dM_told_55 (by decide) ?_
  refine lv_iload hx hb dM_told_32 (lv_at hl 0 rfl) ?_
  refine lv_aload_n hx hb dM_told_34 rfl (lv_at hl 4 rfl) ?_
  refine va_get (D := D) (ci := 5) (v := .int 4) (C := "ValueBenchModel") (T := TM) (N := 32) hx hb htx inM hown hK hP 3 rfl rfl 22 (by decide) (htx _ kw_5_109) (fun _ h9 => h9) rfl dM_told_35 ?_
  refine lv_icmp_ge (tgt := 58) hx hb dM_told_38 (by decide) (fun _ => ?_) (fun h => ((by revert h; decide : False)).elim)
  refine lv_aload_n hx hb dM_told_58 rfl (lv_at hl 4 rfl) ?_
  refine lv_iload_n hx hb dM_told_59 rfl (lv_at hl 3 rfl) ?_
  refine va_put (D := D) (ci := 5) (v := .int 0) (ty := .int) (C := "ValueBenchModel") (T := TM) (N := 32) hx hb htx inM tyM tyM_ok nmM hown hK hP hD hS 3 rfl rfl 22 (by decide) (htx _ kw_5_109) (fun _ h9 => h9) rfl (by decide +kernel) rfl rfl (Nat.le_of_ble_eq_true rfl) dM_told_60 (fun H locs hP hD hS => ?_)
  obtain ⟨hP, hD⟩ : xPD D xcl A [(a4, .inl (cT 4, 1024, .inr (.inr (.inr (.inr f38))))), (a1, .inr (6, [.int 0, v31, v32, v33, v34, v35])), (a2, .inl (cT 0, 1024, .inl (upd (upd (upd (upd f36 0 110) 1 117) 2 108) 3 108))), (a0, .inr (5, [v5, .ref a4, .int 1, .ref a3, .int 4, v6, v7, v8, v9, v10, v11, v12, v13, v14, v15, v16, v17, v18, v19, v20, v21, .ref a2, .int 0, .int 60000, v23, v24, v25, v26, v27, v28, v29, v30])), (a3, .inl (cT 0, 4096, .inl (upd (upd (upd (upd f37 0 110) 1 117) 2 108) 3 108)))] H := ⟨hP, hD⟩
  refine lv_aload_n hx hb dM_told_63 rfl (lv_at hl 4 rfl) ?_
  refine lv_iload_n hx hb dM_told_64 rfl (lv_at hl 2 rfl) ?_
  refine va_put (D := D) (ci := 5) (v := .int x22) (ty := .int) (C := "ValueBenchModel") (T := TM) (N := 32) hx hb htx inM tyM tyM_ok nmM hown hK hP hD hS 3 rfl rfl 23 (by decide) (htx _ kw_5_110) (fun _ h9 => h9) rfl (by decide +kernel) rfl rfl (Nat.le_of_ble_eq_true rfl) dM_told_65 (fun H locs hP hD hS => ?_)
  obtain ⟨hP, hD⟩ : xPD D xcl A [(a4, .inl (cT 4, 1024, .inr (.inr (.inr (.inr f38))))), (a1, .inr (6, [.int 0, v31, v32, v33, v34, v35])), (a2, .inl (cT 0, 1024, .inl (upd (upd (upd (upd f36 0 110) 1 117) 2 108) 3 108))), (a0, .inr (5, [v5, .ref a4, .int 1, .ref a3, .int 4, v6, v7, v8, v9, v10, v11, v12, v13, v14, v15, v16, v17, v18, v19, v20, v21, .ref a2, .int 0, .int x22, v23, v24, v25, v26, v27, v28, v29, v30])), (a3, .inl (cT 0, 4096, .inl (upd (upd (upd (upd f37 0 110) 1 117) 2 108) 3 108)))] H := ⟨hP, hD⟩
  refine lv_aload_n hx hb dM_told_68 rfl (lv_at hl 4 rfl) ?_
  refine lv_iload hx hb dM_told_69 (lv_at hl 1 rfl) ?_
  obtain ⟨hPc, hDc, hFc⟩ := xcut (wc := [(a0, .inr (5, [v5, .ref a4, .int 1, .ref a3, .int 4, v6, v7, v8, v9, v10, v11, v12, v13, v14, v15, v16, v17, v18, v19, v20, v21, .ref a2, .int 0, .int x22, v23, v24, v25, v26, v27, v28, v29, v30])), (a4, .inl (cT 4, 1024, .inr (.inr (.inr (.inr f38)))))]) hP hD hS hA [3, 0] rfl rfl (by decide)
  refine va_callr (va_runV (C := "ValueBenchModel") (As := [.int 0]) (rest := []) ⟨hx, hb, hml, hown, htx⟩ (cM_string_0 l hl9 D cT aK aV H.size a0 a4 v5 (.ref a3) v6 v7 v8 v9 v10 v11 v12 v13 v14 v15 v16 v17 v18 v19 v20 v21 (.ref a2) (.int 0) (.int x22) v23 v24 v25 v26 v27 v28 v29 v30 f38 (by first | rfl | exact h39)) ⟨callB_of 1 htx (xw_goodC kw_6_61) rfl rfl rfl (htx _ kw_1_5) (htx _ kw_6_58) ⟨by decide, by decide, by decide +kernel⟩ ⟨Nat.le_of_ble_eq_true rfl, Nat.le_of_ble_eq_true rfl⟩, (htx _ kw_6_60), (htx _ kp_M_string)⟩ ⟨xPre_blind, va_recv hK hP (ci := 5) rfl (q0 := 3) rfl, (fun U hU hW => ⟨rfl, xPre_of hZ hS hFc hPc hDc hK U hU hW⟩)⟩ rfl rfl hl.1 rfl (lv_room (Nat.le_of_ble_eq_true rfl)) dM_told_71 ⟨Nat.le_of_ble_eq_true rfl, Nat.le_of_ble_eq_true rfl⟩) hS (fun q _ h => hFc q h) hFc (fun u9 r1 t H1 locs ht hvm hr9 hB hz1 hk1 hS => ?_)
  obtain ⟨hP1, hK1, hD1⟩ := hB
  rw [ht] at hP1
  obtain ⟨hP, hD⟩ := xjoin (W := [(a1, .inr (6, [.int 0, v31, v32, v33, v34, v35])), (a2, .inl (cT 0, 1024, .inl (upd (upd (upd (upd f36 0 110) 1 117) 2 108) 3 108))), (a3, .inl (cT 0, 4096, .inl (upd (upd (upd (upd f37 0 110) 1 117) 2 108) 3 108))), (a0, .inr (5, [v5, .ref a4, .int 2, .ref a3, .int 4, v6, v7, v8, v9, v10, v11, v12, v13, v14, v15, v16, v17, v18, v19, v20, v21, .ref a2, .int 0, .int x22, v23, v24, v25, v26, v27, v28, v29, v30])), (a4, .inl (cT 4, 1024, .inr (.inr (.inr (.inr (va_up f38 1 (some r1))))))), (r1, .inr (6, [.int 4, .long 0, .int 0, .int 4, .int 0, .int 5]))]) hP hD [3, 0] [1, 2, 4] 3 rfl rfl (by decide) (by decide) hk1 hFc hP1 hD1
  generalize H1 = H at hP hS ⊢
  refine W.eq (g2 := F0 m 74 ls [.ref r1]) rfl ?_
  obtain ⟨hP9, hD9⟩ := xsub (wc := [(a0, .inr (5, [v5, .ref a4, .int 2, .ref a3, .int 4, v6, v7, v8, v9, v10, v11, v12, v13, v14, v15, v16, v17, v18, v19, v20, v21, .ref a2, .int 0, .int x22, v23, v24, v25, v26, v27, v28, v29, v30])), (a1, .inr (6, [.int 0, v31, v32, v33, v34, v35])), (a2, .inl (cT 0, 1024, .inl (upd (upd (upd (upd f36 0 110) 1 117) 2 108) 3 108))), (a3, .inl (cT 0, 4096, .inl (upd (upd (upd (upd f37 0 110) 1 117) 2 108) 3 108))), (a4, .inl (cT 4, 1024, .inr (.inr (.inr (.inr (va_up f38 1 (some r1))))))), (r1, .inr (6, [.int 4, .long 0, .int 0, .int 4, .int 0, .int 5]))]) hP hD [3, 0, 1, 2, 4, 5] rfl rfl (by decide)
  refine W.widen (k := 1) (n := 6) (Nat.le_of_ble_eq_true rfl) (Nat.le_of_ble_eq_true rfl) ?_
  exact W.aret hx hb hr (Or.inl ⟨_, rfl⟩) (Or.inr ⟨_, rfl⟩) (fun t ht hW => ⟨⟨(), r1, rfl, trivial, by rw [ht]; exact hP9, va_K.moved hW.alike hK, hD9⟩, hS.F ht⟩) hS.2.2 dM_told_74
set_option maxHeartbeats 400000000 in
set_option maxRecDepth 100000 in
theorem cM_one1_4 (l : Launch) (hl9 : l.stackTraces = false) (D : va_G) (cT : Nat → ClassId) (aK aV : Nat → Nat) (sz : Nat) (a0 : Nat) (a1 : Nat) (a2 : Nat) (a3 : Nat) (a4 : Nat) (v5 : Value) (v6 : Value) (v7 : Value) (v8 : Value) (v9 : Value) (v10 : Value) (v11 : Value) (v12 : Value) (v13 : Value) (v14 : Value) (v15 : Value) (v16 : Value) (v17 : Value) (v18 : Value) (v19 : Value) (v20 : Value) (v21 : Value) (v22 : Value) (v23 : Value) (v24 : Value) (v25 : Value) (v26 : Value) (x27 : Int32) (v28 : Value) (v29 : Value) (v30 : Value) (v31 : Value) (v32 : Value) (v33 : Value) (v34 : Value) (v35 : Value) (f36 : Nat → Int32) (f37 : Nat → Int32) (f38 : Nat → Option Nat) (h39 : f38 1 = none) : xMet l yM_one1 wyM_one1 7 1 6 154 D cT aK aV sz [.ref a1, .int 4, .ref a0] [(a0, .inr (6, [.int 0, v5, v6, v7, v8, v9])), (a1, .inr (5, [v10, .ref a4, .int 1, .ref a3, .int 0, v11, v12, v13, v14, v15, v16, v17, v18, v19, v20, v21, v22, v23, v24, v25, v26, .ref a2, .int 0, .int x27, v28, v29, v30, v31, v32, v33, v34, v35])), (a2, .inl (cT 0, 1024, .inl f36)), (a3, .inl (cT 0, 4096, .inl f37)), (a4, .inl (cT 4, 1024, .inr (.inr (.inr (.inr f38)))))] (fun A => va_Qr (fun _ : Unit => True) (fun _ r1 t => xB D xcl cT A [(a0, .inr (6, [.int 0, v5, v6, v7, v8, v9])), (a1, .inr (5, [v10, .ref a4, .int 2, .ref a3, .int 4, v11, v12, v13, v14, v15, v16, v17, v18, v19, v20, v21, v22, v23, v24, v25, v26, .ref a2, .int 0, .int x27, v28, v29, v30, v31, v32, v33, v34, v35])), (a2, .inl (cT 0, 1024, .inl (upd (upd (upd (upd f36 0 110) 1 117) 2 108) 3 108))), (a3, .inl (cT 0, 4096, .inl (upd (upd (upd (upd f37 0 110) 1 117) 2 108) 3 108))), (a4, .inl (cT 4, 1024, .inr (.inr (.inr (.inr (va_up f38 1 (some r1))))))), (r1, .inr (6, [.int 4, .long 0, .int 0, .int 4, .int 0, .int 5]))] t) A) := by
  refine Met.ofW (cc := prog_13_method_66_code) (maxL := 3) (ret := (some (.object "ValueBenchModel$V"))) (by decide) rfl ?_
  intro p e s m args below meth c s₁ B hml hv
  obtain ⟨rfl, hsz, hZ, hP, hK, hD0⟩ := hv
  have hx := B.exec
  have hb := B.bytes
  have hr := B.returns
  have hts := atoms_spec (ws := wyM_one1) B.pre
  have htx := fun w h => hts w (List.mem_cons_of_mem _ h)
  have hown : s.vm.findClass "ValueBenchModel" = some m.cls := findClass_of_methodNamed B.named
  have hlocks := B.notSynchronized
  subst hsz
  have hD := hD0.self (sz := s.heap.size)
  generalize hAe : va_A [(a0, .inr (6, [.int 0, v5, v6, v7, v8, v9])), (a1, .inr (5, [v10, .ref a4, .int 1, .ref a3, .int 0, v11, v12, v13, v14, v15, v16, v17, v18, v19, v20, v21, v22, v23, v24, v25, v26, .ref a2, .int 0, .int x27, v28, v29, v30, v31, v32, v33, v34, v35])), (a2, .inl (cT 0, 1024, .inl f36)), (a3, .inl (cT 0, 4096, .inl f37)), (a4, .inl (cT 4, 1024, .inr (.inr (.inr (.inr f38)))))] s.heap.size = A at hD hZ ⊢
  have hA : ∀ q : Nat, s.heap.size ≤ q → A q := fun q h => by rw [← hAe]; exact Or.inr h
  have hS : va_S A s.heap s.heap [] := va_S.rf
  have hP : va_P D xcl [(a0, .inr (6, [.int 0, v5, v6, v7, v8, v9])), (a1, .inr (5, [v10, .ref a4, .int 1, .ref a3, .int 0, v11, v12, v13, v14, v15, v16, v17, v18, v19, v20, v21, v22, v23, v24, v25, v26, .ref a2, .int 0, .int x27, v28, v29, v30, v31, v32, v33, v34, v35])), (a2, .inl (cT 0, 1024, .inl f36)), (a3, .inl (cT 0, 4096, .inl f37)), (a4, .inl (cT 4, 1024, .inr (.inr (.inr (.inr f38)))))] s.heap := hP
  have hl := lv_entry ([.ref a1, .int 4, .ref a0]) (n := 3) (Nat.le_of_ble_eq_true rfl)
  rw [lg_entry_eq]
  generalize (lg_sl ([.ref a1, .int 4, .ref a0]) ++ List.replicate (3 - (lg_sl ([.ref a1, .int 4, .ref a0])).length) Slot.unset).toArray = ls at hl ⊢
  have hl : lv_has ls 3 [(0, .ref a1), (1, .int 4), (2, .ref a0)] := hl
  refine lv_iload_n hx hb dM_one1_0 rfl (lv_at hl 1 rfl) ?_
  refine lv_tableIn (off := 105) (tgt := 106) hx hb dM_one1_1 (by decide) (by decide) (by decide) (by decide) ?_
  refine lv_aload_n hx hb dM_one1_106 rfl (lv_at hl 2 rfl) ?_
  refine va_getN (D := D) (ci := 6) (v := .int 0) (C := "ValueBenchModel$V") (T := TV) (N := 6) hx hb htx inV hown hK hP 0 rfl rfl 0 (by decide) ((hZ.1 _ (List.mem_of_getElem? (i := 0) rfl)).use rfl) (fun _ h9 => h9) rfl dM_one1_107 ?_
  refine lv_iconst (v := 4) hx hb dM_one1_110 (by decide) ?_
  refine lv_icmp_ne (tgt := 118) hx hb dM_one1_111 (by decide) (fun _ => ?_) (fun h => ((by revert h; decide : False)).elim)
  refine lv_aload_n hx hb dM_one1_118 rfl (lv_at hl 0 rfl) ?_
  refine lv_aload_n hx hb dM_one1_119 rfl (lv_at hl 2 rfl) ?_
  obtain ⟨hPc, hDc, hFc⟩ := xcut (wc := [(a1, .inr (5, [v10, .ref a4, .int 1, .ref a3, .int 0, v11, v12, v13, v14, v15, v16, v17, v18, v19, v20, v21, v22, v23, v24, v25, v26, .ref a2, .int 0, .int x27, v28, v29, v30, v31, v32, v33, v34, v35])), (a0, .inr (6, [.int 0, v5, v6, v7, v8, v9])), (a2, .inl (cT 0, 1024, .inl f36)), (a3, .inl (cT 0, 4096, .inl f37)), (a4, .inl (cT 4, 1024, .inr (.inr (.inr (.inr f38)))))]) hP hD hS hA [1, 0, 2, 3, 4] rfl rfl (by decide)
  refine va_callr (va_runV (C := "ValueBenchModel") (As := [.ref a0]) (rest := []) ⟨hx, hb, hml, hown, htx⟩ (cM_told_0 l hl9 D cT aK aV s.heap.size a1 a0 a2 a3 a4 v10 v11 v12 v13 v14 v15 v16 v17 v18 v19 v20 v21 v22 v23 v24 v25 v26 x27 v28 v29 v30 v31 v32 v33 v34 v35 v5 v6 v7 v8 v9 f36 f37 f38 (by first | rfl | exact h39)) ⟨callB_of 1 htx (xw_goodC kw_7_46) rfl rfl rfl (htx _ kw_1_5) (htx _ kw_7_43) ⟨by decide, by decide, by decide +kernel⟩ ⟨Nat.le_of_ble_eq_true rfl, Nat.le_of_ble_eq_true rfl⟩, (htx _ kw_7_45), (htx _ kp_M_told)⟩ ⟨xPre_blind, va_recv hK hP (ci := 5) rfl (q0 := 1) rfl, (fun U hU hW => ⟨rfl, xPre_of hZ hS hFc hPc hDc hK U hU hW⟩)⟩ rfl rfl hl.1 rfl (lv_room (Nat.le_of_ble_eq_true rfl)) dM_one1_120 ⟨Nat.le_of_ble_eq_true rfl, Nat.le_of_ble_eq_true rfl⟩) hS (fun q _ h => hFc q h) hFc (fun u9 r1 t H1 locs ht hvm hr9 hB hz1 hk1 hS => ?_)
  obtain ⟨hP1, hK1, hD1⟩ := hB
  rw [ht] at hP1
  obtain ⟨hP, hD⟩ := xjoin (W := [(a1, .inr (5, [v10, .ref a4, .int 2, .ref a3, .int 4, v11, v12, v13, v14, v15, v16, v17, v18, v19, v20, v21, v22, v23, v24, v25, v26, .ref a2, .int 0, .int x27, v28, v29, v30, v31, v32, v33, v34, v35])), (a0, .inr (6, [.int 0, v5, v6, v7, v8, v9])), (a2, .inl (cT 0, 1024, .inl (upd (upd (upd (upd f36 0 110) 1 117) 2 108) 3 108))), (a3, .inl (cT 0, 4096, .inl (upd (upd (upd (upd f37 0 110) 1 117) 2 108) 3 108))), (a4, .inl (cT 4, 1024, .inr (.inr (.inr (.inr (va_up f38 1 (some r1))))))), (r1, .inr (6, [.int 4, .long 0, .int 0, .int 4, .int 0, .int 5]))]) hP hD [1, 0, 2, 3, 4] [] 0 rfl rfl (by decide) (by decide) hk1 hFc hP1 hD1
  generalize H1 = H at hP hS ⊢
  refine W.eq (g2 := F0 m 123 ls [.ref r1]) rfl ?_
  obtain ⟨hP9, hD9⟩ := xsub (wc := [(a0, .inr (6, [.int 0, v5, v6, v7, v8, v9])), (a1, .inr (5, [v10, .ref a4, .int 2, .ref a3, .int 4, v11, v12, v13, v14, v15, v16, v17, v18, v19, v20, v21, v22, v23, v24, v25, v26, .ref a2, .int 0, .int x27, v28, v29, v30, v31, v32, v33, v34, v35])), (a2, .inl (cT 0, 1024, .inl (upd (upd (upd (upd f36 0 110) 1 117) 2 108) 3 108))), (a3, .inl (cT 0, 4096, .inl (upd (upd (upd (upd f37 0 110) 1 117) 2 108) 3 108))), (a4, .inl (cT 4, 1024, .inr (.inr (.inr (.inr (va_up f38 1 (some r1))))))), (r1, .inr (6, [.int 4, .long 0, .int 0, .int 4, .int 0, .int 5]))]) hP hD [1, 0, 2, 3, 4, 5] rfl rfl (by decide)
  refine W.widen (k := 1) (n := 6) (Nat.le_of_ble_eq_true rfl) (Nat.le_of_ble_eq_true rfl) ?_
  exact W.aret hx hb hr (Or.inl ⟨_, rfl⟩) (Or.inr ⟨_, rfl⟩) (fun t ht hW => ⟨⟨(), r1, rfl, trivial, by rw [ht]; exact hP9, va_K.moved hW.alike hK, hD9⟩, hS.F ht⟩) hS.2.2 dM_one1_123
set_option maxHeartbeats 400000000 in
set_option maxRecDepth 100000 in
theorem cM_put0_8 (l : Launch) (hl9 : l.stackTraces = false) (D : va_G) (cT : Nat → ClassId) (aK aV : Nat → Nat) (sz : Nat) (a0 : Nat) (a1 : Nat) (x2 : Int32) (v3 : Value) (v4 : Value) (v5 : Value) (v6 : Value) (v7 : Value) (v8 : Value) (v9 : Value) (v10 : Value) (v11 : Value) (v12 : Value) (v13 : Value) (v14 : Value) (v15 : Value) (v16 : Value) (v17 : Value) (v18 : Value) (v19 : Value) (v20 : Value) (v21 : Value) (v22 : Value) (v23 : Value) (v24 : Value) (v25 : Value) (v26 : Value) (v27 : Value) (v28 : Value) (v29 : Value) (v30 : Value) (v31 : Value) (f32 : Nat → Int32) : xMet l yM_put0 wyM_put0 0 0 0 0 D cT aK aV sz [.ref a0, .int x2] [(a0, .inr (5, [v3, v4, v5, v6, v7, v8, v9, v10, v11, v12, v13, v14, v15, v16, v17, v18, v19, v20, v21, v22, v23, .ref a1, .int 4, .int 4096, v24, v25, v26, v27, v28, v29, v30, v31])), (a1, .inl (cT 0, 1024, .inl f32))] (fun A => va_Qv (fun _ : Unit => True) (fun _ t => ∃ (y1 : Int32), xB D xcl cT A [(a0, .inr (5, [v3, v4, v5, v6, v7, v8, v9, v10, v11, v12, v13, v14, v15, v16, v17, v18, v19, v20, v21, v22, v23, .ref a1, .int 5, .int 4096, v24, v25, v26, v27, v28, v29, v30, v31])), (a1, .inl (cT 0, 1024, .inl (upd f32 4 (vp_nar .byte y1))))] t) A) := by
  refine Met.ofW (cc := prog_13_method_41_code) (maxL := 4) (ret := none) (by decide) rfl ?_
  intro p e s m args below meth c s₁ B hml hv
  obtain ⟨rfl, hsz, hZ, hP, hK, hD0⟩ := hv
  have hx := B.exec
  have hb := B.bytes
  have hr := B.returns
  have hts := atoms_spec (ws := wyM_put0) B.pre
  have htx := fun w h => hts w (List.mem_cons_of_mem _ h)
  have hown : s.vm.findClass "ValueBenchModel" = some m.cls := findClass_of_methodNamed B.named
  have hlocks := B.notSynchronized
  subst hsz
  have hD := hD0.self (sz := s.heap.size)
  generalize hAe : va_A [(a0, .inr (5, [v3, v4, v5, v6, v7, v8, v9, v10, v11, v12, v13, v14, v15, v16, v17, v18, v19, v20, v21, v22, v23, .ref a1, .int 4, .int 4096, v24, v25, v26, v27, v28, v29, v30, v31])), (a1, .inl (cT 0, 1024, .inl f32))] s.heap.size = A at hD hZ ⊢
  have hA : ∀ q : Nat, s.heap.size ≤ q → A q := fun q h => by rw [← hAe]; exact Or.inr h
  have hS : va_S A s.heap s.heap [] := va_S.rf
  have hP : va_P D xcl [(a0, .inr (5, [v3, v4, v5, v6, v7, v8, v9, v10, v11, v12, v13, v14, v15, v16, v17, v18, v19, v20, v21, v22, v23, .ref a1, .int 4, .int 4096, v24, v25, v26, v27, v28, v29, v30, v31])), (a1, .inl (cT 0, 1024, .inl f32))] s.heap := hP
  have hl := lv_entry ([.ref a0, .int x2]) (n := 4) (Nat.le_of_ble_eq_true rfl)
  rw [lg_entry_eq]
  generalize (lg_sl ([.ref a0, .int x2]) ++ List.replicate (4 - (lg_sl ([.ref a0, .int x2])).length) Slot.unset).toArray = ls at hl ⊢
  have hl : lv_has ls 4 [(0, .ref a0), (1, .int x2)] := hl
  refine lv_aload_n hx hb dM_put0_0 rfl (lv_at hl 0 rfl) ?_
  refine va_get (D := D) (ci := 5) (v := .int 4) (C := "ValueBenchModel") (T := TM) (N := 32) hx hb htx inM hown hK hP 0 rfl rfl 22 (by decide) (htx _ kw_5_109) (fun _ h9 => h9) rfl dM_put0_1 ?_
  refine lv_aload_n hx hb dM_put0_4 rfl (lv_at hl 0 rfl) ?_
  refine va_get (D := D) (ci := 5) (v := .int 4096) (C := "ValueBenchModel") (T := TM) (N := 32) hx hb htx inM hown hK hP 0 rfl rfl 23 (by decide) (htx _ kw_5_110) (fun _ h9 => h9) rfl dM_put0_5 ?_
  refine lv_icmp_ne (tgt := 19) hx hb dM_put0_8 (by decide) (fun _ => ?_) (fun h => ((by revert h; decide : False)).elim)
  refine lv_aload_n hx hb dM_put0_19 rfl (lv_at hl 0 rfl) ?_
  refine va_get (D := D) (ci := 5) (v := .int 4) (C := "ValueBenchModel") (T := TM) (N := 32) hx hb htx inM hown hK hP 0 rfl rfl 22 (by decide) (htx _ kw_5_109) (fun _ h9 => h9) rfl dM_put0_20 ?_
  refine lv_aload_n hx hb dM_put0_23 rfl (lv_at hl 0 rfl) ?_
  refine va_get (D := D) (ci := 5) (v := .ref a1) (C := "ValueBenchModel") (T := TM) (N := 32) hx hb htx inM hown hK hP 0 rfl rfl 21 (by decide) (htx _ kw_5_108) (fun _ h9 => h9) rfl dM_put0_24 ?_
  refine va_alen (v := 1024) hx hb hK hP 1 0 rfl rfl rfl dM_put0_27 ?_
  refine lv_icmp_ne (tgt := 70) hx hb dM_put0_28 (by decide) (fun _ => ?_) (fun h => ((by revert h; decide : False)).elim)
  refine lv_aload_n hx hb dM_put0_70 rfl (lv_at hl 0 rfl) ?_
  refine va_get (D := D) (ci := 5) (v := .ref a1) (C := "ValueBenchModel") (T := TM) (N := 32) hx hb htx inM hown hK hP 0 rfl rfl 21 (by decide) (htx _ kw_5_108) (fun _ h9 => h9) rfl dM_put0_71 ?_
  refine lv_aload_n hx hb dM_put0_74 rfl (lv_at hl 0 rfl) ?_
  refine va_get (D := D) (ci := 5) (v := .int 4) (C := "ValueBenchModel") (T := TM) (N := 32) hx hb htx inM hown hK hP 0 rfl rfl 22 (by decide) (htx _ kw_5_109) (fun _ h9 => h9) rfl dM_put0_75 ?_
  refine lv_iload_n hx hb dM_put0_78 rfl (lv_at hl 1 rfl) ?_
  refine lv_i2b hx hb dM_put0_79 rfl ?_
  refine lv_topi (fun y1 ey1 => ?_)
  refine va_bast hx hb hK hP hD hS 1 0 rfl rfl (show ¬ ((4 : Int32) < 0 ∨ 1024 ≤ (4 : Int32).toNatClampNeg) by decide) dM_put0_80 (fun H locs hP hD hS => ?_)
  obtain ⟨hP, hD⟩ : xPD D xcl A [(a0, .inr (5, [v3, v4, v5, v6, v7, v8, v9, v10, v11, v12, v13, v14, v15, v16, v17, v18, v19, v20, v21, v22, v23, .ref a1, .int 4, .int 4096, v24, v25, v26, v27, v28, v29, v30, v31])), (a1, .inl (cT 0, 1024, .inl (upd f32 4 (vp_nar .byte y1))))] H := ⟨hP, hD⟩
  refine lv_aload_n hx hb dM_put0_81 rfl (lv_at hl 0 rfl) ?_
  refine lv_dup hx hb dM_put0_82 rfl ?_
  refine va_get (D := D) (ci := 5) (v := .int 4) (C := "ValueBenchModel") (T := TM) (N := 32) hx hb htx inM hown hK hP 0 rfl rfl 22 (by decide) (htx _ kw_5_109) (fun _ h9 => h9) rfl dM_put0_83 ?_
  refine lv_iconst (v := 1) hx hb dM_put0_86 (by decide) ?_
  refine lv_iadd hx hb dM_put0_87 ?_
  refine W.eq (g2 := F0 m 88 ls [.int 5, .ref a0]) rfl ?_
  refine va_put (D := D) (ci := 5) (v := .int 5) (ty := .int) (C := "ValueBenchModel") (T := TM) (N := 32) hx hb htx inM tyM tyM_ok nmM hown hK hP hD hS 0 rfl rfl 22 (by decide) (htx _ kw_5_109) (fun _ h9 => h9) rfl (by decide +kernel) rfl rfl (Nat.le_of_ble_eq_true rfl) dM_put0_88 (fun H locs hP hD hS => ?_)
  obtain ⟨hP, hD⟩ : xPD D xcl A [(a0, .inr (5, [v3, v4, v5, v6, v7, v8, v9, v10, v11, v12, v13, v14, v15, v16, v17, v18, v19, v20, v21, v22, v23, .ref a1, .int 5, .int 4096, v24, v25, v26, v27, v28, v29, v30, v31])), (a1, .inl (cT 0, 1024, .inl (upd f32 4 (vp_nar .byte y1))))] H := ⟨hP, hD⟩
  obtain ⟨hP9, hD9⟩ := xsub (wc := [(a0, .inr (5, [v3, v4, v5, v6, v7, v8, v9, v10, v11, v12, v13, v14, v15, v16, v17, v18, v19, v20, v21, v22, v23, .ref a1, .int 5, .int 4096, v24, v25, v26, v27, v28, v29, v30, v31])), (a1, .inl (cT 0, 1024, .inl (upd f32 4 (vp_nar .byte y1))))]) hP hD [0, 1] rfl rfl (by decide)
  refine W.widen (k := 0) (n := 0) (Nat.le_of_ble_eq_true rfl) (Nat.le_of_ble_eq_true rfl) ?_
  exact W.vret hx hb hr (fun t ht hW => ⟨⟨(), rfl, trivial, y1, by rw [ht]; exact hP9, va_K.moved hW.alike hK, hD9⟩, hS.F ht⟩) hS.2.2 dM_put0_91
set_option maxHeartbeats 400000000 in
set_option maxRecDepth 100000 in
theorem cM_put0_9 (l : Launch) (hl9 : l.stackTraces = false) (D : va_G) (cT : Nat → ClassId) (aK aV : Nat → Nat) (sz : Nat) (a0 : Nat) (a1 : Nat) (x2 : Int32) (v3 : Value) (v4 : Value) (v5 : Value) (v6 : Value) (v7 : Value) (v8 : Value) (v9 : Value) (v10 : Value) (v11 : Value) (v12 : Value) (v13 : Value) (v14 : Value) (v15 : Value) (v16 : Value) (v17 : Value) (v18 : Value) (v19 : Value) (v20 : Value) (v21 : Value) (v22 : Value) (v23 : Value) (v24 : Value) (v25 : Value) (v26 : Value) (v27 : Value) (v28 : Value) (v29 : Value) (v30 : Value) (v31 : Value) (f32 : Nat → Int32) : xMet l yM_put0 wyM_put0 0 0 0 0 D cT aK aV sz [.ref a0, .int x2] [(a0, .inr (5, [v3, v4, v5, v6, v7, v8, v9, v10, v11, v12, v13, v14, v15, v16, v17, v18, v19, v20, v21, v22, v23, .ref a1, .int 5, .int 4096, v24, v25, v26, v27, v28, v29, v30, v31])), (a1, .inl (cT 0, 1024, .inl f32))] (fun A => va_Qv (fun _ : Unit => True) (fun _ t => ∃ (y1 : Int32), xB D xcl cT A [(a0, .inr (5, [v3, v4, v5, v6, v7, v8, v9, v10, v11, v12, v13, v14, v15, v16, v17, v18, v19, v20, v21, v22, v23, .ref a1, .int 6, .int 4096, v24, v25, v26, v27, v28, v29, v30, v31])), (a1, .inl (cT 0, 1024, .inl (upd f32 5 (vp_nar .byte y1))))] t) A) := by
  refine Met.ofW (cc := prog_13_method_41_code) (maxL := 4) (ret := none) (by decide) rfl ?_
  intro p e s m args below meth c s₁ B hml hv
  obtain ⟨rfl, hsz, hZ, hP, hK, hD0⟩ := hv
  have hx := B.exec
  have hb := B.bytes
  have hr := B.returns
  have hts := atoms_spec (ws := wyM_put0) B.pre
  have htx := fun w h => hts w (List.mem_cons_of_mem _ h)
  have hown : s.vm.findClass "ValueBenchModel" = some m.cls := findClass_of_methodNamed B.named
  have hlocks := B.notSynchronized
  subst hsz
  have hD := hD0.self (sz := s.heap.size)
  generalize hAe : va_A [(a0, .inr (5, [v3, v4, v5, v6, v7, v8, v9, v10, v11, v12, v13, v14, v15, v16, v17, v18, v19, v20, v21, v22, v23, .ref a1, .int 5, .int 4096, v24, v25, v26, v27, v28, v29, v30, v31])), (a1, .inl (cT 0, 1024, .inl f32))] s.heap.size = A at hD hZ ⊢
  have hA : ∀ q : Nat, s.heap.size ≤ q → A q := fun q h => by rw [← hAe]; exact Or.inr h
  have hS : va_S A s.heap s.heap [] := va_S.rf
  have hP : va_P D xcl [(a0, .inr (5, [v3, v4, v5, v6, v7, v8, v9, v10, v11, v12, v13, v14, v15, v16, v17, v18, v19, v20, v21, v22, v23, .ref a1, .int 5, .int 4096, v24, v25, v26, v27, v28, v29, v30, v31])), (a1, .inl (cT 0, 1024, .inl f32))] s.heap := hP
  have hl := lv_entry ([.ref a0, .int x2]) (n := 4) (Nat.le_of_ble_eq_true rfl)
  rw [lg_entry_eq]
  generalize (lg_sl ([.ref a0, .int x2]) ++ List.replicate (4 - (lg_sl ([.ref a0, .int x2])).length) Slot.unset).toArray = ls at hl ⊢
  have hl : lv_has ls 4 [(0, .ref a0), (1, .int x2)] := hl
  refine lv_aload_n hx hb dM_put0_0 rfl (lv_at hl 0 rfl) ?_
  refine va_get (D := D) (ci := 5) (v := .int 5) (C := "ValueBenchModel") (T := TM) (N := 32) hx hb htx inM hown hK hP 0 rfl rfl 22 (by decide) (htx _ kw_5_109) (fun _ h9 => h9) rfl dM_put0_1 ?_
  refine lv_aload_n hx hb dM_put0_4 rfl (lv_at hl 0 rfl) ?_
  refine va_get (D := D) (ci := 5) (v := .int 4096) (C := "ValueBenchModel") (T := TM) (N := 32) hx hb htx inM hown hK hP 0 rfl rfl 23 (by decide) (htx _ kw_5_110) (fun _ h9 => h9) rfl dM_put0_5 ?_
  refine lv_icmp_ne (tgt := 19) hx hb dM_put0_8 (by decide) (fun _ => ?_) (fun h => ((by revert h; decide : False)).elim)
  refine lv_aload_n hx hb dM_put0_19 rfl (lv_at hl 0 rfl) ?_
  refine va_get (D := D) (ci := 5) (v := .int 5) (C := "ValueBenchModel") (T := TM) (N := 32) hx hb htx inM hown hK hP 0 rfl rfl 22 (by decide) (htx _ kw_5_109) (fun _ h9 => h9) rfl dM_put0_20 ?_
  refine lv_aload_n hx hb dM_put0_23 rfl (lv_at hl 0 rfl) ?_
  refine va_get (D := D) (ci := 5) (v := .ref a1) (C := "ValueBenchModel") (T := TM) (N := 32) hx hb htx inM hown hK hP 0 rfl rfl 21 (by decide) (htx _ kw_5_108) (fun _ h9 => h9) rfl dM_put0_24 ?_
  refine va_alen (v := 1024) hx hb hK hP 1 0 rfl rfl rfl dM_put0_27 ?_
  refine lv_icmp_ne (tgt := 70) hx hb dM_put0_28 (by decide) (fun _ => ?_) (fun h => ((by revert h; decide : False)).elim)
  refine lv_aload_n hx hb dM_put0_70 rfl (lv_at hl 0 rfl) ?_
  refine va_get (D := D) (ci := 5) (v := .ref a1) (C := "ValueBenchModel") (T := TM) (N := 32) hx hb htx inM hown hK hP 0 rfl rfl 21 (by decide) (htx _ kw_5_108) (fun _ h9 => h9) rfl dM_put0_71 ?_
  refine lv_aload_n hx hb dM_put0_74 rfl (lv_at hl 0 rfl) ?_
  refine va_get (D := D) (ci := 5) (v := .int 5) (C := "ValueBenchModel") (T := TM) (N := 32) hx hb htx inM hown hK hP 0 rfl rfl 22 (by decide) (htx _ kw_5_109) (fun _ h9 => h9) rfl dM_put0_75 ?_
  refine lv_iload_n hx hb dM_put0_78 rfl (lv_at hl 1 rfl) ?_
  refine lv_i2b hx hb dM_put0_79 rfl ?_
  refine lv_topi (fun y1 ey1 => ?_)
  refine va_bast hx hb hK hP hD hS 1 0 rfl rfl (show ¬ ((5 : Int32) < 0 ∨ 1024 ≤ (5 : Int32).toNatClampNeg) by decide) dM_put0_80 (fun H locs hP hD hS => ?_)
  obtain ⟨hP, hD⟩ : xPD D xcl A [(a0, .inr (5, [v3, v4, v5, v6, v7, v8, v9, v10, v11, v12, v13, v14, v15, v16, v17, v18, v19, v20, v21, v22, v23, .ref a1, .int 5, .int 4096, v24, v25, v26, v27, v28, v29, v30, v31])), (a1, .inl (cT 0, 1024, .inl (upd f32 5 (vp_nar .byte y1))))] H := ⟨hP, hD⟩
  refine lv_aload_n hx hb dM_put0_81 rfl (lv_at hl 0 rfl) ?_
  refine lv_dup hx hb dM_put0_82 rfl ?_
  refine va_get (D := D) (ci := 5) (v := .int 5) (C := "ValueBenchModel") (T := TM) (N := 32) hx hb htx inM hown hK hP 0 rfl rfl 22 (by decide) (htx _ kw_5_109) (fun _ h9 => h9) rfl dM_put0_83 ?_
  refine lv_iconst (v := 1) hx hb dM_put0_86 (by decide) ?_
  refine lv_iadd hx hb dM_put0_87 ?_
  refine W.eq (g2 := F0 m 88 ls [.int 6, .ref a0]) rfl ?_
  refine va_put (D := D) (ci := 5) (v := .int 6) (ty := .int) (C := "ValueBenchModel") (T := TM) (N := 32) hx hb htx inM tyM tyM_ok nmM hown hK hP hD hS 0 rfl rfl 22 (by decide) (htx _ kw_5_109) (fun _ h9 => h9) rfl (by decide +kernel) rfl rfl (Nat.le_of_ble_eq_true rfl) dM_put0_88 (fun H locs hP hD hS => ?_)
  obtain ⟨hP, hD⟩ : xPD D xcl A [(a0, .inr (5, [v3, v4, v5, v6, v7, v8, v9, v10, v11, v12, v13, v14, v15, v16, v17, v18, v19, v20, v21, v22, v23, .ref a1, .int 6, .int 4096, v24, v25, v26, v27, v28, v29, v30, v31])), (a1, .inl (cT 0, 1024, .inl (upd f32 5 (vp_nar .byte y1))))] H := ⟨hP, hD⟩
  obtain ⟨hP9, hD9⟩ := xsub (wc := [(a0, .inr (5, [v3, v4, v5, v6, v7, v8, v9, v10, v11, v12, v13, v14, v15, v16, v17, v18, v19, v20, v21, v22, v23, .ref a1, .int 6, .int 4096, v24, v25, v26, v27, v28, v29, v30, v31])), (a1, .inl (cT 0, 1024, .inl (upd f32 5 (vp_nar .byte y1))))]) hP hD [0, 1] rfl rfl (by decide)
  refine W.widen (k := 0) (n := 0) (Nat.le_of_ble_eq_true rfl) (Nat.le_of_ble_eq_true rfl) ?_
  exact W.vret hx hb hr (fun t ht hW => ⟨⟨(), rfl, trivial, y1, by rw [ht]; exact hP9, va_K.moved hW.alike hK, hD9⟩, hS.F ht⟩) hS.2.2 dM_put0_91
set_option maxHeartbeats 400000000 in
set_option maxRecDepth 100000 in
theorem cM_putString_0 (l : Launch) (hl9 : l.stackTraces = false) (D : va_G) (cT : Nat → ClassId) (aK aV : Nat → Nat) (sz : Nat) (a0 : Nat) (a1 : Nat) (a2 : Nat) (a3 : Nat) (v4 : Value) (v5 : Value) (v6 : Value) (v7 : Value) (v8 : Value) (v9 : Value) (v10 : Value) (v11 : Value) (v12 : Value) (v13 : Value) (v14 : Value) (v15 : Value) (v16 : Value) (v17 : Value) (v18 : Value) (v19 : Value) (v20 : Value) (v21 : Value) (v22 : Value) (v23 : Value) (v24 : Value) (v25 : Value) (v26 : Value) (v27 : Value) (v28 : Value) (v29 : Value) (v30 : Value) (v31 : Value) (f32 : Nat → Int32) (v33 : Value) (v34 : Value) (v35 : Value) (v36 : Value) (f37 : Nat → Int32) (h38 : f37 0 = 110) (h39 : f37 1 = 117) (h40 : f37 2 = 108) (h41 : f37 3 = 108) : xMet l yM_putString wyM_putString 1 0 0 23 D cT aK aV sz [.ref a0, .ref a2] [(a0, .inr (5, [v4, v5, v6, .ref a3, v7, v8, v9, v10, v11, v12, v13, v14, v15, v16, v17, v18, v19, v20, v21, v22, v23, .ref a1, .int 0, .int 4096, v24, v25, v26, v27, v28, v29, v30, v31])), (a1, .inl (cT 0, 1024, .inl f32)), (a2, .inr (6, [v33, v34, .int 0, .int 4, v35, v36])), (a3, .inl (cT 0, 4096, .inl f37))] (fun A => va_Qv (fun _ : Unit => True) (fun _ t => ∃ (y1 : Int32) (y2 : Int32) (y3 : Int32) (y4 : Int32) (y5 : Int32) (y6 : Int32), xB D xcl cT A [(a0, .inr (5, [v4, v5, v6, .ref a3, v7, v8, v9, v10, v11, v12, v13, v14, v15, v16, v17, v18, v19, v20, v21, v22, v23, .ref a1, .int 6, .int 4096, v24, v25, v26, v27, v28, v29, v30, v31])), (a1, .inl (cT 0, 1024, .inl (upd (upd (upd (upd (upd (upd f32 0 (vp_nar .byte y1)) 1 (vp_nar .byte y2)) 2 (vp_nar .byte y3)) 3 (vp_nar .byte y4)) 4 (vp_nar .byte y5)) 5 (vp_nar .byte y6)))), (a2, .inr (6, [v33, v34, .int 0, .int 4, v35, v36])), (a3, .inl (cT 0, 4096, .inl f37))] t) A) := by
  refine Met.ofW (cc := prog_13_method_45_code) (maxL := 4) (ret := none) (by decide) rfl ?_
  intro p e s m args below meth c s₁ B hml hv
  obtain ⟨rfl, hsz, hZ, hP, hK, hD0⟩ := hv
  have hx := B.exec
  have hb := B.bytes
  have hr := B.returns
  have hts := atoms_spec (ws := wyM_putString) B.pre
  have htx := fun w h => hts w (List.mem_cons_of_mem _ h)
  have hown : s.vm.findClass "ValueBenchModel" = some m.cls := findClass_of_methodNamed B.named
  have hlocks := B.notSynchronized
  subst hsz
  have hD := hD0.self (sz := s.heap.size)
  generalize hAe : va_A [(a0, .inr (5, [v4, v5, v6, .ref a3, v7, v8, v9, v10, v11, v12, v13, v14, v15, v16, v17, v18, v19, v20, v21, v22, v23, .ref a1, .int 0, .int 4096, v24, v25, v26, v27, v28, v29, v30, v31])), (a1, .inl (cT 0, 1024, .inl f32)), (a2, .inr (6, [v33, v34, .int 0, .int 4, v35, v36])), (a3, .inl (cT 0, 4096, .inl f37))] s.heap.size = A at hD hZ ⊢
  have hA : ∀ q : Nat, s.heap.size ≤ q → A q := fun q h => by rw [← hAe]; exact Or.inr h
  have hS : va_S A s.heap s.heap [] := va_S.rf
  have hP : va_P D xcl [(a0, .inr (5, [v4, v5, v6, .ref a3, v7, v8, v9, v10, v11, v12, v13, v14, v15, v16, v17, v18, v19, v20, v21, v22, v23, .ref a1, .int 0, .int 4096, v24, v25, v26, v27, v28, v29, v30, v31])), (a1, .inl (cT 0, 1024, .inl f32)), (a2, .inr (6, [v33, v34, .int 0, .int 4, v35, v36])), (a3, .inl (cT 0, 4096, .inl f37))] s.heap := hP
  have hl := lv_entry ([.ref a0, .ref a2]) (n := 4) (Nat.le_of_ble_eq_true rfl)
  rw [lg_entry_eq]
  generalize (lg_sl ([.ref a0, .ref a2]) ++ List.replicate (4 - (lg_sl ([.ref a0, .ref a2])).length) Slot.unset).toArray = ls at hl ⊢
  have hl : lv_has ls 4 [(0, .ref a0), (1, .ref a2)] := hl
  refine lv_aload_n hx hb dM_putString_0 rfl (lv_at hl 0 rfl) ?_
  refine lv_bipush (v := 34) hx hb dM_putString_1 (by decide) ?_
  obtain ⟨hPc, hDc, hFc⟩ := xcut (wc := [(a0, .inr (5, [v4, v5, v6, .ref a3, v7, v8, v9, v10, v11, v12, v13, v14, v15, v16, v17, v18, v19, v20, v21, v22, v23, .ref a1, .int 0, .int 4096, v24, v25, v26, v27, v28, v29, v30, v31])), (a1, .inl (cT 0, 1024, .inl f32))]) hP hD hS hA [0, 1] rfl rfl (by decide)
  refine va_callv (va_runV (C := "ValueBenchModel") (As := [.int 34]) (rest := []) ⟨hx, hb, hml, hown, htx⟩ (cM_put0_0 l hl9 D cT aK aV s.heap.size a0 a1 34 v4 v5 v6 (.ref a3) v7 v8 v9 v10 v11 v12 v13 v14 v15 v16 v17 v18 v19 v20 v21 v22 v23 v24 v25 v26 v27 v28 v29 v30 v31 f32) ⟨callB_of 1 htx (xw_goodC kw_6_136) rfl rfl rfl (htx _ kw_1_5) (htx _ kw_6_133) ⟨by decide, by decide, by decide +kernel⟩ ⟨Nat.le_of_ble_eq_true rfl, Nat.le_of_ble_eq_true rfl⟩, (htx _ kw_6_135), (htx _ kp_M_put0)⟩ ⟨xPre_blind, va_recv hK hP (ci := 5) rfl (q0 := 0) rfl, (fun U hU hW => ⟨rfl, xPre_of hZ hS hFc hPc hDc hK U hU hW⟩)⟩ rfl rfl hl.1 rfl (lv_room (Nat.le_of_ble_eq_true rfl)) dM_putString_3 ⟨Nat.le_of_ble_eq_true rfl, Nat.le_of_ble_eq_true rfl⟩) hS (fun q _ h => hFc q h) hFc (fun u9 t H1 locs ht hvm hr9 hB hz1 hk1 hS => ?_)
  obtain ⟨y1, hP1, hK1, hD1⟩ := hB
  rw [ht] at hP1
  obtain ⟨hP, hD⟩ := xjoin (W := [(a2, .inr (6, [v33, v34, .int 0, .int 4, v35, v36])), (a3, .inl (cT 0, 4096, .inl f37)), (a0, .inr (5, [v4, v5, v6, .ref a3, v7, v8, v9, v10, v11, v12, v13, v14, v15, v16, v17, v18, v19, v20, v21, v22, v23, .ref a1, .int 1, .int 4096, v24, v25, v26, v27, v28, v29, v30, v31])), (a1, .inl (cT 0, 1024, .inl (upd f32 0 (vp_nar .byte y1))))]) hP hD [0, 1] [2, 3] 2 rfl rfl (by decide) (by decide) hk1 hFc hP1 hD1
  generalize H1 = H at hP hS ⊢
  refine lv_iconst (v := 0) hx hb dM_putString_6 (by decide) ?_
  refine lv_istore_n (lv' := [(2, .int 0), (0, .ref a0), (1, .ref a2)]) hx hb dM_putString_7 rfl hl (by decide) rfl (fun ls hl => ?_)
  refine lv_iload_n hx hb dM_putString_8 rfl (lv_at hl 0 rfl) ?_
  refine lv_aload_n hx hb dM_putString_9 rfl (lv_at hl 2 rfl) ?_
  refine va_getN (D := D) (ci := 6) (v := .int 4) (C := "ValueBenchModel$V") (T := TV) (N := 6) hx hb htx inV hown hK hP 0 rfl rfl 3 (by decide) ((hZ.1 _ (List.mem_of_getElem? (i := 3) rfl)).use rfl) (fun _ h9 => h9) rfl dM_putString_10 ?_
  refine lv_icmp_ge (tgt := 183) hx hb dM_putString_13 (by decide) (fun h => ((by revert h; decide : False)).elim) (fun _ => ?_)
  refine lv_aload_n hx hb dM_putString_16 rfl (lv_at hl 1 rfl) ?_
  refine va_get (D := D) (ci := 5) (v := .ref a3) (C := "ValueBenchModel") (T := TM) (N := 32) hx hb htx inM hown hK hP 2 rfl rfl 3 (by decide) (htx _ kw_5_90) (fun _ h9 => h9) rfl dM_putString_17 ?_
  refine lv_aload_n hx hb dM_putString_20 rfl (lv_at hl 2 rfl) ?_
  refine va_getN (D := D) (ci := 6) (v := .int 0) (C := "ValueBenchModel$V") (T := TV) (N := 6) hx hb htx inV hown hK hP 0 rfl rfl 2 (by decide) ((hZ.1 _ (List.mem_of_getElem? (i := 2) rfl)).use rfl) (fun _ h9 => h9) rfl dM_putString_21 ?_
  refine lv_iload_n hx hb dM_putString_24 rfl (lv_at hl 0 rfl) ?_
  refine lv_iadd hx hb dM_putString_25 ?_
  refine W.eq (g2 := F0 m 26 ls [.int 0, .ref a3]) rfl ?_
  refine va_bald hx hb hK hP 1 0 rfl rfl (show ¬ ((0 : Int32) < 0 ∨ 4096 ≤ (0 : Int32).toNatClampNeg) by decide) dM_putString_26 ?_
  refine W.eq (g2 := F0 m 27 ls [.int (f37 0)]) rfl ?_
  rw [h38]
  refine W.eq (g2 := F0 m 27 ls [.int 110]) rfl ?_
  refine lv_istore_n (lv' := [(3, .int 110), (2, .int 0), (0, .ref a0), (1, .ref a2)]) hx hb dM_putString_27 rfl hl (by decide) rfl (fun ls hl => ?_)
  refine lv_iload_n hx hb dM_putString_28 rfl (lv_at hl 0 rfl) ?_
  refine lv_bipush (v := 34) hx hb dM_putString_29 (by decide) ?_
  refine lv_icmp_eq (tgt := 40) hx hb dM_putString_31 (by decide) (fun h => ((by revert h; decide : False)).elim) (fun _ => ?_)
  refine lv_iload_n hx hb dM_putString_34 rfl (lv_at hl 0 rfl) ?_
  refine lv_bipush (v := 92) hx hb dM_putString_35 (by decide) ?_
  refine lv_icmp_ne (tgt := 54) hx hb dM_putString_37 (by decide) (fun _ => ?_) (fun h => ((by revert h; decide : False)).elim)
  refine lv_iload_n hx hb dM_putString_54 rfl (lv_at hl 0 rfl) ?_
  refine lv_bipush (v := 32) hx hb dM_putString_55 (by decide) ?_
  refine lv_icmp_lt (tgt := 74) hx hb dM_putString_57 (by decide) (fun h => ((by revert h; decide : False)).elim) (fun _ => ?_)
  refine lv_iload_n hx hb dM_putString_60 rfl (lv_at hl 0 rfl) ?_
  refine lv_bipush (v := 127) hx hb dM_putString_61 (by decide) ?_
  refine lv_icmp_ge (tgt := 74) hx hb dM_putString_63 (by decide) (fun h => ((by revert h; decide : False)).elim) (fun _ => ?_)
  refine lv_aload_n hx hb dM_putString_66 rfl (lv_at hl 2 rfl) ?_
  refine lv_iload_n hx hb dM_putString_67 rfl (lv_at hl 0 rfl) ?_
  obtain ⟨hPc, hDc, hFc⟩ := xcut (wc := [(a0, .inr (5, [v4, v5, v6, .ref a3, v7, v8, v9, v10, v11, v12, v13, v14, v15, v16, v17, v18, v19, v20, v21, v22, v23, .ref a1, .int 1, .int 4096, v24, v25, v26, v27, v28, v29, v30, v31])), (a1, .inl (cT 0, 1024, .inl (upd f32 0 (vp_nar .byte y1))))]) hP hD hS hA [2, 3] rfl rfl (by decide)
  refine va_callv (va_runV (C := "ValueBenchModel") (As := [.int 110]) (rest := []) ⟨hx, hb, hml, hown, htx⟩ (cM_put0_1 l hl9 D cT aK aV H.size a0 a1 110 v4 v5 v6 (.ref a3) v7 v8 v9 v10 v11 v12 v13 v14 v15 v16 v17 v18 v19 v20 v21 v22 v23 v24 v25 v26 v27 v28 v29 v30 v31 (upd f32 0 (vp_nar .byte y1))) ⟨callB_of 1 htx (xw_goodC kw_6_136) rfl rfl rfl (htx _ kw_1_5) (htx _ kw_6_133) ⟨by decide, by decide, by decide +kernel⟩ ⟨Nat.le_of_ble_eq_true rfl, Nat.le_of_ble_eq_true rfl⟩, (htx _ kw_6_135), (htx _ kp_M_put0)⟩ ⟨xPre_blind, va_recv hK hP (ci := 5) rfl (q0 := 2) rfl, (fun U hU hW => ⟨rfl, xPre_of hZ hS hFc hPc hDc hK U hU hW⟩)⟩ rfl rfl hl.1 rfl (lv_room (Nat.le_of_ble_eq_true rfl)) dM_putString_68 ⟨Nat.le_of_ble_eq_true rfl, Nat.le_of_ble_eq_true rfl⟩) hS (fun q _ h => hFc q h) hFc (fun u9 t H1 locs ht hvm hr9 hB hz1 hk1 hS => ?_)
  obtain ⟨y2, hP1, hK1, hD1⟩ := hB
  rw [ht] at hP1
  obtain ⟨hP, hD⟩ := xjoin (W := [(a2, .inr (6, [v33, v34, .int 0, .int 4, v35, v36])), (a3, .inl (cT 0, 4096, .inl f37)), (a0, .inr (5, [v4, v5, v6, .ref a3, v7, v8, v9, v10, v11, v12, v13, v14, v15, v16, v17, v18, v19, v20, v21, v22, v23, .ref a1, .int 2, .int 4096, v24, v25, v26, v27, v28, v29, v30, v31])), (a1, .inl (cT 0, 1024, .inl (upd (upd f32 0 (vp_nar .byte y1)) 1 (vp_nar .byte y2))))]) hP hD [2, 3] [0, 1] 2 rfl rfl (by decide) (by decide) hk1 hFc hP1 hD1
  generalize H1 = H at hP hS ⊢
  refine lv_goto (tgt := 177) hx hb dM_putString_71 (by decide) ?_
  refine lv_iinc (v := 1) (lv' := [(2, .int 1), (3, .int 110), (0, .ref a0), (1, .ref a2)]) hx hb dM_putString_177 hl (k := 1) rfl (by decide) (by decide) rfl (fun ls hl => ?_)
  refine lv_goto (tgt := 8) hx hb dM_putString_180 (by decide) ?_
  refine lv_iload_n hx hb dM_putString_8 rfl (lv_at hl 0 rfl) ?_
  refine lv_aload_n hx hb dM_putString_9 rfl (lv_at hl 3 rfl) ?_
  refine va_getN (D := D) (ci := 6) (v := .int 4) (C := "ValueBenchModel$V") (T := TV) (N := 6) hx hb htx inV hown hK hP 0 rfl rfl 3 (by decide) ((hZ.1 _ (List.mem_of_getElem? (i := 3) rfl)).use rfl) (fun _ h9 => h9) rfl dM_putString_10 ?_
  refine lv_icmp_ge (tgt := 183) hx hb dM_putString_13 (by decide) (fun h => ((by revert h; decide : False)).elim) (fun _ => ?_)
  refine lv_aload_n hx hb dM_putString_16 rfl (lv_at hl 2 rfl) ?_
  refine va_get (D := D) (ci := 5) (v := .ref a3) (C := "ValueBenchModel") (T := TM) (N := 32) hx hb htx inM hown hK hP 2 rfl rfl 3 (by decide) (htx _ kw_5_90) (fun _ h9 => h9) rfl dM_putString_17 ?_
  refine lv_aload_n hx hb dM_putString_20 rfl (lv_at hl 3 rfl) ?_
  refine va_getN (D := D) (ci := 6) (v := .int 0) (C := "ValueBenchModel$V") (T := TV) (N := 6) hx hb htx inV hown hK hP 0 rfl rfl 2 (by decide) ((hZ.1 _ (List.mem_of_getElem? (i := 2) rfl)).use rfl) (fun _ h9 => h9) rfl dM_putString_21 ?_
  refine lv_iload_n hx hb dM_putString_24 rfl (lv_at hl 0 rfl) ?_
  refine lv_iadd hx hb dM_putString_25 ?_
  refine W.eq (g2 := F0 m 26 ls [.int 1, .ref a3]) rfl ?_
  refine va_bald hx hb hK hP 1 0 rfl rfl (show ¬ ((1 : Int32) < 0 ∨ 4096 ≤ (1 : Int32).toNatClampNeg) by decide) dM_putString_26 ?_
  refine W.eq (g2 := F0 m 27 ls [.int (f37 1)]) rfl ?_
  rw [h39]
  refine W.eq (g2 := F0 m 27 ls [.int 117]) rfl ?_
  refine lv_istore_n (lv' := [(3, .int 117), (2, .int 1), (0, .ref a0), (1, .ref a2)]) hx hb dM_putString_27 rfl hl (by decide) rfl (fun ls hl => ?_)
  refine lv_iload_n hx hb dM_putString_28 rfl (lv_at hl 0 rfl) ?_
  refine lv_bipush (v := 34) hx hb dM_putString_29 (by decide) ?_
  refine lv_icmp_eq (tgt := 40) hx hb dM_putString_31 (by decide) (fun h => ((by revert h; decide : False)).elim) (fun _ => ?_)
  refine lv_iload_n hx hb dM_putString_34 rfl (lv_at hl 0 rfl) ?_
  refine lv_bipush (v := 92) hx hb dM_putString_35 (by decide) ?_
  refine lv_icmp_ne (tgt := 54) hx hb dM_putString_37 (by decide) (fun _ => ?_) (fun h => ((by revert h; decide : False)).elim)
  refine lv_iload_n hx hb dM_putString_54 rfl (lv_at hl 0 rfl) ?_
  refine lv_bipush (v := 32) hx hb dM_putString_55 (by decide) ?_
  refine lv_icmp_lt (tgt := 74) hx hb dM_putString_57 (by decide) (fun h => ((by revert h; decide : False)).elim) (fun _ => ?_)
  refine lv_iload_n hx hb dM_putString_60 rfl (lv_at hl 0 rfl) ?_
  refine lv_bipush (v := 127) hx hb dM_putString_61 (by decide) ?_
  refine lv_icmp_ge (tgt := 74) hx hb dM_putString_63 (by decide) (fun h => ((by revert h; decide : False)).elim) (fun _ => ?_)
  refine lv_aload_n hx hb dM_putString_66 rfl (lv_at hl 2 rfl) ?_
  refine lv_iload_n hx hb dM_putString_67 rfl (lv_at hl 0 rfl) ?_
  obtain ⟨hPc, hDc, hFc⟩ := xcut (wc := [(a0, .inr (5, [v4, v5, v6, .ref a3, v7, v8, v9, v10, v11, v12, v13, v14, v15, v16, v17, v18, v19, v20, v21, v22, v23, .ref a1, .int 2, .int 4096, v24, v25, v26, v27, v28, v29, v30, v31])), (a1, .inl (cT 0, 1024, .inl (upd (upd f32 0 (vp_nar .byte y1)) 1 (vp_nar .byte y2))))]) hP hD hS hA [2, 3] rfl rfl (by decide)
  refine va_callv (va_runV (C := "ValueBenchModel") (As := [.int 117]) (rest := []) ⟨hx, hb, hml, hown, htx⟩ (cM_put0_2 l hl9 D cT aK aV H.size a0 a1 117 v4 v5 v6 (.ref a3) v7 v8 v9 v10 v11 v12 v13 v14 v15 v16 v17 v18 v19 v20 v21 v22 v23 v24 v25 v26 v27 v28 v29 v30 v31 (upd (upd f32 0 (vp_nar .byte y1)) 1 (vp_nar .byte y2))) ⟨callB_of 1 htx (xw_goodC kw_6_136) rfl rfl rfl (htx _ kw_1_5) (htx _ kw_6_133) ⟨by decide, by decide, by decide +kernel⟩ ⟨Nat.le_of_ble_eq_true rfl, Nat.le_of_ble_eq_true rfl⟩, (htx _ kw_6_135), (htx _ kp_M_put0)⟩ ⟨xPre_blind, va_recv hK hP (ci := 5) rfl (q0 := 2) rfl, (fun U hU hW => ⟨rfl, xPre_of hZ hS hFc hPc hDc hK U hU hW⟩)⟩ rfl rfl hl.1 rfl (lv_room (Nat.le_of_ble_eq_true rfl)) dM_putString_68 ⟨Nat.le_of_ble_eq_true rfl, Nat.le_of_ble_eq_true rfl⟩) hS (fun q _ h => hFc q h) hFc (fun u9 t H1 locs ht hvm hr9 hB hz1 hk1 hS => ?_)
  obtain ⟨y3, hP1, hK1, hD1⟩ := hB
  rw [ht] at hP1
  obtain ⟨hP, hD⟩ := xjoin (W := [(a2, .inr (6, [v33, v34, .int 0, .int 4, v35, v36])), (a3, .inl (cT 0, 4096, .inl f37)), (a0, .inr (5, [v4, v5, v6, .ref a3, v7, v8, v9, v10, v11, v12, v13, v14, v15, v16, v17, v18, v19, v20, v21, v22, v23, .ref a1, .int 3, .int 4096, v24, v25, v26, v27, v28, v29, v30, v31])), (a1, .inl (cT 0, 1024, .inl (upd (upd (upd f32 0 (vp_nar .byte y1)) 1 (vp_nar .byte y2)) 2 (vp_nar .byte y3))))]) hP hD [2, 3] [0, 1] 2 rfl rfl (by decide) (by decide) hk1 hFc hP1 hD1
  generalize H1 = H at hP hS ⊢
  refine lv_goto (tgt := 177) hx hb dM_putString_71 (by decide) ?_
  refine lv_iinc (v := 2) (lv' := [(2, .int 2), (3, .int 117), (0, .ref a0), (1, .ref a2)]) hx hb dM_putString_177 hl (k := 1) rfl (by decide) (by decide) rfl (fun ls hl => ?_)
  refine lv_goto (tgt := 8) hx hb dM_putString_180 (by decide) ?_
  refine lv_iload_n hx hb dM_putString_8 rfl (lv_at hl 0 rfl) ?_
  refine lv_aload_n hx hb dM_putString_9 rfl (lv_at hl 3 rfl) ?_
  refine va_getN (D := D) (ci := 6) (v := .int 4) (C := "ValueBenchModel$V") (T := TV) (N := 6) hx hb htx inV hown hK hP 0 rfl rfl 3 (by decide) ((hZ.1 _ (List.mem_of_getElem? (i := 3) rfl)).use rfl) (fun _ h9 => h9) rfl dM_putString_10 ?_
  refine lv_icmp_ge (tgt := 183) hx hb dM_putString_13 (by decide) (fun h => ((by revert h; decide : False)).elim) (fun _ => ?_)
  refine lv_aload_n hx hb dM_putString_16 rfl (lv_at hl 2 rfl) ?_
  refine va_get (D := D) (ci := 5) (v := .ref a3) (C := "ValueBenchModel") (T := TM) (N := 32) hx hb htx inM hown hK hP 2 rfl rfl 3 (by decide) (htx _ kw_5_90) (fun _ h9 => h9) rfl dM_putString_17 ?_
  refine lv_aload_n hx hb dM_putString_20 rfl (lv_at hl 3 rfl) ?_
  refine va_getN (D := D) (ci := 6) (v := .int 0) (C := "ValueBenchModel$V") (T := TV) (N := 6) hx hb htx inV hown hK hP 0 rfl rfl 2 (by decide) ((hZ.1 _ (List.mem_of_getElem? (i := 2) rfl)).use rfl) (fun _ h9 => h9) rfl dM_putString_21 ?_
  refine lv_iload_n hx hb dM_putString_24 rfl (lv_at hl 0 rfl) ?_
  refine lv_iadd hx hb dM_putString_25 ?_
  refine W.eq (g2 := F0 m 26 ls [.int 2, .ref a3]) rfl ?_
  refine va_bald hx hb hK hP 1 0 rfl rfl (show ¬ ((2 : Int32) < 0 ∨ 4096 ≤ (2 : Int32).toNatClampNeg) by decide) dM_putString_26 ?_
  refine W.eq (g2 := F0 m 27 ls [.int (f37 2)]) rfl ?_
  rw [h40]
  refine W.eq (g2 := F0 m 27 ls [.int 108]) rfl ?_
  refine lv_istore_n (lv' := [(3, .int 108), (2, .int 2), (0, .ref a0), (1, .ref a2)]) hx hb dM_putString_27 rfl hl (by decide) rfl (fun ls hl => ?_)
  refine lv_iload_n hx hb dM_putString_28 rfl (lv_at hl 0 rfl) ?_
  refine lv_bipush (v := 34) hx hb dM_putString_29 (by decide) ?_
  refine lv_icmp_eq (tgt := 40) hx hb dM_putString_31 (by decide) (fun h => ((by revert h; decide : False)).elim) (fun _ => ?_)
  refine lv_iload_n hx hb dM_putString_34 rfl (lv_at hl 0 rfl) ?_
  refine lv_bipush (v := 92) hx hb dM_putString_35 (by decide) ?_
  refine lv_icmp_ne (tgt := 54) hx hb dM_putString_37 (by decide) (fun _ => ?_) (fun h => ((by revert h; decide : False)).elim)
  refine lv_iload_n hx hb dM_putString_54 rfl (lv_at hl 0 rfl) ?_
  refine lv_bipush (v := 32) hx hb dM_putString_55 (by decide) ?_
  refine lv_icmp_lt (tgt := 74) hx hb dM_putString_57 (by decide) (fun h => ((by revert h; decide : False)).elim) (fun _ => ?_)
  refine lv_iload_n hx hb dM_putString_60 rfl (lv_at hl 0 rfl) ?_
  refine lv_bipush (v := 127) hx hb dM_putString_61 (by decide) ?_
  refine lv_icmp_ge (tgt := 74) hx hb dM_putString_63 (by decide) (fun h => ((by revert h; decide : False)).elim) (fun _ => ?_)
  refine lv_aload_n hx hb dM_putString_66 rfl (lv_at hl 2 rfl) ?_
  refine lv_iload_n hx hb dM_putString_67 rfl (lv_at hl 0 rfl) ?_
  obtain ⟨hPc, hDc, hFc⟩ := xcut (wc := [(a0, .inr (5, [v4, v5, v6, .ref a3, v7, v8, v9, v10, v11, v12, v13, v14, v15, v16, v17, v18, v19, v20, v21, v22, v23, .ref a1, .int 3, .int 4096, v24, v25, v26, v27, v28, v29, v30, v31])), (a1, .inl (cT 0, 1024, .inl (upd (upd (upd f32 0 (vp_nar .byte y1)) 1 (vp_nar .byte y2)) 2 (vp_nar .byte y3))))]) hP hD hS hA [2, 3] rfl rfl (by decide)
  refine va_callv (va_runV (C := "ValueBenchModel") (As := [.int 108]) (rest := []) ⟨hx, hb, hml, hown, htx⟩ (cM_put0_3 l hl9 D cT aK aV H.size a0 a1 108 v4 v5 v6 (.ref a3) v7 v8 v9 v10 v11 v12 v13 v14 v15 v16 v17 v18 v19 v20 v21 v22 v23 v24 v25 v26 v27 v28 v29 v30 v31 (upd (upd (upd f32 0 (vp_nar .byte y1)) 1 (vp_nar .byte y2)) 2 (vp_nar .byte y3))) ⟨callB_of 1 htx (xw_goodC kw_6_136) rfl rfl rfl (htx _ kw_1_5) (htx _ kw_6_133) ⟨by decide, by decide, by decide +kernel⟩ ⟨Nat.le_of_ble_eq_true rfl, Nat.le_of_ble_eq_true rfl⟩, (htx _ kw_6_135), (htx _ kp_M_put0)⟩ ⟨xPre_blind, va_recv hK hP (ci := 5) rfl (q0 := 2) rfl, (fun U hU hW => ⟨rfl, xPre_of hZ hS hFc hPc hDc hK U hU hW⟩)⟩ rfl rfl hl.1 rfl (lv_room (Nat.le_of_ble_eq_true rfl)) dM_putString_68 ⟨Nat.le_of_ble_eq_true rfl, Nat.le_of_ble_eq_true rfl⟩) hS (fun q _ h => hFc q h) hFc (fun u9 t H1 locs ht hvm hr9 hB hz1 hk1 hS => ?_)
  obtain ⟨y4, hP1, hK1, hD1⟩ := hB
  rw [ht] at hP1
  obtain ⟨hP, hD⟩ := xjoin (W := [(a2, .inr (6, [v33, v34, .int 0, .int 4, v35, v36])), (a3, .inl (cT 0, 4096, .inl f37)), (a0, .inr (5, [v4, v5, v6, .ref a3, v7, v8, v9, v10, v11, v12, v13, v14, v15, v16, v17, v18, v19, v20, v21, v22, v23, .ref a1, .int 4, .int 4096, v24, v25, v26, v27, v28, v29, v30, v31])), (a1, .inl (cT 0, 1024, .inl (upd (upd (upd (upd f32 0 (vp_nar .byte y1)) 1 (vp_nar .byte y2)) 2 (vp_nar .byte y3)) 3 (vp_nar .byte y4))))]) hP hD [2, 3] [0, 1] 2 rfl rfl (by decide) (by decide) hk1 hFc hP1 hD1
  generalize H1 = H at hP hS ⊢
  refine lv_goto (tgt := 177) hx hb dM_putString_71 (by decide) ?_
  refine lv_iinc (v := 3) (lv' := [(2, .int 3), (3, .int 108), (0, .ref a0), (1, .ref a2)]) hx hb dM_putString_177 hl (k := 1) rfl (by decide) (by decide) rfl (fun ls hl => ?_)
  refine lv_goto (tgt := 8) hx hb dM_putString_180 (by decide) ?_
  refine lv_iload_n hx hb dM_putString_8 rfl (lv_at hl 0 rfl) ?_
  refine lv_aload_n hx hb dM_putString_9 rfl (lv_at hl 3 rfl) ?_
  refine va_getN (D := D) (ci := 6) (v := .int 4) (C := "ValueBenchModel$V") (T := TV) (N := 6) hx hb htx inV hown hK hP 0 rfl rfl 3 (by decide) ((hZ.1 _ (List.mem_of_getElem? (i := 3) rfl)).use rfl) (fun _ h9 => h9) rfl dM_putString_10 ?_
  refine lv_icmp_ge (tgt := 183) hx hb dM_putString_13 (by decide) (fun h => ((by revert h; decide : False)).elim) (fun _ => ?_)
  refine lv_aload_n hx hb dM_putString_16 rfl (lv_at hl 2 rfl) ?_
  refine va_get (D := D) (ci := 5) (v := .ref a3) (C := "ValueBenchModel") (T := TM) (N := 32) hx hb htx inM hown hK hP 2 rfl rfl 3 (by decide) (htx _ kw_5_90) (fun _ h9 => h9) rfl dM_putString_17 ?_
  refine lv_aload_n hx hb dM_putString_20 rfl (lv_at hl 3 rfl) ?_
  refine va_getN (D := D) (ci := 6) (v := .int 0) (C := "ValueBenchModel$V") (T := TV) (N := 6) hx hb htx inV hown hK hP 0 rfl rfl 2 (by decide) ((hZ.1 _ (List.mem_of_getElem? (i := 2) rfl)).use rfl) (fun _ h9 => h9) rfl dM_putString_21 ?_
  refine lv_iload_n hx hb dM_putString_24 rfl (lv_at hl 0 rfl) ?_
  refine lv_iadd hx hb dM_putString_25 ?_
  refine W.eq (g2 := F0 m 26 ls [.int 3, .ref a3]) rfl ?_
  refine va_bald hx hb hK hP 1 0 rfl rfl (show ¬ ((3 : Int32) < 0 ∨ 4096 ≤ (3 : Int32).toNatClampNeg) by decide) dM_putString_26 ?_
  refine W.eq (g2 := F0 m 27 ls [.int (f37 3)]) rfl ?_
  rw [h41]
  refine W.eq (g2 := F0 m 27 ls [.int 108]) rfl ?_
  refine lv_istore_n (lv' := [(3, .int 108), (2, .int 3), (0, .ref a0), (1, .ref a2)]) hx hb dM_putString_27 rfl hl (by decide) rfl (fun ls hl => ?_)
  refine lv_iload_n hx hb dM_putString_28 rfl (lv_at hl 0 rfl) ?_
  refine lv_bipush (v := 34) hx hb dM_putString_29 (by decide) ?_
  refine lv_icmp_eq (tgt := 40) hx hb dM_putString_31 (by decide) (fun h => ((by revert h; decide : False)).elim) (fun _ => ?_)
  refine lv_iload_n hx hb dM_putString_34 rfl (lv_at hl 0 rfl) ?_
  refine lv_bipush (v := 92) hx hb dM_putString_35 (by decide) ?_
  refine lv_icmp_ne (tgt := 54) hx hb dM_putString_37 (by decide) (fun _ => ?_) (fun h => ((by revert h; decide : False)).elim)
  refine lv_iload_n hx hb dM_putString_54 rfl (lv_at hl 0 rfl) ?_
  refine lv_bipush (v := 32) hx hb dM_putString_55 (by decide) ?_
  refine lv_icmp_lt (tgt := 74) hx hb dM_putString_57 (by decide) (fun h => ((by revert h; decide : False)).elim) (fun _ => ?_)
  refine lv_iload_n hx hb dM_putString_60 rfl (lv_at hl 0 rfl) ?_
  refine lv_bipush (v := 127) hx hb dM_putString_61 (by decide) ?_
  refine lv_icmp_ge (tgt := 74) hx hb dM_putString_63 (by decide) (fun h => ((by revert h; decide : False)).elim) (fun _ => ?_)
  refine lv_aload_n hx hb dM_putString_66 rfl (lv_at hl 2 rfl) ?_
  refine lv_iload_n hx hb dM_putString_67 rfl (lv_at hl 0 rfl) ?_
  obtain ⟨hPc, hDc, hFc⟩ := xcut (wc := [(a0, .inr (5, [v4, v5, v6, .ref a3, v7, v8, v9, v10, v11, v12, v13, v14, v15, v16, v17, v18, v19, v20, v21, v22, v23, .ref a1, .int 4, .int 4096, v24, v25, v26, v27, v28, v29, v30, v31])), (a1, .inl (cT 0, 1024, .inl (upd (upd (upd (upd f32 0 (vp_nar .byte y1)) 1 (vp_nar .byte y2)) 2 (vp_nar .byte y3)) 3 (vp_nar .byte y4))))]) hP hD hS hA [2, 3] rfl rfl (by decide)
  refine va_callv (va_runV (C := "ValueBenchModel") (As := [.int 108]) (rest := []) ⟨hx, hb, hml, hown, htx⟩ (cM_put0_8 l hl9 D cT aK aV H.size a0 a1 108 v4 v5 v6 (.ref a3) v7 v8 v9 v10 v11 v12 v13 v14 v15 v16 v17 v18 v19 v20 v21 v22 v23 v24 v25 v26 v27 v28 v29 v30 v31 (upd (upd (upd (upd f32 0 (vp_nar .byte y1)) 1 (vp_nar .byte y2)) 2 (vp_nar .byte y3)) 3 (vp_nar .byte y4))) ⟨callB_of 1 htx (xw_goodC kw_6_136) rfl rfl rfl (htx _ kw_1_5) (htx _ kw_6_133) ⟨by decide, by decide, by decide +kernel⟩ ⟨Nat.le_of_ble_eq_true rfl, Nat.le_of_ble_eq_true rfl⟩, (htx _ kw_6_135), (htx _ kp_M_put0)⟩ ⟨xPre_blind, va_recv hK hP (ci := 5) rfl (q0 := 2) rfl, (fun U hU hW => ⟨rfl, xPre_of hZ hS hFc hPc hDc hK U hU hW⟩)⟩ rfl rfl hl.1 rfl (lv_room (Nat.le_of_ble_eq_true rfl)) dM_putString_68 ⟨Nat.le_of_ble_eq_true rfl, Nat.le_of_ble_eq_true rfl⟩) hS (fun q _ h => hFc q h) hFc (fun u9 t H1 locs ht hvm hr9 hB hz1 hk1 hS => ?_)
  obtain ⟨y5, hP1, hK1, hD1⟩ := hB
  rw [ht] at hP1
  obtain ⟨hP, hD⟩ := xjoin (W := [(a2, .inr (6, [v33, v34, .int 0, .int 4, v35, v36])), (a3, .inl (cT 0, 4096, .inl f37)), (a0, .inr (5, [v4, v5, v6, .ref a3, v7, v8, v9, v10, v11, v12, v13, v14, v15, v16, v17, v18, v19, v20, v21, v22, v23, .ref a1, .int 5, .int 4096, v24, v25, v26, v27, v28, v29, v30, v31])), (a1, .inl (cT 0, 1024, .inl (upd (upd (upd (upd (upd f32 0 (vp_nar .byte y1)) 1 (vp_nar .byte y2)) 2 (vp_nar .byte y3)) 3 (vp_nar .byte y4)) 4 (vp_nar .byte y5))))]) hP hD [2, 3] [0, 1] 2 rfl rfl (by decide) (by decide) hk1 hFc hP1 hD1
  generalize H1 = H at hP hS ⊢
  refine lv_goto (tgt := 177) hx hb dM_putString_71 (by decide) ?_
  refine lv_iinc (v := 4) (lv' := [(2, .int 4), (3, .int 108), (0, .ref a0), (1, .ref a2)]) hx hb dM_putString_177 hl (k := 1) rfl (by decide) (by decide) rfl (fun ls hl => ?_)
  refine lv_goto (tgt := 8) hx hb dM_putString_180 (by decide) ?_
  refine lv_iload_n hx hb dM_putString_8 rfl (lv_at hl 0 rfl) ?_
  refine lv_aload_n hx hb dM_putString_9 rfl (lv_at hl 3 rfl) ?_
  refine va_getN (D := D) (ci := 6) (v := .int 4) (C := "ValueBenchModel$V") (T := TV) (N := 6) hx hb htx inV hown hK hP 0 rfl rfl 3 (by decide) ((hZ.1 _ (List.mem_of_getElem? (i := 3) rfl)).use rfl) (fun _ h9 => h9) rfl dM_putString_10 ?_
  refine lv_icmp_ge (tgt := 183) hx hb dM_putString_13 (by decide) (fun _ => ?_) (fun h => ((by revert h; decide : False)).elim)
  refine lv_aload_n hx hb dM_putString_183 rfl (lv_at hl 2 rfl) ?_
  refine lv_bipush (v := 34) hx hb dM_putString_184 (by decide) ?_
  obtain ⟨hPc, hDc, hFc⟩ := xcut (wc := [(a0, .inr (5, [v4, v5, v6, .ref a3, v7, v8, v9, v10, v11, v12, v13, v14, v15, v16, v17, v18, v19, v20, v21, v22, v23, .ref a1, .int 5, .int 4096, v24, v25, v26, v27, v28, v29, v30, v31])), (a1, .inl (cT 0, 1024, .inl (upd (upd (upd (upd (upd f32 0 (vp_nar .byte y1)) 1 (vp_nar .byte y2)) 2 (vp_nar .byte y3)) 3 (vp_nar .byte y4)) 4 (vp_nar .byte y5))))]) hP hD hS hA [2, 3] rfl rfl (by decide)
  refine va_callv (va_runV (C := "ValueBenchModel") (As := [.int 34]) (rest := []) ⟨hx, hb, hml, hown, htx⟩ (cM_put0_9 l hl9 D cT aK aV H.size a0 a1 34 v4 v5 v6 (.ref a3) v7 v8 v9 v10 v11 v12 v13 v14 v15 v16 v17 v18 v19 v20 v21 v22 v23 v24 v25 v26 v27 v28 v29 v30 v31 (upd (upd (upd (upd (upd f32 0 (vp_nar .byte y1)) 1 (vp_nar .byte y2)) 2 (vp_nar .byte y3)) 3 (vp_nar .byte y4)) 4 (vp_nar .byte y5))) ⟨callB_of 1 htx (xw_goodC kw_6_136) rfl rfl rfl (htx _ kw_1_5) (htx _ kw_6_133) ⟨by decide, by decide, by decide +kernel⟩ ⟨Nat.le_of_ble_eq_true rfl, Nat.le_of_ble_eq_true rfl⟩, (htx _ kw_6_135), (htx _ kp_M_put0)⟩ ⟨xPre_blind, va_recv hK hP (ci := 5) rfl (q0 := 2) rfl, (fun U hU hW => ⟨rfl, xPre_of hZ hS hFc hPc hDc hK U hU hW⟩)⟩ rfl rfl hl.1 rfl (lv_room (Nat.le_of_ble_eq_true rfl)) dM_putString_186 ⟨Nat.le_of_ble_eq_true rfl, Nat.le_of_ble_eq_true rfl⟩) hS (fun q _ h => hFc q h) hFc (fun u9 t H1 locs ht hvm hr9 hB hz1 hk1 hS => ?_)
  obtain ⟨y6, hP1, hK1, hD1⟩ := hB
  rw [ht] at hP1
  obtain ⟨hP, hD⟩ := xjoin (W := [(a2, .inr (6, [v33, v34, .int 0, .int 4, v35, v36])), (a3, .inl (cT 0, 4096, .inl f37)), (a0, .inr (5, [v4, v5, v6, .ref a3, v7, v8, v9, v10, v11, v12, v13, v14, v15, v16, v17, v18, v19, v20, v21, v22, v23, .ref a1, .int 6, .int 4096, v24, v25, v26, v27, v28, v29, v30, v31])), (a1, .inl (cT 0, 1024, .inl (upd (upd (upd (upd (upd (upd f32 0 (vp_nar .byte y1)) 1 (vp_nar .byte y2)) 2 (vp_nar .byte y3)) 3 (vp_nar .byte y4)) 4 (vp_nar .byte y5)) 5 (vp_nar .byte y6))))]) hP hD [2, 3] [0, 1] 2 rfl rfl (by decide) (by decide) hk1 hFc hP1 hD1
  generalize H1 = H at hP hS ⊢
  obtain ⟨hP9, hD9⟩ := xsub (wc := [(a0, .inr (5, [v4, v5, v6, .ref a3, v7, v8, v9, v10, v11, v12, v13, v14, v15, v16, v17, v18, v19, v20, v21, v22, v23, .ref a1, .int 6, .int 4096, v24, v25, v26, v27, v28, v29, v30, v31])), (a1, .inl (cT 0, 1024, .inl (upd (upd (upd (upd (upd (upd f32 0 (vp_nar .byte y1)) 1 (vp_nar .byte y2)) 2 (vp_nar .byte y3)) 3 (vp_nar .byte y4)) 4 (vp_nar .byte y5)) 5 (vp_nar .byte y6)))), (a2, .inr (6, [v33, v34, .int 0, .int 4, v35, v36])), (a3, .inl (cT 0, 4096, .inl f37))]) hP hD [2, 3, 0, 1] rfl rfl (by decide)
  refine W.widen (k := 0) (n := 0) (Nat.le_of_ble_eq_true rfl) (Nat.le_of_ble_eq_true rfl) ?_
  exact W.vret hx hb hr (fun t ht hW => ⟨⟨(), rfl, trivial, y1, y2, y3, y4, y5, y6, by rw [ht]; exact hP9, va_K.moved hW.alike hK, hD9⟩, hS.F ht⟩) hS.2.2 dM_putString_189
set_option maxHeartbeats 400000000 in
set_option maxRecDepth 100000 in
theorem cM_print1_3 (l : Launch) (hl9 : l.stackTraces = false) (D : va_G) (cT : Nat → ClassId) (aK aV : Nat → Nat) (sz : Nat) (a0 : Nat) (a1 : Nat) (a2 : Nat) (a3 : Nat) (v4 : Value) (v5 : Value) (v6 : Value) (v7 : Value) (v8 : Value) (v9 : Value) (v10 : Value) (v11 : Value) (v12 : Value) (v13 : Value) (v14 : Value) (v15 : Value) (v16 : Value) (v17 : Value) (v18 : Value) (v19 : Value) (v20 : Value) (v21 : Value) (v22 : Value) (v23 : Value) (v24 : Value) (v25 : Value) (v26 : Value) (v27 : Value) (v28 : Value) (v29 : Value) (v30 : Value) (v31 : Value) (v32 : Value) (v33 : Value) (v34 : Value) (f35 : Nat → Int32) (f36 : Nat → Int32) (h37 : f36 0 = 110) (h38 : f36 1 = 117) (h39 : f36 2 = 108) (h40 : f36 3 = 108) : xMet l yM_print1 wyM_print1 2 0 0 46 D cT aK aV sz [.ref a1, .ref a0] [(a0, .inr (6, [.int 4, v4, .int 0, .int 4, v5, v6])), (a1, .inr (5, [v7, v8, v9, .ref a3, v10, v11, v12, v13, v14, v15, v16, v17, v18, v19, v20, v21, v22, v23, v24, v25, v26, .ref a2, .int 0, .int 4096, v27, v28, v29, v30, v31, v32, v33, v34])), (a2, .inl (cT 0, 1024, .inl f35)), (a3, .inl (cT 0, 4096, .inl f36))] (fun A => va_Qv (fun _ : Unit => True) (fun _ t => ∃ (y1 : Int32) (y2 : Int32) (y3 : Int32) (y4 : Int32) (y5 : Int32) (y6 : Int32), xB D xcl cT A [(a0, .inr (6, [.int 4, v4, .int 0, .int 4, v5, v6])), (a1, .inr (5, [v7, v8, v9, .ref a3, v10, v11, v12, v13, v14, v15, v16, v17, v18, v19, v20, v21, v22, v23, v24, v25, v26, .ref a2, .int 6, .int 4096, v27, v28, v29, v30, v31, v32, v33, v34])), (a2, .inl (cT 0, 1024, .inl (upd (upd (upd (upd (upd (upd f35 0 (vp_nar .byte y1)) 1 (vp_nar .byte y2)) 2 (vp_nar .byte y3)) 3 (vp_nar .byte y4)) 4 (vp_nar .byte y5)) 5 (vp_nar .byte y6)))), (a3, .inl (cT 0, 4096, .inl f36))] t) A) := by
  refine Met.ofW (cc := prog_13_method_46_code) (maxL := 3) (ret := none) (by decide) rfl ?_
  intro p e s m args below meth c s₁ B hml hv
  obtain ⟨rfl, hsz, hZ, hP, hK, hD0⟩ := hv
  have hx := B.exec
  have hb := B.bytes
  have hr := B.returns
  have hts := atoms_spec (ws := wyM_print1) B.pre
  have htx := fun w h => hts w (List.mem_cons_of_mem _ h)
  have hown : s.vm.findClass "ValueBenchModel" = some m.cls := findClass_of_methodNamed B.named
  have hlocks := B.notSynchronized
  subst hsz
  have hD := hD0.self (sz := s.heap.size)
  generalize hAe : va_A [(a0, .inr (6, [.int 4, v4, .int 0, .int 4, v5, v6])), (a1, .inr (5, [v7, v8, v9, .ref a3, v10, v11, v12, v13, v14, v15, v16, v17, v18, v19, v20, v21, v22, v23, v24, v25, v26, .ref a2, .int 0, .int 4096, v27, v28, v29, v30, v31, v32, v33, v34])), (a2, .inl (cT 0, 1024, .inl f35)), (a3, .inl (cT 0, 4096, .inl f36))] s.heap.size = A at hD hZ ⊢
  have hA : ∀ q : Nat, s.heap.size ≤ q → A q := fun q h => by rw [← hAe]; exact Or.inr h
  have hS : va_S A s.heap s.heap [] := va_S.rf
  have hP : va_P D xcl [(a0, .inr (6, [.int 4, v4, .int 0, .int 4, v5, v6])), (a1, .inr (5, [v7, v8, v9, .ref a3, v10, v11, v12, v13, v14, v15, v16, v17, v18, v19, v20, v21, v22, v23, v24, v25, v26, .ref a2, .int 0, .int 4096, v27, v28, v29, v30, v31, v32, v33, v34])), (a2, .inl (cT 0, 1024, .inl f35)), (a3, .inl (cT 0, 4096, .inl f36))] s.heap := hP
  have hl := lv_entry ([.ref a1, .ref a0]) (n := 3) (Nat.le_of_ble_eq_true rfl)
  rw [lg_entry_eq]
  generalize (lg_sl ([.ref a1, .ref a0]) ++ List.replicate (3 - (lg_sl ([.ref a1, .ref a0])).length) Slot.unset).toArray = ls at hl ⊢
  have hl : lv_has ls 3 [(0, .ref a1), (1, .ref a0)] := hl
  refine lv_aload_n hx hb dM_print1_0 rfl (lv_at hl 1 rfl) ?_
  refine va_getN (D := D) (ci := 6) (v := .int 4) (C := "ValueBenchModel$V") (T := TV) (N := 6) hx hb htx inV hown hK hP 0 rfl rfl 0 (by decide) ((hZ.1 _ (List.mem_of_getElem? (i := 0) rfl)).use rfl) (fun _ h9 => h9) rfl dM_print1_1 ?_
  refine lv_tableIn (off := 66) (tgt := 70) hx hb dM_print1_4 (by decide) (by decide) (by decide) (by decide) ?_
  refine lv_aload_n hx hb dM_print1_70 rfl (lv_at hl 0 rfl) ?_
  refine lv_aload_n hx hb dM_print1_71 rfl (lv_at hl 1 rfl) ?_
  obtain ⟨hPc, hDc, hFc⟩ := xcut (wc := [(a1, .inr (5, [v7, v8, v9, .ref a3, v10, v11, v12, v13, v14, v15, v16, v17, v18, v19, v20, v21, v22, v23, v24, v25, v26, .ref a2, .int 0, .int 4096, v27, v28, v29, v30, v31, v32, v33, v34])), (a2, .inl (cT 0, 1024, .inl f35)), (a0, .inr (6, [.int 4, v4, .int 0, .int 4, v5, v6])), (a3, .inl (cT 0, 4096, .inl f36))]) hP hD hS hA [1, 2, 0, 3] rfl rfl (by decide)
  refine va_callv (va_runV (C := "ValueBenchModel") (As := [.ref a0]) (rest := []) ⟨hx, hb, hml, hown, htx⟩ (cM_putString_0 l hl9 D cT aK aV s.heap.size a1 a2 a0 a3 v7 v8 v9 v10 v11 v12 v13 v14 v15 v16 v17 v18 v19 v20 v21 v22 v23 v24 v25 v26 v27 v28 v29 v30 v31 v32 v33 v34 f35 (.int 4) v4 v5 v6 f36 (by first | rfl | exact h37 | exact h38 | exact h39 | exact h40) (by first | rfl | exact h37 | exact h38 | exact h39 | exact h40) (by first | rfl | exact h37 | exact h38 | exact h39 | exact h40) (by first | rfl | exact h37 | exact h38 | exact h39 | exact h40)) ⟨callB_of 1 htx (xw_goodC kw_6_145) rfl rfl rfl (htx _ kw_1_5) (htx _ kw_6_142) ⟨by decide, by decide, by decide +kernel⟩ ⟨Nat.le_of_ble_eq_true rfl, Nat.le_of_ble_eq_true rfl⟩, (htx _ kw_6_144), (htx _ kp_M_putString)⟩ ⟨xPre_blind, va_recv hK hP (ci := 5) rfl (q0 := 1) rfl, (fun U hU hW => ⟨rfl, xPre_of hZ hS hFc hPc hDc hK U hU hW⟩)⟩ rfl rfl hl.1 rfl (lv_room (Nat.le_of_ble_eq_true rfl)) dM_print1_72 ⟨Nat.le_of_ble_eq_true rfl, Nat.le_of_ble_eq_true rfl⟩) hS (fun q _ h => hFc q h) hFc (fun u9 t H1 locs ht hvm hr9 hB hz1 hk1 hS => ?_)
  obtain ⟨y1, y2, y3, y4, y5, y6, hP1, hK1, hD1⟩ := hB
  rw [ht] at hP1
  obtain ⟨hP, hD⟩ := xjoin (W := [(a1, .inr (5, [v7, v8, v9, .ref a3, v10, v11, v12, v13, v14, v15, v16, v17, v18, v19, v20, v21, v22, v23, v24, v25, v26, .ref a2, .int 6, .int 4096, v27, v28, v29, v30, v31, v32, v33, v34])), (a2, .inl (cT 0, 1024, .inl (upd (upd (upd (upd (upd (upd f35 0 (vp_nar .byte y1)) 1 (vp_nar .byte y2)) 2 (vp_nar .byte y3)) 3 (vp_nar .byte y4)) 4 (vp_nar .byte y5)) 5 (vp_nar .byte y6)))), (a0, .inr (6, [.int 4, v4, .int 0, .int 4, v5, v6])), (a3, .inl (cT 0, 4096, .inl f36))]) hP hD [1, 2, 0, 3] [] 0 rfl rfl (by decide) (by decide) hk1 hFc hP1 hD1
  generalize H1 = H at hP hS ⊢
  obtain ⟨hP9, hD9⟩ := xsub (wc := [(a0, .inr (6, [.int 4, v4, .int 0, .int 4, v5, v6])), (a1, .inr (5, [v7, v8, v9, .ref a3, v10, v11, v12, v13, v14, v15, v16, v17, v18, v19, v20, v21, v22, v23, v24, v25, v26, .ref a2, .int 6, .int 4096, v27, v28, v29, v30, v31, v32, v33, v34])), (a2, .inl (cT 0, 1024, .inl (upd (upd (upd (upd (upd (upd f35 0 (vp_nar .byte y1)) 1 (vp_nar .byte y2)) 2 (vp_nar .byte y3)) 3 (vp_nar .byte y4)) 4 (vp_nar .byte y5)) 5 (vp_nar .byte y6)))), (a3, .inl (cT 0, 4096, .inl f36))]) hP hD [2, 0, 1, 3] rfl rfl (by decide)
  refine W.widen (k := 0) (n := 0) (Nat.le_of_ble_eq_true rfl) (Nat.le_of_ble_eq_true rfl) ?_
  exact W.vret hx hb hr (fun t ht hW => ⟨⟨(), rfl, trivial, y1, y2, y3, y4, y5, y6, by rw [ht]; exact hP9, va_K.moved hW.alike hK, hD9⟩, hS.F ht⟩) hS.2.2 dM_print1_75
set_option maxHeartbeats 400000000 in
set_option maxRecDepth 100000 in
theorem cM_store_2 (l : Launch) (hl9 : l.stackTraces = false) (D : va_G) (cT : Nat → ClassId) (aK aV : Nat → Nat) (sz : Nat) (a0 : Nat) (a1 : Nat) (a2 : Nat) (a3 : Nat) (a4 : Nat) (a5 : Nat) (a6 : Nat) (x7 : Int32) (v12 : Value) (v13 : Value) (v14 : Value) (v15 : Value) (v16 : Value) (v17 : Value) (v18 : Value) (v19 : Value) (v20 : Value) (v21 : Value) (v22 : Value) (v23 : Value) (v24 : Value) (v25 : Value) (v26 : Value) (v27 : Value) (v28 : Value) (v29 : Value) (v30 : Value) (v31 : Value) (v32 : Value) (v33 : Value) (v34 : Value) (v35 : Value) (v36 : Value) (v37 : Value) (v38 : Value) (v39 : Value) (v40 : Value) (v41 : Value) (v42 : Value) (f43 : Nat → Int32) (f44 : Nat → Int32) (f49 : Nat → Option Nat) (f51 : Nat → Int32) (f52 : Nat → Int32) (h8 : ¬ x7 < 0) (h9 : ¬ 7 < x7) (h10 : x7 ≤ 7) (h11 : vp_in x7 8) (h45 : f44 0 = 110) (h46 : f44 1 = 117) (h47 : f44 2 = 108) (h48 : f44 3 = 108) (h50 : f49 x7.toNatClampNeg = some a5) : xMet l yM_store wyM_store 3 0 0 68 D cT aK aV sz [.ref a0, .int x7, .ref a1] [(a0, .inr (5, [v12, v13, v14, .ref a3, v15, v16, v17, v18, v19, v20, v21, v22, v23, v24, v25, v26, v27, v28, v29, v30, v31, .ref a2, v32, v33, .ref a4, .ref a6, v34, v35, v36, v37, v38, v39])), (a1, .inr (6, [.int 4, v40, .int 0, .int 4, v41, v42])), (a2, .inl (cT 0, 1024, .inl f43)), (a3, .inl (cT 0, 4096, .inl f44)), (a4, .inl (cT 5, 8, .inr (.inr (.inr (.inr f49))))), (a5, .inl (cT 0, 4096, .inl f51)), (a6, .inl (cT 1, 8, .inl f52))] (fun A => va_Qi (fun (r : Int32) (_ : Unit) => r = 6) (fun _ t => ∃ (y1 : Int32) (y2 : Int32) (y3 : Int32) (y4 : Int32) (y5 : Int32) (y6 : Int32), xB D xcl cT A [(a0, .inr (5, [v12, v13, v14, .ref a3, v15, v16, v17, v18, v19, v20, v21, v22, v23, v24, v25, v26, v27, v28, v29, v30, v31, .ref a2, .int 6, .int 4096, .ref a4, .ref a6, v34, v35, v36, v37, v38, v39])), (a1, .inr (6, [.int 4, v40, .int 0, .int 4, v41, v42])), (a2, .inl (cT 0, 1024, .inl (upd (upd (upd (upd (upd (upd f43 0 (vp_nar .byte y1)) 1 (vp_nar .byte y2)) 2 (vp_nar .byte y3)) 3 (vp_nar .byte y4)) 4 (vp_nar .byte y5)) 5 (vp_nar .byte y6)))), (a3, .inl (cT 0, 4096, .inl f44)), (a4, .inl (cT 5, 8, .inr (.inr (.inr (.inr f49))))), (a5, .inl (cT 0, 4096, .inl (upd (upd (upd (upd (upd (upd f51 0 (vp_nar .byte (vp_nar .byte y1))) 1 (vp_nar .byte (vp_nar .byte y2))) 2 (vp_nar .byte (vp_nar .byte y3))) 3 (vp_nar .byte (vp_nar .byte y4))) 4 (vp_nar .byte (vp_nar .byte y5))) 5 (vp_nar .byte (vp_nar .byte y6))))), (a6, .inl (cT 1, 8, .inl (upd f52 x7.toNatClampNeg 6)))] t) A) := by
  refine Met.ofW (cc := prog_13_method_80_code) (maxL := 4) (ret := (some .int)) (by decide) rfl ?_
  intro p e s m args below meth c s₁ B hml hv
  obtain ⟨rfl, hsz, hZ, hP, hK, hD0⟩ := hv
  have hx := B.exec
  have hb := B.bytes
  have hr := B.returns
  have hts := atoms_spec (ws := wyM_store) B.pre
  have htx := fun w h => hts w (List.mem_cons_of_mem _ h)
  have hown : s.vm.findClass "ValueBenchModel" = some m.cls := findClass_of_methodNamed B.named
  have hlocks := B.notSynchronized
  subst hsz
  have hD := hD0.self (sz := s.heap.size)
  generalize hAe : va_A [(a0, .inr (5, [v12, v13, v14, .ref a3, v15, v16, v17, v18, v19, v20, v21, v22, v23, v24, v25, v26, v27, v28, v29, v30, v31, .ref a2, v32, v33, .ref a4, .ref a6, v34, v35, v36, v37, v38, v39])), (a1, .inr (6, [.int 4, v40, .int 0, .int 4, v41, v42])), (a2, .inl (cT 0, 1024, .inl f43)), (a3, .inl (cT 0, 4096, .inl f44)), (a4, .inl (cT 5, 8, .inr (.inr (.inr (.inr f49))))), (a5, .inl (cT 0, 4096, .inl f51)), (a6, .inl (cT 1, 8, .inl f52))] s.heap.size = A at hD hZ ⊢
  have hA : ∀ q : Nat, s.heap.size ≤ q → A q := fun q h => by rw [← hAe]; exact Or.inr h
  have hS : va_S A s.heap s.heap [] := va_S.rf
  have hP : va_P D xcl [(a0, .inr (5, [v12, v13, v14, .ref a3, v15, v16, v17, v18, v19, v20, v21, v22, v23, v24, v25, v26, v27, v28, v29, v30, v31, .ref a2, v32, v33, .ref a4, .ref a6, v34, v35, v36, v37, v38, v39])), (a1, .inr (6, [.int 4, v40, .int 0, .int 4, v41, v42])), (a2, .inl (cT 0, 1024, .inl f43)), (a3, .inl (cT 0, 4096, .inl f44)), (a4, .inl (cT 5, 8, .inr (.inr (.inr (.inr f49))))), (a5, .inl (cT 0, 4096, .inl f51)), (a6, .inl (cT 1, 8, .inl f52))] s.heap := hP
  have hl := lv_entry ([.ref a0, .int x7, .ref a1]) (n := 4) (Nat.le_of_ble_eq_true rfl)
  rw [lg_entry_eq]
  generalize (lg_sl ([.ref a0, .int x7, .ref a1]) ++ List.replicate (4 - (lg_sl ([.ref a0, .int x7, .ref a1])).length) Slot.unset).toArray = ls at hl ⊢
  have hl : lv_has ls 4 [(0, .ref a0), (1, .int x7), (2, .ref a1)] := hl
  refine lv_aload_n hx hb dM_store_0 rfl (lv_at hl 0 rfl) ?_
  refine lv_iconst (v := 0) hx hb dM_store_1 (by decide) ?_
  refine va_put (D := D) (ci := 5) (v := .int 0) (ty := .int) (C := "ValueBenchModel") (T := TM) (N := 32) hx hb htx inM tyM tyM_ok nmM hown hK hP hD hS 0 rfl rfl 22 (by decide) (htx _ kw_5_109) (fun _ h9 => h9) rfl (by decide +kernel) rfl rfl (Nat.le_of_ble_eq_true rfl) dM_store_2 (fun H locs hP hD hS => ?_)
  obtain ⟨hP, hD⟩ : xPD D xcl A [(a0, .inr (5, [v12, v13, v14, .ref a3, v15, v16, v17, v18, v19, v20, v21, v22, v23, v24, v25, v26, v27, v28, v29, v30, v31, .ref a2, .int 0, v33, .ref a4, .ref a6, v34, v35, v36, v37, v38, v39])), (a1, .inr (6, [.int 4, v40, .int 0, .int 4, v41, v42])), (a2, .inl (cT 0, 1024, .inl f43)), (a3, .inl (cT 0, 4096, .inl f44)), (a4, .inl (cT 5, 8, .inr (.inr (.inr (.inr f49))))), (a5, .inl (cT 0, 4096, .inl f51)), (a6, .inl (cT 1, 8, .inl f52))] H := ⟨hP, hD⟩
  refine lv_aload_n hx hb dM_store_5 rfl (lv_at hl 0 rfl) ?_
  refine lv_sipush (v := 4096) hx hb dM_store_6 (by decide) ?_
  refine va_put (D := D) (ci := 5) (v := .int 4096) (ty := .int) (C := "ValueBenchModel") (T := TM) (N := 32) hx hb htx inM tyM tyM_ok nmM hown hK hP hD hS 0 rfl rfl 23 (by decide) (htx _ kw_5_110) (fun _ h9 => h9) rfl (by decide +kernel) rfl rfl (Nat.le_of_ble_eq_true rfl) dM_store_9 (fun H locs hP hD hS => ?_)
  obtain ⟨hP, hD⟩ : xPD D xcl A [(a0, .inr (5, [v12, v13, v14, .ref a3, v15, v16, v17, v18, v19, v20, v21, v22, v23, v24, v25, v26, v27, v28, v29, v30, v31, .ref a2, .int 0, .int 4096, .ref a4, .ref a6, v34, v35, v36, v37, v38, v39])), (a1, .inr (6, [.int 4, v40, .int 0, .int 4, v41, v42])), (a2, .inl (cT 0, 1024, .inl f43)), (a3, .inl (cT 0, 4096, .inl f44)), (a4, .inl (cT 5, 8, .inr (.inr (.inr (.inr f49))))), (a5, .inl (cT 0, 4096, .inl f51)), (a6, .inl (cT 1, 8, .inl f52))] H := ⟨hP, hD⟩
  refine lv_aload_n hx hb dM_store_12 rfl (lv_at hl 0 rfl) ?_
  refine lv_aload_n hx hb dM_store_13 rfl (lv_at hl 2 rfl) ?_
  obtain ⟨hPc, hDc, hFc⟩ := xcut (wc := [(a1, .inr (6, [.int 4, v40, .int 0, .int 4, v41, v42])), (a0, .inr (5, [v12, v13, v14, .ref a3, v15, v16, v17, v18, v19, v20, v21, v22, v23, v24, v25, v26, v27, v28, v29, v30, v31, .ref a2, .int 0, .int 4096, .ref a4, .ref a6, v34, v35, v36, v37, v38, v39])), (a2, .inl (cT 0, 1024, .inl f43)), (a3, .inl (cT 0, 4096, .inl f44))]) hP hD hS hA [1, 0, 2, 3] rfl rfl (by decide)
  refine va_callv (va_runV (C := "ValueBenchModel") (As := [.ref a1]) (rest := []) ⟨hx, hb, hml, hown, htx⟩ (cM_print1_3 l hl9 D cT aK aV H.size a1 a0 a2 a3 v40 v41 v42 v12 v13 v14 v15 v16 v17 v18 v19 v20 v21 v22 v23 v24 v25 v26 v27 v28 v29 v30 v31 (.ref a4) (.ref a6) v34 v35 v36 v37 v38 v39 f43 f44 (by first | rfl | exact h45 | exact h46 | exact h47 | exact h48 | exact h50) (by first | rfl | exact h45 | exact h46 | exact h47 | exact h48 | exact h50) (by first | rfl | exact h45 | exact h46 | exact h47 | exact h48 | exact h50) (by first | rfl | exact h45 | exact h46 | exact h47 | exact h48 | exact h50)) ⟨callB_of 1 htx (xw_goodC kw_6_128) rfl rfl rfl (htx _ kw_1_5) (htx _ kw_6_125) ⟨by decide, by decide, by decide +kernel⟩ ⟨Nat.le_of_ble_eq_true rfl, Nat.le_of_ble_eq_true rfl⟩, (htx _ kw_6_127), (htx _ kp_M_print1)⟩ ⟨xPre_blind, va_recv hK hP (ci := 5) rfl (q0 := 0) rfl, (fun U hU hW => ⟨rfl, xPre_of hZ hS hFc hPc hDc hK U hU hW⟩)⟩ rfl rfl hl.1 rfl (lv_room (Nat.le_of_ble_eq_true rfl)) dM_store_14 ⟨Nat.le_of_ble_eq_true rfl, Nat.le_of_ble_eq_true rfl⟩) hS (fun q _ h => hFc q h) hFc (fun u9 t H1 locs ht hvm hr9 hB hz1 hk1 hS => ?_)
  obtain ⟨y1, y2, y3, y4, y5, y6, hP1, hK1, hD1⟩ := hB
  rw [ht] at hP1
  obtain ⟨hP, hD⟩ := xjoin (W := [(a4, .inl (cT 5, 8, .inr (.inr (.inr (.inr f49))))), (a5, .inl (cT 0, 4096, .inl f51)), (a6, .inl (cT 1, 8, .inl f52)), (a1, .inr (6, [.int 4, v40, .int 0, .int 4, v41, v42])), (a0, .inr (5, [v12, v13, v14, .ref a3, v15, v16, v17, v18, v19, v20, v21, v22, v23, v24, v25, v26, v27, v28, v29, v30, v31, .ref a2, .int 6, .int 4096, .ref a4, .ref a6, v34, v35, v36, v37, v38, v39])), (a2, .inl (cT 0, 1024, .inl (upd (upd (upd (upd (upd (upd f43 0 (vp_nar .byte y1)) 1 (vp_nar .byte y2)) 2 (vp_nar .byte y3)) 3 (vp_nar .byte y4)) 4 (vp_nar .byte y5)) 5 (vp_nar .byte y6)))), (a3, .inl (cT 0, 4096, .inl f44))]) hP hD [1, 0, 2, 3] [4, 5, 6] 3 rfl rfl (by decide) (by decide) hk1 hFc hP1 hD1
  generalize H1 = H at hP hS ⊢
  refine lv_iconst (v := 0) hx hb dM_store_17 (by decide) ?_
  refine lv_istore_n (lv' := [(3, .int 0), (0, .ref a0), (1, .int x7), (2, .ref a1)]) hx hb dM_store_18 rfl hl (by decide) rfl (fun ls hl => ?_)
  refine lv_iload_n hx hb dM_store_19 rfl (lv_at hl 0 rfl) ?_
  refine lv_aload_n hx hb dM_store_20 rfl (lv_at hl 1 rfl) ?_
  refine va_get (D := D) (ci := 5) (v := .int 6) (C := "ValueBenchModel") (T := TM) (N := 32) hx hb htx inM hown hK hP 4 rfl rfl 22 (by decide) (htx _ kw_5_109) (fun _ h9 => h9) rfl dM_store_21 ?_
  refine lv_icmp_ge (tgt := 47) hx hb dM_store_24 (by decide) (fun h => ((by revert h; decide : False)).elim) (fun _ => ?_)
  refine lv_aload_n hx hb dM_store_27 rfl (lv_at hl 1 rfl) ?_
  refine va_get (D := D) (ci := 5) (v := .ref a4) (C := "ValueBenchModel") (T := TM) (N := 32) hx hb htx inM hown hK hP 4 rfl rfl 24 (by decide) (htx _ kw_5_111) (fun _ h9 => h9) rfl dM_store_28 ?_
  refine lv_iload_n hx hb dM_store_31 rfl (lv_at hl 2 rfl) ?_
  refine xx_aldA hx hb hK hP 0 5 rfl rfl h11 dM_store_32 ?_
  refine W.eq (g2 := F0 m 33 ls [va_rf (f49 x7.toNatClampNeg)]) rfl ?_
  rw [h50]
  refine W.eq (g2 := F0 m 33 ls [.ref a5]) rfl ?_
  refine lv_iload_n hx hb dM_store_33 rfl (lv_at hl 0 rfl) ?_
  refine lv_aload_n hx hb dM_store_34 rfl (lv_at hl 1 rfl) ?_
  refine va_get (D := D) (ci := 5) (v := .ref a2) (C := "ValueBenchModel") (T := TM) (N := 32) hx hb htx inM hown hK hP 4 rfl rfl 21 (by decide) (htx _ kw_5_108) (fun _ h9 => h9) rfl dM_store_35 ?_
  refine lv_iload_n hx hb dM_store_38 rfl (lv_at hl 0 rfl) ?_
  refine va_bald hx hb hK hP 5 0 rfl rfl (show ¬ ((0 : Int32) < 0 ∨ 1024 ≤ (0 : Int32).toNatClampNeg) by decide) dM_store_39 ?_
  refine W.eq (g2 := F0 m 40 ls [.int (vp_nar .byte y1), .int 0, .ref a5]) rfl ?_
  refine va_bast hx hb hK hP hD hS 1 0 rfl rfl (show ¬ ((0 : Int32) < 0 ∨ 4096 ≤ (0 : Int32).toNatClampNeg) by decide) dM_store_40 (fun H locs hP hD hS => ?_)
  obtain ⟨hP, hD⟩ : xPD D xcl A [(a4, .inl (cT 5, 8, .inr (.inr (.inr (.inr f49))))), (a5, .inl (cT 0, 4096, .inl (upd f51 0 (vp_nar .byte (vp_nar .byte y1))))), (a6, .inl (cT 1, 8, .inl f52)), (a1, .inr (6, [.int 4, v40, .int 0, .int 4, v41, v42])), (a0, .inr (5, [v12, v13, v14, .ref a3, v15, v16, v17, v18, v19, v20, v21, v22, v23, v24, v25, v26, v27, v28, v29, v30, v31, .ref a2, .int 6, .int 4096, .ref a4, .ref a6, v34, v35, v36, v37, v38, v39])), (a2, .inl (cT 0, 1024, .inl (upd (upd (upd (upd (upd (upd f43 0 (vp_nar .byte y1)) 1 (vp_nar .byte y2)) 2 (vp_nar .byte y3)) 3 (vp_nar .byte y4)) 4 (vp_nar .byte y5)) 5 (vp_nar .byte y6)))), (a3, .inl (cT 0, 4096, .inl f44))] H := ⟨hP, hD⟩
  refine lv_iinc (v := 1) (lv' := [(3, .int 1), (0, .ref a0), (1, .int x7), (2, .ref a1)]) hx hb dM_store_41 hl (k := 0) rfl (by decide) (by decide) rfl (fun ls hl => ?_)
  refine lv_goto (tgt := 19) hx hb dM_store_44 (by decide) ?_
  refine lv_iload_n hx hb dM_store_19 rfl (lv_at hl 0 rfl) ?_
  refine lv_aload_n hx hb dM_store_20 rfl (lv_at hl 1 rfl) ?_
  refine va_get (D := D) (ci := 5) (v := .int 6) (C := "ValueBenchModel") (T := TM) (N := 32) hx hb htx inM hown hK hP 4 rfl rfl 22 (by decide) (htx _ kw_5_109) (fun _ h9 => h9) rfl dM_store_21 ?_
  refine lv_icmp_ge (tgt := 47) hx hb dM_store_24 (by decide) (fun h => ((by revert h; decide : False)).elim) (fun _ => ?_)
  refine lv_aload_n hx hb dM_store_27 rfl (lv_at hl 1 rfl) ?_
  refine va_get (D := D) (ci := 5) (v := .ref a4) (C := "ValueBenchModel") (T := TM) (N := 32) hx hb htx inM hown hK hP 4 rfl rfl 24 (by decide) (htx _ kw_5_111) (fun _ h9 => h9) rfl dM_store_28 ?_
  refine lv_iload_n hx hb dM_store_31 rfl (lv_at hl 2 rfl) ?_
  refine xx_aldA hx hb hK hP 0 5 rfl rfl h11 dM_store_32 ?_
  refine W.eq (g2 := F0 m 33 ls [va_rf (f49 x7.toNatClampNeg)]) rfl ?_
  rw [h50]
  refine W.eq (g2 := F0 m 33 ls [.ref a5]) rfl ?_
  refine lv_iload_n hx hb dM_store_33 rfl (lv_at hl 0 rfl) ?_
  refine lv_aload_n hx hb dM_store_34 rfl (lv_at hl 1 rfl) ?_
  refine va_get (D := D) (ci := 5) (v := .ref a2) (C := "ValueBenchModel") (T := TM) (N := 32) hx hb htx inM hown hK hP 4 rfl rfl 21 (by decide) (htx _ kw_5_108) (fun _ h9 => h9) rfl dM_store_35 ?_
  refine lv_iload_n hx hb dM_store_38 rfl (lv_at hl 0 rfl) ?_
  refine va_bald hx hb hK hP 5 0 rfl rfl (show ¬ ((1 : Int32) < 0 ∨ 1024 ≤ (1 : Int32).toNatClampNeg) by decide) dM_store_39 ?_
  refine W.eq (g2 := F0 m 40 ls [.int (vp_nar .byte y2), .int 1, .ref a5]) rfl ?_
  refine va_bast hx hb hK hP hD hS 1 0 rfl rfl (show ¬ ((1 : Int32) < 0 ∨ 4096 ≤ (1 : Int32).toNatClampNeg) by decide) dM_store_40 (fun H locs hP hD hS => ?_)
  obtain ⟨hP, hD⟩ : xPD D xcl A [(a4, .inl (cT 5, 8, .inr (.inr (.inr (.inr f49))))), (a5, .inl (cT 0, 4096, .inl (upd (upd f51 0 (vp_nar .byte (vp_nar .byte y1))) 1 (vp_nar .byte (vp_nar .byte y2))))), (a6, .inl (cT 1, 8, .inl f52)), (a1, .inr (6, [.int 4, v40, .int 0, .int 4, v41, v42])), (a0, .inr (5, [v12, v13, v14, .ref a3, v15, v16, v17, v18, v19, v20, v21, v22, v23, v24, v25, v26, v27, v28, v29, v30, v31, .ref a2, .int 6, .int 4096, .ref a4, .ref a6, v34, v35, v36, v37, v38, v39])), (a2, .inl (cT 0, 1024, .inl (upd (upd (upd (upd (upd (upd f43 0 (vp_nar .byte y1)) 1 (vp_nar .byte y2)) 2 (vp_nar .byte y3)) 3 (vp_nar .byte y4)) 4 (vp_nar .byte y5)) 5 (vp_nar .byte y6)))), (a3, .inl (cT 0, 4096, .inl f44))] H := ⟨hP, hD⟩
  refine lv_iinc (v := 2) (lv' := [(3, .int 2), (0, .ref a0), (1, .int x7), (2, .ref a1)]) hx hb dM_store_41 hl (k := 0) rfl (by decide) (by decide) rfl (fun ls hl => ?_)
  refine lv_goto (tgt := 19) hx hb dM_store_44 (by decide) ?_
  refine lv_iload_n hx hb dM_store_19 rfl (lv_at hl 0 rfl) ?_
  refine lv_aload_n hx hb dM_store_20 rfl (lv_at hl 1 rfl) ?_
  refine va_get (D := D) (ci := 5) (v := .int 6) (C := "ValueBenchModel") (T := TM) (N := 32) hx hb htx inM hown hK hP 4 rfl rfl 22 (by decide) (htx _ kw_5_109) (fun _ h9 => h9) rfl dM_store_21 ?_
  refine lv_icmp_ge (tgt := 47) hx hb dM_store_24 (by decide) (fun h => ((by revert h; decide : False)).elim) (fun _ => ?_)
  refine lv_aload_n hx hb dM_store_27 rfl (lv_at hl 1 rfl) ?_
  refine va_get (D := D) (ci := 5) (v := .ref a4) (C := "ValueBenchModel") (T := TM) (N := 32) hx hb htx inM hown hK hP 4 rfl rfl 24 (by decide) (htx _ kw_5_111) (fun _ h9 => h9) rfl dM_store_28 ?_
  refine lv_iload_n hx hb dM_store_31 rfl (lv_at hl 2 rfl) ?_
  refine xx_aldA hx hb hK hP 0 5 rfl rfl h11 dM_store_32 ?_
  refine W.eq (g2 := F0 m 33 ls [va_rf (f49 x7.toNatClampNeg)]) rfl ?_
  rw [h50]
  refine W.eq (g2 := F0 m 33 ls [.ref a5]) rfl ?_
  refine lv_iload_n hx hb dM_store_33 rfl (lv_at hl 0 rfl) ?_
  refine lv_aload_n hx hb dM_store_34 rfl (lv_at hl 1 rfl) ?_
  refine va_get (D := D) (ci := 5) (v := .ref a2) (C := "ValueBenchModel") (T := TM) (N := 32) hx hb htx inM hown hK hP 4 rfl rfl 21 (by decide) (htx _ kw_5_108) (fun _ h9 => h9) rfl dM_store_35 ?_
  refine lv_iload_n hx hb dM_store_38 rfl (lv_at hl 0 rfl) ?_
  refine va_bald hx hb hK hP 5 0 rfl rfl (show ¬ ((2 : Int32) < 0 ∨ 1024 ≤ (2 : Int32).toNatClampNeg) by decide) dM_store_39 ?_
  refine W.eq (g2 := F0 m 40 ls [.int (vp_nar .byte y3), .int 2, .ref a5]) rfl ?_
  refine va_bast hx hb hK hP hD hS 1 0 rfl rfl (show ¬ ((2 : Int32) < 0 ∨ 4096 ≤ (2 : Int32).toNatClampNeg) by decide) dM_store_40 (fun H locs hP hD hS => ?_)
  obtain ⟨hP, hD⟩ : xPD D xcl A [(a4, .inl (cT 5, 8, .inr (.inr (.inr (.inr f49))))), (a5, .inl (cT 0, 4096, .inl (upd (upd (upd f51 0 (vp_nar .byte (vp_nar .byte y1))) 1 (vp_nar .byte (vp_nar .byte y2))) 2 (vp_nar .byte (vp_nar .byte y3))))), (a6, .inl (cT 1, 8, .inl f52)), (a1, .inr (6, [.int 4, v40, .int 0, .int 4, v41, v42])), (a0, .inr (5, [v12, v13, v14, .ref a3, v15, v16, v17, v18, v19, v20, v21, v22, v23, v24, v25, v26, v27, v28, v29, v30, v31, .ref a2, .int 6, .int 4096, .ref a4, .ref a6, v34, v35, v36, v37, v38, v39])), (a2, .inl (cT 0, 1024, .inl (upd (upd (upd (upd (upd (upd f43 0 (vp_nar .byte y1)) 1 (vp_nar .byte y2)) 2 (vp_nar .byte y3)) 3 (vp_nar .byte y4)) 4 (vp_nar .byte y5)) 5 (vp_nar .byte y6)))), (a3, .inl (cT 0, 4096, .inl f44))] H := ⟨hP, hD⟩
  refine lv_iinc (v := 3) (lv' := [(3, .int 3), (0, .ref a0), (1, .int x7), (2, .ref a1)]) hx hb dM_store_41 hl (k := 0) rfl (by decide) (by decide) rfl (fun ls hl => ?_)
  refine lv_goto (tgt := 19) hx hb dM_store_44 (by decide) ?_
  refine lv_iload_n hx hb dM_store_19 rfl (lv_at hl 0 rfl) ?_
  refine lv_aload_n hx hb dM_store_20 rfl (lv_at hl 1 rfl) ?_
  refine va_get (D := D) (ci := 5) (v := .int 6) (C := "ValueBenchModel") (T := TM) (N := 32) hx hb htx inM hown hK hP 4 rfl rfl 22 (by decide) (htx _ kw_5_109) (fun _ h9 => h9) rfl dM_store_21 ?_
  refine lv_icmp_ge (tgt := 47) hx hb dM_store_24 (by decide) (fun h => ((by revert h; decide : False)).elim) (fun _ => ?_)
  refine lv_aload_n hx hb dM_store_27 rfl (lv_at hl 1 rfl) ?_
  refine va_get (D := D) (ci := 5) (v := .ref a4) (C := "ValueBenchModel") (T := TM) (N := 32) hx hb htx inM hown hK hP 4 rfl rfl 24 (by decide) (htx _ kw_5_111) (fun _ h9 => h9) rfl dM_store_28 ?_
  refine lv_iload_n hx hb dM_store_31 rfl (lv_at hl 2 rfl) ?_
  refine xx_aldA hx hb hK hP 0 5 rfl rfl h11 dM_store_32 ?_
  refine W.eq (g2 := F0 m 33 ls [va_rf (f49 x7.toNatClampNeg)]) rfl ?_
  rw [h50]
  refine W.eq (g2 := F0 m 33 ls [.ref a5]) rfl ?_
  refine lv_iload_n hx hb dM_store_33 rfl (lv_at hl 0 rfl) ?_
  refine lv_aload_n hx hb dM_store_34 rfl (lv_at hl 1 rfl) ?_
  refine va_get (D := D) (ci := 5) (v := .ref a2) (C := "ValueBenchModel") (T := TM) (N := 32) hx hb htx inM hown hK hP 4 rfl rfl 21 (by decide) (htx _ kw_5_108) (fun _ h9 => h9) rfl dM_store_35 ?_
  refine lv_iload_n hx hb dM_store_38 rfl (lv_at hl 0 rfl) ?_
  refine va_bald hx hb hK hP 5 0 rfl rfl (show ¬ ((3 : Int32) < 0 ∨ 1024 ≤ (3 : Int32).toNatClampNeg) by decide) dM_store_39 ?_
  refine W.eq (g2 := F0 m 40 ls [.int (vp_nar .byte y4), .int 3, .ref a5]) rfl ?_
  refine va_bast hx hb hK hP hD hS 1 0 rfl rfl (show ¬ ((3 : Int32) < 0 ∨ 4096 ≤ (3 : Int32).toNatClampNeg) by decide) dM_store_40 (fun H locs hP hD hS => ?_)
  obtain ⟨hP, hD⟩ : xPD D xcl A [(a4, .inl (cT 5, 8, .inr (.inr (.inr (.inr f49))))), (a5, .inl (cT 0, 4096, .inl (upd (upd (upd (upd f51 0 (vp_nar .byte (vp_nar .byte y1))) 1 (vp_nar .byte (vp_nar .byte y2))) 2 (vp_nar .byte (vp_nar .byte y3))) 3 (vp_nar .byte (vp_nar .byte y4))))), (a6, .inl (cT 1, 8, .inl f52)), (a1, .inr (6, [.int 4, v40, .int 0, .int 4, v41, v42])), (a0, .inr (5, [v12, v13, v14, .ref a3, v15, v16, v17, v18, v19, v20, v21, v22, v23, v24, v25, v26, v27, v28, v29, v30, v31, .ref a2, .int 6, .int 4096, .ref a4, .ref a6, v34, v35, v36, v37, v38, v39])), (a2, .inl (cT 0, 1024, .inl (upd (upd (upd (upd (upd (upd f43 0 (vp_nar .byte y1)) 1 (vp_nar .byte y2)) 2 (vp_nar .byte y3)) 3 (vp_nar .byte y4)) 4 (vp_nar .byte y5)) 5 (vp_nar .byte y6)))), (a3, .inl (cT 0, 4096, .inl f44))] H := ⟨hP, hD⟩
  refine lv_iinc (v := 4) (lv' := [(3, .int 4), (0, .ref a0), (1, .int x7), (2, .ref a1)]) hx hb dM_store_41 hl (k := 0) rfl (by decide) (by decide) rfl (fun ls hl => ?_)
  refine lv_goto (tgt := 19) hx hb dM_store_44 (by decide) ?_
  refine lv_iload_n hx hb dM_store_19 rfl (lv_at hl 0 rfl) ?_
  refine lv_aload_n hx hb dM_store_20 rfl (lv_at hl 1 rfl) ?_
  refine va_get (D := D) (ci := 5) (v := .int 6) (C := "ValueBenchModel") (T := TM) (N := 32) hx hb htx inM hown hK hP 4 rfl rfl 22 (by decide) (htx _ kw_5_109) (fun _ h9 => h9) rfl dM_store_21 ?_
  refine lv_icmp_ge (tgt := 47) hx hb dM_store_24 (by decide) (fun h => ((by revert h; decide : False)).elim) (fun _ => ?_)
  refine lv_aload_n hx hb dM_store_27 rfl (lv_at hl 1 rfl) ?_
  refine va_get (D := D) (ci := 5) (v := .ref a4) (C := "ValueBenchModel") (T := TM) (N := 32) hx hb htx inM hown hK hP 4 rfl rfl 24 (by decide) (htx _ kw_5_111) (fun _ h9 => h9) rfl dM_store_28 ?_
  refine lv_iload_n hx hb dM_store_31 rfl (lv_at hl 2 rfl) ?_
  refine xx_aldA hx hb hK hP 0 5 rfl rfl h11 dM_store_32 ?_
  refine W.eq (g2 := F0 m 33 ls [va_rf (f49 x7.toNatClampNeg)]) rfl ?_
  rw [h50]
  refine W.eq (g2 := F0 m 33 ls [.ref a5]) rfl ?_
  refine lv_iload_n hx hb dM_store_33 rfl (lv_at hl 0 rfl) ?_
  refine lv_aload_n hx hb dM_store_34 rfl (lv_at hl 1 rfl) ?_
  refine va_get (D := D) (ci := 5) (v := .ref a2) (C := "ValueBenchModel") (T := TM) (N := 32) hx hb htx inM hown hK hP 4 rfl rfl 21 (by decide) (htx _ kw_5_108) (fun _ h9 => h9) rfl dM_store_35 ?_
  refine lv_iload_n hx hb dM_store_38 rfl (lv_at hl 0 rfl) ?_
  refine va_bald hx hb hK hP 5 0 rfl rfl (show ¬ ((4 : Int32) < 0 ∨ 1024 ≤ (4 : Int32).toNatClampNeg) by decide) dM_store_39 ?_
  refine W.eq (g2 := F0 m 40 ls [.int (vp_nar .byte y5), .int 4, .ref a5]) rfl ?_
  refine va_bast hx hb hK hP hD hS 1 0 rfl rfl (show ¬ ((4 : Int32) < 0 ∨ 4096 ≤ (4 : Int32).toNatClampNeg) by decide) dM_store_40 (fun H locs hP hD hS => ?_)
  obtain ⟨hP, hD⟩ : xPD D xcl A [(a4, .inl (cT 5, 8, .inr (.inr (.inr (.inr f49))))), (a5, .inl (cT 0, 4096, .inl (upd (upd (upd (upd (upd f51 0 (vp_nar .byte (vp_nar .byte y1))) 1 (vp_nar .byte (vp_nar .byte y2))) 2 (vp_nar .byte (vp_nar .byte y3))) 3 (vp_nar .byte (vp_nar .byte y4))) 4 (vp_nar .byte (vp_nar .byte y5))))), (a6, .inl (cT 1, 8, .inl f52)), (a1, .inr (6, [.int 4, v40, .int 0, .int 4, v41, v42])), (a0, .inr (5, [v12, v13, v14, .ref a3, v15, v16, v17, v18, v19, v20, v21, v22, v23, v24, v25, v26, v27, v28, v29, v30, v31, .ref a2, .int 6, .int 4096, .ref a4, .ref a6, v34, v35, v36, v37, v38, v39])), (a2, .inl (cT 0, 1024, .inl (upd (upd (upd (upd (upd (upd f43 0 (vp_nar .byte y1)) 1 (vp_nar .byte y2)) 2 (vp_nar .byte y3)) 3 (vp_nar .byte y4)) 4 (vp_nar .byte y5)) 5 (vp_nar .byte y6)))), (a3, .inl (cT 0, 4096, .inl f44))] H := ⟨hP, hD⟩
  refine lv_iinc (v := 5) (lv' := [(3, .int 5), (0, .ref a0), (1, .int x7), (2, .ref a1)]) hx hb dM_store_41 hl (k := 0) rfl (by decide) (by decide) rfl (fun ls hl => ?_)
  refine lv_goto (tgt := 19) hx hb dM_store_44 (by decide) ?_
  refine lv_iload_n hx hb dM_store_19 rfl (lv_at hl 0 rfl) ?_
  refine lv_aload_n hx hb dM_store_20 rfl (lv_at hl 1 rfl) ?_
  refine va_get (D := D) (ci := 5) (v := .int 6) (C := "ValueBenchModel") (T := TM) (N := 32) hx hb htx inM hown hK hP 4 rfl rfl 22 (by decide) (htx _ kw_5_109) (fun _ h9 => h9) rfl dM_store_21 ?_
  refine lv_icmp_ge (tgt := 47) hx hb dM_store_24 (by decide) (fun h => ((by revert h; decide : False)).elim) (fun _ => ?_)
  refine lv_aload_n hx hb dM_store_27 rfl (lv_at hl 1 rfl) ?_
  refine va_get (D := D) (ci := 5) (v := .ref a4) (C := "ValueBenchModel") (T := TM) (N := 32) hx hb htx inM hown hK hP 4 rfl rfl 24 (by decide) (htx _ kw_5_111) (fun _ h9 => h9) rfl dM_store_28 ?_
  refine lv_iload_n hx hb dM_store_31 rfl (lv_at hl 2 rfl) ?_
  refine xx_aldA hx hb hK hP 0 5 rfl rfl h11 dM_store_32 ?_
  refine W.eq (g2 := F0 m 33 ls [va_rf (f49 x7.toNatClampNeg)]) rfl ?_
  rw [h50]
  refine W.eq (g2 := F0 m 33 ls [.ref a5]) rfl ?_
  refine lv_iload_n hx hb dM_store_33 rfl (lv_at hl 0 rfl) ?_
  refine lv_aload_n hx hb dM_store_34 rfl (lv_at hl 1 rfl) ?_
  refine va_get (D := D) (ci := 5) (v := .ref a2) (C := "ValueBenchModel") (T := TM) (N := 32) hx hb htx inM hown hK hP 4 rfl rfl 21 (by decide) (htx _ kw_5_108) (fun _ h9 => h9) rfl dM_store_35 ?_
  refine lv_iload_n hx hb dM_store_38 rfl (lv_at hl 0 rfl) ?_
  refine va_bald hx hb hK hP 5 0 rfl rfl (show ¬ ((5 : Int32) < 0 ∨ 1024 ≤ (5 : Int32).toNatClampNeg) by decide) dM_store_39 ?_
  refine W.eq (g2 := F0 m 40 ls [.int (vp_nar .byte y6), .int 5, .ref a5]) rfl ?_
  refine va_bast hx hb hK hP hD hS 1 0 rfl rfl (show ¬ ((5 : Int32) < 0 ∨ 4096 ≤ (5 : Int32).toNatClampNeg) by decide) dM_store_40 (fun H locs hP hD hS => ?_)
  obtain ⟨hP, hD⟩ : xPD D xcl A [(a4, .inl (cT 5, 8, .inr (.inr (.inr (.inr f49))))), (a5, .inl (cT 0, 4096, .inl (upd (upd (upd (upd (upd (upd f51 0 (vp_nar .byte (vp_nar .byte y1))) 1 (vp_nar .byte (vp_nar .byte y2))) 2 (vp_nar .byte (vp_nar .byte y3))) 3 (vp_nar .byte (vp_nar .byte y4))) 4 (vp_nar .byte (vp_nar .byte y5))) 5 (vp_nar .byte (vp_nar .byte y6))))), (a6, .inl (cT 1, 8, .inl f52)), (a1, .inr (6, [.int 4, v40, .int 0, .int 4, v41, v42])), (a0, .inr (5, [v12, v13, v14, .ref a3, v15, v16, v17, v18, v19, v20, v21, v22, v23, v24, v25, v26, v27, v28, v29, v30, v31, .ref a2, .int 6, .int 4096, .ref a4, .ref a6, v34, v35, v36, v37, v38, v39])), (a2, .inl (cT 0, 1024, .inl (upd (upd (upd (upd (upd (upd f43 0 (vp_nar .byte y1)) 1 (vp_nar .byte y2)) 2 (vp_nar .byte y3)) 3 (vp_nar .byte y4)) 4 (vp_nar .byte y5)) 5 (vp_nar .byte y6)))), (a3, .inl (cT 0, 4096, .inl f44))] H := ⟨hP, hD⟩
  refine lv_iinc (v := 6) (lv' := [(3, .int 6), (0, .ref a0), (1, .int x7), (2, .ref a1)]) hx hb dM_store_41 hl (k := 0) rfl (by decide) (by decide) rfl (fun ls hl => ?_)
  refine lv_goto (tgt := 19) hx hb dM_store_44 (by decide) ?_
  refine lv_iload_n hx hb dM_store_19 rfl (lv_at hl 0 rfl) ?_
  refine lv_aload_n hx hb dM_store_20 rfl (lv_at hl 1 rfl) ?_
  refine va_get (D := D) (ci := 5) (v := .int 6) (C := "ValueBenchModel") (T := TM) (N := 32) hx hb htx inM hown hK hP 4 rfl rfl 22 (by decide) (htx _ kw_5_109) (fun _ h9 => h9) rfl dM_store_21 ?_
  refine lv_icmp_ge (tgt := 47) hx hb dM_store_24 (by decide) (fun _ => ?_) (fun h => ((by revert h; decide : False)).elim)
  refine lv_aload_n hx hb dM_store_47 rfl (lv_at hl 1 rfl) ?_
  refine va_get (D := D) (ci := 5) (v := .ref a6) (C := "ValueBenchModel") (T := TM) (N := 32) hx hb htx inM hown hK hP 4 rfl rfl 25 (by decide) (htx _ kw_5_112) (fun _ h9 => h9) rfl dM_store_48 ?_
  refine lv_iload_n hx hb dM_store_51 rfl (lv_at hl 2 rfl) ?_
  refine lv_aload_n hx hb dM_store_52 rfl (lv_at hl 1 rfl) ?_
  refine va_get (D := D) (ci := 5) (v := .int 6) (C := "ValueBenchModel") (T := TM) (N := 32) hx hb htx inM hown hK hP 4 rfl rfl 22 (by decide) (htx _ kw_5_109) (fun _ h9 => h9) rfl dM_store_53 ?_
  refine va_iast hx hb hK hP hD hS 2 1 rfl rfl h11 dM_store_56 (fun H locs hP hD hS => ?_)
  obtain ⟨hP, hD⟩ : xPD D xcl A [(a4, .inl (cT 5, 8, .inr (.inr (.inr (.inr f49))))), (a5, .inl (cT 0, 4096, .inl (upd (upd (upd (upd (upd (upd f51 0 (vp_nar .byte (vp_nar .byte y1))) 1 (vp_nar .byte (vp_nar .byte y2))) 2 (vp_nar .byte (vp_nar .byte y3))) 3 (vp_nar .byte (vp_nar .byte y4))) 4 (vp_nar .byte (vp_nar .byte y5))) 5 (vp_nar .byte (vp_nar .byte y6))))), (a6, .inl (cT 1, 8, .inl (upd f52 x7.toNatClampNeg 6))), (a1, .inr (6, [.int 4, v40, .int 0, .int 4, v41, v42])), (a0, .inr (5, [v12, v13, v14, .ref a3, v15, v16, v17, v18, v19, v20, v21, v22, v23, v24, v25, v26, v27, v28, v29, v30, v31, .ref a2, .int 6, .int 4096, .ref a4, .ref a6, v34, v35, v36, v37, v38, v39])), (a2, .inl (cT 0, 1024, .inl (upd (upd (upd (upd (upd (upd f43 0 (vp_nar .byte y1)) 1 (vp_nar .byte y2)) 2 (vp_nar .byte y3)) 3 (vp_nar .byte y4)) 4 (vp_nar .byte y5)) 5 (vp_nar .byte y6)))), (a3, .inl (cT 0, 4096, .inl f44))] H := ⟨hP, hD⟩
  refine lv_aload_n hx hb dM_store_57 rfl (lv_at hl 1 rfl) ?_
  refine va_get (D := D) (ci := 5) (v := .int 6) (C := "ValueBenchModel") (T := TM) (N := 32) hx hb htx inM hown hK hP 4 rfl rfl 22 (by decide) (htx _ kw_5_109) (fun _ h9 => h9) rfl dM_store_58 ?_
  obtain ⟨hP9, hD9⟩ := xsub (wc := [(a0, .inr (5, [v12, v13, v14, .ref a3, v15, v16, v17, v18, v19, v20, v21, v22, v23, v24, v25, v26, v27, v28, v29, v30, v31, .ref a2, .int 6, .int 4096, .ref a4, .ref a6, v34, v35, v36, v37, v38, v39])), (a1, .inr (6, [.int 4, v40, .int 0, .int 4, v41, v42])), (a2, .inl (cT 0, 1024, .inl (upd (upd (upd (upd (upd (upd f43 0 (vp_nar .byte y1)) 1 (vp_nar .byte y2)) 2 (vp_nar .byte y3)) 3 (vp_nar .byte y4)) 4 (vp_nar .byte y5)) 5 (vp_nar .byte y6)))), (a3, .inl (cT 0, 4096, .inl f44)), (a4, .inl (cT 5, 8, .inr (.inr (.inr (.inr f49))))), (a5, .inl (cT 0, 4096, .inl (upd (upd (upd (upd (upd (upd f51 0 (vp_nar .byte (vp_nar .byte y1))) 1 (vp_nar .byte (vp_nar .byte y2))) 2 (vp_nar .byte (vp_nar .byte y3))) 3 (vp_nar .byte (vp_nar .byte y4))) 4 (vp_nar .byte (vp_nar .byte y5))) 5 (vp_nar .byte (vp_nar .byte y6))))), (a6, .inl (cT 1, 8, .inl (upd f52 x7.toNatClampNeg 6)))]) hP hD [4, 3, 5, 6, 0, 1, 2] rfl rfl (by decide)
  refine W.widen (k := 0) (n := 0) (Nat.le_of_ble_eq_true rfl) (Nat.le_of_ble_eq_true rfl) ?_
  exact W.iret (v := 6) hx hb hr (fun t ht hW => ⟨⟨6, (), rfl, rfl, y1, y2, y3, y4, y5, y6, by rw [ht]; exact hP9, va_K.moved hW.alike hK, hD9⟩, hS.F ht⟩) hS.2.2 dM_store_61
