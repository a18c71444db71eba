set_option maxHeartbeats 400000000 in
set_option maxRecDepth 100000 in
theorem cM_one0_9 (l : Launch) (hl9 : l.stackTraces = false) (D : va_G) (cT : Nat → ClassId) (aK aV : Nat → Nat) (sz : Nat) (a0 : Nat) (a1 : Nat) (a2 : Nat) (a3 : Nat) (a4 : Nat) (a5 : Nat) (a6 : Nat) (x7 : Int32) (x12 : Int32) (v17 : Value) (v18 : Value) (v19 : Value) (v20 : Value) (v21 : Value) (v22 : Value) (v23 : Value) (v24 : Value) (v25 : Value) (v26 : Value) (v27 : Value) (v28 : Value) (v29 : Value) (v30 : Value) (v31 : Value) (v32 : Value) (v33 : Value) (v34 : Value) (v35 : Value) (v36 : Value) (v37 : Value) (v38 : Value) (v39 : Value) (v40 : Value) (v41 : Value) (v42 : Value) (v43 : Value) (v44 : Value) (f45 : Nat → Option Nat) (f48 : Nat → Int32) (f50 : Nat → Int32) (f55 : Nat → Option Nat) (f58 : Nat → Int32) (f59 : Nat → Int32) (h8 : ¬ x7 < 0) (h9 : ¬ 7 < x7) (h10 : x7 ≤ 7) (h11 : vp_in x7 8) (h13 : ¬ x12 < 0) (h14 : ¬ 7 < x12) (h15 : x12 ≤ 7) (h16 : vp_in x12 8) (h46 : f45 x12.toNatClampNeg = some a3) (h47 : f45 x7.toNatClampNeg = some a6) (h49 : f48 x12.toNatClampNeg = 4) (h51 : f50 0 = 110) (h52 : f50 1 = 117) (h53 : f50 2 = 108) (h54 : f50 3 = 108) (h56 : f55 0 = none) (h57 : f55 1 = none) : xMet l yM_one0 wyM_one0 9 2 12 204 D cT aK aV sz [.ref a0, .int x7, .int 1, .int x12] [(a0, .inr (5, [v17, .ref a4, v18, v19, v20, v21, v22, v23, v24, v25, v26, v27, v28, v29, v30, v31, v32, v33, v34, v35, v36, .ref a5, v37, v38, .ref a1, .ref a2, v39, v40, v41, v42, v43, v44])), (a1, .inl (cT 5, 8, .inr (.inr (.inr (.inr f45))))), (a2, .inl (cT 1, 8, .inl f48)), (a3, .inl (cT 0, 4096, .inl f50)), (a4, .inl (cT 4, 1024, .inr (.inr (.inr (.inr f55))))), (a5, .inl (cT 0, 1024, .inl f58)), (a6, .inl (cT 0, 4096, .inl f59))] (fun A => va_Qv (fun _ : Unit => True) (fun _ t => ∃ (q3 : Nat) (q4 : Nat) (y5 : Int32), xB D xcl cT A [(a0, .inr (5, [.int 0, .ref a4, .int 2, v19, .int 0, v21, v22, .int 0, v24, .int 0, v26, v27, .int 0, v29, v30, .ref a3, .int 4, .int 4, .int 0, .int 100, v36, .ref a5, .int 1, .int 4096, .ref a1, .ref a2, v39, v40, v41, v42, v43, v44])), (a1, .inl (cT 5, 8, .inr (.inr (.inr (.inr f45))))), (a2, .inl (cT 1, 8, .inl (upd f48 x7.toNatClampNeg 1))), (a3, .inl (cT 0, 4096, .inl f50)), (a4, .inl (cT 4, 1024, .inr (.inr (.inr (.inr (va_up (va_up f55 0 (some q3)) 1 (some q4))))))), (a5, .inl (cT 0, 1024, .inl (upd f58 0 (vp_nar .byte y5)))), (a6, .inl (cT 0, 4096, .inl (upd f59 0 (vp_nar .byte (vp_nar .byte y5))))), (q3, .inr (6, [.int 0, .long 0, .int 0, .int 0, .int 0, .int 1])), (q4, .inr (6, [.int 3, .long 0, .int 0, .int 0, .int 0, .int 1]))] t) A) := by
  refine Met.ofW (cc := prog_13_method_92_code) (maxL := 4) (ret := none) (by decide) rfl ?_
  intro p e s m args below meth c s₁ B hml hv
  obtain ⟨rfl, hsz, hZ, hP, hK, hD0⟩ := hv
  have hx := B.exec
  have hb := B.bytes
  have hr := B.returns
  have hts := atoms_spec (ws := wyM_one0) B.pre
  have htx := fun w h => hts w (List.mem_cons_of_mem _ h)
  have hown : s.vm.findClass "ValueBenchModel" = some m.cls := findClass_of_methodNamed B.named
  have hlocks := B.notSynchronized
  subst hsz
  have hD := hD0.self (sz := s.heap.size)
  generalize hAe : va_A [(a0, .inr (5, [v17, .ref a4, v18, v19, v20, v21, v22, v23, v24, v25, v26, v27, v28, v29, v30, v31, v32, v33, v34, v35, v36, .ref a5, v37, v38, .ref a1, .ref a2, v39, v40, v41, v42, v43, v44])), (a1, .inl (cT 5, 8, .inr (.inr (.inr (.inr f45))))), (a2, .inl (cT 1, 8, .inl f48)), (a3, .inl (cT 0, 4096, .inl f50)), (a4, .inl (cT 4, 1024, .inr (.inr (.inr (.inr f55))))), (a5, .inl (cT 0, 1024, .inl f58)), (a6, .inl (cT 0, 4096, .inl f59))] s.heap.size = A at hD hZ ⊢
  have hA : ∀ q : Nat, s.heap.size ≤ q → A q := fun q h => by rw [← hAe]; exact Or.inr h
  have hS : va_S A s.heap s.heap [] := va_S.rf
  have hP : va_P D xcl [(a0, .inr (5, [v17, .ref a4, v18, v19, v20, v21, v22, v23, v24, v25, v26, v27, v28, v29, v30, v31, v32, v33, v34, v35, v36, .ref a5, v37, v38, .ref a1, .ref a2, v39, v40, v41, v42, v43, v44])), (a1, .inl (cT 5, 8, .inr (.inr (.inr (.inr f45))))), (a2, .inl (cT 1, 8, .inl f48)), (a3, .inl (cT 0, 4096, .inl f50)), (a4, .inl (cT 4, 1024, .inr (.inr (.inr (.inr f55))))), (a5, .inl (cT 0, 1024, .inl f58)), (a6, .inl (cT 0, 4096, .inl f59))] s.heap := hP
  have hl := lv_entry ([.ref a0, .int x7, .int 1, .int x12]) (n := 4) (Nat.le_of_ble_eq_true rfl)
  rw [lg_entry_eq]
  generalize (lg_sl ([.ref a0, .int x7, .int 1, .int x12]) ++ List.replicate (4 - (lg_sl ([.ref a0, .int x7, .int 1, .int x12])).length) Slot.unset).toArray = ls at hl ⊢
  have hl : lv_has ls 4 [(0, .ref a0), (1, .int x7), (2, .int 1), (3, .int x12)] := hl
  refine lv_aload_n hx hb dM_one0_0 rfl (lv_at hl 0 rfl) ?_
  obtain ⟨hPc, hDc, hFc⟩ := xcut (wc := [(a0, .inr (5, [v17, .ref a4, v18, v19, v20, v21, v22, v23, v24, v25, v26, v27, v28, v29, v30, v31, v32, v33, v34, v35, v36, .ref a5, v37, v38, .ref a1, .ref a2, v39, v40, v41, v42, v43, v44]))]) hP hD hS hA [0] rfl rfl (by decide)
  refine va_callv (va_runV (C := "ValueBenchModel") (As := []) (rest := []) ⟨hx, hb, hml, hown, htx⟩ (cM_begin_0 l hl9 D cT aK aV s.heap.size a0 v17 (.ref a4) v18 v19 v20 v21 v22 v23 v24 v25 v26 v27 v28 v29 v30 v31 v32 v33 v34 v35 v36 (.ref a5) v37 v38 (.ref a1) (.ref a2) v39 v40 v41 v42 v43 v44) ⟨callB_of 0 htx (xw_goodC kw_5_209) rfl rfl rfl (htx _ kw_1_5) (htx _ kw_5_206) ⟨by decide, by decide, by decide +kernel⟩ ⟨Nat.le_of_ble_eq_true rfl, Nat.le_of_ble_eq_true rfl⟩, (htx _ kw_5_208), (htx _ kp_M_begin)⟩ ⟨xPre_blind, va_recv hK hP (ci := 5) rfl (q0 := 0) rfl, (fun U hU hW => ⟨rfl, xPre_of hZ hS hFc hPc hDc hK U hU hW⟩)⟩ rfl rfl hl.1 rfl (lv_room (Nat.le_of_ble_eq_true rfl)) dM_one0_1 ⟨Nat.le_of_ble_eq_true rfl, Nat.le_of_ble_eq_true rfl⟩) hS (fun q _ h => hFc q h) hFc (fun u9 t H1 locs ht hvm hr9 hB hz1 hk1 hS => ?_)
  obtain ⟨hP1, hK1, hD1⟩ := hB
  rw [ht] at hP1
  obtain ⟨hP, hD⟩ := xjoin (W := [(a1, .inl (cT 5, 8, .inr (.inr (.inr (.inr f45))))), (a2, .inl (cT 1, 8, .inl f48)), (a3, .inl (cT 0, 4096, .inl f50)), (a4, .inl (cT 4, 1024, .inr (.inr (.inr (.inr f55))))), (a5, .inl (cT 0, 1024, .inl f58)), (a6, .inl (cT 0, 4096, .inl f59)), (a0, .inr (5, [.int 0, .ref a4, .int 0, v19, .int 0, v21, v22, .int 0, v24, .int 0, v26, v27, .int 0, v29, v30, v31, v32, v33, v34, v35, v36, .ref a5, .int 0, .int 1000000000, .ref a1, .ref a2, v39, v40, v41, v42, v43, v44]))]) hP hD [0] [1, 2, 3, 4, 5, 6] 6 rfl rfl (by decide) (by decide) hk1 hFc hP1 hD1
  generalize H1 = H at hP hS ⊢
  refine lv_aload_n hx hb dM_one0_4 rfl (lv_at hl 0 rfl) ?_
  refine lv_iload_n hx hb dM_one0_5 rfl (lv_at hl 1 rfl) ?_
  obtain ⟨hPc, hDc, hFc⟩ := xcut (wc := []) hP hD hS hA [] rfl rfl (by decide)
  refine va_calli (va_runV (C := "ValueBenchModel") (As := [.int x7]) (rest := []) ⟨hx, hb, hml, hown, htx⟩ (cM_out_2 l hl9 D cT aK aV H.size a0 x7 h8 h9 h10 h11) ⟨callB_of 1 htx (xw_goodC kw_5_217) rfl rfl rfl (htx _ kw_1_5) (htx _ kw_5_214) ⟨by decide, by decide, by decide +kernel⟩ ⟨Nat.le_of_ble_eq_true rfl, Nat.le_of_ble_eq_true rfl⟩, (htx _ kw_5_216), (htx _ kp_M_out)⟩ ⟨xPre_blind, va_recv hK hP (ci := 5) rfl (q0 := 6) rfl, (fun U hU hW => ⟨rfl, xPre_of hZ hS hFc hPc hDc hK U hU hW⟩)⟩ rfl rfl hl.1 rfl (lv_room (Nat.le_of_ble_eq_true rfl)) dM_one0_6 ⟨Nat.le_of_ble_eq_true rfl, Nat.le_of_ble_eq_true rfl⟩) hS (fun q _ h => hFc q h) hFc (fun r1 u9 t H1 locs ht hvm hr9 hB hz1 hk1 hS => ?_)
  obtain ⟨hP1, hK1, hD1⟩ := hB
  rw [ht] at hP1
  obtain ⟨hP, hD⟩ := xjoin (W := [(a1, .inl (cT 5, 8, .inr (.inr (.inr (.inr f45))))), (a2, .inl (cT 1, 8, .inl f48)), (a3, .inl (cT 0, 4096, .inl f50)), (a4, .inl (cT 4, 1024, .inr (.inr (.inr (.inr f55))))), (a5, .inl (cT 0, 1024, .inl f58)), (a6, .inl (cT 0, 4096, .inl f59)), (a0, .inr (5, [.int 0, .ref a4, .int 0, v19, .int 0, v21, v22, .int 0, v24, .int 0, v26, v27, .int 0, v29, v30, v31, v32, v33, v34, v35, v36, .ref a5, .int 0, .int 1000000000, .ref a1, .ref a2, v39, v40, v41, v42, v43, v44]))]) hP hD [] [0, 1, 2, 3, 4, 5, 6] 7 rfl rfl (by decide) (by decide) hk1 hFc hP1 hD1
  generalize H1 = H at hP hS ⊢
  rw [hr9]
  refine W.eq (g2 := F0 m 9 ls [.int 0]) rfl ?_
  refine lv_if_ne (tgt := 30) hx hb dM_one0_9 (by decide) (fun h => ((by revert h; decide : False)).elim) (fun _ => ?_)
  refine lv_iload_n hx hb dM_one0_12 rfl (lv_at hl 2 rfl) ?_
  refine lv_if_lt (tgt := 30) hx hb dM_one0_13 (by decide) (fun h => ((by revert h; decide : False)).elim) (fun _ => ?_)
  refine lv_iload_n hx hb dM_one0_16 rfl (lv_at hl 2 rfl) ?_
  refine lv_bipush (v := 13) hx hb dM_one0_17 (by decide) ?_
  refine lv_icmp_gt (tgt := 30) hx hb dM_one0_19 (by decide) (fun h => ((by revert h; decide : False)).elim) (fun _ => ?_)
  refine lv_aload_n hx hb dM_one0_22 rfl (lv_at hl 0 rfl) ?_
  refine lv_iload_n hx hb dM_one0_23 rfl (lv_at hl 3 rfl) ?_
  obtain ⟨hPc, hDc, hFc⟩ := xcut (wc := []) hP hD hS hA [] rfl rfl (by decide)
  refine va_calli (va_runV (C := "ValueBenchModel") (As := [.int x12]) (rest := []) ⟨hx, hb, hml, hown, htx⟩ (cM_out_2 l hl9 D cT aK aV H.size a0 x12 h13 h14 h15 h16) ⟨callB_of 1 htx (xw_goodC kw_5_217) rfl rfl rfl (htx _ kw_1_5) (htx _ kw_5_214) ⟨by decide, by decide, by decide +kernel⟩ ⟨Nat.le_of_ble_eq_true rfl, Nat.le_of_ble_eq_true rfl⟩, (htx _ kw_5_216), (htx _ kp_M_out)⟩ ⟨xPre_blind, va_recv hK hP (ci := 5) rfl (q0 := 6) rfl, (fun U hU hW => ⟨rfl, xPre_of hZ hS hFc hPc hDc hK U hU hW⟩)⟩ rfl rfl hl.1 rfl (lv_room (Nat.le_of_ble_eq_true rfl)) dM_one0_24 ⟨Nat.le_of_ble_eq_true rfl, Nat.le_of_ble_eq_true rfl⟩) hS (fun q _ h => hFc q h) hFc (fun r2 u9 t H1 locs ht hvm hr9 hB hz1 hk1 hS => ?_)
  obtain ⟨hP1, hK1, hD1⟩ := hB
  rw [ht] at hP1
  obtain ⟨hP, hD⟩ := xjoin (W := [(a1, .inl (cT 5, 8, .inr (.inr (.inr (.inr f45))))), (a2, .inl (cT 1, 8, .inl f48)), (a3, .inl (cT 0, 4096, .inl f50)), (a4, .inl (cT 4, 1024, .inr (.inr (.inr (.inr f55))))), (a5, .inl (cT 0, 1024, .inl f58)), (a6, .inl (cT 0, 4096, .inl f59)), (a0, .inr (5, [.int 0, .ref a4, .int 0, v19, .int 0, v21, v22, .int 0, v24, .int 0, v26, v27, .int 0, v29, v30, v31, v32, v33, v34, v35, v36, .ref a5, .int 0, .int 1000000000, .ref a1, .ref a2, v39, v40, v41, v42, v43, v44]))]) hP hD [] [0, 1, 2, 3, 4, 5, 6] 7 rfl rfl (by decide) (by decide) hk1 hFc hP1 hD1
  generalize H1 = H at hP hS ⊢
  rw [hr9]
  refine W.eq (g2 := F0 m 27 ls [.int 0]) rfl ?_
  refine lv_if_eq (tgt := 38) hx hb dM_one0_27 (by decide) (fun _ => ?_) (fun h => ((by revert h; decide : False)).elim)
  refine lv_aload_n hx hb dM_one0_38 rfl (lv_at hl 0 rfl) ?_
  refine lv_iload_n hx hb dM_one0_39 rfl (lv_at hl 1 rfl) ?_
  refine lv_iconst (v := 1) hx hb dM_one0_40 (by decide) ?_
  refine lv_iload_n hx hb dM_one0_41 rfl (lv_at hl 2 rfl) ?_
  refine lv_iload_n hx hb dM_one0_42 rfl (lv_at hl 3 rfl) ?_
  refine lv_iload_n hx hb dM_one0_43 rfl (lv_at hl 3 rfl) ?_
  obtain ⟨hPc, hDc, hFc⟩ := xcut (wc := [(a0, .inr (5, [.int 0, .ref a4, .int 0, v19, .int 0, v21, v22, .int 0, v24, .int 0, v26, v27, .int 0, v29, v30, v31, v32, v33, v34, v35, v36, .ref a5, .int 0, .int 1000000000, .ref a1, .ref a2, v39, v40, v41, v42, v43, v44])), (a1, .inl (cT 5, 8, .inr (.inr (.inr (.inr f45))))), (a2, .inl (cT 1, 8, .inl f48)), (a3, .inl (cT 0, 4096, .inl f50)), (a4, .inl (cT 4, 1024, .inr (.inr (.inr (.inr f55))))), (a5, .inl (cT 0, 1024, .inl f58)), (a6, .inl (cT 0, 4096, .inl f59))]) hP hD hS hA [6, 0, 1, 2, 3, 4, 5] rfl rfl (by decide)
  refine va_callv (vx_runVW (C := "ValueBenchModel") (As := [.int x7, .int 1, .int 1, .int x12, .int x12]) (rest := []) ⟨hx, hb, hml, hown, htx⟩ (cM_finish_16 l hl9 D cT aK aV H.size a0 a1 a2 a3 a4 a5 a6 x7 x12 x12 (.int 0) v19 (.int 0) v21 v22 (.int 0) v24 (.int 0) v26 v27 (.int 0) v29 v30 v31 v32 v33 v34 v35 v36 (.int 0) (.int 1000000000) v39 v40 v41 v42 v43 v44 f45 f48 f50 f55 f58 f59 h8 h9 h10 h11 h13 h14 h15 h16 (by first | rfl | exact h46 | exact h47 | exact h49 | exact h51 | exact h52 | exact h53 | exact h54 | exact h56 | exact h57) (by first | rfl | exact h46 | exact h47 | exact h49 | exact h51 | exact h52 | exact h53 | exact h54 | exact h56 | exact h57) (by first | rfl | exact h46 | exact h47 | exact h49 | exact h51 | exact h52 | exact h53 | exact h54 | exact h56 | exact h57) (by first | rfl | exact h46 | exact h47 | exact h49 | exact h51 | exact h52 | exact h53 | exact h54 | exact h56 | exact h57) (by first | rfl | exact h46 | exact h47 | exact h49 | exact h51 | exact h52 | exact h53 | exact h54 | exact h56 | exact h57) (by first | rfl | exact h46 | exact h47 | exact h49 | exact h51 | exact h52 | exact h53 | exact h54 | exact h56 | exact h57) (by first | rfl | exact h46 | exact h47 | exact h49 | exact h51 | exact h52 | exact h53 | exact h54 | exact h56 | exact h57) (by first | rfl | exact h46 | exact h47 | exact h49 | exact h51 | exact h52 | exact h53 | exact h54 | exact h56 | exact h57) (by first | rfl | exact h46 | exact h47 | exact h49 | exact h51 | exact h52 | exact h53 | exact h54 | exact h56 | exact h57)) (xcVW 5 htx (xw_goodC kw_6_195) rfl rfl rfl (htx _ kw_1_5) (htx _ kw_6_192) ⟨by decide, by decide, by decide +kernel⟩ ⟨Nat.le_of_ble_eq_true rfl, Nat.le_of_ble_eq_true rfl⟩ (htx _ kw_6_194) (htx _ kp_M_finish)) ⟨xPre_blind, va_recv hK hP (ci := 5) rfl (q0 := 6) rfl, (fun U hU hW => ⟨rfl, xPre_of hZ hS hFc hPc hDc hK U hU hW⟩)⟩ rfl rfl hl.1 rfl (lv_room (Nat.le_of_ble_eq_true rfl)) dM_one0_44 ⟨Nat.le_of_ble_eq_true rfl, Nat.le_of_ble_eq_true rfl⟩) hS (fun q _ h => hFc q h) hFc (fun u9 t H1 locs ht hvm hr9 hB hz1 hk1 hS => ?_)
  obtain ⟨q3, q4, y5, hP1, hK1, hD1⟩ := hB
  rw [ht] at hP1
  obtain ⟨hP, hD⟩ := xjoin (W := [(a0, .inr (5, [.int 0, .ref a4, .int 2, v19, .int 0, v21, v22, .int 0, v24, .int 0, v26, v27, .int 0, v29, v30, .ref a3, .int 4, .int 4, .int 0, .int 100, v36, .ref a5, .int 1, .int 4096, .ref a1, .ref a2, v39, v40, v41, v42, v43, v44])), (a1, .inl (cT 5, 8, .inr (.inr (.inr (.inr f45))))), (a2, .inl (cT 1, 8, .inl (upd f48 x7.toNatClampNeg 1))), (a3, .inl (cT 0, 4096, .inl f50)), (a4, .inl (cT 4, 1024, .inr (.inr (.inr (.inr (va_up (va_up f55 0 (some q3)) 1 (some q4))))))), (a5, .inl (cT 0, 1024, .inl (upd f58 0 (vp_nar .byte y5)))), (a6, .inl (cT 0, 4096, .inl (upd f59 0 (vp_nar .byte (vp_nar .byte y5))))), (q3, .inr (6, [.int 0, .long 0, .int 0, .int 0, .int 0, .int 1])), (q4, .inr (6, [.int 3, .long 0, .int 0, .int 0, .int 0, .int 1]))]) hP hD [6, 0, 1, 2, 3, 4, 5] [] 0 rfl rfl (by decide) (by decide) hk1 hFc hP1 hD1
  generalize H1 = H at hP hS ⊢
  obtain ⟨hP9, hD9⟩ := xsub (wc := [(a0, .inr (5, [.int 0, .ref a4, .int 2, v19, .int 0, v21, v22, .int 0, v24, .int 0, v26, v27, .int 0, v29, v30, .ref a3, .int 4, .int 4, .int 0, .int 100, v36, .ref a5, .int 1, .int 4096, .ref a1, .ref a2, v39, v40, v41, v42, v43, v44])), (a1, .inl (cT 5, 8, .inr (.inr (.inr (.inr f45))))), (a2, .inl (cT 1, 8, .inl (upd f48 x7.toNatClampNeg 1))), (a3, .inl (cT 0, 4096, .inl f50)), (a4, .inl (cT 4, 1024, .inr (.inr (.inr (.inr (va_up (va_up f55 0 (some q3)) 1 (some q4))))))), (a5, .inl (cT 0, 1024, .inl (upd f58 0 (vp_nar .byte y5)))), (a6, .inl (cT 0, 4096, .inl (upd f59 0 (vp_nar .byte (vp_nar .byte y5))))), (q3, .inr (6, [.int 0, .long 0, .int 0, .int 0, .int 0, .int 1])), (q4, .inr (6, [.int 3, .long 0, .int 0, .int 0, .int 0, .int 1]))]) hP hD [0, 1, 2, 3, 4, 5, 6, 7, 8] rfl rfl (by decide)
  refine W.widen (k := 2) (n := 12) (Nat.le_of_ble_eq_true rfl) (Nat.le_of_ble_eq_true rfl) ?_
  exact W.vret hx hb hr (fun t ht hW => ⟨⟨(), rfl, trivial, q3, q4, y5, by rw [ht]; exact hP9, va_K.moved hW.alike hK, hD9⟩, hS.F ht⟩) hS.2.2 dM_one0_47
set_option maxHeartbeats 400000000 in
set_option maxRecDepth 100000 in
theorem cB_isWithin_16 (l : Launch) (hl9 : l.stackTraces = false) (D : va_G) (cT : Nat → ClassId) (aK aV : Nat → Nat) (sz : Nat) : xMet l yB_isWithin wyB_isWithin 0 0 0 0 D cT aK aV sz [.int 2, .int 13] [] (fun A => va_Qi (fun (r : Int32) (_ : Unit) => r = 1) (fun _ t => xB D xcl cT A [] t) A) := by
  refine Met.ofW (cc := prog_1_method_15_code) (maxL := 2) (ret := (some .boolean)) (by decide) rfl ?_
  intro p e s m args below meth c s₁ B hml hv
  obtain ⟨rfl, hsz, hZ, hP, hK, hD0⟩ := hv
  have hx := B.exec
  have hb := B.bytes
  have hr := B.returns
  have hts := atoms_spec (ws := wyB_isWithin) B.pre
  have htx := fun w h => hts w (List.mem_cons_of_mem _ h)
  have hown : s.vm.findClass "ValueBench" = some m.cls := findClass_of_methodNamed B.named
  have hlocks := B.notSynchronized
  subst hsz
  have hD := hD0.self (sz := s.heap.size)
  generalize hAe : va_A [] s.heap.size = A at hD hZ ⊢
  have hA : ∀ q : Nat, s.heap.size ≤ q → A q := fun q h => by rw [← hAe]; exact Or.inr h
  have hS : va_S A s.heap s.heap [] := va_S.rf
  have hP : va_P D xcl [] s.heap := hP
  have hl := lv_entry ([.int 2, .int 13]) (n := 2) (Nat.le_of_ble_eq_true rfl)
  rw [lg_entry_eq]
  generalize (lg_sl ([.int 2, .int 13]) ++ List.replicate (2 - (lg_sl ([.int 2, .int 13])).length) Slot.unset).toArray = ls at hl ⊢
  have hl : lv_has ls 2 [(0, .int 2), (1, .int 13)] := hl
  refine lv_iload_n hx hb dB_isWithin_0 rfl (lv_at hl 0 rfl) ?_
  refine lv_if_lt (tgt := 13) hx hb dB_isWithin_1 (by decide) (fun h => ((by revert h; decide : False)).elim) (fun _ => ?_)
  refine lv_iload_n hx hb dB_isWithin_4 rfl (lv_at hl 0 rfl) ?_
  refine lv_iload_n hx hb dB_isWithin_5 rfl (lv_at hl 1 rfl) ?_
  refine lv_icmp_gt (tgt := 13) hx hb dB_isWithin_6 (by decide) (fun h => ((by revert h; decide : False)).elim) (fun _ => ?_)
  refine lv_iconst (v := 1) hx hb dB_isWithin_9 (by decide) ?_
  refine lv_goto (tgt := 14) hx hb dB_isWithin_10 (by decide) ?_
  obtain ⟨hP9, hD9⟩ := xsub (wc := []) hP hD [] rfl rfl (by decide)
  refine W.widen (k := 0) (n := 0) (Nat.le_of_ble_eq_true rfl) (Nat.le_of_ble_eq_true rfl) ?_
  exact W.zret (v := 1) hx hb hr rfl (fun t ht hW => ⟨⟨1, (), rfl, rfl, by rw [ht]; exact hP9, va_K.moved hW.alike hK, hD9⟩, hS.F ht⟩) hS.2.2 dB_isWithin_14
set_option maxHeartbeats 400000000 in
set_option maxRecDepth 100000 in
theorem cG_keys_0 (l : Launch) (hl9 : l.stackTraces = false) (D : va_G) (cT : Nat → ClassId) (aK aV : Nat → Nat) (sz : Nat) (a0 : Nat) (a1 : Nat) (b2 : Nat) (v3 : Value) (f4 : Nat → Int64) (h5 : f4 0 = 0) : xMet l yG_keys wyG_keys 2 0 0 43 D cT aK aV sz [.ref a0, .ref b2] [(a0, .inr (2, [.ref a1, .int 1, v3])), (a1, .inl (cT 2, 4096, .inr (.inl f4)))] (fun A => va_Qi (fun (r : Int32) (_ : Unit) => r = 1) (fun _ t => xB D xcl cT A [(a0, .inr (2, [.ref a1, .int 1, v3])), (a1, .inl (cT 2, 4096, .inr (.inl f4)))] t) A) := by
  refine Met.ofW (cc := prog_9_method_5_code) (maxL := 5) (ret := (some .int)) (by decide) rfl ?_
  intro p e s m args below meth c s₁ B hml hv
  obtain ⟨rfl, hsz, hZ, hP, hK, hD0⟩ := hv
  have hx := B.exec
  have hb := B.bytes
  have hr := B.returns
  have hts := atoms_spec (ws := wyG_keys) B.pre
  have htx := fun w h => hts w (List.mem_cons_of_mem _ h)
  have hown : s.vm.findClass "ValueBench$Singles" = some m.cls := findClass_of_methodNamed B.named
  have hlocks := B.notSynchronized
  subst hsz
  have hD := hD0.self (sz := s.heap.size)
  generalize hAe : va_A [(a0, .inr (2, [.ref a1, .int 1, v3])), (a1, .inl (cT 2, 4096, .inr (.inl f4)))] s.heap.size = A at hD hZ ⊢
  have hA : ∀ q : Nat, s.heap.size ≤ q → A q := fun q h => by rw [← hAe]; exact Or.inr h
  have hS : va_S A s.heap s.heap [] := va_S.rf
  have hP : va_P D xcl [(a0, .inr (2, [.ref a1, .int 1, v3])), (a1, .inl (cT 2, 4096, .inr (.inl f4)))] s.heap := hP
  have hl := lv_entry ([.ref a0, .ref b2]) (n := 5) (Nat.le_of_ble_eq_true rfl)
  rw [lg_entry_eq]
  generalize (lg_sl ([.ref a0, .ref b2]) ++ List.replicate (5 - (lg_sl ([.ref a0, .ref b2])).length) Slot.unset).toArray = ls at hl ⊢
  have hl : lv_has ls 5 [(0, .ref a0), (1, .ref b2)] := hl
  refine lv_aload_n hx hb dG_keys_0 rfl (lv_at hl 0 rfl) ?_
  refine lv_iconst (v := 0) hx hb dG_keys_1 (by decide) ?_
  refine lv_iconst (v := 5) hx hb dG_keys_2 (by decide) ?_
  obtain ⟨hPc, hDc, hFc⟩ := xcut (wc := [(a0, .inr (2, [.ref a1, .int 1, v3])), (a1, .inl (cT 2, 4096, .inr (.inl f4)))]) hP hD hS hA [0, 1] rfl rfl (by decide)
  refine va_calli (va_runV (C := "ValueBench$Row") (As := [.int 0, .int 5]) (rest := []) ⟨hx, hb, hml, hown, htx⟩ (cR_is_2 l hl9 D cT aK aV s.heap.size a0 a1 v3 f4 (by first | rfl | exact h5)) ⟨callB_of 2 htx (xw_goodC kw_3_75) rfl rfl rfl (htx _ kw_1_4) (htx _ kw_4_29) ⟨by decide, by decide, by decide +kernel⟩ ⟨Nat.le_of_ble_eq_true rfl, Nat.le_of_ble_eq_true rfl⟩, (htx _ kw_3_73), (htx _ kw_3_74)⟩ ⟨xPre_blind, va_recv hK hP (ci := 2) rfl (q0 := 0) rfl, (fun U hU hW => ⟨rfl, xPre_of hZ hS hFc hPc hDc hK U hU hW⟩)⟩ rfl rfl hl.1 rfl (lv_room (Nat.le_of_ble_eq_true rfl)) dG_keys_3 ⟨Nat.le_of_ble_eq_true rfl, Nat.le_of_ble_eq_true rfl⟩) hS (fun q _ h => hFc q h) hFc (fun r1 u9 t H1 locs ht hvm hr9 hB hz1 hk1 hS => ?_)
  obtain ⟨hP1, hK1, hD1⟩ := hB
  rw [ht] at hP1
  obtain ⟨hP, hD⟩ := xjoin (W := [(a0, .inr (2, [.ref a1, .int 1, v3])), (a1, .inl (cT 2, 4096, .inr (.inl f4)))]) hP hD [0, 1] [] 0 rfl rfl (by decide) (by decide) hk1 hFc hP1 hD1
  generalize H1 = H at hP hS ⊢
  rw [hr9]
  refine W.eq (g2 := F0 m 6 ls [.int 0]) rfl ?_
  refine lv_if_ne (tgt := 21) hx hb dG_keys_6 (by decide) (fun h => ((by revert h; decide : False)).elim) (fun _ => ?_)
  refine lv_aload_n hx hb dG_keys_9 rfl (lv_at hl 0 rfl) ?_
  refine lv_iconst (v := 0) hx hb dG_keys_10 (by decide) ?_
  refine lv_bipush (v := 6) hx hb dG_keys_11 (by decide) ?_
  obtain ⟨hPc, hDc, hFc⟩ := xcut (wc := [(a0, .inr (2, [.ref a1, .int 1, v3])), (a1, .inl (cT 2, 4096, .inr (.inl f4)))]) hP hD hS hA [0, 1] rfl rfl (by decide)
  refine va_calli (va_runV (C := "ValueBench$Row") (As := [.int 0, .int 6]) (rest := []) ⟨hx, hb, hml, hown, htx⟩ (cR_is_3 l hl9 D cT aK aV H.size a0 a1 v3 f4 (by first | rfl | exact h5)) ⟨callB_of 2 htx (xw_goodC kw_3_75) rfl rfl rfl (htx _ kw_1_4) (htx _ kw_4_29) ⟨by decide, by decide, by decide +kernel⟩ ⟨Nat.le_of_ble_eq_true rfl, Nat.le_of_ble_eq_true rfl⟩, (htx _ kw_3_73), (htx _ kw_3_74)⟩ ⟨xPre_blind, va_recv hK hP (ci := 2) rfl (q0 := 0) rfl, (fun U hU hW => ⟨rfl, xPre_of hZ hS hFc hPc hDc hK U hU hW⟩)⟩ rfl rfl hl.1 rfl (lv_room (Nat.le_of_ble_eq_true rfl)) dG_keys_13 ⟨Nat.le_of_ble_eq_true rfl, Nat.le_of_ble_eq_true rfl⟩) hS (fun q _ h => hFc q h) hFc (fun r2 u9 t H1 locs ht hvm hr9 hB hz1 hk1 hS => ?_)
  obtain ⟨hP1, hK1, hD1⟩ := hB
  rw [ht] at hP1
  obtain ⟨hP, hD⟩ := xjoin (W := [(a0, .inr (2, [.ref a1, .int 1, v3])), (a1, .inl (cT 2, 4096, .inr (.inl f4)))]) hP hD [0, 1] [] 0 rfl rfl (by decide) (by decide) hk1 hFc hP1 hD1
  generalize H1 = H at hP hS ⊢
  rw [hr9]
  refine W.eq (g2 := F0 m 16 ls [.int 0]) rfl ?_
  refine lv_if_ne (tgt := 21) hx hb dG_keys_16 (by decide) (fun h => ((by revert h; decide : False)).elim) (fun _ => ?_)
  refine lv_iconst (v := 1) hx hb dG_keys_19 (by decide) ?_
  obtain ⟨hP9, hD9⟩ := xsub (wc := [(a0, .inr (2, [.ref a1, .int 1, v3])), (a1, .inl (cT 2, 4096, .inr (.inl f4)))]) hP hD [0, 1] rfl rfl (by decide)
  refine W.widen (k := 0) (n := 0) (Nat.le_of_ble_eq_true rfl) (Nat.le_of_ble_eq_true rfl) ?_
  exact W.iret (v := 1) hx hb hr (fun t ht hW => ⟨⟨1, (), rfl, rfl, by rw [ht]; exact hP9, va_K.moved hW.alike hK, hD9⟩, hS.F ht⟩) hS.2.2 dG_keys_20
set_option maxHeartbeats 400000000 in
set_option maxRecDepth 100000 in
theorem cG_apply_2 (l : Launch) (hl9 : l.stackTraces = false) (D : va_G) (cT : Nat → ClassId) (aK aV : Nat → Nat) (sz : Nat) (a0 : Nat) (a1 : Nat) (b2 : Nat) (b3 : Nat) (b4 : Nat) (v5 : Value) (f6 : Nat → Int64) (h7 : f6 0 = 0) : xMet l yG_apply wyG_apply 3 0 0 67 D cT aK aV sz [.int 2, .ref a0, .ref b2, .ref b3, .ref b4] [(a0, .inr (2, [.ref a1, .int 1, v5])), (a1, .inl (cT 2, 4096, .inr (.inl f6)))] (fun A => va_Qi (fun (r : Int32) (_ : Unit) => r = 1) (fun _ t => xB D xcl cT A [(a0, .inr (2, [.ref a1, .int 1, v5])), (a1, .inl (cT 2, 4096, .inr (.inl f6)))] t) A) := by
  refine Met.ofW (cc := prog_9_method_2_code) (maxL := 5) (ret := (some .int)) (by decide) rfl ?_
  intro p e s m args below meth c s₁ B hml hv
  obtain ⟨rfl, hsz, hZ, hP, hK, hD0⟩ := hv
  have hx := B.exec
  have hb := B.bytes
  have hr := B.returns
  have hts := atoms_spec (ws := wyG_apply) B.pre
  have htx := fun w h => hts w (List.mem_cons_of_mem _ h)
  have hown : s.vm.findClass "ValueBench$Singles" = some m.cls := findClass_of_methodNamed B.named
  have hlocks := B.notSynchronized
  subst hsz
  have hD := hD0.self (sz := s.heap.size)
  generalize hAe : va_A [(a0, .inr (2, [.ref a1, .int 1, v5])), (a1, .inl (cT 2, 4096, .inr (.inl f6)))] s.heap.size = A at hD hZ ⊢
  have hA : ∀ q : Nat, s.heap.size ≤ q → A q := fun q h => by rw [← hAe]; exact Or.inr h
  have hS : va_S A s.heap s.heap [] := va_S.rf
  have hP : va_P D xcl [(a0, .inr (2, [.ref a1, .int 1, v5])), (a1, .inl (cT 2, 4096, .inr (.inl f6)))] s.heap := hP
  have hl := lv_entry ([.int 2, .ref a0, .ref b2, .ref b3, .ref b4]) (n := 5) (Nat.le_of_ble_eq_true rfl)
  rw [lg_entry_eq]
  generalize (lg_sl ([.int 2, .ref a0, .ref b2, .ref b3, .ref b4]) ++ List.replicate (5 - (lg_sl ([.int 2, .ref a0, .ref b2, .ref b3, .ref b4])).length) Slot.unset).toArray = ls at hl ⊢
  have hl : lv_has ls 5 [(0, .int 2), (1, .ref a0), (2, .ref b2), (3, .ref b3), (4, .ref b4)] := hl
  refine lv_iload_n hx hb dG_apply_0 rfl (lv_at hl 0 rfl) ?_
  refine lv_tableIn (off := 104) (tgt := 105) hx hb dG_apply_1 (by decide) (by decide) (by decide) (by decide) ?_
  refine lv_aload_n hx hb dG_apply_105 rfl (lv_at hl 1 rfl) ?_
  refine lv_iconst (v := 0) hx hb dG_apply_106 (by decide) ?_
  refine lv_bipush (v := 6) hx hb dG_apply_107 (by decide) ?_
  obtain ⟨hPc, hDc, hFc⟩ := xcut (wc := [(a0, .inr (2, [.ref a1, .int 1, v5])), (a1, .inl (cT 2, 4096, .inr (.inl f6)))]) hP hD hS hA [0, 1] rfl rfl (by decide)
  refine va_calli (va_runV (C := "ValueBench$Row") (As := [.int 0, .int 6]) (rest := []) ⟨hx, hb, hml, hown, htx⟩ (cR_is_3 l hl9 D cT aK aV s.heap.size a0 a1 v5 f6 (by first | rfl | exact h7)) ⟨callB_of 2 htx (xw_goodC kw_3_75) rfl rfl rfl (htx _ kw_1_4) (htx _ kw_4_29) ⟨by decide, by decide, by decide +kernel⟩ ⟨Nat.le_of_ble_eq_true rfl, Nat.le_of_ble_eq_true rfl⟩, (htx _ kw_3_73), (htx _ kw_3_74)⟩ ⟨xPre_blind, va_recv hK hP (ci := 2) rfl (q0 := 0) rfl, (fun U hU hW => ⟨rfl, xPre_of hZ hS hFc hPc hDc hK U hU hW⟩)⟩ rfl rfl hl.1 rfl (lv_room (Nat.le_of_ble_eq_true rfl)) dG_apply_109 ⟨Nat.le_of_ble_eq_true rfl, Nat.le_of_ble_eq_true rfl⟩) hS (fun q _ h => hFc q h) hFc (fun r1 u9 t H1 locs ht hvm hr9 hB hz1 hk1 hS => ?_)
  obtain ⟨hP1, hK1, hD1⟩ := hB
  rw [ht] at hP1
  obtain ⟨hP, hD⟩ := xjoin (W := [(a0, .inr (2, [.ref a1, .int 1, v5])), (a1, .inl (cT 2, 4096, .inr (.inl f6)))]) hP hD [0, 1] [] 0 rfl rfl (by decide) (by decide) hk1 hFc hP1 hD1
  generalize H1 = H at hP hS ⊢
  rw [hr9]
  refine W.eq (g2 := F0 m 112 ls [.int 0]) rfl ?_
  refine lv_if_eq (tgt := 125) hx hb dG_apply_112 (by decide) (fun _ => ?_) (fun h => ((by revert h; decide : False)).elim)
  refine lv_aload_n hx hb dG_apply_125 rfl (lv_at hl 1 rfl) ?_
  refine lv_aload hx hb dG_apply_126 (lv_at hl 4 rfl) ?_
  obtain ⟨hPc, hDc, hFc⟩ := xcut (wc := [(a0, .inr (2, [.ref a1, .int 1, v5])), (a1, .inl (cT 2, 4096, .inr (.inl f6)))]) hP hD hS hA [0, 1] rfl rfl (by decide)
  refine va_calli (va_runS (As := [.ref a0, .ref b4]) (rest := []) ⟨hx, hb, hml, hown, htx⟩ (cG_keys_0 l hl9 D cT aK aV H.size a0 a1 b4 v5 f6 (by first | rfl | exact h7)) ⟨callB_of 2 htx (xw_goodC kw_4_73) rfl rfl rfl (htx _ kw_1_26) (htx _ kw_4_71) ⟨by decide, by decide, by decide +kernel⟩ ⟨Nat.le_of_ble_eq_true rfl, Nat.le_of_ble_eq_true rfl⟩, htx _ kw_4_72⟩ ⟨xPre_blind, (fun U hU hW => ⟨rfl, xPre_of hZ hS hFc hPc hDc hK U hU hW⟩)⟩ rfl rfl hl.1 rfl (lv_room (Nat.le_of_ble_eq_true rfl)) dG_apply_128 ⟨Nat.le_of_ble_eq_true rfl, Nat.le_of_ble_eq_true rfl⟩) hS (fun q _ h => hFc q h) hFc (fun r2 u9 t H1 locs ht hvm hr9 hB hz1 hk1 hS => ?_)
  obtain ⟨hP1, hK1, hD1⟩ := hB
  rw [ht] at hP1
  obtain ⟨hP, hD⟩ := xjoin (W := [(a0, .inr (2, [.ref a1, .int 1, v5])), (a1, .inl (cT 2, 4096, .inr (.inl f6)))]) hP hD [0, 1] [] 0 rfl rfl (by decide) (by decide) hk1 hFc hP1 hD1
  generalize H1 = H at hP hS ⊢
  rw [hr9]
  refine W.eq (g2 := F0 m 131 ls [.int 1]) rfl ?_
  obtain ⟨hP9, hD9⟩ := xsub (wc := [(a0, .inr (2, [.ref a1, .int 1, v5])), (a1, .inl (cT 2, 4096, .inr (.inl f6)))]) hP hD [0, 1] rfl rfl (by decide)
  refine W.widen (k := 0) (n := 0) (Nat.le_of_ble_eq_true rfl) (Nat.le_of_ble_eq_true rfl) ?_
  exact W.iret (v := 1) hx hb hr (fun t ht hW => ⟨⟨1, (), rfl, rfl, by rw [ht]; exact hP9, va_K.moved hW.alike hK, hD9⟩, hS.F ht⟩) hS.2.2 dG_apply_131
set_option maxHeartbeats 400000000 in
set_option maxRecDepth 100000 in
theorem cB_one_8 (l : Launch) (hl9 : l.stackTraces = false) (D : va_G) (cT : Nat → ClassId) (aK aV : Nat → Nat) (sz : Nat) (a0 : Nat) (a1 : Nat) (a2 : Nat) (a3 : Nat) (a4 : Nat) (x5 : Int32) (x10 : Int32) (v15 : Value) (v16 : Value) (b17 : Nat) (b18 : Nat) (v19 : Value) (v20 : Value) (v21 : Value) (v22 : Value) (v23 : Value) (f24 : Nat → Option Nat) (v26 : Value) (f27 : Nat → Int64) (h6 : ¬ x5 < 0) (h7 : ¬ 7 < x5) (h8 : x5 ≤ 7) (h9 : vp_in x5 8) (h11 : ¬ x10 < 0) (h12 : ¬ 7 < x10) (h13 : x10 ≤ 7) (h14 : vp_in x10 8) (h25 : f24 x10.toNatClampNeg = some a3) (h28 : f27 0 = 0) : xMetX l yB_one wyB_one 7 1 6 121 D cT aK aV sz [.ref a0, .int x5, .int 2, .int x10] [(a0, .inr (0, [v15, v16, .ref b17, .ref a2, .ref b18, .ref a1, v19, v20])), (a1, .inr (2, [v21, v22, v23])), (a2, .inl (cT 3, 8, .inr (.inr (.inr (.inr f24))))), (a3, .inr (2, [.ref a4, .int 1, v26])), (a4, .inl (cT 2, 4096, .inr (.inl f27)))] "java/lang/ArithmeticException" (fun A t => xB D xcl cT A [(a0, .inr (0, [v15, v16, .ref b17, .ref a2, .ref b18, .ref a1, v19, .int 1])), (a1, .inr (2, [v21, .int 0, .int 0])), (a2, .inl (cT 3, 8, .inr (.inr (.inr (.inr f24))))), (a3, .inr (2, [.ref a4, .int 1, v26])), (a4, .inl (cT 2, 4096, .inr (.inl f27)))] t) := by
  refine vx_ofW (cc := prog_1_method_9_code) (maxL := 4) (ret := none) (by decide) rfl ?_
  intro p e s m args below meth c s₁ B hml hne hv
  obtain ⟨rfl, hsz, hZ, hP, hK, hD0⟩ := hv
  have hx := B.exec
  have hb := B.bytes
  have hr := B.returns
  have hts := atoms_spec (ws := wyB_one) B.pre
  have htx := fun w h => hts w (List.mem_cons_of_mem _ h)
  have hown : s.vm.findClass "ValueBench" = some m.cls := findClass_of_methodNamed B.named
  have hlocks := B.notSynchronized
  subst hsz
  have hD := hD0.self (sz := s.heap.size)
  generalize hAe : va_A [(a0, .inr (0, [v15, v16, .ref b17, .ref a2, .ref b18, .ref a1, v19, v20])), (a1, .inr (2, [v21, v22, v23])), (a2, .inl (cT 3, 8, .inr (.inr (.inr (.inr f24))))), (a3, .inr (2, [.ref a4, .int 1, v26])), (a4, .inl (cT 2, 4096, .inr (.inl f27)))] s.heap.size = A at hD hZ ⊢
  have hA : ∀ q : Nat, s.heap.size ≤ q → A q := fun q h => by rw [← hAe]; exact Or.inr h
  have hS : va_S A s.heap s.heap [] := va_S.rf
  have hP : va_P D xcl [(a0, .inr (0, [v15, v16, .ref b17, .ref a2, .ref b18, .ref a1, v19, v20])), (a1, .inr (2, [v21, v22, v23])), (a2, .inl (cT 3, 8, .inr (.inr (.inr (.inr f24))))), (a3, .inr (2, [.ref a4, .int 1, v26])), (a4, .inl (cT 2, 4096, .inr (.inl f27)))] s.heap := hP
  have hl := lv_entry ([.ref a0, .int x5, .int 2, .int x10]) (n := 4) (Nat.le_of_ble_eq_true rfl)
  rw [lg_entry_eq]
  generalize (lg_sl ([.ref a0, .int x5, .int 2, .int x10]) ++ List.replicate (4 - (lg_sl ([.ref a0, .int x5, .int 2, .int x10])).length) Slot.unset).toArray = ls at hl ⊢
  have hl : lv_has ls 4 [(0, .ref a0), (1, .int x5), (2, .int 2), (3, .int x10)] := hl
  refine lv_iload_n hx hb dB_one_0 rfl (lv_at hl 1 rfl) ?_
  obtain ⟨hPc, hDc, hFc⟩ := xcut (wc := []) hP hD hS hA [] rfl rfl (by decide)
  refine va_calli (va_runS (As := [.int x5]) (rest := []) ⟨hx, hb, hml, hown, htx⟩ (cB_isRegister_2 l hl9 D cT aK aV s.heap.size x5 h6 h7 h8 h9) ⟨callB_of 1 htx (xw_goodC kw_2_18) rfl rfl rfl (htx _ kw_1_1) (htx _ kw_2_16) ⟨by decide, by decide, by decide +kernel⟩ ⟨Nat.le_of_ble_eq_true rfl, Nat.le_of_ble_eq_true rfl⟩, htx _ kw_2_17⟩ ⟨xPre_blind, (fun U hU hW => ⟨rfl, xPre_of hZ hS hFc hPc hDc hK U hU hW⟩)⟩ rfl rfl hl.1 rfl (lv_room (Nat.le_of_ble_eq_true rfl)) dB_one_1 ⟨Nat.le_of_ble_eq_true rfl, Nat.le_of_ble_eq_true rfl⟩) hS (fun q _ h => hFc q h) hFc (fun r1 u9 t H1 locs ht hvm hr9 hB hz1 hk1 hS => ?_)
  obtain ⟨hP1, hK1, hD1⟩ := hB
  rw [ht] at hP1
  obtain ⟨hP, hD⟩ := xjoin (W := [(a0, .inr (0, [v15, v16, .ref b17, .ref a2, .ref b18, .ref a1, v19, v20])), (a1, .inr (2, [v21, v22, v23])), (a2, .inl (cT 3, 8, .inr (.inr (.inr (.inr f24))))), (a3, .inr (2, [.ref a4, .int 1, v26])), (a4, .inl (cT 2, 4096, .inr (.inl f27)))]) hP hD [] [0, 1, 2, 3, 4] 5 rfl rfl (by decide) (by decide) hk1 hFc hP1 hD1
  generalize H1 = H at hP hS ⊢
  rw [hr9]
  refine W.eq (g2 := F0 m 4 ls [.int 1]) rfl ?_
  refine lv_if_eq (tgt := 27) hx hb dB_one_4 (by decide) (fun h => ((by revert h; decide : False)).elim) (fun _ => ?_)
  refine lv_iload_n hx hb dB_one_7 rfl (lv_at hl 2 rfl) ?_
  refine lv_bipush (v := 13) hx hb dB_one_8 (by decide) ?_
  obtain ⟨hPc, hDc, hFc⟩ := xcut (wc := []) hP hD hS hA [] rfl rfl (by decide)
  refine va_calli (va_runS (As := [.int 2, .int 13]) (rest := []) ⟨hx, hb, hml, hown, htx⟩ (cB_isWithin_16 l hl9 D cT aK aV H.size) ⟨callB_of 2 htx (xw_goodC kw_1_218) rfl rfl rfl (htx _ kw_1_1) (htx _ kw_1_216) ⟨by decide, by decide, by decide +kernel⟩ ⟨Nat.le_of_ble_eq_true rfl, Nat.le_of_ble_eq_true rfl⟩, htx _ kw_1_217⟩ ⟨xPre_blind, (fun U hU hW => ⟨rfl, xPre_of hZ hS hFc hPc hDc hK U hU hW⟩)⟩ rfl rfl hl.1 rfl (lv_room (Nat.le_of_ble_eq_true rfl)) dB_one_10 ⟨Nat.le_of_ble_eq_true rfl, Nat.le_of_ble_eq_true rfl⟩) hS (fun q _ h => hFc q h) hFc (fun r2 u9 t H1 locs ht hvm hr9 hB hz1 hk1 hS => ?_)
  obtain ⟨hP1, hK1, hD1⟩ := hB
  rw [ht] at hP1
  obtain ⟨hP, hD⟩ := xjoin (W := [(a0, .inr (0, [v15, v16, .ref b17, .ref a2, .ref b18, .ref a1, v19, v20])), (a1, .inr (2, [v21, v22, v23])), (a2, .inl (cT 3, 8, .inr (.inr (.inr (.inr f24))))), (a3, .inr (2, [.ref a4, .int 1, v26])), (a4, .inl (cT 2, 4096, .inr (.inl f27)))]) hP hD [] [0, 1, 2, 3, 4] 5 rfl rfl (by decide) (by decide) hk1 hFc hP1 hD1
  generalize H1 = H at hP hS ⊢
  rw [hr9]
  refine W.eq (g2 := F0 m 13 ls [.int 1]) rfl ?_
  refine lv_if_eq (tgt := 27) hx hb dB_one_13 (by decide) (fun h => ((by revert h; decide : False)).elim) (fun _ => ?_)
  refine lv_iload_n hx hb dB_one_16 rfl (lv_at hl 3 rfl) ?_
  obtain ⟨hPc, hDc, hFc⟩ := xcut (wc := []) hP hD hS hA [] rfl rfl (by decide)
  refine va_calli (va_runS (As := [.int x10]) (rest := []) ⟨hx, hb, hml, hown, htx⟩ (cB_isRegister_2 l hl9 D cT aK aV H.size x10 h11 h12 h13 h14) ⟨callB_of 1 htx (xw_goodC kw_2_18) rfl rfl rfl (htx _ kw_1_1) (htx _ kw_2_16) ⟨by decide, by decide, by decide +kernel⟩ ⟨Nat.le_of_ble_eq_true rfl, Nat.le_of_ble_eq_true rfl⟩, htx _ kw_2_17⟩ ⟨xPre_blind, (fun U hU hW => ⟨rfl, xPre_of hZ hS hFc hPc hDc hK U hU hW⟩)⟩ rfl rfl hl.1 rfl (lv_room (Nat.le_of_ble_eq_true rfl)) dB_one_17 ⟨Nat.le_of_ble_eq_true rfl, Nat.le_of_ble_eq_true rfl⟩) hS (fun q _ h => hFc q h) hFc (fun r3 u9 t H1 locs ht hvm hr9 hB hz1 hk1 hS => ?_)
  obtain ⟨hP1, hK1, hD1⟩ := hB
  rw [ht] at hP1
  obtain ⟨hP, hD⟩ := xjoin (W := [(a0, .inr (0, [v15, v16, .ref b17, .ref a2, .ref b18, .ref a1, v19, v20])), (a1, .inr (2, [v21, v22, v23])), (a2, .inl (cT 3, 8, .inr (.inr (.inr (.inr f24))))), (a3, .inr (2, [.ref a4, .int 1, v26])), (a4, .inl (cT 2, 4096, .inr (.inl f27)))]) hP hD [] [0, 1, 2, 3, 4] 5 rfl rfl (by decide) (by decide) hk1 hFc hP1 hD1
  generalize H1 = H at hP hS ⊢
  rw [hr9]
  refine W.eq (g2 := F0 m 20 ls [.int 1]) rfl ?_
  refine lv_if_eq (tgt := 27) hx hb dB_one_20 (by decide) (fun h => ((by revert h; decide : False)).elim) (fun _ => ?_)
  refine lv_iconst (v := 1) hx hb dB_one_23 (by decide) ?_
  refine lv_goto (tgt := 28) hx hb dB_one_24 (by decide) ?_
  obtain ⟨hPc, hDc, hFc⟩ := xcut (wc := []) hP hD hS hA [] rfl rfl (by decide)
  refine va_callv (va_runS (As := [.int 1]) (rest := []) ⟨hx, hb, hml, hown, htx⟩ (cB_demand_1 l hl9 D cT aK aV H.size) ⟨callB_of 1 htx (xw_goodC kw_1_221) rfl rfl rfl (htx _ kw_1_1) (htx _ kw_1_219) ⟨by decide, by decide, by decide +kernel⟩ ⟨Nat.le_of_ble_eq_true rfl, Nat.le_of_ble_eq_true rfl⟩, htx _ kw_1_220⟩ ⟨xPre_blind, (fun U hU hW => ⟨rfl, xPre_of hZ hS hFc hPc hDc hK U hU hW⟩)⟩ rfl rfl hl.1 rfl (lv_room (Nat.le_of_ble_eq_true rfl)) dB_one_28 ⟨Nat.le_of_ble_eq_true rfl, Nat.le_of_ble_eq_true rfl⟩) hS (fun q _ h => hFc q h) hFc (fun u9 t H1 locs ht hvm hr9 hB hz1 hk1 hS => ?_)
  obtain ⟨hP1, hK1, hD1⟩ := hB
  rw [ht] at hP1
  obtain ⟨hP, hD⟩ := xjoin (W := [(a0, .inr (0, [v15, v16, .ref b17, .ref a2, .ref b18, .ref a1, v19, v20])), (a1, .inr (2, [v21, v22, v23])), (a2, .inl (cT 3, 8, .inr (.inr (.inr (.inr f24))))), (a3, .inr (2, [.ref a4, .int 1, v26])), (a4, .inl (cT 2, 4096, .inr (.inl f27)))]) hP hD [] [0, 1, 2, 3, 4] 5 rfl rfl (by decide) (by decide) hk1 hFc hP1 hD1
  generalize H1 = H at hP hS ⊢
  refine lv_aload_n hx hb dB_one_31 rfl (lv_at hl 0 rfl) ?_
  refine va_get (D := D) (ci := 0) (v := .ref a1) (C := "ValueBench") (T := TB) (N := 8) hx hb htx inB hown hK hP 0 rfl rfl 5 (by decide) (htx _ kw_1_100) (fun _ h9 => h9) rfl dB_one_32 ?_
  obtain ⟨hPc, hDc, hFc⟩ := xcut (wc := [(a1, .inr (2, [v21, v22, v23]))]) hP hD hS hA [1] rfl rfl (by decide)
  refine va_callv (va_runV (C := "ValueBench$Row") (As := []) (rest := []) ⟨hx, hb, hml, hown, htx⟩ (cR_clear_0 l hl9 D cT aK aV H.size a1 v21 v22 v23) ⟨callB_of 0 htx (xw_goodC kw_2_22) rfl rfl rfl (htx _ kw_1_4) (htx _ kw_2_19) ⟨by decide, by decide, by decide +kernel⟩ ⟨Nat.le_of_ble_eq_true rfl, Nat.le_of_ble_eq_true rfl⟩, (htx _ kw_2_20), (htx _ kw_2_21)⟩ ⟨xPre_blind, va_recv hK hP (ci := 2) rfl (q0 := 1) rfl, (fun U hU hW => ⟨rfl, xPre_of hZ hS hFc hPc hDc hK U hU hW⟩)⟩ rfl rfl hl.1 rfl (lv_room (Nat.le_of_ble_eq_true rfl)) dB_one_35 ⟨Nat.le_of_ble_eq_true rfl, Nat.le_of_ble_eq_true rfl⟩) hS (fun q _ h => hFc q h) hFc (fun u9 t H1 locs ht hvm hr9 hB hz1 hk1 hS => ?_)
  obtain ⟨hP1, hK1, hD1⟩ := hB
  rw [ht] at hP1
  obtain ⟨hP, hD⟩ := xjoin (W := [(a0, .inr (0, [v15, v16, .ref b17, .ref a2, .ref b18, .ref a1, v19, v20])), (a2, .inl (cT 3, 8, .inr (.inr (.inr (.inr f24))))), (a3, .inr (2, [.ref a4, .int 1, v26])), (a4, .inl (cT 2, 4096, .inr (.inl f27))), (a1, .inr (2, [v21, .int 0, .int 0]))]) hP hD [1] [0, 2, 3, 4] 4 rfl rfl (by decide) (by decide) hk1 hFc hP1 hD1
  generalize H1 = H at hP hS ⊢
  refine lv_aload_n hx hb dB_one_38 rfl (lv_at hl 0 rfl) ?_
  refine lv_iload_n hx hb dB_one_39 rfl (lv_at hl 2 rfl) ?_
  refine lv_aload_n hx hb dB_one_40 rfl (lv_at hl 0 rfl) ?_
  refine va_get (D := D) (ci := 0) (v := .ref a2) (C := "ValueBench") (T := TB) (N := 8) hx hb htx inB hown hK hP 0 rfl rfl 3 (by decide) (htx _ kw_1_98) (fun _ h9 => h9) rfl dB_one_41 ?_
  refine lv_iload_n hx hb dB_one_44 rfl (lv_at hl 3 rfl) ?_
  refine va_aldq hx hb hK hP 1 3 rfl rfl h14 dB_one_45 ?_
  refine W.eq (g2 := F0 m 46 ls [va_rf (f24 x10.toNatClampNeg), .int 2, .ref a0]) rfl ?_
  rw [h25]
  refine W.eq (g2 := F0 m 46 ls [.ref a3, .int 2, .ref a0]) rfl ?_
  refine lv_aload_n hx hb dB_one_46 rfl (lv_at hl 0 rfl) ?_
  refine va_get (D := D) (ci := 0) (v := .ref b17) (C := "ValueBench") (T := TB) (N := 8) hx hb htx inB hown hK hP 0 rfl rfl 2 (by decide) (htx _ kw_1_97) (fun _ h9 => h9) rfl dB_one_47 ?_
  refine lv_aload_n hx hb dB_one_50 rfl (lv_at hl 0 rfl) ?_
  refine va_get (D := D) (ci := 0) (v := .ref b18) (C := "ValueBench") (T := TB) (N := 8) hx hb htx inB hown hK hP 0 rfl rfl 4 (by decide) (htx _ kw_1_99) (fun _ h9 => h9) rfl dB_one_51 ?_
  refine lv_aload_n hx hb dB_one_54 rfl (lv_at hl 0 rfl) ?_
  refine va_get (D := D) (ci := 0) (v := .ref a1) (C := "ValueBench") (T := TB) (N := 8) hx hb htx inB hown hK hP 0 rfl rfl 5 (by decide) (htx _ kw_1_100) (fun _ h9 => h9) rfl dB_one_55 ?_
  obtain ⟨hPc, hDc, hFc⟩ := xcut (wc := [(a3, .inr (2, [.ref a4, .int 1, v26])), (a4, .inl (cT 2, 4096, .inr (.inl f27)))]) hP hD hS hA [2, 3] rfl rfl (by decide)
  refine va_calli (va_runS (As := [.int 2, .ref a3, .ref b17, .ref b18, .ref a1]) (rest := [.ref a0]) ⟨hx, hb, hml, hown, htx⟩ (cG_apply_2 l hl9 D cT aK aV H.size a3 a4 b17 b18 a1 v26 f27 (by first | rfl | exact h25 | exact h28)) ⟨callB_of 5 htx (xw_goodC kw_4_28) rfl rfl rfl (htx _ kw_1_26) (htx _ kw_4_26) ⟨by decide, by decide, by decide +kernel⟩ ⟨Nat.le_of_ble_eq_true rfl, Nat.le_of_ble_eq_true rfl⟩, htx _ kw_4_27⟩ ⟨xPre_blind, (fun U hU hW => ⟨rfl, xPre_of hZ hS hFc hPc hDc hK U hU hW⟩)⟩ rfl rfl hl.1 rfl (lv_room (Nat.le_of_ble_eq_true rfl)) dB_one_58 ⟨Nat.le_of_ble_eq_true rfl, Nat.le_of_ble_eq_true rfl⟩) hS (fun q _ h => hFc q h) hFc (fun r4 u9 t H1 locs ht hvm hr9 hB hz1 hk1 hS => ?_)
  obtain ⟨hP1, hK1, hD1⟩ := hB
  rw [ht] at hP1
  obtain ⟨hP, hD⟩ := xjoin (W := [(a0, .inr (0, [v15, v16, .ref b17, .ref a2, .ref b18, .ref a1, v19, v20])), (a2, .inl (cT 3, 8, .inr (.inr (.inr (.inr f24))))), (a1, .inr (2, [v21, .int 0, .int 0])), (a3, .inr (2, [.ref a4, .int 1, v26])), (a4, .inl (cT 2, 4096, .inr (.inl f27)))]) hP hD [2, 3] [0, 1, 4] 3 rfl rfl (by decide) (by decide) hk1 hFc hP1 hD1
  generalize H1 = H at hP hS ⊢
  rw [hr9]
  refine W.eq (g2 := F0 m 61 ls [.int 1, .ref a0]) rfl ?_
  obtain ⟨hPc, hDc, hFc⟩ := xcut (wc := [(a0, .inr (0, [v15, v16, .ref b17, .ref a2, .ref b18, .ref a1, v19, v20]))]) hP hD hS hA [0] rfl rfl (by decide)
  refine xx_thr (vx_runV (C := "ValueBench") (As := [.int 1]) (rest := []) ⟨hx, hb, hml, hown, htx⟩ (cB_demandDone_1 l hl9 D cT aK aV H.size a0 v15 v16 (.ref b17) (.ref a2) (.ref b18) (.ref a1) v19 v20) ⟨callB_of 1 htx (xw_goodC kw_3_222) rfl rfl rfl (htx _ kw_1_1) (htx _ kw_3_219) ⟨by decide, by decide, by decide +kernel⟩ ⟨Nat.le_of_ble_eq_true rfl, Nat.le_of_ble_eq_true rfl⟩, (htx _ kw_3_221), (htx _ kp_B_demandDone)⟩ ⟨xPre_blind, va_recv hK hP (ci := 0) rfl (q0 := 0) rfl, (fun U hU hW => ⟨rfl, xPre_of hZ hS hFc hPc hDc hK U hU hW⟩)⟩ rfl rfl hl.1 rfl (lv_room (Nat.le_of_ble_eq_true rfl)) dB_one_61 ⟨Nat.le_of_ble_eq_true rfl, Nat.le_of_ble_eq_true rfl⟩) hS hFc (fun q _ h => hFc q h) (fun E ce q9 u9 t H1 locs ht hvm _ hB hz1 hk1 hS hce hcv hcl => ?_)
  obtain ⟨rfl, hP1, hK1, hD1⟩ := hB
  rw [ht] at hP1
  obtain ⟨hP, hD⟩ := xjoin (W := [(a2, .inl (cT 3, 8, .inr (.inr (.inr (.inr f24))))), (a1, .inr (2, [v21, .int 0, .int 0])), (a3, .inr (2, [.ref a4, .int 1, v26])), (a4, .inl (cT 2, 4096, .inr (.inl f27))), (a0, .inr (0, [v15, v16, .ref b17, .ref a2, .ref b18, .ref a1, v19, .int 1]))]) hP hD [0] [1, 2, 3, 4] 4 rfl rfl (by decide) (by decide) hk1 hFc hP1 hD1
  generalize H1 = H at hP hS hce ⊢
  obtain ⟨hP9, hD9⟩ := xsub (wc := [(a0, .inr (0, [v15, v16, .ref b17, .ref a2, .ref b18, .ref a1, v19, .int 1])), (a1, .inr (2, [v21, .int 0, .int 0])), (a2, .inl (cT 3, 8, .inr (.inr (.inr (.inr f24))))), (a3, .inr (2, [.ref a4, .int 1, v26])), (a4, .inl (cT 2, 4096, .inr (.inl f27)))]) hP hD [4, 1, 0, 2, 3] rfl rfl (by decide)
  exact vx_out (E := "java/lang/ArithmeticException") (fun x h => (hne x h).elim) hlocks hce hcv hcl (fun t ht ha => ⟨(), trivial, ⟨rfl, by rw [ht]; exact hP9, va_K.moved ha hK, hD9⟩, hS.F ht⟩) hS.2.2 (Nat.le_of_ble_eq_true rfl) (Nat.le_of_ble_eq_true rfl)
set_option maxHeartbeats 400000000 in
set_option maxRecDepth 100000 in
theorem cL_one_8 (l : Launch) (hl9 : l.stackTraces = false) (D : va_G) (cT : Nat → ClassId) (aK aV : Nat → Nat) (sz : Nat) (a0 : Nat) (a1 : Nat) (a2 : Nat) (a3 : Nat) (a4 : Nat) (x5 : Int32) (x10 : Int32) (v15 : Value) (v16 : Value) (b17 : Nat) (b18 : Nat) (v19 : Value) (v20 : Value) (v21 : Value) (v22 : Value) (v23 : Value) (f24 : Nat → Option Nat) (v26 : Value) (f27 : Nat → Int64) (h6 : ¬ x5 < 0) (h7 : ¬ 7 < x5) (h8 : x5 ≤ 7) (h9 : vp_in x5 8) (h11 : ¬ x10 < 0) (h12 : ¬ 7 < x10) (h13 : x10 ≤ 7) (h14 : vp_in x10 8) (h25 : f24 x10.toNatClampNeg = some a3) (h28 : f27 0 = 0) : xMet l yL_one wyL_one 8 1 6 144 D cT aK aV sz [.ref a0, .int x5, .int 2, .int x10] [(a0, .inr (0, [v15, v16, .ref b17, .ref a2, .ref b18, .ref a1, v19, v20])), (a1, .inr (2, [v21, v22, v23])), (a2, .inl (cT 3, 8, .inr (.inr (.inr (.inr f24))))), (a3, .inr (2, [.ref a4, .int 1, v26])), (a4, .inl (cT 2, 4096, .inr (.inl f27)))] (fun A => va_Qi (fun (r : Int32) (_ : Unit) => r = 2) (fun _ t => xB D xcl cT A [(a0, .inr (0, [v15, v16, .ref b17, .ref a2, .ref b18, .ref a1, v19, .int 1])), (a1, .inr (2, [v21, .int 0, .int 0])), (a2, .inl (cT 3, 8, .inr (.inr (.inr (.inr f24))))), (a3, .inr (2, [.ref a4, .int 1, v26])), (a4, .inl (cT 2, 4096, .inr (.inl f27)))] t) A) := by
  refine va_MetW (cc := method_10_code) (maxL := 5) (ret := (some .int)) (hh := [(0, 7, 10, 19), (0, 7, 14, 33), (0, 7, 18, 13)]) (by decide) rfl ?_
  intro p e s m args below meth c s₁ B hml hv
  obtain ⟨rfl, hsz, hZ, hP, hK, hD0⟩ := hv
  have hx := B.exec
  have hb := B.bytes
  have hr := B.returns
  have hts := atoms_spec (ws := wyL_one) B.pre
  have htx := fun w h => hts w (List.mem_cons_of_mem _ h)
  have hown : s.vm.findClass "ValueBenchLaw" = some m.cls := findClass_of_methodNamed B.named
  have hlocks := B.notSynchronized
  subst hsz
  have hD := hD0.self (sz := s.heap.size)
  generalize hAe : va_A [(a0, .inr (0, [v15, v16, .ref b17, .ref a2, .ref b18, .ref a1, v19, v20])), (a1, .inr (2, [v21, v22, v23])), (a2, .inl (cT 3, 8, .inr (.inr (.inr (.inr f24))))), (a3, .inr (2, [.ref a4, .int 1, v26])), (a4, .inl (cT 2, 4096, .inr (.inl f27)))] s.heap.size = A at hD hZ ⊢
  have hA : ∀ q : Nat, s.heap.size ≤ q → A q := fun q h => by rw [← hAe]; exact Or.inr h
  have hS : va_S A s.heap s.heap [] := va_S.rf
  have hP : va_P D xcl [(a0, .inr (0, [v15, v16, .ref b17, .ref a2, .ref b18, .ref a1, v19, v20])), (a1, .inr (2, [v21, v22, v23])), (a2, .inl (cT 3, 8, .inr (.inr (.inr (.inr f24))))), (a3, .inr (2, [.ref a4, .int 1, v26])), (a4, .inl (cT 2, 4096, .inr (.inl f27)))] s.heap := hP
  have hl := lv_entry ([.ref a0, .int x5, .int 2, .int x10]) (n := 5) (Nat.le_of_ble_eq_true rfl)
  rw [lg_entry_eq]
  generalize (lg_sl ([.ref a0, .int x5, .int 2, .int x10]) ++ List.replicate (5 - (lg_sl ([.ref a0, .int x5, .int 2, .int x10])).length) Slot.unset).toArray = ls at hl ⊢
  have hl : lv_has ls 5 [(0, .ref a0), (1, .int x5), (2, .int 2), (3, .int x10)] := hl
  have htab := vx_table (x := yL_one) B (hts _ List.mem_cons_self)
  refine lv_aload_n hx hb dL_one_0 rfl (lv_at hl 0 rfl) ?_
  refine lv_iload_n hx hb dL_one_1 rfl (lv_at hl 1 rfl) ?_
  refine lv_iload_n hx hb dL_one_2 rfl (lv_at hl 2 rfl) ?_
  refine lv_iload_n hx hb dL_one_3 rfl (lv_at hl 3 rfl) ?_
  obtain ⟨hPc, hDc, hFc⟩ := xcut (wc := [(a0, .inr (0, [v15, v16, .ref b17, .ref a2, .ref b18, .ref a1, v19, v20])), (a1, .inr (2, [v21, v22, v23])), (a2, .inl (cT 3, 8, .inr (.inr (.inr (.inr f24))))), (a3, .inr (2, [.ref a4, .int 1, v26])), (a4, .inl (cT 2, 4096, .inr (.inl f27)))]) hP hD hS hA [0, 1, 2, 3, 4] rfl rfl (by decide)
  refine xx_thr (vx_runV (C := "ValueBench") (As := [.int x5, .int 2, .int x10]) (rest := []) ⟨hx, hb, hml, hown, htx⟩ (cB_one_8 l hl9 D cT aK aV s.heap.size a0 a1 a2 a3 a4 x5 x10 v15 v16 b17 b18 v19 v20 v21 v22 v23 f24 v26 f27 h6 h7 h8 h9 h11 h12 h13 h14 (by first | rfl | exact h25 | exact h28) (by first | rfl | exact h25 | exact h28)) ⟨callB_of 3 htx (xw_goodC kw_4_25) rfl rfl rfl (htx _ kw_1_1) (htx _ kw_4_22) ⟨by decide, by decide, by decide +kernel⟩ ⟨Nat.le_of_ble_eq_true rfl, Nat.le_of_ble_eq_true rfl⟩, (htx _ kw_4_23), (htx _ kw_4_24)⟩ ⟨xPre_blind, va_recv hK hP (ci := 0) rfl (q0 := 0) rfl, (fun U hU hW => ⟨rfl, xPre_of hZ hS hFc hPc hDc hK U hU hW⟩)⟩ rfl rfl hl.1 rfl (lv_room (Nat.le_of_ble_eq_true rfl)) dL_one_4 ⟨Nat.le_of_ble_eq_true rfl, Nat.le_of_ble_eq_true rfl⟩) hS hFc (fun q _ h => hFc q h) (fun E ce q9 u9 t H1 locs ht hvm _ hB hz1 hk1 hS hce hcv hcl => ?_)
  obtain ⟨rfl, hP1, hK1, hD1⟩ := hB
  rw [ht] at hP1
  obtain ⟨hP, hD⟩ := xjoin (W := [(a0, .inr (0, [v15, v16, .ref b17, .ref a2, .ref b18, .ref a1, v19, .int 1])), (a1, .inr (2, [v21, .int 0, .int 0])), (a2, .inl (cT 3, 8, .inr (.inr (.inr (.inr f24))))), (a3, .inr (2, [.ref a4, .int 1, v26])), (a4, .inl (cT 2, 4096, .inr (.inl f27)))]) hP hD [0, 1, 2, 3, 4] [] 0 rfl rfl (by decide) (by decide) hk1 hFc hP1 hD1
  generalize H1 = H at hP hS hce ⊢
  refine vx_catch (own := "ValueBenchLaw") (name := "java/lang/ArithmeticException") (E := "java/lang/ArithmeticException") hown [⟨0, 7, 10, 19⟩] ⟨0, 7, 14, 33⟩ [⟨0, 7, 18, 13⟩] (by rw [htab]; rfl) (by intro z hz; rcases List.mem_cons.mp hz with rfl | hz; (exact Or.inr ⟨by decide, "java/lang/IllegalArgumentException", htx _ kw_1_211, hZ.2.2.2.2.2.2.2.1 ("java/lang/ArithmeticException", "java/lang/IllegalArgumentException") (List.mem_of_getElem? (i := 10) rfl)⟩); cases hz) (by decide) (by decide) (htx _ kw_3_98) ((hZ.2.2.2.2.2.1 "java/lang/ArithmeticException" (List.mem_of_getElem? (i := 3) rfl)).use rfl) hce hcv hcl ?_
  refine lv_astore (lv' := [(4, .ref q9), (0, .ref a0), (1, .int x5), (2, .int 2), (3, .int x10)]) hx hb dL_one_14 hl (by decide) rfl (fun ls hl => ?_)
  refine lv_iconst (v := 2) hx hb dL_one_16 (by decide) ?_
  obtain ⟨hP9, hD9⟩ := xsub (wc := [(a0, .inr (0, [v15, v16, .ref b17, .ref a2, .ref b18, .ref a1, v19, .int 1])), (a1, .inr (2, [v21, .int 0, .int 0])), (a2, .inl (cT 3, 8, .inr (.inr (.inr (.inr f24))))), (a3, .inr (2, [.ref a4, .int 1, v26])), (a4, .inl (cT 2, 4096, .inr (.inl f27)))]) hP hD [0, 1, 2, 3, 4] rfl rfl (by decide)
  refine W.widen (k := 1) (n := 6) (Nat.le_of_ble_eq_true rfl) (Nat.le_of_ble_eq_true rfl) ?_
  exact W.iret (v := 2) hx hb hr (fun t ht hW => ⟨⟨2, (), rfl, rfl, by rw [ht]; exact hP9, va_K.moved hW.alike hK, hD9⟩, hS.F ht⟩) hS.2.2 dL_one_17
set_option maxHeartbeats 400000000 in
set_option maxRecDepth 100000 in
theorem cM_fresh_5 (l : Launch) (hl9 : l.stackTraces = false) (D : va_G) (cT : Nat → ClassId) (aK aV : Nat → Nat) (sz : Nat) (a0 : Nat) (a1 : Nat) (v2 : Value) (v3 : Value) (v4 : Value) (v5 : Value) (v6 : Value) (v7 : Value) (v8 : Value) (v9 : Value) (v10 : Value) (v11 : Value) (v12 : Value) (v13 : Value) (v14 : Value) (v15 : Value) (v16 : Value) (v17 : Value) (v18 : Value) (v19 : Value) (v20 : Value) (v21 : Value) (v22 : Value) (v23 : Value) (v24 : Value) (v25 : Value) (v26 : Value) (v27 : Value) (v28 : Value) (v29 : Value) (v30 : Value) (v31 : Value) (f32 : Nat → Option Nat) (h33 : f32 0 = none) : xMet l yM_fresh wyM_fresh 2 1 6 32 D cT aK aV sz [.ref a0, .int 0] [(a0, .inr (5, [v2, .ref a1, .int 0, v3, v4, v5, v6, v7, v8, v9, v10, v11, v12, v13, v14, v15, v16, v17, v18, v19, v20, v21, v22, v23, v24, v25, v26, v27, v28, v29, v30, v31])), (a1, .inl (cT 4, 1024, .inr (.inr (.inr (.inr f32)))))] (fun A => va_Qr (fun _ : Unit => True) (fun _ q1 t => xB D xcl cT A [(a0, .inr (5, [v2, .ref a1, .int 1, v3, v4, v5, v6, v7, v8, v9, v10, v11, v12, v13, v14, v15, v16, v17, v18, v19, v20, v21, v22, v23, v24, v25, v26, v27, v28, v29, v30, v31])), (a1, .inl (cT 4, 1024, .inr (.inr (.inr (.inr (va_up f32 0 (some q1))))))), (q1, .inr (6, [.int 0, .long 0, .int 0, .int 0, .int 0, .int 1]))] t) A) := by
  refine Met.ofW (cc := prog_13_method_6_code) (maxL := 4) (ret := (some (.object "ValueBenchModel$V"))) (by decide) rfl ?_
  intro p e s m args below meth c s₁ B hml hv
  obtain ⟨rfl, hsz, hZ, hP, hK, hD0⟩ := hv
  have hx := B.exec
  have hb := B.bytes
  have hr := B.returns
  have hts := atoms_spec (ws := wyM_fresh) B.pre
  have htx := fun w h => hts w (List.mem_cons_of_mem _ h)
  have hown : s.vm.findClass "ValueBenchModel" = some m.cls := findClass_of_methodNamed B.named
  have hlocks := B.notSynchronized
  subst hsz
  have hD := hD0.self (sz := s.heap.size)
  generalize hAe : va_A [(a0, .inr (5, [v2, .ref a1, .int 0, v3, v4, v5, v6, v7, v8, v9, v10, v11, v12, v13, v14, v15, v16, v17, v18, v19, v20, v21, v22, v23, v24, v25, v26, v27, v28, v29, v30, v31])), (a1, .inl (cT 4, 1024, .inr (.inr (.inr (.inr f32)))))] s.heap.size = A at hD hZ ⊢
  have hA : ∀ q : Nat, s.heap.size ≤ q → A q := fun q h => by rw [← hAe]; exact Or.inr h
  have hS : va_S A s.heap s.heap [] := va_S.rf
  have hP : va_P D xcl [(a0, .inr (5, [v2, .ref a1, .int 0, v3, v4, v5, v6, v7, v8, v9, v10, v11, v12, v13, v14, v15, v16, v17, v18, v19, v20, v21, v22, v23, v24, v25, v26, v27, v28, v29, v30, v31])), (a1, .inl (cT 4, 1024, .inr (.inr (.inr (.inr f32)))))] s.heap := hP
  have hl := lv_entry ([.ref a0, .int 0]) (n := 4) (Nat.le_of_ble_eq_true rfl)
  rw [lg_entry_eq]
  generalize (lg_sl ([.ref a0, .int 0]) ++ List.replicate (4 - (lg_sl ([.ref a0, .int 0])).length) Slot.unset).toArray = ls at hl ⊢
  have hl : lv_has ls 4 [(0, .ref a0), (1, .int 0)] := hl
  refine lv_aload_n hx hb dM_fresh_0 rfl (lv_at hl 0 rfl) ?_
  refine va_get (D := D) (ci := 5) (v := .int 0) (C := "ValueBenchModel") (T := TM) (N := 32) hx hb htx inM hown hK hP 0 rfl rfl 2 (by decide) (htx _ kw_5_89) (fun _ h9 => h9) rfl dM_fresh_1 ?_
  refine lv_aload_n hx hb dM_fresh_4 rfl (lv_at hl 0 rfl) ?_
  refine va_get (D := D) (ci := 5) (v := .ref a1) (C := "ValueBenchModel") (T := TM) (N := 32) hx hb htx inM hown hK hP 0 rfl rfl 1 (by decide) (htx _ kw_5_88) (fun _ h9 => h9) rfl dM_fresh_5 ?_
  refine va_alen (v := 1024) hx hb hK hP 1 4 rfl rfl rfl dM_fresh_8 ?_
  refine lv_icmp_ne (tgt := 52) hx hb dM_fresh_9 (by decide) (fun _ => ?_) (fun h => ((by revert h; decide : False)).elim)
  refine lv_aload_n hx hb dM_fresh_52 rfl (lv_at hl 0 rfl) ?_
  refine va_get (D := D) (ci := 5) (v := .ref a1) (C := "ValueBenchModel") (T := TM) (N := 32) hx hb htx inM hown hK hP 0 rfl rfl 1 (by decide) (htx _ kw_5_88) (fun _ h9 => h9) rfl dM_fresh_53 ?_
  refine lv_aload_n hx hb dM_fresh_56 rfl (lv_at hl 0 rfl) ?_
  refine va_get (D := D) (ci := 5) (v := .int 0) (C := "ValueBenchModel") (T := TM) (N := 32) hx hb htx inM hown hK hP 0 rfl rfl 2 (by decide) (htx _ kw_5_89) (fun _ h9 => h9) rfl dM_fresh_57 ?_
  refine va_aldq hx hb hK hP 1 4 rfl rfl (show ¬ ((0 : Int32) < 0 ∨ 1024 ≤ (0 : Int32).toNatClampNeg) by decide) dM_fresh_60 ?_
  refine W.eq (g2 := F0 m 61 ls [va_rf (f32 0)]) rfl ?_
  rw [h33]
  refine W.eq (g2 := F0 m 61 ls [.null]) rfl ?_
  refine lv_ifnonnullN hx hb dM_fresh_61 ?_
  refine lv_aload_n hx hb dM_fresh_64 rfl (lv_at hl 0 rfl) ?_
  refine va_get (D := D) (ci := 5) (v := .ref a1) (C := "ValueBenchModel") (T := TM) (N := 32) hx hb htx inM hown hK hP 0 rfl rfl 1 (by decide) (htx _ kw_5_88) (fun _ h9 => h9) rfl dM_fresh_65 ?_
  refine lv_aload_n hx hb dM_fresh_68 rfl (lv_at hl 0 rfl) ?_
  refine va_get (D := D) (ci := 5) (v := .int 0) (C := "ValueBenchModel") (T := TM) (N := 32) hx hb htx inM hown hK hP 0 rfl rfl 2 (by decide) (htx _ kw_5_89) (fun _ h9 => h9) rfl dM_fresh_69 ?_
  refine va_new (ci := 6) (fs := [.int 0, .long 0, .int 0, .int 0, .int 0, .int 0]) (C := "ValueBenchModel$V") (T := TV) (N := 6) hx hb htx inV tyV tyV_ok hown (htx _ kw_5_80) (htx _ kw_6_17) (htx _ kw_1_19) hK hP hD hS hA rfl (by decide +kernel) (Nat.le_of_ble_eq_true rfl) (Nat.le_of_ble_eq_true rfl) dM_fresh_72 (fun q1 H hP hD hS => ?_)
  obtain ⟨hP, hD⟩ : xPD D xcl A [(a0, .inr (5, [v2, .ref a1, .int 0, v3, v4, v5, v6, v7, v8, v9, v10, v11, v12, v13, v14, v15, v16, v17, v18, v19, v20, v21, v22, v23, v24, v25, v26, v27, v28, v29, v30, v31])), (a1, .inl (cT 4, 1024, .inr (.inr (.inr (.inr f32))))), (q1, .inr (6, [.int 0, .long 0, .int 0, .int 0, .int 0, .int 0]))] H := ⟨hP, hD⟩
  refine lv_dup hx hb dM_fresh_75 rfl ?_
  obtain ⟨hPc, hDc, hFc⟩ := xcut (wc := []) hP hD hS hA [] rfl rfl (by decide)
  refine va_callv (va_runIN (As := []) (rest := [.ref q1, .int 0, .ref a1]) ⟨hx, hb, hml, hown, htx⟩ (cV_init_0 l hl9 D cT aK aV H.size q1) ⟨va_cnB (host := "ValueBenchModel") 0 htx (xw_goodC kw_6_20) rfl rfl rfl (hZ.2.1 ("ValueBenchModel", 92, yV_init) (List.mem_of_getElem? (i := 3) rfl)) (htx _ kw_1_19) ⟨by decide, by decide, by decide +kernel⟩ ⟨Nat.le_of_ble_eq_true rfl, Nat.le_of_ble_eq_true rfl⟩, rfl, (htx _ kw_6_19)⟩ ⟨xPre_blind, (fun U hU hW => ⟨rfl, xPre_of hZ hS hFc hPc hDc hK U hU hW⟩)⟩ rfl rfl hl.1 rfl (lv_room (Nat.le_of_ble_eq_true rfl)) dM_fresh_76 ⟨Nat.le_of_ble_eq_true rfl, Nat.le_of_ble_eq_true rfl⟩) hS (fun q _ h => hFc q h) hFc (fun u9 t H1 locs ht hvm hr9 hB hz1 hk1 hS => ?_)
  obtain ⟨hP1, hK1, hD1⟩ := hB
  rw [ht] at hP1
  obtain ⟨hP, hD⟩ := xjoin (W := [(a0, .inr (5, [v2, .ref a1, .int 0, v3, v4, v5, v6, v7, v8, v9, v10, v11, v12, v13, v14, v15, v16, v17, v18, v19, v20, v21, v22, v23, v24, v25, v26, v27, v28, v29, v30, v31])), (a1, .inl (cT 4, 1024, .inr (.inr (.inr (.inr f32))))), (q1, .inr (6, [.int 0, .long 0, .int 0, .int 0, .int 0, .int 0]))]) hP hD [] [0, 1, 2] 3 rfl rfl (by decide) (by decide) hk1 hFc hP1 hD1
  generalize H1 = H at hP hS ⊢
  refine va_astq (r := ("ValueBenchModel$V", TV, 6)) hx hb hK hP hD hS 1 4 2 6 rfl rfl rfl rfl (show ¬ ((0 : Int32) < 0 ∨ 1024 ≤ (0 : Int32).toNatClampNeg) by decide) dM_fresh_79 (fun H locs hP hD hS => ?_)
  obtain ⟨hP, hD⟩ : xPD D xcl A [(a0, .inr (5, [v2, .ref a1, .int 0, v3, v4, v5, v6, v7, v8, v9, v10, v11, v12, v13, v14, v15, v16, v17, v18, v19, v20, v21, v22, v23, v24, v25, v26, v27, v28, v29, v30, v31])), (a1, .inl (cT 4, 1024, .inr (.inr (.inr (.inr (va_up f32 0 (some q1))))))), (q1, .inr (6, [.int 0, .long 0, .int 0, .int 0, .int 0, .int 0]))] H := ⟨hP, hD⟩
  refine lv_aload_n hx hb dM_fresh_80 rfl (lv_at hl 0 rfl) ?_
  refine va_get (D := D) (ci := 5) (v := .ref a1) (C := "ValueBenchModel") (T := TM) (N := 32) hx hb htx inM hown hK hP 0 rfl rfl 1 (by decide) (htx _ kw_5_88) (fun _ h9 => h9) rfl dM_fresh_81 ?_
  refine lv_aload_n hx hb dM_fresh_84 rfl (lv_at hl 0 rfl) ?_
  refine va_get (D := D) (ci := 5) (v := .int 0) (C := "ValueBenchModel") (T := TM) (N := 32) hx hb htx inM hown hK hP 0 rfl rfl 2 (by decide) (htx _ kw_5_89) (fun _ h9 => h9) rfl dM_fresh_85 ?_
  refine va_aldq hx hb hK hP 1 4 rfl rfl (show ¬ ((0 : Int32) < 0 ∨ 1024 ≤ (0 : Int32).toNatClampNeg) by decide) dM_fresh_88 ?_
  refine W.eq (g2 := F0 m 89 ls [.ref q1]) rfl ?_
  refine lv_astore_n (lv' := [(2, .ref q1), (0, .ref a0), (1, .int 0)]) hx hb dM_fresh_89 rfl hl (by decide) rfl (fun ls hl => ?_)
  refine lv_aload_n hx hb dM_fresh_90 rfl (lv_at hl 1 rfl) ?_
  refine lv_dup hx hb dM_fresh_91 rfl ?_
  refine va_get (D := D) (ci := 5) (v := .int 0) (C := "ValueBenchModel") (T := TM) (N := 32) hx hb htx inM hown hK hP 0 rfl rfl 2 (by decide) (htx _ kw_5_89) (fun _ h9 => h9) rfl dM_fresh_92 ?_
  refine lv_iconst (v := 1) hx hb dM_fresh_95 (by decide) ?_
  refine lv_iadd hx hb dM_fresh_96 ?_
  refine W.eq (g2 := F0 m 97 ls [.int 1, .ref a0]) rfl ?_
  refine va_put (D := D) (ci := 5) (v := .int 1) (ty := .int) (C := "ValueBenchModel") (T := TM) (N := 32) hx hb htx inM tyM tyM_ok nmM hown hK hP hD hS 0 rfl rfl 2 (by decide) (htx _ kw_5_89) (fun _ h9 => h9) rfl (by decide +kernel) rfl rfl (Nat.le_of_ble_eq_true rfl) dM_fresh_97 (fun H locs hP hD hS => ?_)
  obtain ⟨hP, hD⟩ : xPD D xcl A [(a0, .inr (5, [v2, .ref a1, .int 1, v3, v4, v5, v6, v7, v8, v9, v10, v11, v12, v13, v14, v15, v16, v17, v18, v19, v20, v21, v22, v23, v24, v25, v26, v27, v28, v29, v30, v31])), (a1, .inl (cT 4, 1024, .inr (.inr (.inr (.inr (va_up f32 0 (some q1))))))), (q1, .inr (6, [.int 0, .long 0, .int 0, .int 0, .int 0, .int 0]))] H := ⟨hP, hD⟩
  refine lv_aload_n hx hb dM_fresh_100 rfl (lv_at hl 0 rfl) ?_
  refine lv_iload_n hx hb dM_fresh_101 rfl (lv_at hl 2 rfl) ?_
  refine va_putN (D := D) (ci := 6) (v := .int 0) (ty := .int) (C := "ValueBenchModel$V") (T := TV) (N := 6) hx hb htx inV tyV tyV_ok nmV hown hK hP hD hS 2 rfl rfl 0 (by decide) ((hZ.1 (93, "kind", "I") (List.mem_of_getElem? (i := 0) rfl)).use rfl) (fun _ h9 => h9) rfl (by decide +kernel) rfl rfl (Nat.le_of_ble_eq_true rfl) dM_fresh_102 (fun H locs hP hD hS => ?_)
  obtain ⟨hP, hD⟩ : xPD D xcl A [(a0, .inr (5, [v2, .ref a1, .int 1, v3, v4, v5, v6, v7, v8, v9, v10, v11, v12, v13, v14, v15, v16, v17, v18, v19, v20, v21, v22, v23, v24, v25, v26, v27, v28, v29, v30, v31])), (a1, .inl (cT 4, 1024, .inr (.inr (.inr (.inr (va_up f32 0 (some q1))))))), (q1, .inr (6, [.int 0, .long 0, .int 0, .int 0, .int 0, .int 0]))] H := ⟨hP, hD⟩
  refine lv_aload_n hx hb dM_fresh_105 rfl (lv_at hl 0 rfl) ?_
  refine lv_lconst (v := 0) hx hb dM_fresh_106 (by decide) ?_
  refine va_putN (D := D) (ci := 6) (v := .long 0) (ty := .long) (C := "ValueBenchModel$V") (T := TV) (N := 6) hx hb htx inV tyV tyV_ok nmV hown hK hP hD hS 2 rfl rfl 1 (by decide) ((hZ.1 (96, "n", "J") (List.mem_of_getElem? (i := 1) rfl)).use rfl) (fun _ h9 => h9) rfl (by decide +kernel) rfl rfl (Nat.le_of_ble_eq_true rfl) dM_fresh_107 (fun H locs hP hD hS => ?_)
  obtain ⟨hP, hD⟩ : xPD D xcl A [(a0, .inr (5, [v2, .ref a1, .int 1, v3, v4, v5, v6, v7, v8, v9, v10, v11, v12, v13, v14, v15, v16, v17, v18, v19, v20, v21, v22, v23, v24, v25, v26, v27, v28, v29, v30, v31])), (a1, .inl (cT 4, 1024, .inr (.inr (.inr (.inr (va_up f32 0 (some q1))))))), (q1, .inr (6, [.int 0, .long 0, .int 0, .int 0, .int 0, .int 0]))] H := ⟨hP, hD⟩
  refine lv_aload_n hx hb dM_fresh_110 rfl (lv_at hl 0 rfl) ?_
  refine lv_iconst (v := 0) hx hb dM_fresh_111 (by decide) ?_
  refine va_putN (D := D) (ci := 6) (v := .int 0) (ty := .int) (C := "ValueBenchModel$V") (T := TV) (N := 6) hx hb htx inV tyV tyV_ok nmV hown hK hP hD hS 2 rfl rfl 2 (by decide) ((hZ.1 (100, "off", "I") (List.mem_of_getElem? (i := 2) rfl)).use rfl) (fun _ h9 => h9) rfl (by decide +kernel) rfl rfl (Nat.le_of_ble_eq_true rfl) dM_fresh_112 (fun H locs hP hD hS => ?_)
  obtain ⟨hP, hD⟩ : xPD D xcl A [(a0, .inr (5, [v2, .ref a1, .int 1, v3, v4, v5, v6, v7, v8, v9, v10, v11, v12, v13, v14, v15, v16, v17, v18, v19, v20, v21, v22, v23, v24, v25, v26, v27, v28, v29, v30, v31])), (a1, .inl (cT 4, 1024, .inr (.inr (.inr (.inr (va_up f32 0 (some q1))))))), (q1, .inr (6, [.int 0, .long 0, .int 0, .int 0, .int 0, .int 0]))] H := ⟨hP, hD⟩
  refine lv_aload_n hx hb dM_fresh_115 rfl (lv_at hl 0 rfl) ?_
  refine lv_iconst (v := 0) hx hb dM_fresh_116 (by decide) ?_
  refine va_putN (D := D) (ci := 6) (v := .int 0) (ty := .int) (C := "ValueBenchModel$V") (T := TV) (N := 6) hx hb htx inV tyV tyV_ok nmV hown hK hP hD hS 2 rfl rfl 3 (by decide) ((hZ.1 (103, "count", "I") (List.mem_of_getElem? (i := 3) rfl)).use rfl) (fun _ h9 => h9) rfl (by decide +kernel) rfl rfl (Nat.le_of_ble_eq_true rfl) dM_fresh_117 (fun H locs hP hD hS => ?_)
  obtain ⟨hP, hD⟩ : xPD D xcl A [(a0, .inr (5, [v2, .ref a1, .int 1, v3, v4, v5, v6, v7, v8, v9, v10, v11, v12, v13, v14, v15, v16, v17, v18, v19, v20, v21, v22, v23, v24, v25, v26, v27, v28, v29, v30, v31])), (a1, .inl (cT 4, 1024, .inr (.inr (.inr (.inr (va_up f32 0 (some q1))))))), (q1, .inr (6, [.int 0, .long 0, .int 0, .int 0, .int 0, .int 0]))] H := ⟨hP, hD⟩
  refine lv_aload_n hx hb dM_fresh_120 rfl (lv_at hl 0 rfl) ?_
  refine lv_iconst (v := 0) hx hb dM_fresh_121 (by decide) ?_
  refine va_putN (D := D) (ci := 6) (v := .int 0) (ty := .int) (C := "ValueBenchModel$V") (T := TV) (N := 6) hx hb htx inV tyV tyV_ok nmV hown hK hP hD hS 2 rfl rfl 4 (by decide) ((hZ.1 (106, "depth", "I") (List.mem_of_getElem? (i := 4) rfl)).use rfl) (fun _ h9 => h9) rfl (by decide +kernel) rfl rfl (Nat.le_of_ble_eq_true rfl) dM_fresh_122 (fun H locs hP hD hS => ?_)
  obtain ⟨hP, hD⟩ : xPD D xcl A [(a0, .inr (5, [v2, .ref a1, .int 1, v3, v4, v5, v6, v7, v8, v9, v10, v11, v12, v13, v14, v15, v16, v17, v18, v19, v20, v21, v22, v23, v24, v25, v26, v27, v28, v29, v30, v31])), (a1, .inl (cT 4, 1024, .inr (.inr (.inr (.inr (va_up f32 0 (some q1))))))), (q1, .inr (6, [.int 0, .long 0, .int 0, .int 0, .int 0, .int 0]))] H := ⟨hP, hD⟩
  refine lv_aload_n hx hb dM_fresh_125 rfl (lv_at hl 0 rfl) ?_
  refine lv_iconst (v := 1) hx hb dM_fresh_126 (by decide) ?_
  refine va_putN (D := D) (ci := 6) (v := .int 1) (ty := .int) (C := "ValueBenchModel$V") (T := TV) (N := 6) hx hb htx inV tyV tyV_ok nmV hown hK hP hD hS 2 rfl rfl 5 (by decide) ((hZ.1 (109, "weight", "I") (List.mem_of_getElem? (i := 5) rfl)).use rfl) (fun _ h9 => h9) rfl (by decide +kernel) rfl rfl (Nat.le_of_ble_eq_true rfl) dM_fresh_127 (fun H locs hP hD hS => ?_)
  obtain ⟨hP, hD⟩ : xPD D xcl A [(a0, .inr (5, [v2, .ref a1, .int 1, v3, v4, v5, v6, v7, v8, v9, v10, v11, v12, v13, v14, v15, v16, v17, v18, v19, v20, v21, v22, v23, v24, v25, v26, v27, v28, v29, v30, v31])), (a1, .inl (cT 4, 1024, .inr (.inr (.inr (.inr (va_up f32 0 (some q1))))))), (q1, .inr (6, [.int 0, .long 0, .int 0, .int 0, .int 0, .int 1]))] H := ⟨hP, hD⟩
  refine lv_aload_n hx hb dM_fresh_130 rfl (lv_at hl 0 rfl) ?_
  obtain ⟨hP9, hD9⟩ := xsub (wc := [(a0, .inr (5, [v2, .ref a1, .int 1, v3, v4, v5, v6, v7, v8, v9, v10, v11, v12, v13, v14, v15, v16, v17, v18, v19, v20, v21, v22, v23, v24, v25, v26, v27, v28, v29, v30, v31])), (a1, .inl (cT 4, 1024, .inr (.inr (.inr (.inr (va_up f32 0 (some q1))))))), (q1, .inr (6, [.int 0, .long 0, .int 0, .int 0, .int 0, .int 1]))]) hP hD [0, 1, 2] rfl rfl (by decide)
  refine W.widen (k := 1) (n := 6) (Nat.le_of_ble_eq_true rfl) (Nat.le_of_ble_eq_true rfl) ?_
  exact W.aret hx hb hr (Or.inl ⟨_, rfl⟩) (Or.inr ⟨_, rfl⟩) (fun t ht hW => ⟨⟨(), q1, rfl, trivial, by rw [ht]; exact hP9, va_K.moved hW.alike hK, hD9⟩, hS.F ht⟩) hS.2.2 dM_fresh_131
set_option maxHeartbeats 400000000 in
set_option maxRecDepth 100000 in
theorem cM_says_3 (l : Launch) (hl9 : l.stackTraces = false) (D : va_G) (cT : Nat → ClassId) (aK aV : Nat → Nat) (sz : Nat) (a0 : Nat) (a1 : Nat) (a2 : Nat) (v3 : Value) (v4 : Value) (v5 : Value) (v6 : Value) (v7 : Value) (v8 : Value) (v9 : Value) (v10 : Value) (v11 : Value) (v12 : Value) (v13 : Value) (v14 : Value) (v15 : Value) (v16 : Value) (v17 : Value) (v18 : Value) (v19 : Value) (v20 : Value) (v21 : Value) (v22 : Value) (v23 : Value) (v24 : Value) (v25 : Value) (v26 : Value) (v27 : Value) (v28 : Value) (v29 : Value) (f30 : Nat → Int32) (f35 : Nat → Option Nat) (h31 : f30 0 = 110) (h32 : f30 1 = 117) (h33 : f30 2 = 108) (h34 : f30 3 = 108) (h36 : f35 0 = none) : xMet l yM_says wyM_says 4 1 6 85 D cT aK aV sz [.ref a0, .ref (aK 10), .int 0] [(a0, .inr (5, [v3, .ref a2, .int 0, v4, v5, v6, v7, v8, v9, v10, v11, v12, v13, v14, v15, .ref a1, .int 0, .int 4, v16, v17, v18, v19, v20, v21, v22, v23, v24, v25, v26, v27, v28, v29])), (a1, .inl (cT 0, 4096, .inl f30)), (a2, .inl (cT 4, 1024, .inr (.inr (.inr (.inr f35)))))] (fun A => va_Qr (fun _ : Unit => True) (fun _ r14 t => xB D xcl cT A [(a0, .inr (5, [v3, .ref a2, .int 1, v4, v5, v6, v7, v8, v9, v10, v11, v12, v13, v14, v15, .ref a1, .int 4, .int 4, v16, v17, v18, v19, v20, v21, v22, v23, v24, v25, v26, v27, v28, v29])), (a1, .inl (cT 0, 4096, .inl f30)), (a2, .inl (cT 4, 1024, .inr (.inr (.inr (.inr (va_up f35 0 (some r14))))))), (r14, .inr (6, [.int 0, .long 0, .int 0, .int 0, .int 0, .int 1]))] t) A) := by
  refine Met.ofW (cc := prog_13_method_33_code) (maxL := 4) (ret := (some (.object "ValueBenchModel$V"))) (by decide) rfl ?_
  intro p e s m args below meth c s₁ B hml hv
  obtain ⟨rfl, hsz, hZ, hP, hK, hD0⟩ := hv
  have hx := B.exec
  have hb := B.bytes
  have hr := B.returns
  have hts := atoms_spec (ws := wyM_says) B.pre
  have htx := fun w h => hts w (List.mem_cons_of_mem _ h)
  have hown : s.vm.findClass "ValueBenchModel" = some m.cls := findClass_of_methodNamed B.named
  have hlocks := B.notSynchronized
  subst hsz
  have hD := hD0.self (sz := s.heap.size)
  generalize hAe : va_A [(a0, .inr (5, [v3, .ref a2, .int 0, v4, v5, v6, v7, v8, v9, v10, v11, v12, v13, v14, v15, .ref a1, .int 0, .int 4, v16, v17, v18, v19, v20, v21, v22, v23, v24, v25, v26, v27, v28, v29])), (a1, .inl (cT 0, 4096, .inl f30)), (a2, .inl (cT 4, 1024, .inr (.inr (.inr (.inr f35)))))] s.heap.size = A at hD hZ ⊢
  have hA : ∀ q : Nat, s.heap.size ≤ q → A q := fun q h => by rw [← hAe]; exact Or.inr h
  have hS : va_S A s.heap s.heap [] := va_S.rf
  have hP : va_P D xcl [(a0, .inr (5, [v3, .ref a2, .int 0, v4, v5, v6, v7, v8, v9, v10, v11, v12, v13, v14, v15, .ref a1, .int 0, .int 4, v16, v17, v18, v19, v20, v21, v22, v23, v24, v25, v26, v27, v28, v29])), (a1, .inl (cT 0, 4096, .inl f30)), (a2, .inl (cT 4, 1024, .inr (.inr (.inr (.inr f35)))))] s.heap := hP
  have hl := lv_entry ([.ref a0, .ref (aK 10), .int 0]) (n := 4) (Nat.le_of_ble_eq_true rfl)
  rw [lg_entry_eq]
  generalize (lg_sl ([.ref a0, .ref (aK 10), .int 0]) ++ List.replicate (4 - (lg_sl ([.ref a0, .ref (aK 10), .int 0])).length) Slot.unset).toArray = ls at hl ⊢
  have hl : lv_has ls 4 [(0, .ref a0), (1, .ref (aK 10)), (2, .int 0)] := hl
  refine lv_iconst (v := 0) hx hb dM_says_0 (by decide) ?_
  refine lv_istore_n (lv' := [(3, .int 0), (0, .ref a0), (1, .ref (aK 10)), (2, .int 0)]) hx hb dM_says_1 rfl hl (by decide) rfl (fun ls hl => ?_)
  refine lv_iload_n hx hb dM_says_2 rfl (lv_at hl 0 rfl) ?_
  refine lv_aload_n hx hb dM_says_3 rfl (lv_at hl 2 rfl) ?_
  obtain ⟨hPc, hDc, hFc⟩ := xcut (wc := []) hP hD hS hA [] rfl rfl (by decide)
  refine va_calli (va_runV (C := "java/lang/String") (As := []) (rest := [.int 0]) ⟨hx, hb, hml, hown, htx⟩ (cJS_length_0 l hl9 D cT aK aV s.heap.size) ⟨callB_of 0 htx (xw_goodC kw_2_70) rfl rfl rfl (htx _ kw_1_6) (htx _ kw_5_238) ⟨by decide, by decide, by decide +kernel⟩ ⟨Nat.le_of_ble_eq_true rfl, Nat.le_of_ble_eq_true rfl⟩, (htx _ kw_2_68), (htx _ kw_2_69)⟩ ⟨xPre_blind, vk_recv hZ.2.2.2.2.2.2.2.2.2.1 (i := 10) (by decide) hS, (fun U hU hW => ⟨rfl, xPre_of hZ hS hFc hPc hDc hK U hU hW⟩)⟩ rfl rfl hl.1 rfl (lv_room (Nat.le_of_ble_eq_true rfl)) dM_says_4 ⟨Nat.le_of_ble_eq_true rfl, Nat.le_of_ble_eq_true rfl⟩) hS (fun q _ h => hFc q h) hFc (fun r1 u9 t H1 locs ht hvm hr9 hB hz1 hk1 hS => ?_)
  obtain ⟨hP1, hK1, hD1⟩ := hB
  rw [ht] at hP1
  obtain ⟨hP, hD⟩ := xjoin (W := [(a0, .inr (5, [v3, .ref a2, .int 0, v4, v5, v6, v7, v8, v9, v10, v11, v12, v13, v14, v15, .ref a1, .int 0, .int 4, v16, v17, v18, v19, v20, v21, v22, v23, v24, v25, v26, v27, v28, v29])), (a1, .inl (cT 0, 4096, .inl f30)), (a2, .inl (cT 4, 1024, .inr (.inr (.inr (.inr f35)))))]) hP hD [] [0, 1, 2] 3 rfl rfl (by decide) (by decide) hk1 hFc hP1 hD1
  generalize H1 = H at hP hS ⊢
  rw [hr9]
  refine W.eq (g2 := F0 m 7 ls [.int 4, .int 0]) rfl ?_
  refine lv_icmp_ge (tgt := 46) hx hb dM_says_7 (by decide) (fun h => ((by revert h; decide : False)).elim) (fun _ => ?_)
  refine lv_aload_n hx hb dM_says_10 rfl (lv_at hl 1 rfl) ?_
  obtain ⟨hPc, hDc, hFc⟩ := xcut (wc := [(a0, .inr (5, [v3, .ref a2, .int 0, v4, v5, v6, v7, v8, v9, v10, v11, v12, v13, v14, v15, .ref a1, .int 0, .int 4, v16, v17, v18, v19, v20, v21, v22, v23, v24, v25, v26, v27, v28, v29])), (a1, .inl (cT 0, 4096, .inl f30))]) hP hD hS hA [0, 1] rfl rfl (by decide)
  refine va_calli (va_runV (C := "ValueBenchModel") (As := []) (rest := []) ⟨hx, hb, hml, hown, htx⟩ (cM_peek_1 l hl9 D cT aK aV H.size a0 a1 v3 (.ref a2) (.int 0) v4 v5 v6 v7 v8 v9 v10 v11 v12 v13 v14 v15 v16 v17 v18 v19 v20 v21 v22 v23 v24 v25 v26 v27 v28 v29 f30 (by first | rfl | exact h31 | exact h32 | exact h33 | exact h34 | exact h36)) ⟨callB_of 0 htx (xw_goodC kw_5_233) rfl rfl rfl (htx _ kw_1_5) (htx _ kw_5_230) ⟨by decide, by decide, by decide +kernel⟩ ⟨Nat.le_of_ble_eq_true rfl, Nat.le_of_ble_eq_true rfl⟩, (htx _ kw_5_232), (htx _ kp_M_peek)⟩ ⟨xPre_blind, va_recv hK hP (ci := 5) rfl (q0 := 0) rfl, (fun U hU hW => ⟨rfl, xPre_of hZ hS hFc hPc hDc hK U hU hW⟩)⟩ rfl rfl hl.1 rfl (lv_room (Nat.le_of_ble_eq_true rfl)) dM_says_11 ⟨Nat.le_of_ble_eq_true rfl, Nat.le_of_ble_eq_true rfl⟩) hS (fun q _ h => hFc q h) hFc (fun r2 u9 t H1 locs ht hvm hr9 hB hz1 hk1 hS => ?_)
  obtain ⟨hP1, hK1, hD1⟩ := hB
  rw [ht] at hP1
  obtain ⟨hP, hD⟩ := xjoin (W := [(a2, .inl (cT 4, 1024, .inr (.inr (.inr (.inr f35))))), (a0, .inr (5, [v3, .ref a2, .int 0, v4, v5, v6, v7, v8, v9, v10, v11, v12, v13, v14, v15, .ref a1, .int 0, .int 4, v16, v17, v18, v19, v20, v21, v22, v23, v24, v25, v26, v27, v28, v29])), (a1, .inl (cT 0, 4096, .inl f30))]) hP hD [0, 1] [2] 1 rfl rfl (by decide) (by decide) hk1 hFc hP1 hD1
  generalize H1 = H at hP hS ⊢
  rw [hr9]
  refine W.eq (g2 := F0 m 14 ls [.int 110]) rfl ?_
  refine lv_aload_n hx hb dM_says_14 rfl (lv_at hl 2 rfl) ?_
  refine lv_iload_n hx hb dM_says_15 rfl (lv_at hl 0 rfl) ?_
  obtain ⟨hPc, hDc, hFc⟩ := xcut (wc := []) hP hD hS hA [] rfl rfl (by decide)
  refine va_calli (va_runV (C := "java/lang/String") (As := [.int 0]) (rest := [.int 110]) ⟨hx, hb, hml, hown, htx⟩ (cJS_charAt_0 l hl9 D cT aK aV H.size) ⟨callB_of 1 htx (xw_goodC kw_2_80) rfl rfl rfl (htx _ kw_1_6) (htx _ kw_5_86) ⟨by decide, by decide, by decide +kernel⟩ ⟨Nat.le_of_ble_eq_true rfl, Nat.le_of_ble_eq_true rfl⟩, (htx _ kw_2_78), (htx _ kw_2_79)⟩ ⟨xPre_blind, vk_recv hZ.2.2.2.2.2.2.2.2.2.1 (i := 10) (by decide) hS, (fun U hU hW => ⟨rfl, xPre_of hZ hS hFc hPc hDc hK U hU hW⟩)⟩ rfl rfl hl.1 rfl (lv_room (Nat.le_of_ble_eq_true rfl)) dM_says_16 ⟨Nat.le_of_ble_eq_true rfl, Nat.le_of_ble_eq_true rfl⟩) hS (fun q _ h => hFc q h) hFc (fun r3 u9 t H1 locs ht hvm hr9 hB hz1 hk1 hS => ?_)
  obtain ⟨hP1, hK1, hD1⟩ := hB
  rw [ht] at hP1
  obtain ⟨hP, hD⟩ := xjoin (W := [(a2, .inl (cT 4, 1024, .inr (.inr (.inr (.inr f35))))), (a0, .inr (5, [v3, .ref a2, .int 0, v4, v5, v6, v7, v8, v9, v10, v11, v12, v13, v14, v15, .ref a1, .int 0, .int 4, v16, v17, v18, v19, v20, v21, v22, v23, v24, v25, v26, v27, v28, v29])), (a1, .inl (cT 0, 4096, .inl f30))]) hP hD [] [0, 1, 2] 3 rfl rfl (by decide) (by decide) hk1 hFc hP1 hD1
  generalize H1 = H at hP hS ⊢
  rw [hr9]
  refine W.eq (g2 := F0 m 19 ls [.int 110, .int 110]) rfl ?_
  refine lv_icmp_eq (tgt := 30) hx hb dM_says_19 (by decide) (fun _ => ?_) (fun h => ((by revert h; decide : False)).elim)
  refine lv_aload_n hx hb dM_says_30 rfl (lv_at hl 1 rfl) ?_
  refine lv_dup hx hb dM_says_31 rfl ?_
  refine va_get (D := D) (ci := 5) (v := .int 0) (C := "ValueBenchModel") (T := TM) (N := 32) hx hb htx inM hown hK hP 1 rfl rfl 16 (by decide) (htx _ kw_5_103) (fun _ h9 => h9) rfl dM_says_32 ?_
  refine lv_iconst (v := 1) hx hb dM_says_35 (by decide) ?_
  refine lv_iadd hx hb dM_says_36 ?_
  refine W.eq (g2 := F0 m 37 ls [.int 1, .ref a0]) rfl ?_
  refine va_put (D := D) (ci := 5) (v := .int 1) (ty := .int) (C := "ValueBenchModel") (T := TM) (N := 32) hx hb htx inM tyM tyM_ok nmM hown hK hP hD hS 1 rfl rfl 16 (by decide) (htx _ kw_5_103) (fun _ h9 => h9) rfl (by decide +kernel) rfl rfl (Nat.le_of_ble_eq_true rfl) dM_says_37 (fun H locs hP hD hS => ?_)
  obtain ⟨hP, hD⟩ : xPD D xcl A [(a2, .inl (cT 4, 1024, .inr (.inr (.inr (.inr f35))))), (a0, .inr (5, [v3, .ref a2, .int 0, v4, v5, v6, v7, v8, v9, v10, v11, v12, v13, v14, v15, .ref a1, .int 1, .int 4, v16, v17, v18, v19, v20, v21, v22, v23, v24, v25, v26, v27, v28, v29])), (a1, .inl (cT 0, 4096, .inl f30))] H := ⟨hP, hD⟩
  refine lv_iinc (v := 1) (lv' := [(3, .int 1), (0, .ref a0), (1, .ref (aK 10)), (2, .int 0)]) hx hb dM_says_40 hl (k := 0) rfl (by decide) (by decide) rfl (fun ls hl => ?_)
  refine lv_goto (tgt := 2) hx hb dM_says_43 (by decide) ?_
  refine lv_iload_n hx hb dM_says_2 rfl (lv_at hl 0 rfl) ?_
  refine lv_aload_n hx hb dM_says_3 rfl (lv_at hl 2 rfl) ?_
  obtain ⟨hPc, hDc, hFc⟩ := xcut (wc := []) hP hD hS hA [] rfl rfl (by decide)
  refine va_calli (va_runV (C := "java/lang/String") (As := []) (rest := [.int 1]) ⟨hx, hb, hml, hown, htx⟩ (cJS_length_0 l hl9 D cT aK aV H.size) ⟨callB_of 0 htx (xw_goodC kw_2_70) rfl rfl rfl (htx _ kw_1_6) (htx _ kw_5_238) ⟨by decide, by decide, by decide +kernel⟩ ⟨Nat.le_of_ble_eq_true rfl, Nat.le_of_ble_eq_true rfl⟩, (htx _ kw_2_68), (htx _ kw_2_69)⟩ ⟨xPre_blind, vk_recv hZ.2.2.2.2.2.2.2.2.2.1 (i := 10) (by decide) hS, (fun U hU hW => ⟨rfl, xPre_of hZ hS hFc hPc hDc hK U hU hW⟩)⟩ rfl rfl hl.1 rfl (lv_room (Nat.le_of_ble_eq_true rfl)) dM_says_4 ⟨Nat.le_of_ble_eq_true rfl, Nat.le_of_ble_eq_true rfl⟩) hS (fun q _ h => hFc q h) hFc (fun r4 u9 t H1 locs ht hvm hr9 hB hz1 hk1 hS => ?_)
  obtain ⟨hP1, hK1, hD1⟩ := hB
  rw [ht] at hP1
  obtain ⟨hP, hD⟩ := xjoin (W := [(a2, .inl (cT 4, 1024, .inr (.inr (.inr (.inr f35))))), (a0, .inr (5, [v3, .ref a2, .int 0, v4, v5, v6, v7, v8, v9, v10, v11, v12, v13, v14, v15, .ref a1, .int 1, .int 4, v16, v17, v18, v19, v20, v21, v22, v23, v24, v25, v26, v27, v28, v29])), (a1, .inl (cT 0, 4096, .inl f30))]) hP hD [] [0, 1, 2] 3 rfl rfl (by decide) (by decide) hk1 hFc hP1 hD1
  generalize H1 = H at hP hS ⊢
  rw [hr9]
  refine W.eq (g2 := F0 m 7 ls [.int 4, .int 1]) rfl ?_
  refine lv_icmp_ge (tgt := 46) hx hb dM_says_7 (by decide) (fun h => ((by revert h; decide : False)).elim) (fun _ => ?_)
  refine lv_aload_n hx hb dM_says_10 rfl (lv_at hl 1 rfl) ?_
  obtain ⟨hPc, hDc, hFc⟩ := xcut (wc := [(a0, .inr (5, [v3, .ref a2, .int 0, v4, v5, v6, v7, v8, v9, v10, v11, v12, v13, v14, v15, .ref a1, .int 1, .int 4, v16, v17, v18, v19, v20, v21, v22, v23, v24, v25, v26, v27, v28, v29])), (a1, .inl (cT 0, 4096, .inl f30))]) hP hD hS hA [1, 2] rfl rfl (by decide)
  refine va_calli (va_runV (C := "ValueBenchModel") (As := []) (rest := []) ⟨hx, hb, hml, hown, htx⟩ (cM_peek_2 l hl9 D cT aK aV H.size a0 a1 v3 (.ref a2) (.int 0) v4 v5 v6 v7 v8 v9 v10 v11 v12 v13 v14 v15 v16 v17 v18 v19 v20 v21 v22 v23 v24 v25 v26 v27 v28 v29 f30 (by first | rfl | exact h31 | exact h32 | exact h33 | exact h34 | exact h36)) ⟨callB_of 0 htx (xw_goodC kw_5_233) rfl rfl rfl (htx _ kw_1_5) (htx _ kw_5_230) ⟨by decide, by decide, by decide +kernel⟩ ⟨Nat.le_of_ble_eq_true rfl, Nat.le_of_ble_eq_true rfl⟩, (htx _ kw_5_232), (htx _ kp_M_peek)⟩ ⟨xPre_blind, va_recv hK hP (ci := 5) rfl (q0 := 1) rfl, (fun U hU hW => ⟨rfl, xPre_of hZ hS hFc hPc hDc hK U hU hW⟩)⟩ rfl rfl hl.1 rfl (lv_room (Nat.le_of_ble_eq_true rfl)) dM_says_11 ⟨Nat.le_of_ble_eq_true rfl, Nat.le_of_ble_eq_true rfl⟩) hS (fun q _ h => hFc q h) hFc (fun r5 u9 t H1 locs ht hvm hr9 hB hz1 hk1 hS => ?_)
  obtain ⟨hP1, hK1, hD1⟩ := hB
  rw [ht] at hP1
  obtain ⟨hP, hD⟩ := xjoin (W := [(a2, .inl (cT 4, 1024, .inr (.inr (.inr (.inr f35))))), (a0, .inr (5, [v3, .ref a2, .int 0, v4, v5, v6, v7, v8, v9, v10, v11, v12, v13, v14, v15, .ref a1, .int 1, .int 4, v16, v17, v18, v19, v20, v21, v22, v23, v24, v25, v26, v27, v28, v29])), (a1, .inl (cT 0, 4096, .inl f30))]) hP hD [1, 2] [0] 1 rfl rfl (by decide) (by decide) hk1 hFc hP1 hD1
  generalize H1 = H at hP hS ⊢
  rw [hr9]
  refine W.eq (g2 := F0 m 14 ls [.int 117]) rfl ?_
  refine lv_aload_n hx hb dM_says_14 rfl (lv_at hl 2 rfl) ?_
  refine lv_iload_n hx hb dM_says_15 rfl (lv_at hl 0 rfl) ?_
  obtain ⟨hPc, hDc, hFc⟩ := xcut (wc := []) hP hD hS hA [] rfl rfl (by decide)
  refine va_calli (va_runV (C := "java/lang/String") (As := [.int 1]) (rest := [.int 117]) ⟨hx, hb, hml, hown, htx⟩ (cJS_charAt_1 l hl9 D cT aK aV H.size) ⟨callB_of 1 htx (xw_goodC kw_2_80) rfl rfl rfl (htx _ kw_1_6) (htx _ kw_5_86) ⟨by decide, by decide, by decide +kernel⟩ ⟨Nat.le_of_ble_eq_true rfl, Nat.le_of_ble_eq_true rfl⟩, (htx _ kw_2_78), (htx _ kw_2_79)⟩ ⟨xPre_blind, vk_recv hZ.2.2.2.2.2.2.2.2.2.1 (i := 10) (by decide) hS, (fun U hU hW => ⟨rfl, xPre_of hZ hS hFc hPc hDc hK U hU hW⟩)⟩ rfl rfl hl.1 rfl (lv_room (Nat.le_of_ble_eq_true rfl)) dM_says_16 ⟨Nat.le_of_ble_eq_true rfl, Nat.le_of_ble_eq_true rfl⟩) hS (fun q _ h => hFc q h) hFc (fun r6 u9 t H1 locs ht hvm hr9 hB hz1 hk1 hS => ?_)
  obtain ⟨hP1, hK1, hD1⟩ := hB
  rw [ht] at hP1
  obtain ⟨hP, hD⟩ := xjoin (W := [(a2, .inl (cT 4, 1024, .inr (.inr (.inr (.inr f35))))), (a0, .inr (5, [v3, .ref a2, .int 0, v4, v5, v6, v7, v8, v9, v10, v11, v12, v13, v14, v15, .ref a1, .int 1, .int 4, v16, v17, v18, v19, v20, v21, v22, v23, v24, v25, v26, v27, v28, v29])), (a1, .inl (cT 0, 4096, .inl f30))]) hP hD [] [0, 1, 2] 3 rfl rfl (by decide) (by decide) hk1 hFc hP1 hD1
  generalize H1 = H at hP hS ⊢
  rw [hr9]
  refine W.eq (g2 := F0 m 19 ls [.int 117, .int 117]) rfl ?_
  refine lv_icmp_eq (tgt := 30) hx hb dM_says_19 (by decide) (fun _ => ?_) (fun h => ((by revert h; decide : False)).elim)
  refine lv_aload_n hx hb dM_says_30 rfl (lv_at hl 1 rfl) ?_
  refine lv_dup hx hb dM_says_31 rfl ?_
  refine va_get (D := D) (ci := 5) (v := .int 1) (C := "ValueBenchModel") (T := TM) (N := 32) hx hb htx inM hown hK hP 1 rfl rfl 16 (by decide) (htx _ kw_5_103) (fun _ h9 => h9) rfl dM_says_32 ?_
  refine lv_iconst (v := 1) hx hb dM_says_35 (by decide) ?_
  refine lv_iadd hx hb dM_says_36 ?_
  refine W.eq (g2 := F0 m 37 ls [.int 2, .ref a0]) rfl ?_
  refine va_put (D := D) (ci := 5) (v := .int 2) (ty := .int) (C := "ValueBenchModel") (T := TM) (N := 32) hx hb htx inM tyM tyM_ok nmM hown hK hP hD hS 1 rfl rfl 16 (by decide) (htx _ kw_5_103) (fun _ h9 => h9) rfl (by decide +kernel) rfl rfl (Nat.le_of_ble_eq_true rfl) dM_says_37 (fun H locs hP hD hS => ?_)
  obtain ⟨hP, hD⟩ : xPD D xcl A [(a2, .inl (cT 4, 1024, .inr (.inr (.inr (.inr f35))))), (a0, .inr (5, [v3, .ref a2, .int 0, v4, v5, v6, v7, v8, v9, v10, v11, v12, v13, v14, v15, .ref a1, .int 2, .int 4, v16, v17, v18, v19, v20, v21, v22, v23, v24, v25, v26, v27, v28, v29])), (a1, .inl (cT 0, 4096, .inl f30))] H := ⟨hP, hD⟩
  refine lv_iinc (v := 2) (lv' := [(3, .int 2), (0, .ref a0), (1, .ref (aK 10)), (2, .int 0)]) hx hb dM_says_40 hl (k := 0) rfl (by decide) (by decide) rfl (fun ls hl => ?_)
  refine lv_goto (tgt := 2) hx hb dM_says_43 (by decide) ?_
  refine lv_iload_n hx hb dM_says_2 rfl (lv_at hl 0 rfl) ?_
  refine lv_aload_n hx hb dM_says_3 rfl (lv_at hl 2 rfl) ?_
  obtain ⟨hPc, hDc, hFc⟩ := xcut (wc := []) hP hD hS hA [] rfl rfl (by decide)
  refine va_calli (va_runV (C := "java/lang/String") (As := []) (rest := [.int 2]) ⟨hx, hb, hml, hown, htx⟩ (cJS_length_0 l hl9 D cT aK aV H.size) ⟨callB_of 0 htx (xw_goodC kw_2_70) rfl rfl rfl (htx _ kw_1_6) (htx _ kw_5_238) ⟨by decide, by decide, by decide +kernel⟩ ⟨Nat.le_of_ble_eq_true rfl, Nat.le_of_ble_eq_true rfl⟩, (htx _ kw_2_68), (htx _ kw_2_69)⟩ ⟨xPre_blind, vk_recv hZ.2.2.2.2.2.2.2.2.2.1 (i := 10) (by decide) hS, (fun U hU hW => ⟨rfl, xPre_of hZ hS hFc hPc hDc hK U hU hW⟩)⟩ rfl rfl hl.1 rfl (lv_room (Nat.le_of_ble_eq_true rfl)) dM_says_4 ⟨Nat.le_of_ble_eq_true rfl, Nat.le_of_ble_eq_true rfl⟩) hS (fun q _ h => hFc q h) hFc (fun r7 u9 t H1 locs ht hvm hr9 hB hz1 hk1 hS => ?_)
  obtain ⟨hP1, hK1, hD1⟩ := hB
  rw [ht] at hP1
  obtain ⟨hP, hD⟩ := xjoin (W := [(a2, .inl (cT 4, 1024, .inr (.inr (.inr (.inr f35))))), (a0, .inr (5, [v3, .ref a2, .int 0, v4, v5, v6, v7, v8, v9, v10, v11, v12, v13, v14, v15, .ref a1, .int 2, .int 4, v16, v17, v18, v19, v20, v21, v22, v23, v24, v25, v26, v27, v28, v29])), (a1, .inl (cT 0, 4096, .inl f30))]) hP hD [] [0, 1, 2] 3 rfl rfl (by decide) (by decide) hk1 hFc hP1 hD1
  generalize H1 = H at hP hS ⊢
  rw [hr9]
  refine W.eq (g2 := F0 m 7 ls [.int 4, .int 2]) rfl ?_
  refine lv_icmp_ge (tgt := 46) hx hb dM_says_7 (by decide) (fun h => ((by revert h; decide : False)).elim) (fun _ => ?_)
  refine lv_aload_n hx hb dM_says_10 rfl (lv_at hl 1 rfl) ?_
  obtain ⟨hPc, hDc, hFc⟩ := xcut (wc := [(a0, .inr (5, [v3, .ref a2, .int 0, v4, v5, v6, v7, v8, v9, v10, v11, v12, v13, v14, v15, .ref a1, .int 2, .int 4, v16, v17, v18, v19, v20, v21, v22, v23, v24, v25, v26, v27, v28, v29])), (a1, .inl (cT 0, 4096, .inl f30))]) hP hD hS hA [1, 2] rfl rfl (by decide)
  refine va_calli (va_runV (C := "ValueBenchModel") (As := []) (rest := []) ⟨hx, hb, hml, hown, htx⟩ (cM_peek_3 l hl9 D cT aK aV H.size a0 a1 v3 (.ref a2) (.int 0) v4 v5 v6 v7 v8 v9 v10 v11 v12 v13 v14 v15 v16 v17 v18 v19 v20 v21 v22 v23 v24 v25 v26 v27 v28 v29 f30 (by first | rfl | exact h31 | exact h32 | exact h33 | exact h34 | exact h36)) ⟨callB_of 0 htx (xw_goodC kw_5_233) rfl rfl rfl (htx _ kw_1_5) (htx _ kw_5_230) ⟨by decide, by decide, by decide +kernel⟩ ⟨Nat.le_of_ble_eq_true rfl, Nat.le_of_ble_eq_true rfl⟩, (htx _ kw_5_232), (htx _ kp_M_peek)⟩ ⟨xPre_blind, va_recv hK hP (ci := 5) rfl (q0 := 1) rfl, (fun U hU hW => ⟨rfl, xPre_of hZ hS hFc hPc hDc hK U hU hW⟩)⟩ rfl rfl hl.1 rfl (lv_room (Nat.le_of_ble_eq_true rfl)) dM_says_11 ⟨Nat.le_of_ble_eq_true rfl, Nat.le_of_ble_eq_true rfl⟩) hS (fun q _ h => hFc q h) hFc (fun r8 u9 t H1 locs ht hvm hr9 hB hz1 hk1 hS => ?_)
  obtain ⟨hP1, hK1, hD1⟩ := hB
  rw [ht] at hP1
  obtain ⟨hP, hD⟩ := xjoin (W := [(a2, .inl (cT 4, 1024, .inr (.inr (.inr (.inr f35))))), (a0, .inr (5, [v3, .ref a2, .int 0, v4, v5, v6, v7, v8, v9, v10, v11, v12, v13, v14, v15, .ref a1, .int 2, .int 4, v16, v17, v18, v19, v20, v21, v22, v23, v24, v25, v26, v27, v28, v29])), (a1, .inl (cT 0, 4096, .inl f30))]) hP hD [1, 2] [0] 1 rfl rfl (by decide) (by decide) hk1 hFc hP1 hD1
  generalize H1 = H at hP hS ⊢
  rw [hr9]
  refine W.eq (g2 := F0 m 14 ls [.int 108]) rfl ?_
  refine lv_aload_n hx hb dM_says_14 rfl (lv_at hl 2 rfl) ?_
  refine lv_iload_n hx hb dM_says_15 rfl (lv_at hl 0 rfl) ?_
  obtain ⟨hPc, hDc, hFc⟩ := xcut (wc := []) hP hD hS hA [] rfl rfl (by decide)
  refine va_calli (va_runV (C := "java/lang/String") (As := [.int 2]) (rest := [.int 108]) ⟨hx, hb, hml, hown, htx⟩ (cJS_charAt_2 l hl9 D cT aK aV H.size) ⟨callB_of 1 htx (xw_goodC kw_2_80) rfl rfl rfl (htx _ kw_1_6) (htx _ kw_5_86) ⟨by decide, by decide, by decide +kernel⟩ ⟨Nat.le_of_ble_eq_true rfl, Nat.le_of_ble_eq_true rfl⟩, (htx _ kw_2_78), (htx _ kw_2_79)⟩ ⟨xPre_blind, vk_recv hZ.2.2.2.2.2.2.2.2.2.1 (i := 10) (by decide) hS, (fun U hU hW => ⟨rfl, xPre_of hZ hS hFc hPc hDc hK U hU hW⟩)⟩ rfl rfl hl.1 rfl (lv_room (Nat.le_of_ble_eq_true rfl)) dM_says_16 ⟨Nat.le_of_ble_eq_true rfl, Nat.le_of_ble_eq_true rfl⟩) hS (fun q _ h => hFc q h) hFc (fun r9 u9 t H1 locs ht hvm hr9 hB hz1 hk1 hS => ?_)
  obtain ⟨hP1, hK1, hD1⟩ := hB
  rw [ht] at hP1
  obtain ⟨hP, hD⟩ := xjoin (W := [(a2, .inl (cT 4, 1024, .inr (.inr (.inr (.inr f35))))), (a0, .inr (5, [v3, .ref a2, .int 0, v4, v5, v6, v7, v8, v9, v10, v11, v12, v13, v14, v15, .ref a1, .int 2, .int 4, v16, v17, v18, v19, v20, v21, v22, v23, v24, v25, v26, v27, v28, v29])), (a1, .inl (cT 0, 4096, .inl f30))]) hP hD [] [0, 1, 2] 3 rfl rfl (by decide) (by decide) hk1 hFc hP1 hD1
  generalize H1 = H at hP hS ⊢
  rw [hr9]
  refine W.eq (g2 := F0 m 19 ls [.int 108, .int 108]) rfl ?_
  refine lv_icmp_eq (tgt := 30) hx hb dM_says_19 (by decide) (fun _ => ?_) (fun h => ((by revert h; decide : False)).elim)
  refine lv_aload_n hx hb dM_says_30 rfl (lv_at hl 1 rfl) ?_
  refine lv_dup hx hb dM_says_31 rfl ?_
  refine va_get (D := D) (ci := 5) (v := .int 2) (C := "ValueBenchModel") (T := TM) (N := 32) hx hb htx inM hown hK hP 1 rfl rfl 16 (by decide) (htx _ kw_5_103) (fun _ h9 => h9) rfl dM_says_32 ?_
  refine lv_iconst (v := 1) hx hb dM_says_35 (by decide) ?_
  refine lv_iadd hx hb dM_says_36 ?_
  refine W.eq (g2 := F0 m 37 ls [.int 3, .ref a0]) rfl ?_
  refine va_put (D := D) (ci := 5) (v := .int 3) (ty := .int) (C := "ValueBenchModel") (T := TM) (N := 32) hx hb htx inM tyM tyM_ok nmM hown hK hP hD hS 1 rfl rfl 16 (by decide) (htx _ kw_5_103) (fun _ h9 => h9) rfl (by decide +kernel) rfl rfl (Nat.le_of_ble_eq_true rfl) dM_says_37 (fun H locs hP hD hS => ?_)
  obtain ⟨hP, hD⟩ : xPD D xcl A [(a2, .inl (cT 4, 1024, .inr (.inr (.inr (.inr f35))))), (a0, .inr (5, [v3, .ref a2, .int 0, v4, v5, v6, v7, v8, v9, v10, v11, v12, v13, v14, v15, .ref a1, .int 3, .int 4, v16, v17, v18, v19, v20, v21, v22, v23, v24, v25, v26, v27, v28, v29])), (a1, .inl (cT 0, 4096, .inl f30))] H := ⟨hP, hD⟩
  refine lv_iinc (v := 3) (lv' := [(3, .int 3), (0, .ref a0), (1, .ref (aK 10)), (2, .int 0)]) hx hb dM_says_40 hl (k := 0) rfl (by decide) (by decide) rfl (fun ls hl => ?_)
  refine lv_goto (tgt := 2) hx hb dM_says_43 (by decide) ?_
  refine lv_iload_n hx hb dM_says_2 rfl (lv_at hl 0 rfl) ?_
  refine lv_aload_n hx hb dM_says_3 rfl (lv_at hl 2 rfl) ?_
  obtain ⟨hPc, hDc, hFc⟩ := xcut (wc := []) hP hD hS hA [] rfl rfl (by decide)
  refine va_calli (va_runV (C := "java/lang/String") (As := []) (rest := [.int 3]) ⟨hx, hb, hml, hown, htx⟩ (cJS_length_0 l hl9 D cT aK aV H.size) ⟨callB_of 0 htx (xw_goodC kw_2_70) rfl rfl rfl (htx _ kw_1_6) (htx _ kw_5_238) ⟨by decide, by decide, by decide +kernel⟩ ⟨Nat.le_of_ble_eq_true rfl, Nat.le_of_ble_eq_true rfl⟩, (htx _ kw_2_68), (htx _ kw_2_69)⟩ ⟨xPre_blind, vk_recv hZ.2.2.2.2.2.2.2.2.2.1 (i := 10) (by decide) hS, (fun U hU hW => ⟨rfl, xPre_of hZ hS hFc hPc hDc hK U hU hW⟩)⟩ rfl rfl hl.1 rfl (lv_room (Nat.le_of_ble_eq_true rfl)) dM_says_4 ⟨Nat.le_of_ble_eq_true rfl, Nat.le_of_ble_eq_true rfl⟩) hS (fun q _ h => hFc q h) hFc (fun r10 u9 t H1 locs ht hvm hr9 hB hz1 hk1 hS => ?_)
  obtain ⟨hP1, hK1, hD1⟩ := hB
  rw [ht] at hP1
  obtain ⟨hP, hD⟩ := xjoin (W := [(a2, .inl (cT 4, 1024, .inr (.inr (.inr (.inr f35))))), (a0, .inr (5, [v3, .ref a2, .int 0, v4, v5, v6, v7, v8, v9, v10, v11, v12, v13, v14, v15, .ref a1, .int 3, .int 4, v16, v17, v18, v19, v20, v21, v22, v23, v24, v25, v26, v27, v28, v29])), (a1, .inl (cT 0, 4096, .inl f30))]) hP hD [] [0, 1, 2] 3 rfl rfl (by decide) (by decide) hk1 hFc hP1 hD1
  generalize H1 = H at hP hS ⊢
  rw [hr9]
  refine W.eq (g2 := F0 m 7 ls [.int 4, .int 3]) rfl ?_
  refine lv_icmp_ge (tgt := 46) hx hb dM_says_7 (by decide) (fun h => ((by revert h; decide : False)).elim) (fun _ => ?_)
  refine lv_aload_n hx hb dM_says_10 rfl (lv_at hl 1 rfl) ?_
  obtain ⟨hPc, hDc, hFc⟩ := xcut (wc := [(a0, .inr (5, [v3, .ref a2, .int 0, v4, v5, v6, v7, v8, v9, v10, v11, v12, v13, v14, v15, .ref a1, .int 3, .int 4, v16, v17, v18, v19, v20, v21, v22, v23, v24, v25, v26, v27, v28, v29])), (a1, .inl (cT 0, 4096, .inl f30))]) hP hD hS hA [1, 2] rfl rfl (by decide)
  refine va_calli (va_runV (C := "ValueBenchModel") (As := []) (rest := []) ⟨hx, hb, hml, hown, htx⟩ (cM_peek_4 l hl9 D cT aK aV H.size a0 a1 v3 (.ref a2) (.int 0) v4 v5 v6 v7 v8 v9 v10 v11 v12 v13 v14 v15 v16 v17 v18 v19 v20 v21 v22 v23 v24 v25 v26 v27 v28 v29 f30 (by first | rfl | exact h31 | exact h32 | exact h33 | exact h34 | exact h36)) ⟨callB_of 0 htx (xw_goodC kw_5_233) rfl rfl rfl (htx _ kw_1_5) (htx _ kw_5_230) ⟨by decide, by decide, by decide +kernel⟩ ⟨Nat.le_of_ble_eq_true rfl, Nat.le_of_ble_eq_true rfl⟩, (htx _ kw_5_232), (htx _ kp_M_peek)⟩ ⟨xPre_blind, va_recv hK hP (ci := 5) rfl (q0 := 1) rfl, (fun U hU hW => ⟨rfl, xPre_of hZ hS hFc hPc hDc hK U hU hW⟩)⟩ rfl rfl hl.1 rfl (lv_room (Nat.le_of_ble_eq_true rfl)) dM_says_11 ⟨Nat.le_of_ble_eq_true rfl, Nat.le_of_ble_eq_true rfl⟩) hS (fun q _ h => hFc q h) hFc (fun r11 u9 t H1 locs ht hvm hr9 hB hz1 hk1 hS => ?_)
  obtain ⟨hP1, hK1, hD1⟩ := hB
  rw [ht] at hP1
  obtain ⟨hP, hD⟩ := xjoin (W := [(a2, .inl (cT 4, 1024, .inr (.inr (.inr (.inr f35))))), (a0, .inr (5, [v3, .ref a2, .int 0, v4, v5, v6, v7, v8, v9, v10, v11, v12, v13, v14, v15, .ref a1, .int 3, .int 4, v16, v17, v18, v19, v20, v21, v22, v23, v24, v25, v26, v27, v28, v29])), (a1, .inl (cT 0, 4096, .inl f30))]) hP hD [1, 2] [0] 1 rfl rfl (by decide) (by decide) hk1 hFc hP1 hD1
  generalize H1 = H at hP hS ⊢
  rw [hr9]
  refine W.eq (g2 := F0 m 14 ls [.int 108]) rfl ?_
  refine lv_aload_n hx hb dM_says_14 rfl (lv_at hl 2 rfl) ?_
  refine lv_iload_n hx hb dM_says_15 rfl (lv_at hl 0 rfl) ?_
  obtain ⟨hPc, hDc, hFc⟩ := xcut (wc := []) hP hD hS hA [] rfl rfl (by decide)
  refine va_calli (va_runV (C := "java/lang/String") (As := [.int 3]) (rest := [.int 108]) ⟨hx, hb, hml, hown, htx⟩ (cJS_charAt_3 l hl9 D cT aK aV H.size) ⟨callB_of 1 htx (xw_goodC kw_2_80) rfl rfl rfl (htx _ kw_1_6) (htx _ kw_5_86) ⟨by decide, by decide, by decide +kernel⟩ ⟨Nat.le_of_ble_eq_true rfl, Nat.le_of_ble_eq_true rfl⟩, (htx _ kw_2_78), (htx _ kw_2_79)⟩ ⟨xPre_blind, vk_recv hZ.2.2.2.2.2.2.2.2.2.1 (i := 10) (by decide) hS, (fun U hU hW => ⟨rfl, xPre_of hZ hS hFc hPc hDc hK U hU hW⟩)⟩ rfl rfl hl.1 rfl (lv_room (Nat.le_of_ble_eq_true rfl)) dM_says_16 ⟨Nat.le_of_ble_eq_true rfl, Nat.le_of_ble_eq_true rfl⟩) hS (fun q _ h => hFc q h) hFc (fun r12 u9 t H1 locs ht hvm hr9 hB hz1 hk1 hS => ?_)
  obtain ⟨hP1, hK1, hD1⟩ := hB
  rw [ht] at hP1
  obtain ⟨hP, hD⟩ := xjoin (W := [(a2, .inl (cT 4, 1024, .inr (.inr (.inr (.inr f35))))), (a0, .inr (5, [v3, .ref a2, .int 0, v4, v5, v6, v7, v8, v9, v10, v11, v12, v13, v14, v15, .ref a1, .int 3, .int 4, v16, v17, v18, v19, v20, v21, v22, v23, v24, v25, v26, v27, v28, v29])), (a1, .inl (cT 0, 4096, .inl f30))]) hP hD [] [0, 1, 2] 3 rfl rfl (by decide) (by decide) hk1 hFc hP1 hD1
  generalize H1 = H at hP hS ⊢
  rw [hr9]
  refine W.eq (g2 := F0 m 19 ls [.int 108, .int 108]) rfl ?_
  refine lv_icmp_eq (tgt := 30) hx hb dM_says_19 (by decide) (fun _ => ?_) (fun h => ((by revert h; decide : False)).elim)
  refine lv_aload_n hx hb dM_says_30 rfl (lv_at hl 1 rfl) ?_
  refine lv_dup hx hb dM_says_31 rfl ?_
  refine va_get (D := D) (ci := 5) (v := .int 3) (C := "ValueBenchModel") (T := TM) (N := 32) hx hb htx inM hown hK hP 1 rfl rfl 16 (by decide) (htx _ kw_5_103) (fun _ h9 => h9) rfl dM_says_32 ?_
  refine lv_iconst (v := 1) hx hb dM_says_35 (by decide) ?_
  refine lv_iadd hx hb dM_says_36 ?_
  refine W.eq (g2 := F0 m 37 ls [.int 4, .ref a0]) rfl ?_
  refine va_put (D := D) (ci := 5) (v := .int 4) (ty := .int) (C := "ValueBenchModel") (T := TM) (N := 32) hx hb htx inM tyM tyM_ok nmM hown hK hP hD hS 1 rfl rfl 16 (by decide) (htx _ kw_5_103) (fun _ h9 => h9) rfl (by decide +kernel) rfl rfl (Nat.le_of_ble_eq_true rfl) dM_says_37 (fun H locs hP hD hS => ?_)
  obtain ⟨hP, hD⟩ : xPD D xcl A [(a2, .inl (cT 4, 1024, .inr (.inr (.inr (.inr f35))))), (a0, .inr (5, [v3, .ref a2, .int 0, v4, v5, v6, v7, v8, v9, v10, v11, v12, v13, v14, v15, .ref a1, .int 4, .int 4, v16, v17, v18, v19, v20, v21, v22, v23, v24, v25, v26, v27, v28, v29])), (a1, .inl (cT 0, 4096, .inl f30))] H := ⟨hP, hD⟩
  refine lv_iinc (v := 4) (lv' := [(3, .int 4), (0, .ref a0), (1, .ref (aK 10)), (2, .int 0)]) hx hb dM_says_40 hl (k := 0) rfl (by decide) (by decide) rfl (fun ls hl => ?_)
  refine lv_goto (tgt := 2) hx hb dM_says_43 (by decide) ?_
  refine lv_iload_n hx hb dM_says_2 rfl (lv_at hl 0 rfl) ?_
  refine lv_aload_n hx hb dM_says_3 rfl (lv_at hl 2 rfl) ?_
  obtain ⟨hPc, hDc, hFc⟩ := xcut (wc := []) hP hD hS hA [] rfl rfl (by decide)
  refine va_calli (va_runV (C := "java/lang/String") (As := []) (rest := [.int 4]) ⟨hx, hb, hml, hown, htx⟩ (cJS_length_0 l hl9 D cT aK aV H.size) ⟨callB_of 0 htx (xw_goodC kw_2_70) rfl rfl rfl (htx _ kw_1_6) (htx _ kw_5_238) ⟨by decide, by decide, by decide +kernel⟩ ⟨Nat.le_of_ble_eq_true rfl, Nat.le_of_ble_eq_true rfl⟩, (htx _ kw_2_68), (htx _ kw_2_69)⟩ ⟨xPre_blind, vk_recv hZ.2.2.2.2.2.2.2.2.2.1 (i := 10) (by decide) hS, (fun U hU hW => ⟨rfl, xPre_of hZ hS hFc hPc hDc hK U hU hW⟩)⟩ rfl rfl hl.1 rfl (lv_room (Nat.le_of_ble_eq_true rfl)) dM_says_4 ⟨Nat.le_of_ble_eq_true rfl, Nat.le_of_ble_eq_true rfl⟩) hS (fun q _ h => hFc q h) hFc (fun r13 u9 t H1 locs ht hvm hr9 hB hz1 hk1 hS => ?_)
  obtain ⟨hP1, hK1, hD1⟩ := hB
  rw [ht] at hP1
  obtain ⟨hP, hD⟩ := xjoin (W := [(a2, .inl (cT 4, 1024, .inr (.inr (.inr (.inr f35))))), (a0, .inr (5, [v3, .ref a2, .int 0, v4, v5, v6, v7, v8, v9, v10, v11, v12, v13, v14, v15, .ref a1, .int 4, .int 4, v16, v17, v18, v19, v20, v21, v22, v23, v24, v25, v26, v27, v28, v29])), (a1, .inl (cT 0, 4096, .inl f30))]) hP hD [] [0, 1, 2] 3 rfl rfl (by decide) (by decide) hk1 hFc hP1 hD1
  generalize H1 = H at hP hS ⊢
  rw [hr9]
  refine W.eq (g2 := F0 m 7 ls [.int 4, .int 4]) rfl ?_
  refine lv_icmp_ge (tgt := 46) hx hb dM_says_7 (by decide) (fun _ => ?_) (fun h => ((by revert h; decide : False)).elim)
  refine lv_aload_n hx hb dM_says_46 rfl (lv_at hl 1 rfl) ?_
  refine lv_iload_n hx hb dM_says_47 rfl (lv_at hl 3 rfl) ?_
  obtain ⟨hPc, hDc, hFc⟩ := xcut (wc := [(a0, .inr (5, [v3, .ref a2, .int 0, v4, v5, v6, v7, v8, v9, v10, v11, v12, v13, v14, v15, .ref a1, .int 4, .int 4, v16, v17, v18, v19, v20, v21, v22, v23, v24, v25, v26, v27, v28, v29])), (a2, .inl (cT 4, 1024, .inr (.inr (.inr (.inr f35)))))]) hP hD hS hA [1, 0] rfl rfl (by decide)
  refine va_callr (va_runV (C := "ValueBenchModel") (As := [.int 0]) (rest := []) ⟨hx, hb, hml, hown, htx⟩ (cM_fresh_5 l hl9 D cT aK aV H.size a0 a2 v3 v4 v5 v6 v7 v8 v9 v10 v11 v12 v13 v14 v15 (.ref a1) (.int 4) (.int 4) v16 v17 v18 v19 v20 v21 v22 v23 v24 v25 v26 v27 v28 v29 f35 (by first | rfl | exact h31 | exact h32 | exact h33 | exact h34 | exact h36)) ⟨callB_of 1 htx (xw_goodC kw_6_16) rfl rfl rfl (htx _ kw_1_5) (htx _ kw_6_13) ⟨by decide, by decide, by decide +kernel⟩ ⟨Nat.le_of_ble_eq_true rfl, Nat.le_of_ble_eq_true rfl⟩, (htx _ kw_6_15), (htx _ kp_M_fresh)⟩ ⟨xPre_blind, va_recv hK hP (ci := 5) rfl (q0 := 1) rfl, (fun U hU hW => ⟨rfl, xPre_of hZ hS hFc hPc hDc hK U hU hW⟩)⟩ rfl rfl hl.1 rfl (lv_room (Nat.le_of_ble_eq_true rfl)) dM_says_48 ⟨Nat.le_of_ble_eq_true rfl, Nat.le_of_ble_eq_true rfl⟩) hS (fun q _ h => hFc q h) hFc (fun u9 r14 t H1 locs ht hvm hr9 hB hz1 hk1 hS => ?_)
  obtain ⟨hP1, hK1, hD1⟩ := hB
  rw [ht] at hP1
  obtain ⟨hP, hD⟩ := xjoin (W := [(a1, .inl (cT 0, 4096, .inl f30)), (a0, .inr (5, [v3, .ref a2, .int 1, v4, v5, v6, v7, v8, v9, v10, v11, v12, v13, v14, v15, .ref a1, .int 4, .int 4, v16, v17, v18, v19, v20, v21, v22, v23, v24, v25, v26, v27, v28, v29])), (a2, .inl (cT 4, 1024, .inr (.inr (.inr (.inr (va_up f35 0 (some r14))))))), (r14, .inr (6, [.int 0, .long 0, .int 0, .int 0, .int 0, .int 1]))]) hP hD [1, 0] [2] 1 rfl rfl (by decide) (by decide) hk1 hFc hP1 hD1
  generalize H1 = H at hP hS ⊢
  refine W.eq (g2 := F0 m 51 ls [.ref r14]) rfl ?_
  obtain ⟨hP9, hD9⟩ := xsub (wc := [(a0, .inr (5, [v3, .ref a2, .int 1, v4, v5, v6, v7, v8, v9, v10, v11, v12, v13, v14, v15, .ref a1, .int 4, .int 4, v16, v17, v18, v19, v20, v21, v22, v23, v24, v25, v26, v27, v28, v29])), (a1, .inl (cT 0, 4096, .inl f30)), (a2, .inl (cT 4, 1024, .inr (.inr (.inr (.inr (va_up f35 0 (some r14))))))), (r14, .inr (6, [.int 0, .long 0, .int 0, .int 0, .int 0, .int 1]))]) hP hD [1, 0, 2, 3] rfl rfl (by decide)
  refine W.widen (k := 1) (n := 6) (Nat.le_of_ble_eq_true rfl) (Nat.le_of_ble_eq_true rfl) ?_
  exact W.aret hx hb hr (Or.inl ⟨_, rfl⟩) (Or.inr ⟨_, rfl⟩) (fun t ht hW => ⟨⟨(), r14, rfl, trivial, by rw [ht]; exact hP9, va_K.moved hW.alike hK, hD9⟩, hS.F ht⟩) hS.2.2 dM_says_51
set_option maxHeartbeats 400000000 in
set_option maxRecDepth 100000 in
theorem cM_value_4 (l : Launch) (hl9 : l.stackTraces = false) (D : va_G) (cT : Nat → ClassId) (aK aV : Nat → Nat) (sz : Nat) (a0 : Nat) (a1 : Nat) (a2 : Nat) (v3 : Value) (v4 : Value) (v5 : Value) (v6 : Value) (v7 : Value) (v8 : Value) (v9 : Value) (v10 : Value) (v11 : Value) (v12 : Value) (v13 : Value) (v14 : Value) (v15 : Value) (v16 : Value) (v17 : Value) (v18 : Value) (v19 : Value) (v20 : Value) (v21 : Value) (v22 : Value) (v23 : Value) (v24 : Value) (v25 : Value) (v26 : Value) (v27 : Value) (v28 : Value) (v29 : Value) (f30 : Nat → Int32) (f35 : Nat → Option Nat) (h31 : f30 0 = 110) (h32 : f30 1 = 117) (h33 : f30 2 = 108) (h34 : f30 3 = 108) (h36 : f35 0 = none) : xMet l yM_value wyM_value 5 1 6 108 D cT aK aV sz [.ref a0] [(a0, .inr (5, [v3, .ref a2, .int 0, v4, v5, v6, v7, v8, v9, v10, v11, v12, v13, v14, v15, .ref a1, .int 0, .int 4, v16, v17, v18, v19, v20, v21, v22, v23, v24, v25, v26, v27, v28, v29])), (a1, .inl (cT 0, 4096, .inl f30)), (a2, .inl (cT 4, 1024, .inr (.inr (.inr (.inr f35)))))] (fun A => va_Qr (fun _ : Unit => True) (fun _ r2 t => xB D xcl cT A [(a0, .inr (5, [v3, .ref a2, .int 1, v4, v5, v6, v7, v8, v9, v10, v11, v12, v13, v14, v15, .ref a1, .int 4, .int 4, v16, v17, v18, v19, v20, v21, v22, v23, v24, v25, v26, v27, v28, v29])), (a1, .inl (cT 0, 4096, .inl f30)), (a2, .inl (cT 4, 1024, .inr (.inr (.inr (.inr (va_up f35 0 (some r2))))))), (r2, .inr (6, [.int 0, .long 0, .int 0, .int 0, .int 0, .int 1]))] t) A) := by
  refine Met.ofW (cc := prog_13_method_34_code) (maxL := 3) (ret := (some (.object "ValueBenchModel$V"))) (by decide) rfl ?_
  intro p e s m args below meth c s₁ B hml hv
  obtain ⟨rfl, hsz, hZ, hP, hK, hD0⟩ := hv
  have hx := B.exec
  have hb := B.bytes
  have hr := B.returns
  have hts := atoms_spec (ws := wyM_value) B.pre
  have htx := fun w h => hts w (List.mem_cons_of_mem _ h)
  have hown : s.vm.findClass "ValueBenchModel" = some m.cls := findClass_of_methodNamed B.named
  have hlocks := B.notSynchronized
  subst hsz
  have hD := hD0.self (sz := s.heap.size)
  generalize hAe : va_A [(a0, .inr (5, [v3, .ref a2, .int 0, v4, v5, v6, v7, v8, v9, v10, v11, v12, v13, v14, v15, .ref a1, .int 0, .int 4, v16, v17, v18, v19, v20, v21, v22, v23, v24, v25, v26, v27, v28, v29])), (a1, .inl (cT 0, 4096, .inl f30)), (a2, .inl (cT 4, 1024, .inr (.inr (.inr (.inr f35)))))] s.heap.size = A at hD hZ ⊢
  have hA : ∀ q : Nat, s.heap.size ≤ q → A q := fun q h => by rw [← hAe]; exact Or.inr h
  have hS : va_S A s.heap s.heap [] := va_S.rf
  have hP : va_P D xcl [(a0, .inr (5, [v3, .ref a2, .int 0, v4, v5, v6, v7, v8, v9, v10, v11, v12, v13, v14, v15, .ref a1, .int 0, .int 4, v16, v17, v18, v19, v20, v21, v22, v23, v24, v25, v26, v27, v28, v29])), (a1, .inl (cT 0, 4096, .inl f30)), (a2, .inl (cT 4, 1024, .inr (.inr (.inr (.inr f35)))))] s.heap := hP
  have hl := lv_entry ([.ref a0]) (n := 3) (Nat.le_of_ble_eq_true rfl)
  rw [lg_entry_eq]
  generalize (lg_sl ([.ref a0]) ++ List.replicate (3 - (lg_sl ([.ref a0])).length) Slot.unset).toArray = ls at hl ⊢
  have hl : lv_has ls 3 [(0, .ref a0)] := hl
  refine lv_aload_n hx hb dM_value_0 rfl (lv_at hl 0 rfl) ?_
  obtain ⟨hPc, hDc, hFc⟩ := xcut (wc := [(a0, .inr (5, [v3, .ref a2, .int 0, v4, v5, v6, v7, v8, v9, v10, v11, v12, v13, v14, v15, .ref a1, .int 0, .int 4, v16, v17, v18, v19, v20, v21, v22, v23, v24, v25, v26, v27, v28, v29])), (a1, .inl (cT 0, 4096, .inl f30))]) hP hD hS hA [0, 1] rfl rfl (by decide)
  refine va_callv (va_runV (C := "ValueBenchModel") (As := []) (rest := []) ⟨hx, hb, hml, hown, htx⟩ (cM_blanks_1 l hl9 D cT aK aV s.heap.size a0 a1 v3 (.ref a2) (.int 0) v4 v5 v6 v7 v8 v9 v10 v11 v12 v13 v14 v15 v16 v17 v18 v19 v20 v21 v22 v23 v24 v25 v26 v27 v28 v29 f30 (by first | rfl | exact h31 | exact h32 | exact h33 | exact h34 | exact h36)) ⟨callB_of 0 htx (xw_goodC kw_5_229) rfl rfl rfl (htx _ kw_1_5) (htx _ kw_5_226) ⟨by decide, by decide, by decide +kernel⟩ ⟨Nat.le_of_ble_eq_true rfl, Nat.le_of_ble_eq_true rfl⟩, (htx _ kw_5_228), (htx _ kp_M_blanks)⟩ ⟨xPre_blind, va_recv hK hP (ci := 5) rfl (q0 := 0) rfl, (fun U hU hW => ⟨rfl, xPre_of hZ hS hFc hPc hDc hK U hU hW⟩)⟩ rfl rfl hl.1 rfl (lv_room (Nat.le_of_ble_eq_true rfl)) dM_value_1 ⟨Nat.le_of_ble_eq_true rfl, Nat.le_of_ble_eq_true rfl⟩) hS (fun q _ h => hFc q h) hFc (fun u9 t H1 locs ht hvm hr9 hB hz1 hk1 hS => ?_)
  obtain ⟨hP1, hK1, hD1⟩ := hB
  rw [ht] at hP1
  obtain ⟨hP, hD⟩ := xjoin (W := [(a2, .inl (cT 4, 1024, .inr (.inr (.inr (.inr f35))))), (a0, .inr (5, [v3, .ref a2, .int 0, v4, v5, v6, v7, v8, v9, v10, v11, v12, v13, v14, v15, .ref a1, .int 0, .int 4, v16, v17, v18, v19, v20, v21, v22, v23, v24, v25, v26, v27, v28, v29])), (a1, .inl (cT 0, 4096, .inl f30))]) hP hD [0, 1] [2] 1 rfl rfl (by decide) (by decide) hk1 hFc hP1 hD1
  generalize H1 = H at hP hS ⊢
  refine lv_aload_n hx hb dM_value_4 rfl (lv_at hl 0 rfl) ?_
  obtain ⟨hPc, hDc, hFc⟩ := xcut (wc := [(a0, .inr (5, [v3, .ref a2, .int 0, v4, v5, v6, v7, v8, v9, v10, v11, v12, v13, v14, v15, .ref a1, .int 0, .int 4, v16, v17, v18, v19, v20, v21, v22, v23, v24, v25, v26, v27, v28, v29])), (a1, .inl (cT 0, 4096, .inl f30))]) hP hD hS hA [1, 2] rfl rfl (by decide)
  refine va_calli (va_runV (C := "ValueBenchModel") (As := []) (rest := []) ⟨hx, hb, hml, hown, htx⟩ (cM_peek_1 l hl9 D cT aK aV H.size a0 a1 v3 (.ref a2) (.int 0) v4 v5 v6 v7 v8 v9 v10 v11 v12 v13 v14 v15 v16 v17 v18 v19 v20 v21 v22 v23 v24 v25 v26 v27 v28 v29 f30 (by first | rfl | exact h31 | exact h32 | exact h33 | exact h34 | exact h36)) ⟨callB_of 0 htx (xw_goodC kw_5_233) rfl rfl rfl (htx _ kw_1_5) (htx _ kw_5_230) ⟨by decide, by decide, by decide +kernel⟩ ⟨Nat.le_of_ble_eq_true rfl, Nat.le_of_ble_eq_true rfl⟩, (htx _ kw_5_232), (htx _ kp_M_peek)⟩ ⟨xPre_blind, va_recv hK hP (ci := 5) rfl (q0 := 1) rfl, (fun U hU hW => ⟨rfl, xPre_of hZ hS hFc hPc hDc hK U hU hW⟩)⟩ rfl rfl hl.1 rfl (lv_room (Nat.le_of_ble_eq_true rfl)) dM_value_5 ⟨Nat.le_of_ble_eq_true rfl, Nat.le_of_ble_eq_true rfl⟩) hS (fun q _ h => hFc q h) hFc (fun r1 u9 t H1 locs ht hvm hr9 hB hz1 hk1 hS => ?_)
  obtain ⟨hP1, hK1, hD1⟩ := hB
  rw [ht] at hP1
  obtain ⟨hP, hD⟩ := xjoin (W := [(a2, .inl (cT 4, 1024, .inr (.inr (.inr (.inr f35))))), (a0, .inr (5, [v3, .ref a2, .int 0, v4, v5, v6, v7, v8, v9, v10, v11, v12, v13, v14, v15, .ref a1, .int 0, .int 4, v16, v17, v18, v19, v20, v21, v22, v23, v24, v25, v26, v27, v28, v29])), (a1, .inl (cT 0, 4096, .inl f30))]) hP hD [1, 2] [0] 1 rfl rfl (by decide) (by decide) hk1 hFc hP1 hD1
  generalize H1 = H at hP hS ⊢
  rw [hr9]
  refine W.eq (g2 := F0 m 8 ls [.int 110]) rfl ?_
  refine lv_istore_n (lv' := [(1, .int 110), (0, .ref a0)]) hx hb dM_value_8 rfl hl (by decide) rfl (fun ls hl => ?_)
  refine lv_iload_n hx hb dM_value_9 rfl (lv_at hl 0 rfl) ?_
  refine lv_bipush (v := 110) hx hb dM_value_10 (by decide) ?_
  refine lv_icmp_ne (tgt := 23) hx hb dM_value_12 (by decide) (fun h => ((by revert h; decide : False)).elim) (fun _ => ?_)
  refine lv_aload_n hx hb dM_value_15 rfl (lv_at hl 1 rfl) ?_
  refine va_ldcS (q := aK 10) hx hb hown (hZ.2.2.2.2.2.2.2.2.1 ("ValueBenchModel", 69, "null", 10) (List.mem_of_getElem? (i := 17) rfl)) dM_value_16 ?_
  refine lv_iconst (v := 0) hx hb dM_value_18 (by decide) ?_
  obtain ⟨hPc, hDc, hFc⟩ := xcut (wc := [(a0, .inr (5, [v3, .ref a2, .int 0, v4, v5, v6, v7, v8, v9, v10, v11, v12, v13, v14, v15, .ref a1, .int 0, .int 4, v16, v17, v18, v19, v20, v21, v22, v23, v24, v25, v26, v27, v28, v29])), (a1, .inl (cT 0, 4096, .inl f30)), (a2, .inl (cT 4, 1024, .inr (.inr (.inr (.inr f35)))))]) hP hD hS hA [1, 2, 0] rfl rfl (by decide)
  refine va_callr (va_runV (C := "ValueBenchModel") (As := [.ref (aK 10), .int 0]) (rest := []) ⟨hx, hb, hml, hown, htx⟩ (cM_says_3 l hl9 D cT aK aV H.size a0 a1 a2 v3 v4 v5 v6 v7 v8 v9 v10 v11 v12 v13 v14 v15 v16 v17 v18 v19 v20 v21 v22 v23 v24 v25 v26 v27 v28 v29 f30 f35 (by first | rfl | exact h31 | exact h32 | exact h33 | exact h34 | exact h36) (by first | rfl | exact h31 | exact h32 | exact h33 | exact h34 | exact h36) (by first | rfl | exact h31 | exact h32 | exact h33 | exact h34 | exact h36) (by first | rfl | exact h31 | exact h32 | exact h33 | exact h34 | exact h36) (by first | rfl | exact h31 | exact h32 | exact h33 | exact h34 | exact h36)) ⟨callB_of 2 htx (xw_goodC kw_5_237) rfl rfl rfl (htx _ kw_1_5) (htx _ kw_5_234) ⟨by decide, by decide, by decide +kernel⟩ ⟨Nat.le_of_ble_eq_true rfl, Nat.le_of_ble_eq_true rfl⟩, (htx _ kw_5_236), (htx _ kp_M_says)⟩ ⟨xPre_blind, va_recv hK hP (ci := 5) rfl (q0 := 1) rfl, (fun U hU hW => ⟨rfl, xPre_of hZ hS hFc hPc hDc hK U hU hW⟩)⟩ rfl rfl hl.1 rfl (lv_room (Nat.le_of_ble_eq_true rfl)) dM_value_19 ⟨Nat.le_of_ble_eq_true rfl, Nat.le_of_ble_eq_true rfl⟩) hS (fun q _ h => hFc q h) hFc (fun u9 r2 t H1 locs ht hvm hr9 hB hz1 hk1 hS => ?_)
  obtain ⟨hP1, hK1, hD1⟩ := hB
  rw [ht] at hP1
  obtain ⟨hP, hD⟩ := xjoin (W := [(a0, .inr (5, [v3, .ref a2, .int 1, v4, v5, v6, v7, v8, v9, v10, v11, v12, v13, v14, v15, .ref a1, .int 4, .int 4, v16, v17, v18, v19, v20, v21, v22, v23, v24, v25, v26, v27, v28, v29])), (a1, .inl (cT 0, 4096, .inl f30)), (a2, .inl (cT 4, 1024, .inr (.inr (.inr (.inr (va_up f35 0 (some r2))))))), (r2, .inr (6, [.int 0, .long 0, .int 0, .int 0, .int 0, .int 1]))]) hP hD [1, 2, 0] [] 0 rfl rfl (by decide) (by decide) hk1 hFc hP1 hD1
  generalize H1 = H at hP hS ⊢
  refine W.eq (g2 := F0 m 22 ls [.ref r2]) rfl ?_
  obtain ⟨hP9, hD9⟩ := xsub (wc := [(a0, .inr (5, [v3, .ref a2, .int 1, v4, v5, v6, v7, v8, v9, v10, v11, v12, v13, v14, v15, .ref a1, .int 4, .int 4, v16, v17, v18, v19, v20, v21, v22, v23, v24, v25, v26, v27, v28, v29])), (a1, .inl (cT 0, 4096, .inl f30)), (a2, .inl (cT 4, 1024, .inr (.inr (.inr (.inr (va_up f35 0 (some r2))))))), (r2, .inr (6, [.int 0, .long 0, .int 0, .int 0, .int 0, .int 1]))]) hP hD [0, 1, 2, 3] rfl rfl (by decide)
  refine W.widen (k := 1) (n := 6) (Nat.le_of_ble_eq_true rfl) (Nat.le_of_ble_eq_true rfl) ?_
  exact W.aret hx hb hr (Or.inl ⟨_, rfl⟩) (Or.inr ⟨_, rfl⟩) (fun t ht hW => ⟨⟨(), r2, rfl, trivial, by rw [ht]; exact hP9, va_K.moved hW.alike hK, hD9⟩, hS.F ht⟩) hS.2.2 dM_value_22
set_option maxHeartbeats 400000000 in
set_option maxRecDepth 100000 in
theorem cM_json_4 (l : Launch) (hl9 : l.stackTraces = false) (D : va_G) (cT : Nat → ClassId) (aK aV : Nat → Nat) (sz : Nat) (a0 : Nat) (a1 : Nat) (a2 : Nat) (v3 : Value) (v4 : Value) (v5 : Value) (v6 : Value) (v7 : Value) (v8 : Value) (v9 : Value) (v10 : Value) (v11 : Value) (v12 : Value) (v13 : Value) (v14 : Value) (v15 : Value) (v16 : Value) (v17 : Value) (v18 : Value) (v19 : Value) (v20 : Value) (v21 : Value) (v22 : Value) (v23 : Value) (v24 : Value) (v25 : Value) (v26 : Value) (v27 : Value) (v28 : Value) (v29 : Value) (v30 : Value) (v31 : Value) (v32 : Value) (f33 : Nat → Int32) (f38 : Nat → Option Nat) (h34 : f33 0 = 110) (h35 : f33 1 = 117) (h36 : f33 2 = 108) (h37 : f33 3 = 108) (h39 : f38 0 = none) : xMet l yM_json wyM_json 6 1 6 130 D cT aK aV sz [.ref a0, .ref a1, .int 0, .int 4] [(a0, .inr (5, [v3, .ref a2, .int 0, v4, v5, v6, v7, v8, v9, v10, v11, v12, v13, v14, v15, v16, v17, v18, v19, v20, v21, v22, v23, v24, v25, v26, v27, v28, v29, v30, v31, v32])), (a1, .inl (cT 0, 4096, .inl f33)), (a2, .inl (cT 4, 1024, .inr (.inr (.inr (.inr f38)))))] (fun A => va_Qr (fun _ : Unit => True) (fun _ r1 t => xB D xcl cT A [(a0, .inr (5, [v3, .ref a2, .int 1, v4, v5, v6, v7, v8, v9, v10, v11, v12, v13, v14, v15, .ref a1, .int 4, .int 4, .int 0, v20, v21, v22, v23, v24, v25, v26, v27, v28, v29, v30, v31, v32])), (a1, .inl (cT 0, 4096, .inl f33)), (a2, .inl (cT 4, 1024, .inr (.inr (.inr (.inr (va_up f38 0 (some r1))))))), (r1, .inr (6, [.int 0, .long 0, .int 0, .int 0, .int 0, .int 1]))] t) A) := by
  refine Met.ofW (cc := prog_13_method_32_code) (maxL := 5) (ret := (some (.object "ValueBenchModel$V"))) (by decide) rfl ?_
  intro p e s m args below meth c s₁ B hml hv
  obtain ⟨rfl, hsz, hZ, hP, hK, hD0⟩ := hv
  have hx := B.exec
  have hb := B.bytes
  have hr := B.returns
  have hts := atoms_spec (ws := wyM_json) B.pre
  have htx := fun w h => hts w (List.mem_cons_of_mem _ h)
  have hown : s.vm.findClass "ValueBenchModel" = some m.cls := findClass_of_methodNamed B.named
  have hlocks := B.notSynchronized
  subst hsz
  have hD := hD0.self (sz := s.heap.size)
  generalize hAe : va_A [(a0, .inr (5, [v3, .ref a2, .int 0, v4, v5, v6, v7, v8, v9, v10, v11, v12, v13, v14, v15, v16, v17, v18, v19, v20, v21, v22, v23, v24, v25, v26, v27, v28, v29, v30, v31, v32])), (a1, .inl (cT 0, 4096, .inl f33)), (a2, .inl (cT 4, 1024, .inr (.inr (.inr (.inr f38)))))] s.heap.size = A at hD hZ ⊢
  have hA : ∀ q : Nat, s.heap.size ≤ q → A q := fun q h => by rw [← hAe]; exact Or.inr h
  have hS : va_S A s.heap s.heap [] := va_S.rf
  have hP : va_P D xcl [(a0, .inr (5, [v3, .ref a2, .int 0, v4, v5, v6, v7, v8, v9, v10, v11, v12, v13, v14, v15, v16, v17, v18, v19, v20, v21, v22, v23, v24, v25, v26, v27, v28, v29, v30, v31, v32])), (a1, .inl (cT 0, 4096, .inl f33)), (a2, .inl (cT 4, 1024, .inr (.inr (.inr (.inr f38)))))] s.heap := hP
  have hl := lv_entry ([.ref a0, .ref a1, .int 0, .int 4]) (n := 5) (Nat.le_of_ble_eq_true rfl)
  rw [lg_entry_eq]
  generalize (lg_sl ([.ref a0, .ref a1, .int 0, .int 4]) ++ List.replicate (5 - (lg_sl ([.ref a0, .ref a1, .int 0, .int 4])).length) Slot.unset).toArray = ls at hl ⊢
  have hl : lv_has ls 5 [(0, .ref a0), (1, .ref a1), (2, .int 0), (3, .int 4)] := hl
  refine lv_aload_n hx hb dM_json_0 rfl (lv_at hl 0 rfl) ?_
  refine lv_aload_n hx hb dM_json_1 rfl (lv_at hl 1 rfl) ?_
  refine va_put (D := D) (ci := 5) (v := .ref a1) (ty := (.array .byte)) (C := "ValueBenchModel") (T := TM) (N := 32) hx hb htx inM tyM tyM_ok nmM hown hK hP hD hS 0 rfl rfl 15 (by decide) (htx _ kw_5_102) (fun _ h9 => h9) rfl (by decide +kernel) rfl rfl (Nat.le_of_ble_eq_true rfl) dM_json_2 (fun H locs hP hD hS => ?_)
  obtain ⟨hP, hD⟩ : xPD D xcl A [(a0, .inr (5, [v3, .ref a2, .int 0, v4, v5, v6, v7, v8, v9, v10, v11, v12, v13, v14, v15, .ref a1, v17, v18, v19, v20, v21, v22, v23, v24, v25, v26, v27, v28, v29, v30, v31, v32])), (a1, .inl (cT 0, 4096, .inl f33)), (a2, .inl (cT 4, 1024, .inr (.inr (.inr (.inr f38)))))] H := ⟨hP, hD⟩
  refine lv_aload_n hx hb dM_json_5 rfl (lv_at hl 0 rfl) ?_
  refine lv_iload_n hx hb dM_json_6 rfl (lv_at hl 2 rfl) ?_
  refine va_put (D := D) (ci := 5) (v := .int 0) (ty := .int) (C := "ValueBenchModel") (T := TM) (N := 32) hx hb htx inM tyM tyM_ok nmM hown hK hP hD hS 0 rfl rfl 16 (by decide) (htx _ kw_5_103) (fun _ h9 => h9) rfl (by decide +kernel) rfl rfl (Nat.le_of_ble_eq_true rfl) dM_json_7 (fun H locs hP hD hS => ?_)
  obtain ⟨hP, hD⟩ : xPD D xcl A [(a0, .inr (5, [v3, .ref a2, .int 0, v4, v5, v6, v7, v8, v9, v10, v11, v12, v13, v14, v15, .ref a1, .int 0, v18, v19, v20, v21, v22, v23, v24, v25, v26, v27, v28, v29, v30, v31, v32])), (a1, .inl (cT 0, 4096, .inl f33)), (a2, .inl (cT 4, 1024, .inr (.inr (.inr (.inr f38)))))] H := ⟨hP, hD⟩
  refine lv_aload_n hx hb dM_json_10 rfl (lv_at hl 0 rfl) ?_
  refine lv_iload_n hx hb dM_json_11 rfl (lv_at hl 3 rfl) ?_
  refine va_put (D := D) (ci := 5) (v := .int 4) (ty := .int) (C := "ValueBenchModel") (T := TM) (N := 32) hx hb htx inM tyM tyM_ok nmM hown hK hP hD hS 0 rfl rfl 17 (by decide) (htx _ kw_5_104) (fun _ h9 => h9) rfl (by decide +kernel) rfl rfl (Nat.le_of_ble_eq_true rfl) dM_json_12 (fun H locs hP hD hS => ?_)
  obtain ⟨hP, hD⟩ : xPD D xcl A [(a0, .inr (5, [v3, .ref a2, .int 0, v4, v5, v6, v7, v8, v9, v10, v11, v12, v13, v14, v15, .ref a1, .int 0, .int 4, v19, v20, v21, v22, v23, v24, v25, v26, v27, v28, v29, v30, v31, v32])), (a1, .inl (cT 0, 4096, .inl f33)), (a2, .inl (cT 4, 1024, .inr (.inr (.inr (.inr f38)))))] H := ⟨hP, hD⟩
  refine lv_aload_n hx hb dM_json_15 rfl (lv_at hl 0 rfl) ?_
  refine lv_iconst (v := 0) hx hb dM_json_16 (by decide) ?_
  refine va_put (D := D) (ci := 5) (v := .int 0) (ty := .int) (C := "ValueBenchModel") (T := TM) (N := 32) hx hb htx inM tyM tyM_ok nmM hown hK hP hD hS 0 rfl rfl 18 (by decide) (htx _ kw_5_105) (fun _ h9 => h9) rfl (by decide +kernel) rfl rfl (Nat.le_of_ble_eq_true rfl) dM_json_17 (fun H locs hP hD hS => ?_)
  obtain ⟨hP, hD⟩ : xPD D xcl A [(a0, .inr (5, [v3, .ref a2, .int 0, v4, v5, v6, v7, v8, v9, v10, v11, v12, v13, v14, v15, .ref a1, .int 0, .int 4, .int 0, v20, v21, v22, v23, v24, v25, v26, v27, v28, v29, v30, v31, v32])), (a1, .inl (cT 0, 4096, .inl f33)), (a2, .inl (cT 4, 1024, .inr (.inr (.inr (.inr f38)))))] H := ⟨hP, hD⟩
  refine lv_aload_n hx hb dM_json_20 rfl (lv_at hl 0 rfl) ?_
  obtain ⟨hPc, hDc, hFc⟩ := xcut (wc := [(a0, .inr (5, [v3, .ref a2, .int 0, v4, v5, v6, v7, v8, v9, v10, v11, v12, v13, v14, v15, .ref a1, .int 0, .int 4, .int 0, v20, v21, v22, v23, v24, v25, v26, v27, v28, v29, v30, v31, v32])), (a1, .inl (cT 0, 4096, .inl f33)), (a2, .inl (cT 4, 1024, .inr (.inr (.inr (.inr f38)))))]) hP hD hS hA [0, 1, 2] rfl rfl (by decide)
  refine va_callr (va_runV (C := "ValueBenchModel") (As := []) (rest := []) ⟨hx, hb, hml, hown, htx⟩ (cM_value_4 l hl9 D cT aK aV H.size a0 a1 a2 v3 v4 v5 v6 v7 v8 v9 v10 v11 v12 v13 v14 v15 (.int 0) v20 v21 v22 v23 v24 v25 v26 v27 v28 v29 v30 v31 v32 f33 f38 (by first | rfl | exact h34 | exact h35 | exact h36 | exact h37 | exact h39) (by first | rfl | exact h34 | exact h35 | exact h36 | exact h37 | exact h39) (by first | rfl | exact h34 | exact h35 | exact h36 | exact h37 | exact h39) (by first | rfl | exact h34 | exact h35 | exact h36 | exact h37 | exact h39) (by first | rfl | exact h34 | exact h35 | exact h36 | exact h37 | exact h39)) ⟨callB_of 0 htx (xw_goodC kw_5_225) rfl rfl rfl (htx _ kw_1_5) (htx _ kw_5_222) ⟨by decide, by decide, by decide +kernel⟩ ⟨Nat.le_of_ble_eq_true rfl, Nat.le_of_ble_eq_true rfl⟩, (htx _ kw_5_224), (htx _ kp_M_value)⟩ ⟨xPre_blind, va_recv hK hP (ci := 5) rfl (q0 := 0) rfl, (fun U hU hW => ⟨rfl, xPre_of hZ hS hFc hPc hDc hK U hU hW⟩)⟩ rfl rfl hl.1 rfl (lv_room (Nat.le_of_ble_eq_true rfl)) dM_json_21 ⟨Nat.le_of_ble_eq_true rfl, Nat.le_of_ble_eq_true rfl⟩) hS (fun q _ h => hFc q h) hFc (fun u9 r1 t H1 locs ht hvm hr9 hB hz1 hk1 hS => ?_)
  obtain ⟨hP1, hK1, hD1⟩ := hB
  rw [ht] at hP1
  obtain ⟨hP, hD⟩ := xjoin (W := [(a0, .inr (5, [v3, .ref a2, .int 1, v4, v5, v6, v7, v8, v9, v10, v11, v12, v13, v14, v15, .ref a1, .int 4, .int 4, .int 0, v20, v21, v22, v23, v24, v25, v26, v27, v28, v29, v30, v31, v32])), (a1, .inl (cT 0, 4096, .inl f33)), (a2, .inl (cT 4, 1024, .inr (.inr (.inr (.inr (va_up f38 0 (some r1))))))), (r1, .inr (6, [.int 0, .long 0, .int 0, .int 0, .int 0, .int 1]))]) hP hD [0, 1, 2] [] 0 rfl rfl (by decide) (by decide) hk1 hFc hP1 hD1
  generalize H1 = H at hP hS ⊢
  refine W.eq (g2 := F0 m 24 ls [.ref r1]) rfl ?_
  refine lv_astore (lv' := [(4, .ref r1), (0, .ref a0), (1, .ref a1), (2, .int 0), (3, .int 4)]) hx hb dM_json_24 hl (by decide) rfl (fun ls hl => ?_)
  refine lv_aload_n hx hb dM_json_26 rfl (lv_at hl 1 rfl) ?_
  obtain ⟨hPc, hDc, hFc⟩ := xcut (wc := [(a0, .inr (5, [v3, .ref a2, .int 1, v4, v5, v6, v7, v8, v9, v10, v11, v12, v13, v14, v15, .ref a1, .int 4, .int 4, .int 0, v20, v21, v22, v23, v24, v25, v26, v27, v28, v29, v30, v31, v32]))]) hP hD hS hA [0] rfl rfl (by decide)
  refine va_callv (va_runV (C := "ValueBenchModel") (As := []) (rest := []) ⟨hx, hb, hml, hown, htx⟩ (cM_blanks_2 l hl9 D cT aK aV H.size a0 v3 (.ref a2) (.int 1) v4 v5 v6 v7 v8 v9 v10 v11 v12 v13 v14 v15 (.ref a1) (.int 0) v20 v21 v22 v23 v24 v25 v26 v27 v28 v29 v30 v31 v32) ⟨callB_of 0 htx (xw_goodC kw_5_229) rfl rfl rfl (htx _ kw_1_5) (htx _ kw_5_226) ⟨by decide, by decide, by decide +kernel⟩ ⟨Nat.le_of_ble_eq_true rfl, Nat.le_of_ble_eq_true rfl⟩, (htx _ kw_5_228), (htx _ kp_M_blanks)⟩ ⟨xPre_blind, va_recv hK hP (ci := 5) rfl (q0 := 0) rfl, (fun U hU hW => ⟨rfl, xPre_of hZ hS hFc hPc hDc hK U hU hW⟩)⟩ rfl rfl hl.1 rfl (lv_room (Nat.le_of_ble_eq_true rfl)) dM_json_27 ⟨Nat.le_of_ble_eq_true rfl, Nat.le_of_ble_eq_true rfl⟩) hS (fun q _ h => hFc q h) hFc (fun u9 t H1 locs ht hvm hr9 hB hz1 hk1 hS => ?_)
  obtain ⟨hP1, hK1, hD1⟩ := hB
  rw [ht] at hP1
  obtain ⟨hP, hD⟩ := xjoin (W := [(a1, .inl (cT 0, 4096, .inl f33)), (a2, .inl (cT 4, 1024, .inr (.inr (.inr (.inr (va_up f38 0 (some r1))))))), (r1, .inr (6, [.int 0, .long 0, .int 0, .int 0, .int 0, .int 1])), (a0, .inr (5, [v3, .ref a2, .int 1, v4, v5, v6, v7, v8, v9, v10, v11, v12, v13, v14, v15, .ref a1, .int 4, .int 4, .int 0, v20, v21, v22, v23, v24, v25, v26, v27, v28, v29, v30, v31, v32]))]) hP hD [0] [1, 2, 3] 3 rfl rfl (by decide) (by decide) hk1 hFc hP1 hD1
  generalize H1 = H at hP hS ⊢
  refine lv_aload_n hx hb dM_json_30 rfl (lv_at hl 1 rfl) ?_
  refine va_get (D := D) (ci := 5) (v := .int 4) (C := "ValueBenchModel") (T := TM) (N := 32) hx hb htx inM hown hK hP 3 rfl rfl 16 (by decide) (htx _ kw_5_103) (fun _ h9 => h9) rfl dM_json_31 ?_
  refine lv_aload_n hx hb dM_json_34 rfl (lv_at hl 1 rfl) ?_
  refine va_get (D := D) (ci := 5) (v := .int 4) (C := "ValueBenchModel") (T := TM) (N := 32) hx hb htx inM hown hK hP 3 rfl rfl 17 (by decide) (htx _ kw_5_104) (fun _ h9 => h9) rfl dM_json_35 ?_
  refine lv_icmp_ge (tgt := 49) hx hb dM_json_38 (by decide) (fun _ => ?_) (fun h => ((by revert h; decide : False)).elim)
  refine lv_aload hx hb dM_json_49 (lv_at hl 0 rfl) ?_
  obtain ⟨hP9, hD9⟩ := xsub (wc := [(a0, .inr (5, [v3, .ref a2, .int 1, v4, v5, v6, v7, v8, v9, v10, v11, v12, v13, v14, v15, .ref a1, .int 4, .int 4, .int 0, v20, v21, v22, v23, v24, v25, v26, v27, v28, v29, v30, v31, v32])), (a1, .inl (cT 0, 4096, .inl f33)), (a2, .inl (cT 4, 1024, .inr (.inr (.inr (.inr (va_up f38 0 (some r1))))))), (r1, .inr (6, [.int 0, .long 0, .int 0, .int 0, .int 0, .int 1]))]) hP hD [3, 0, 1, 2] rfl rfl (by decide)
  refine W.widen (k := 1) (n := 6) (Nat.le_of_ble_eq_true rfl) (Nat.le_of_ble_eq_true rfl) ?_
  exact W.aret hx hb hr (Or.inl ⟨_, rfl⟩) (Or.inr ⟨_, rfl⟩) (fun t ht hW => ⟨⟨(), r1, rfl, trivial, by rw [ht]; exact hP9, va_K.moved hW.alike hK, hD9⟩, hS.F ht⟩) hS.2.2 dM_json_51
set_option maxHeartbeats 400000000 in
set_option maxRecDepth 100000 in
theorem cM_register_3 (l : Launch) (hl9 : l.stackTraces = false) (D : va_G) (cT : Nat → ClassId) (aK aV : Nat → Nat) (sz : Nat) (a0 : Nat) (a1 : Nat) (a2 : Nat) (a3 : Nat) (a4 : Nat) (x5 : Int32) (v10 : Value) (v11 : Value) (v12 : Value) (v13 : Value) (v14 : Value) (v15 : Value) (v16 : Value) (v17 : Value) (v18 : Value) (v19 : Value) (v20 : Value) (v21 : Value) (v22 : Value) (v23 : Value) (v24 : Value) (v25 : Value) (v26 : Value) (v27 : Value) (v28 : Value) (v29 : Value) (v30 : Value) (v31 : Value) (v32 : Value) (v33 : Value) (v34 : Value) (v35 : Value) (v36 : Value) (v37 : Value) (f38 : Nat → Option Nat) (f40 : Nat → Int32) (f42 : Nat → Int32) (f47 : Nat → Option Nat) (h6 : ¬ x5 < 0) (h7 : ¬ 7 < x5) (h8 : x5 ≤ 7) (h9 : vp_in x5 8) (h39 : f38 x5.toNatClampNeg = some a3) (h41 : f40 x5.toNatClampNeg = 4) (h43 : f42 0 = 110) (h44 : f42 1 = 117) (h45 : f42 2 = 108) (h46 : f42 3 = 108) (h48 : f47 0 = none) : xMet l yM_register wyM_register 7 1 6 154 D cT aK aV sz [.ref a0, .int x5] [(a0, .inr (5, [v10, .ref a4, .int 0, v11, v12, v13, v14, v15, v16, v17, v18, v19, v20, v21, v22, v23, v24, v25, v26, v27, v28, v29, v30, v31, .ref a1, .ref a2, v32, v33, v34, v35, v36, v37])), (a1, .inl (cT 5, 8, .inr (.inr (.inr (.inr f38))))), (a2, .inl (cT 1, 8, .inl f40)), (a3, .inl (cT 0, 4096, .inl f42)), (a4, .inl (cT 4, 1024, .inr (.inr (.inr (.inr f47)))))] (fun A => va_Qr (fun _ : Unit => True) (fun _ r1 t => xB D xcl cT A [(a0, .inr (5, [v10, .ref a4, .int 1, v11, v12, v13, v14, v15, v16, v17, v18, v19, v20, v21, v22, .ref a3, .int 4, .int 4, .int 0, .int 100, v28, v29, v30, v31, .ref a1, .ref a2, v32, v33, v34, v35, v36, v37])), (a1, .inl (cT 5, 8, .inr (.inr (.inr (.inr f38))))), (a2, .inl (cT 1, 8, .inl f40)), (a3, .inl (cT 0, 4096, .inl f42)), (a4, .inl (cT 4, 1024, .inr (.inr (.inr (.inr (va_up f47 0 (some r1))))))), (r1, .inr (6, [.int 0, .long 0, .int 0, .int 0, .int 0, .int 1]))] t) A) := by
  refine Met.ofW (cc := prog_13_method_79_code) (maxL := 2) (ret := (some (.object "ValueBenchModel$V"))) (by decide) rfl ?_
  intro p e s m args below meth c s₁ B hml hv
  obtain ⟨rfl, hsz, hZ, hP, hK, hD0⟩ := hv
  have hx := B.exec
  have hb := B.bytes
  have hr := B.returns
  have hts := atoms_spec (ws := wyM_register) B.pre
  have htx := fun w h => hts w (List.mem_cons_of_mem _ h)
  have hown : s.vm.findClass "ValueBenchModel" = some m.cls := findClass_of_methodNamed B.named
  have hlocks := B.notSynchronized
  subst hsz
  have hD := hD0.self (sz := s.heap.size)
  generalize hAe : va_A [(a0, .inr (5, [v10, .ref a4, .int 0, v11, v12, v13, v14, v15, v16, v17, v18, v19, v20, v21, v22, v23, v24, v25, v26, v27, v28, v29, v30, v31, .ref a1, .ref a2, v32, v33, v34, v35, v36, v37])), (a1, .inl (cT 5, 8, .inr (.inr (.inr (.inr f38))))), (a2, .inl (cT 1, 8, .inl f40)), (a3, .inl (cT 0, 4096, .inl f42)), (a4, .inl (cT 4, 1024, .inr (.inr (.inr (.inr f47)))))] s.heap.size = A at hD hZ ⊢
  have hA : ∀ q : Nat, s.heap.size ≤ q → A q := fun q h => by rw [← hAe]; exact Or.inr h
  have hS : va_S A s.heap s.heap [] := va_S.rf
  have hP : va_P D xcl [(a0, .inr (5, [v10, .ref a4, .int 0, v11, v12, v13, v14, v15, v16, v17, v18, v19, v20, v21, v22, v23, v24, v25, v26, v27, v28, v29, v30, v31, .ref a1, .ref a2, v32, v33, v34, v35, v36, v37])), (a1, .inl (cT 5, 8, .inr (.inr (.inr (.inr f38))))), (a2, .inl (cT 1, 8, .inl f40)), (a3, .inl (cT 0, 4096, .inl f42)), (a4, .inl (cT 4, 1024, .inr (.inr (.inr (.inr f47)))))] s.heap := hP
  have hl := lv_entry ([.ref a0, .int x5]) (n := 2) (Nat.le_of_ble_eq_true rfl)
  rw [lg_entry_eq]
  generalize (lg_sl ([.ref a0, .int x5]) ++ List.replicate (2 - (lg_sl ([.ref a0, .int x5])).length) Slot.unset).toArray = ls at hl ⊢
  have hl : lv_has ls 2 [(0, .ref a0), (1, .int x5)] := hl
  refine lv_aload_n hx hb dM_register_0 rfl (lv_at hl 0 rfl) ?_
  refine lv_bipush (v := 100) hx hb dM_register_1 (by decide) ?_
  refine va_put (D := D) (ci := 5) (v := .int 100) (ty := .int) (C := "ValueBenchModel") (T := TM) (N := 32) hx hb htx inM tyM tyM_ok nmM hown hK hP hD hS 0 rfl rfl 19 (by decide) (htx _ kw_5_106) (fun _ h9 => h9) rfl (by decide +kernel) rfl rfl (Nat.le_of_ble_eq_true rfl) dM_register_3 (fun H locs hP hD hS => ?_)
  obtain ⟨hP, hD⟩ : xPD D xcl A [(a0, .inr (5, [v10, .ref a4, .int 0, v11, v12, v13, v14, v15, v16, v17, v18, v19, v20, v21, v22, v23, v24, v25, v26, .int 100, v28, v29, v30, v31, .ref a1, .ref a2, v32, v33, v34, v35, v36, v37])), (a1, .inl (cT 5, 8, .inr (.inr (.inr (.inr f38))))), (a2, .inl (cT 1, 8, .inl f40)), (a3, .inl (cT 0, 4096, .inl f42)), (a4, .inl (cT 4, 1024, .inr (.inr (.inr (.inr f47)))))] H := ⟨hP, hD⟩
  refine lv_aload_n hx hb dM_register_6 rfl (lv_at hl 0 rfl) ?_
  refine lv_aload_n hx hb dM_register_7 rfl (lv_at hl 0 rfl) ?_
  refine va_get (D := D) (ci := 5) (v := .ref a1) (C := "ValueBenchModel") (T := TM) (N := 32) hx hb htx inM hown hK hP 0 rfl rfl 24 (by decide) (htx _ kw_5_111) (fun _ h9 => h9) rfl dM_register_8 ?_
  refine lv_iload_n hx hb dM_register_11 rfl (lv_at hl 1 rfl) ?_
  refine xx_aldA hx hb hK hP 1 5 rfl rfl h9 dM_register_12 ?_
  refine W.eq (g2 := F0 m 13 ls [va_rf (f38 x5.toNatClampNeg), .ref a0]) rfl ?_
  rw [h39]
  refine W.eq (g2 := F0 m 13 ls [.ref a3, .ref a0]) rfl ?_
  refine lv_iconst (v := 0) hx hb dM_register_13 (by decide) ?_
  refine lv_aload_n hx hb dM_register_14 rfl (lv_at hl 0 rfl) ?_
  refine va_get (D := D) (ci := 5) (v := .ref a2) (C := "ValueBenchModel") (T := TM) (N := 32) hx hb htx inM hown hK hP 0 rfl rfl 25 (by decide) (htx _ kw_5_112) (fun _ h9 => h9) rfl dM_register_15 ?_
  refine lv_iload_n hx hb dM_register_18 rfl (lv_at hl 1 rfl) ?_
  refine va_iald hx hb hK hP 2 1 rfl rfl h9 dM_register_19 ?_
  refine W.eq (g2 := F0 m 20 ls [.int (f40 x5.toNatClampNeg), .int 0, .ref a3, .ref a0]) rfl ?_
  rw [h41]
  refine W.eq (g2 := F0 m 20 ls [.int 4, .int 0, .ref a3, .ref a0]) rfl ?_
  obtain ⟨hPc, hDc, hFc⟩ := xcut (wc := [(a0, .inr (5, [v10, .ref a4, .int 0, v11, v12, v13, v14, v15, v16, v17, v18, v19, v20, v21, v22, v23, v24, v25, v26, .int 100, v28, v29, v30, v31, .ref a1, .ref a2, v32, v33, v34, v35, v36, v37])), (a3, .inl (cT 0, 4096, .inl f42)), (a4, .inl (cT 4, 1024, .inr (.inr (.inr (.inr f47)))))]) hP hD hS hA [0, 3, 4] rfl rfl (by decide)
  refine va_callr (va_runV (C := "ValueBenchModel") (As := [.ref a3, .int 0, .int 4]) (rest := []) ⟨hx, hb, hml, hown, htx⟩ (cM_json_4 l hl9 D cT aK aV H.size a0 a3 a4 v10 v11 v12 v13 v14 v15 v16 v17 v18 v19 v20 v21 v22 v23 v24 v25 v26 (.int 100) v28 v29 v30 v31 (.ref a1) (.ref a2) v32 v33 v34 v35 v36 v37 f42 f47 (by first | rfl | exact h39 | exact h41 | exact h43 | exact h44 | exact h45 | exact h46 | exact h48) (by first | rfl | exact h39 | exact h41 | exact h43 | exact h44 | exact h45 | exact h46 | exact h48) (by first | rfl | exact h39 | exact h41 | exact h43 | exact h44 | exact h45 | exact h46 | exact h48) (by first | rfl | exact h39 | exact h41 | exact h43 | exact h44 | exact h45 | exact h46 | exact h48) (by first | rfl | exact h39 | exact h41 | exact h43 | exact h44 | exact h45 | exact h46 | exact h48)) ⟨callB_of 3 htx (xw_goodC kw_5_221) rfl rfl rfl (htx _ kw_1_5) (htx _ kw_5_218) ⟨by decide, by decide, by decide +kernel⟩ ⟨Nat.le_of_ble_eq_true rfl, Nat.le_of_ble_eq_true rfl⟩, (htx _ kw_5_220), (htx _ kp_M_json)⟩ ⟨xPre_blind, va_recv hK hP (ci := 5) rfl (q0 := 0) rfl, (fun U hU hW => ⟨rfl, xPre_of hZ hS hFc hPc hDc hK U hU hW⟩)⟩ rfl rfl hl.1 rfl (lv_room (Nat.le_of_ble_eq_true rfl)) dM_register_20 ⟨Nat.le_of_ble_eq_true rfl, Nat.le_of_ble_eq_true rfl⟩) hS (fun q _ h => hFc q h) hFc (fun u9 r1 t H1 locs ht hvm hr9 hB hz1 hk1 hS => ?_)
  obtain ⟨hP1, hK1, hD1⟩ := hB
  rw [ht] at hP1
  obtain ⟨hP, hD⟩ := xjoin (W := [(a1, .inl (cT 5, 8, .inr (.inr (.inr (.inr f38))))), (a2, .inl (cT 1, 8, .inl f40)), (a0, .inr (5, [v10, .ref a4, .int 1, v11, v12, v13, v14, v15, v16, v17, v18, v19, v20, v21, v22, .ref a3, .int 4, .int 4, .int 0, .int 100, v28, v29, v30, v31, .ref a1, .ref a2, v32, v33, v34, v35, v36, v37])), (a3, .inl (cT 0, 4096, .inl f42)), (a4, .inl (cT 4, 1024, .inr (.inr (.inr (.inr (va_up f47 0 (some r1))))))), (r1, .inr (6, [.int 0, .long 0, .int 0, .int 0, .int 0, .int 1]))]) hP hD [0, 3, 4] [1, 2] 2 rfl rfl (by decide) (by decide) hk1 hFc hP1 hD1
  generalize H1 = H at hP hS ⊢
  refine W.eq (g2 := F0 m 23 ls [.ref r1]) rfl ?_
  obtain ⟨hP9, hD9⟩ := xsub (wc := [(a0, .inr (5, [v10, .ref a4, .int 1, v11, v12, v13, v14, v15, v16, v17, v18, v19, v20, v21, v22, .ref a3, .int 4, .int 4, .int 0, .int 100, v28, v29, v30, v31, .ref a1, .ref a2, v32, v33, v34, v35, v36, v37])), (a1, .inl (cT 5, 8, .inr (.inr (.inr (.inr f38))))), (a2, .inl (cT 1, 8, .inl f40)), (a3, .inl (cT 0, 4096, .inl f42)), (a4, .inl (cT 4, 1024, .inr (.inr (.inr (.inr (va_up f47 0 (some r1))))))), (r1, .inr (6, [.int 0, .long 0, .int 0, .int 0, .int 0, .int 1]))]) hP hD [2, 0, 1, 3, 4, 5] rfl rfl (by decide)
  refine W.widen (k := 1) (n := 6) (Nat.le_of_ble_eq_true rfl) (Nat.le_of_ble_eq_true rfl) ?_
  exact W.aret hx hb hr (Or.inl ⟨_, rfl⟩) (Or.inr ⟨_, rfl⟩) (fun t ht hW => ⟨⟨(), r1, rfl, trivial, by rw [ht]; exact hP9, va_K.moved hW.alike hK, hD9⟩, hS.F ht⟩) hS.2.2 dM_register_23
set_option maxHeartbeats 400000000 in
set_option maxRecDepth 100000 in
theorem cM_array_0 (l : Launch) (hl9 : l.stackTraces = false) (D : va_G) (cT : Nat → ClassId) (aK aV : Nat → Nat) (sz : Nat) (a0 : Nat) (a1 : Nat) (v2 : Value) (v3 : Value) (v4 : Value) (v5 : Value) (v6 : Value) (v7 : Value) (v8 : Value) (v9 : Value) (v10 : Value) (v11 : Value) (v12 : Value) (v13 : Value) (v14 : Value) (v15 : Value) (v16 : Value) (v17 : Value) (v18 : Value) (v19 : Value) (v20 : Value) (v21 : Value) (v22 : Value) (v23 : Value) (v24 : Value) (v25 : Value) (v26 : Value) (v27 : Value) (v28 : Value) (v29 : Value) (v30 : Value) (v31 : Value) (v32 : Value) (v33 : Value) (v34 : Value) (v35 : Value) (v36 : Value) (v37 : Value) (v38 : Value) : xMetX l yM_array wyM_array 7 1 6 121 D cT aK aV sz [.ref a1, .ref a0] [(a0, .inr (6, [.int 0, v2, v3, v4, v5, v6])), (a1, .inr (5, [v7, v8, v9, v10, v11, v12, v13, v14, v15, v16, v17, v18, v19, v20, v21, v22, v23, v24, v25, v26, v27, v28, v29, v30, v31, v32, v33, v34, v35, v36, v37, v38]))] "java/lang/ArithmeticException" (fun A t => xB D xcl cT A [(a0, .inr (6, [.int 0, v2, v3, v4, v5, v6])), (a1, .inr (5, [v7, v8, v9, v10, v11, v12, v13, v14, .int 1, v16, v17, v18, v19, v20, v21, v22, v23, v24, v25, v26, v27, v28, v29, v30, v31, v32, v33, v34, v35, v36, v37, v38]))] t) := by
  refine vx_ofW (cc := prog_13_method_55_code) (maxL := 2) (ret := (some (.object "ValueBenchModel$V"))) (by decide) rfl ?_
  intro p e s m args below meth c s₁ B hml hne hv
  obtain ⟨rfl, hsz, hZ, hP, hK, hD0⟩ := hv
  have hx := B.exec
  have hb := B.bytes
  have hr := B.returns
  have hts := atoms_spec (ws := wyM_array) B.pre
  have htx := fun w h => hts w (List.mem_cons_of_mem _ h)
  have hown : s.vm.findClass "ValueBenchModel" = some m.cls := findClass_of_methodNamed B.named
  have hlocks := B.notSynchronized
  subst hsz
  have hD := hD0.self (sz := s.heap.size)
  generalize hAe : va_A [(a0, .inr (6, [.int 0, v2, v3, v4, v5, v6])), (a1, .inr (5, [v7, v8, v9, v10, v11, v12, v13, v14, v15, v16, v17, v18, v19, v20, v21, v22, v23, v24, v25, v26, v27, v28, v29, v30, v31, v32, v33, v34, v35, v36, v37, v38]))] s.heap.size = A at hD hZ ⊢
  have hA : ∀ q : Nat, s.heap.size ≤ q → A q := fun q h => by rw [← hAe]; exact Or.inr h
  have hS : va_S A s.heap s.heap [] := va_S.rf
  have hP : va_P D xcl [(a0, .inr (6, [.int 0, v2, v3, v4, v5, v6])), (a1, .inr (5, [v7, v8, v9, v10, v11, v12, v13, v14, v15, v16, v17, v18, v19, v20, v21, v22, v23, v24, v25, v26, v27, v28, v29, v30, v31, v32, v33, v34, v35, v36, v37, v38]))] s.heap := hP
  have hl := lv_entry ([.ref a1, .ref a0]) (n := 2) (Nat.le_of_ble_eq_true rfl)
  rw [lg_entry_eq]
  generalize (lg_sl ([.ref a1, .ref a0]) ++ List.replicate (2 - (lg_sl ([.ref a1, .ref a0])).length) Slot.unset).toArray = ls at hl ⊢
  have hl : lv_has ls 2 [(0, .ref a1), (1, .ref a0)] := hl
  refine lv_aload_n hx hb dM_array_0 rfl (lv_at hl 1 rfl) ?_
  refine va_getN (D := D) (ci := 6) (v := .int 0) (C := "ValueBenchModel$V") (T := TV) (N := 6) hx hb htx inV hown hK hP 0 rfl rfl 0 (by decide) ((hZ.1 (93, "kind", "I") (List.mem_of_getElem? (i := 0) rfl)).use rfl) (fun _ h9 => h9) rfl dM_array_1 ?_
  refine lv_iconst (v := 5) hx hb dM_array_4 (by decide) ?_
  refine lv_icmp_ne (tgt := 12) hx hb dM_array_5 (by decide) (fun _ => ?_) (fun h => ((by revert h; decide : False)).elim)
  refine lv_aload_n hx hb dM_array_12 rfl (lv_at hl 0 rfl) ?_
  refine lv_iconst (v := 1) hx hb dM_array_13 (by decide) ?_
  obtain ⟨hPc, hDc, hFc⟩ := xcut (wc := [(a1, .inr (5, [v7, v8, v9, v10, v11, v12, v13, v14, v15, v16, v17, v18, v19, v20, v21, v22, v23, v24, v25, v26, v27, v28, v29, v30, v31, v32, v33, v34, v35, v36, v37, v38]))]) hP hD hS hA [1] rfl rfl (by decide)
  refine xx_thr (vx_runV (C := "ValueBenchModel") (As := [.int 1]) (rest := []) ⟨hx, hb, hml, hown, htx⟩ (cM_refuse_0 l hl9 D cT aK aV s.heap.size a1 1 v7 v8 v9 v10 v11 v12 v13 v14 v15 v16 v17 v18 v19 v20 v21 v22 v23 v24 v25 v26 v27 v28 v29 v30 v31 v32 v33 v34 v35 v36 v37 v38) ⟨callB_of 1 htx (xw_goodC kw_6_93) rfl rfl rfl (htx _ kw_1_5) (htx _ kw_6_90) ⟨by decide, by decide, by decide +kernel⟩ ⟨Nat.le_of_ble_eq_true rfl, Nat.le_of_ble_eq_true rfl⟩, (htx _ kw_6_92), (htx _ kp_M_refuse)⟩ ⟨xPre_blind, va_recv hK hP (ci := 5) rfl (q0 := 1) rfl, (fun U hU hW => ⟨rfl, xPre_of hZ hS hFc hPc hDc hK U hU hW⟩)⟩ rfl rfl hl.1 rfl (lv_room (Nat.le_of_ble_eq_true rfl)) dM_array_14 ⟨Nat.le_of_ble_eq_true rfl, Nat.le_of_ble_eq_true rfl⟩) hS hFc (fun q _ h => hFc q h) (fun E ce q9 u9 t H1 locs ht hvm _ hB hz1 hk1 hS hce hcv hcl => ?_)
  obtain ⟨rfl, hP1, hK1, hD1⟩ := hB
  rw [ht] at hP1
  obtain ⟨hP, hD⟩ := xjoin (W := [(a0, .inr (6, [.int 0, v2, v3, v4, v5, v6])), (a1, .inr (5, [v7, v8, v9, v10, v11, v12, v13, v14, .int 1, v16, v17, v18, v19, v20, v21, v22, v23, v24, v25, v26, v27, v28, v29, v30, v31, v32, v33, v34, v35, v36, v37, v38]))]) hP hD [1] [0] 1 rfl rfl (by decide) (by decide) hk1 hFc hP1 hD1
  generalize H1 = H at hP hS hce ⊢
  obtain ⟨hP9, hD9⟩ := xsub (wc := [(a0, .inr (6, [.int 0, v2, v3, v4, v5, v6])), (a1, .inr (5, [v7, v8, v9, v10, v11, v12, v13, v14, .int 1, v16, v17, v18, v19, v20, v21, v22, v23, v24, v25, v26, v27, v28, v29, v30, v31, v32, v33, v34, v35, v36, v37, v38]))]) hP hD [0, 1] rfl rfl (by decide)
  exact vx_out (E := "java/lang/ArithmeticException") (fun x h => (hne x h).elim) hlocks hce hcv hcl (fun t ht ha => ⟨(), trivial, ⟨rfl, by rw [ht]; exact hP9, va_K.moved ha hK, hD9⟩, hS.F ht⟩) hS.2.2 (Nat.le_of_ble_eq_true rfl) (Nat.le_of_ble_eq_true rfl)
set_option maxHeartbeats 400000000 in
set_option maxRecDepth 100000 in
theorem cM_keysOf_0 (l : Launch) (hl9 : l.stackTraces = false) (D : va_G) (cT : Nat → ClassId) (aK aV : Nat → Nat) (sz : Nat) (a0 : Nat) (a1 : Nat) (x2 : Int32) (v3 : Value) (v4 : Value) (v5 : Value) (v6 : Value) (v7 : Value) (v8 : Value) (v9 : Value) (v10 : Value) (v11 : Value) (v12 : Value) (v13 : Value) (v14 : Value) (v15 : Value) (v16 : Value) (v17 : Value) (v18 : Value) (v19 : Value) (x20 : Int32) (v21 : Value) (v22 : Value) (v23 : Value) (v24 : Value) (v25 : Value) (v26 : Value) (v27 : Value) (v28 : Value) (v29 : Value) (v30 : Value) (v31 : Value) (v32 : Value) (v33 : Value) (v34 : Value) (v35 : Value) (v36 : Value) (v37 : Value) (v38 : Value) (v39 : Value) : xMetX l yM_keysOf wyM_keysOf 8 1 6 142 D cT aK aV sz [.ref a1, .ref a0, .int x2] [(a0, .inr (6, [.int 0, v3, v4, v5, v6, v7])), (a1, .inr (5, [v8, v9, v10, v11, v12, v13, v14, v15, v16, v17, v18, v19, .int x20, v21, v22, v23, v24, v25, v26, v27, v28, v29, v30, v31, v32, v33, v34, v35, v36, v37, v38, v39]))] "java/lang/ArithmeticException" (fun A t => xB D xcl cT A [(a0, .inr (6, [.int 0, v3, v4, v5, v6, v7])), (a1, .inr (5, [v8, v9, v10, v11, v12, v13, v14, v15, .int 1, v17, v18, v19, .int x20, v21, v22, v23, v24, v25, v26, v27, v28, v29, v30, v31, v32, v33, v34, v35, v36, v37, v38, v39]))] t) := by
  refine vx_ofW (cc := prog_13_method_58_code) (maxL := 5) (ret := (some (.object "ValueBenchModel$V"))) (by decide) rfl ?_
  intro p e s m args below meth c s₁ B hml hne hv
  obtain ⟨rfl, hsz, hZ, hP, hK, hD0⟩ := hv
  have hx := B.exec
  have hb := B.bytes
  have hr := B.returns
  have hts := atoms_spec (ws := wyM_keysOf) B.pre
  have htx := fun w h => hts w (List.mem_cons_of_mem _ h)
  have hown : s.vm.findClass "ValueBenchModel" = some m.cls := findClass_of_methodNamed B.named
  have hlocks := B.notSynchronized
  subst hsz
  have hD := hD0.self (sz := s.heap.size)
  generalize hAe : va_A [(a0, .inr (6, [.int 0, v3, v4, v5, v6, v7])), (a1, .inr (5, [v8, v9, v10, v11, v12, v13, v14, v15, v16, v17, v18, v19, .int x20, v21, v22, v23, v24, v25, v26, v27, v28, v29, v30, v31, v32, v33, v34, v35, v36, v37, v38, v39]))] s.heap.size = A at hD hZ ⊢
  have hA : ∀ q : Nat, s.heap.size ≤ q → A q := fun q h => by rw [← hAe]; exact Or.inr h
  have hS : va_S A s.heap s.heap [] := va_S.rf
  have hP : va_P D xcl [(a0, .inr (6, [.int 0, v3, v4, v5, v6, v7])), (a1, .inr (5, [v8, v9, v10, v11, v12, v13, v14, v15, v16, v17, v18, v19, .int x20, v21, v22, v23, v24, v25, v26, v27, v28, v29, v30, v31, v32, v33, v34, v35, v36, v37, v38, v39]))] s.heap := hP
  have hl := lv_entry ([.ref a1, .ref a0, .int x2]) (n := 5) (Nat.le_of_ble_eq_true rfl)
  rw [lg_entry_eq]
  generalize (lg_sl ([.ref a1, .ref a0, .int x2]) ++ List.replicate (5 - (lg_sl ([.ref a1, .ref a0, .int x2])).length) Slot.unset).toArray = ls at hl ⊢
  have hl : lv_has ls 5 [(0, .ref a1), (1, .ref a0), (2, .int x2)] := hl
  refine lv_aload_n hx hb dM_keysOf_0 rfl (lv_at hl 1 rfl) ?_
  refine va_getN (D := D) (ci := 6) (v := .int 0) (C := "ValueBenchModel$V") (T := TV) (N := 6) hx hb htx inV hown hK hP 0 rfl rfl 0 (by decide) ((hZ.1 (93, "kind", "I") (List.mem_of_getElem? (i := 0) rfl)).use rfl) (fun _ h9 => h9) rfl dM_keysOf_1 ?_
  refine lv_bipush (v := 6) hx hb dM_keysOf_4 (by decide) ?_
  refine lv_icmp_ne (tgt := 16) hx hb dM_keysOf_6 (by decide) (fun _ => ?_) (fun h => ((by revert h; decide : False)).elim)
  refine lv_aload_n hx hb dM_keysOf_16 rfl (lv_at hl 0 rfl) ?_
  refine va_get (D := D) (ci := 5) (v := .int x20) (C := "ValueBenchModel") (T := TM) (N := 32) hx hb htx inM hown hK hP 1 rfl rfl 12 (by decide) (htx _ kw_5_99) (fun _ h9 => h9) rfl dM_keysOf_17 ?_
  refine lv_istore_n (lv' := [(3, .int x20), (0, .ref a1), (1, .ref a0), (2, .int x2)]) hx hb dM_keysOf_20 rfl hl (by decide) rfl (fun ls hl => ?_)
  refine lv_iconst (v := 0) hx hb dM_keysOf_21 (by decide) ?_
  refine lv_istore (lv' := [(4, .int 0), (3, .int x20), (0, .ref a1), (1, .ref a0), (2, .int x2)]) hx hb dM_keysOf_22 hl (by decide) rfl (fun ls hl => ?_)
  refine lv_iload hx hb dM_keysOf_24 (lv_at hl 0 rfl) ?_
  refine lv_aload_n hx hb dM_keysOf_26 rfl (lv_at hl 2 rfl) ?_
  refine lv_aload_n hx hb dM_keysOf_27 rfl (lv_at hl 3 rfl) ?_
  obtain ⟨hPc, hDc, hFc⟩ := xcut (wc := [(a0, .inr (6, [.int 0, v3, v4, v5, v6, v7])), (a1, .inr (5, [v8, v9, v10, v11, v12, v13, v14, v15, v16, v17, v18, v19, .int x20, v21, v22, v23, v24, v25, v26, v27, v28, v29, v30, v31, v32, v33, v34, v35, v36, v37, v38, v39]))]) hP hD hS hA [0, 1] rfl rfl (by decide)
  refine xx_thr (vx_runV (C := "ValueBenchModel") (As := [.ref a0]) (rest := [.int 0]) ⟨hx, hb, hml, hown, htx⟩ (cM_array_0 l hl9 D cT aK aV s.heap.size a0 a1 v3 v4 v5 v6 v7 v8 v9 v10 v11 v12 v13 v14 v15 v16 v17 v18 v19 (.int x20) v21 v22 v23 v24 v25 v26 v27 v28 v29 v30 v31 v32 v33 v34 v35 v36 v37 v38 v39) ⟨callB_of 1 htx (xw_goodC kw_7_42) rfl rfl rfl (htx _ kw_1_5) (htx _ kw_7_39) ⟨by decide, by decide, by decide +kernel⟩ ⟨Nat.le_of_ble_eq_true rfl, Nat.le_of_ble_eq_true rfl⟩, (htx _ kw_7_41), (htx _ kp_M_array)⟩ ⟨xPre_blind, va_recv hK hP (ci := 5) rfl (q0 := 1) rfl, (fun U hU hW => ⟨rfl, xPre_of hZ hS hFc hPc hDc hK U hU hW⟩)⟩ rfl rfl hl.1 rfl (lv_room (Nat.le_of_ble_eq_true rfl)) dM_keysOf_28 ⟨Nat.le_of_ble_eq_true rfl, Nat.le_of_ble_eq_true rfl⟩) hS hFc (fun q _ h => hFc q h) (fun E ce q9 u9 t H1 locs ht hvm _ hB hz1 hk1 hS hce hcv hcl => ?_)
  obtain ⟨rfl, hP1, hK1, hD1⟩ := hB
  rw [ht] at hP1
  obtain ⟨hP, hD⟩ := xjoin (W := [(a0, .inr (6, [.int 0, v3, v4, v5, v6, v7])), (a1, .inr (5, [v8, v9, v10, v11, v12, v13, v14, v15, .int 1, v17, v18, v19, .int x20, v21, v22, v23, v24, v25, v26, v27, v28, v29, v30, v31, v32, v33, v34, v35, v36, v37, v38, v39]))]) hP hD [0, 1] [] 0 rfl rfl (by decide) (by decide) hk1 hFc hP1 hD1
  generalize H1 = H at hP hS hce ⊢
  obtain ⟨hP9, hD9⟩ := xsub (wc := [(a0, .inr (6, [.int 0, v3, v4, v5, v6, v7])), (a1, .inr (5, [v8, v9, v10, v11, v12, v13, v14, v15, .int 1, v17, v18, v19, .int x20, v21, v22, v23, v24, v25, v26, v27, v28, v29, v30, v31, v32, v33, v34, v35, v36, v37, v38, v39]))]) hP hD [0, 1] rfl rfl (by decide)
  exact vx_out (E := "java/lang/ArithmeticException") (fun x h => (hne x h).elim) hlocks hce hcv hcl (fun t ht ha => ⟨(), trivial, ⟨rfl, by rw [ht]; exact hP9, va_K.moved ha hK, hD9⟩, hS.F ht⟩) hS.2.2 (Nat.le_of_ble_eq_true rfl) (Nat.le_of_ble_eq_true rfl)
set_option maxHeartbeats 400000000 in
set_option maxRecDepth 100000 in
theorem cM_one1_2 (l : Launch) (hl9 : l.stackTraces = false) (D : va_G) (cT : Nat → ClassId) (aK aV : Nat → Nat) (sz : Nat) (a0 : Nat) (a1 : Nat) (v2 : Value) (v3 : Value) (v4 : Value) (v5 : Value) (v6 : Value) (v7 : Value) (v8 : Value) (v9 : Value) (v10 : Value) (v11 : Value) (v12 : Value) (v13 : Value) (x14 : Int32) (v15 : Value) (v16 : Value) (v17 : Value) (v18 : Value) (v19 : Value) (v20 : Value) (v21 : Value) (v22 : Value) (v23 : Value) (v24 : Value) (v25 : Value) (v26 : Value) (v27 : Value) (v28 : Value) (v29 : Value) (v30 : Value) (v31 : Value) (v32 : Value) (v33 : Value) (v34 : Value) (v35 : Value) (v36 : Value) (v37 : Value) (v38 : Value) : xMetX l yM_one1 wyM_one1 9 1 6 166 D cT aK aV sz [.ref a0, .int 2, .ref a1] [(a0, .inr (5, [v2, v3, v4, v5, v6, v7, v8, v9, v10, v11, v12, v13, .int x14, v15, v16, v17, v18, v19, v20, v21, v22, v23, v24, v25, v26, v27, v28, v29, v30, v31, v32, v33])), (a1, .inr (6, [.int 0, v34, v35, v36, v37, v38]))] "java/lang/ArithmeticException" (fun A t => xB D xcl cT A [(a0, .inr (5, [v2, v3, v4, v5, v6, v7, v8, v9, .int 1, v11, v12, v13, .int x14, v15, v16, v17, v18, v19, v20, v21, v22, v23, v24, v25, v26, v27, v28, v29, v30, v31, v32, v33])), (a1, .inr (6, [.int 0, v34, v35, v36, v37, v38]))] t) := by
  refine vx_ofW (cc := prog_13_method_66_code) (maxL := 3) (ret := (some (.object "ValueBenchModel$V"))) (by decide) rfl ?_
  intro p e s m args below meth c s₁ B hml hne hv
  obtain ⟨rfl, hsz, hZ, hP, hK, hD0⟩ := hv
  have hx := B.exec
  have hb := B.bytes
  have hr := B.returns
  have hts := atoms_spec (ws := wyM_one1) B.pre
  have htx := fun w h => hts w (List.mem_cons_of_mem _ h)
  have hown : s.vm.findClass "ValueBenchModel" = some m.cls := findClass_of_methodNamed B.named
  have hlocks := B.notSynchronized
  subst hsz
  have hD := hD0.self (sz := s.heap.size)
  generalize hAe : va_A [(a0, .inr (5, [v2, v3, v4, v5, v6, v7, v8, v9, v10, v11, v12, v13, .int x14, v15, v16, v17, v18, v19, v20, v21, v22, v23, v24, v25, v26, v27, v28, v29, v30, v31, v32, v33])), (a1, .inr (6, [.int 0, v34, v35, v36, v37, v38]))] s.heap.size = A at hD hZ ⊢
  have hA : ∀ q : Nat, s.heap.size ≤ q → A q := fun q h => by rw [← hAe]; exact Or.inr h
  have hS : va_S A s.heap s.heap [] := va_S.rf
  have hP : va_P D xcl [(a0, .inr (5, [v2, v3, v4, v5, v6, v7, v8, v9, v10, v11, v12, v13, .int x14, v15, v16, v17, v18, v19, v20, v21, v22, v23, v24, v25, v26, v27, v28, v29, v30, v31, v32, v33])), (a1, .inr (6, [.int 0, v34, v35, v36, v37, v38]))] s.heap := hP
  have hl := lv_entry ([.ref a0, .int 2, .ref a1]) (n := 3) (Nat.le_of_ble_eq_true rfl)
  rw [lg_entry_eq]
  generalize (lg_sl ([.ref a0, .int 2, .ref a1]) ++ List.replicate (3 - (lg_sl ([.ref a0, .int 2, .ref a1])).length) Slot.unset).toArray = ls at hl ⊢
  have hl : lv_has ls 3 [(0, .ref a0), (1, .int 2), (2, .ref a1)] := hl
  refine lv_iload_n hx hb dM_one1_0 rfl (lv_at hl 1 rfl) ?_
  refine lv_tableIn (off := 91) (tgt := 92) hx hb dM_one1_1 (by decide) (by decide) (by decide) (by decide) ?_
  refine lv_aload_n hx hb dM_one1_92 rfl (lv_at hl 0 rfl) ?_
  refine lv_aload_n hx hb dM_one1_93 rfl (lv_at hl 2 rfl) ?_
  refine lv_iconst (v := 1) hx hb dM_one1_94 (by decide) ?_
  obtain ⟨hPc, hDc, hFc⟩ := xcut (wc := [(a1, .inr (6, [.int 0, v34, v35, v36, v37, v38])), (a0, .inr (5, [v2, v3, v4, v5, v6, v7, v8, v9, v10, v11, v12, v13, .int x14, v15, v16, v17, v18, v19, v20, v21, v22, v23, v24, v25, v26, v27, v28, v29, v30, v31, v32, v33]))]) hP hD hS hA [1, 0] rfl rfl (by decide)
  refine xx_thr (vx_runV (C := "ValueBenchModel") (As := [.ref a1, .int 1]) (rest := []) ⟨hx, hb, hml, hown, htx⟩ (cM_keysOf_0 l hl9 D cT aK aV s.heap.size a1 a0 1 v34 v35 v36 v37 v38 v2 v3 v4 v5 v6 v7 v8 v9 v10 v11 v12 v13 x14 v15 v16 v17 v18 v19 v20 v21 v22 v23 v24 v25 v26 v27 v28 v29 v30 v31 v32 v33) ⟨callB_of 2 htx (xw_goodC kw_7_13) rfl rfl rfl (htx _ kw_1_5) (htx _ kw_7_10) ⟨by decide, by decide, by decide +kernel⟩ ⟨Nat.le_of_ble_eq_true rfl, Nat.le_of_ble_eq_true rfl⟩, (htx _ kw_7_12), (htx _ kp_M_keysOf)⟩ ⟨xPre_blind, va_recv hK hP (ci := 5) rfl (q0 := 0) rfl, (fun U hU hW => ⟨rfl, xPre_of hZ hS hFc hPc hDc hK U hU hW⟩)⟩ rfl rfl hl.1 rfl (lv_room (Nat.le_of_ble_eq_true rfl)) dM_one1_95 ⟨Nat.le_of_ble_eq_true rfl, Nat.le_of_ble_eq_true rfl⟩) hS hFc (fun q _ h => hFc q h) (fun E ce q9 u9 t H1 locs ht hvm _ hB hz1 hk1 hS hce hcv hcl => ?_)
  obtain ⟨rfl, hP1, hK1, hD1⟩ := hB
  rw [ht] at hP1
  obtain ⟨hP, hD⟩ := xjoin (W := [(a1, .inr (6, [.int 0, v34, v35, v36, v37, v38])), (a0, .inr (5, [v2, v3, v4, v5, v6, v7, v8, v9, .int 1, v11, v12, v13, .int x14, v15, v16, v17, v18, v19, v20, v21, v22, v23, v24, v25, v26, v27, v28, v29, v30, v31, v32, v33]))]) hP hD [1, 0] [] 0 rfl rfl (by decide) (by decide) hk1 hFc hP1 hD1
  generalize H1 = H at hP hS hce ⊢
  obtain ⟨hP9, hD9⟩ := xsub (wc := [(a0, .inr (5, [v2, v3, v4, v5, v6, v7, v8, v9, .int 1, v11, v12, v13, .int x14, v15, v16, v17, v18, v19, v20, v21, v22, v23, v24, v25, v26, v27, v28, v29, v30, v31, v32, v33])), (a1, .inr (6, [.int 0, v34, v35, v36, v37, v38]))]) hP hD [1, 0] rfl rfl (by decide)
  exact vx_out (E := "java/lang/ArithmeticException") (fun x h => (hne x h).elim) hlocks hce hcv hcl (fun t ht ha => ⟨(), trivial, ⟨rfl, by rw [ht]; exact hP9, va_K.moved ha hK, hD9⟩, hS.F ht⟩) hS.2.2 (Nat.le_of_ble_eq_true rfl) (Nat.le_of_ble_eq_true rfl)
set_option maxHeartbeats 400000000 in
set_option maxRecDepth 100000 in
theorem cM_finish_17 (l : Launch) (hl9 : l.stackTraces = false) (D : va_G) (cT : Nat → ClassId) (aK aV : Nat → Nat) (sz : Nat) (a0 : Nat) (a1 : Nat) (a2 : Nat) (a3 : Nat) (a4 : Nat) (x5 : Int32) (x6 : Int32) (x11 : Int32) (v12 : Value) (v13 : Value) (v14 : Value) (v15 : Value) (v16 : Value) (v17 : Value) (v18 : Value) (v19 : Value) (v20 : Value) (v21 : Value) (x22 : Int32) (v23 : Value) (v24 : Value) (v25 : Value) (v26 : Value) (v27 : Value) (v28 : Value) (v29 : Value) (v30 : Value) (v31 : Value) (v32 : Value) (v33 : Value) (v34 : Value) (v35 : Value) (v36 : Value) (v37 : Value) (v38 : Value) (v39 : Value) (f40 : Nat → Option Nat) (f42 : Nat → Int32) (f44 : Nat → Int32) (f49 : Nat → Option Nat) (h7 : ¬ x6 < 0) (h8 : ¬ 7 < x6) (h9 : x6 ≤ 7) (h10 : vp_in x6 8) (h41 : f40 x6.toNatClampNeg = some a3) (h43 : f42 x6.toNatClampNeg = 4) (h45 : f44 0 = 110) (h46 : f44 1 = 117) (h47 : f44 2 = 108) (h48 : f44 3 = 108) (h50 : f49 0 = none) : xMet l yM_finish wyM_finish 10 2 12 188 D cT aK aV sz [.ref a0, .int x5, .int 1, .int 2, .int x6, .int x11] [(a0, .inr (5, [v12, .ref a4, .int 0, v13, v14, v15, v16, v17, v18, v19, v20, v21, .int x22, v23, v24, v25, v26, v27, v28, v29, v30, v31, v32, v33, .ref a1, .ref a2, v34, v35, v36, v37, v38, v39])), (a1, .inl (cT 5, 8, .inr (.inr (.inr (.inr f40))))), (a2, .inl (cT 1, 8, .inl f42)), (a3, .inl (cT 0, 4096, .inl f44)), (a4, .inl (cT 4, 1024, .inr (.inr (.inr (.inr f49)))))] (fun A => va_Qv (fun _ : Unit => True) (fun _ t => ∃ (r1 : Nat), xB D xcl cT A [(a0, .inr (5, [.int 2, .ref a4, .int 1, v13, v14, v15, v16, v17, .int 1, v19, v20, v21, .int x22, v23, v24, .ref a3, .int 4, .int 4, .int 0, .int 100, v30, v31, v32, v33, .ref a1, .ref a2, v34, v35, v36, v37, .int 1, v39])), (a1, .inl (cT 5, 8, .inr (.inr (.inr (.inr f40))))), (a2, .inl (cT 1, 8, .inl f42)), (a3, .inl (cT 0, 4096, .inl f44)), (a4, .inl (cT 4, 1024, .inr (.inr (.inr (.inr (va_up f49 0 (some r1))))))), (r1, .inr (6, [.int 0, .long 0, .int 0, .int 0, .int 0, .int 1]))] t) A) := by
  refine va_MetW (cc := prog_13_method_90_code) (maxL := 10) (ret := none) (hh := [(0, 128, 131, 83), (0, 128, 149, 86)]) (by decide) rfl ?_
  intro p e s m args below meth c s₁ B hml hv
  obtain ⟨rfl, hsz, hZ, hP, hK, hD0⟩ := hv
  have hx := B.exec
  have hb := B.bytes
  have hr := B.returns
  have hts := atoms_spec (ws := wyM_finish) B.pre
  have htx := fun w h => hts w (List.mem_cons_of_mem _ h)
  have hown : s.vm.findClass "ValueBenchModel" = some m.cls := findClass_of_methodNamed B.named
  have hlocks := B.notSynchronized
  subst hsz
  have hD := hD0.self (sz := s.heap.size)
  generalize hAe : va_A [(a0, .inr (5, [v12, .ref a4, .int 0, v13, v14, v15, v16, v17, v18, v19, v20, v21, .int x22, v23, v24, v25, v26, v27, v28, v29, v30, v31, v32, v33, .ref a1, .ref a2, v34, v35, v36, v37, v38, v39])), (a1, .inl (cT 5, 8, .inr (.inr (.inr (.inr f40))))), (a2, .inl (cT 1, 8, .inl f42)), (a3, .inl (cT 0, 4096, .inl f44)), (a4, .inl (cT 4, 1024, .inr (.inr (.inr (.inr f49)))))] s.heap.size = A at hD hZ ⊢
  have hA : ∀ q : Nat, s.heap.size ≤ q → A q := fun q h => by rw [← hAe]; exact Or.inr h
  have hS : va_S A s.heap s.heap [] := va_S.rf
  have hP : va_P D xcl [(a0, .inr (5, [v12, .ref a4, .int 0, v13, v14, v15, v16, v17, v18, v19, v20, v21, .int x22, v23, v24, v25, v26, v27, v28, v29, v30, v31, v32, v33, .ref a1, .ref a2, v34, v35, v36, v37, v38, v39])), (a1, .inl (cT 5, 8, .inr (.inr (.inr (.inr f40))))), (a2, .inl (cT 1, 8, .inl f42)), (a3, .inl (cT 0, 4096, .inl f44)), (a4, .inl (cT 4, 1024, .inr (.inr (.inr (.inr f49)))))] s.heap := hP
  have hl := lv_entry ([.ref a0, .int x5, .int 1, .int 2, .int x6, .int x11]) (n := 10) (Nat.le_of_ble_eq_true rfl)
  rw [lg_entry_eq]
  generalize (lg_sl ([.ref a0, .int x5, .int 1, .int 2, .int x6, .int x11]) ++ List.replicate (10 - (lg_sl ([.ref a0, .int x5, .int 1, .int 2, .int x6, .int x11])).length) Slot.unset).toArray = ls at hl ⊢
  have hl : lv_has ls 10 [(0, .ref a0), (1, .int x5), (2, .int 1), (3, .int 2), (4, .int x6), (5, .int x11)] := hl
  have htab := vx_table (x := yM_finish) B (hts _ List.mem_cons_self)
  refine lv_aload_n hx hb dM_finish_0 rfl (lv_at hl 0 rfl) ?_
  refine lv_iload hx hb dM_finish_1 (lv_at hl 4 rfl) ?_
  obtain ⟨hPc, hDc, hFc⟩ := xcut (wc := [(a0, .inr (5, [v12, .ref a4, .int 0, v13, v14, v15, v16, v17, v18, v19, v20, v21, .int x22, v23, v24, v25, v26, v27, v28, v29, v30, v31, v32, v33, .ref a1, .ref a2, v34, v35, v36, v37, v38, v39])), (a1, .inl (cT 5, 8, .inr (.inr (.inr (.inr f40))))), (a2, .inl (cT 1, 8, .inl f42)), (a3, .inl (cT 0, 4096, .inl f44)), (a4, .inl (cT 4, 1024, .inr (.inr (.inr (.inr f49)))))]) hP hD hS hA [0, 1, 2, 3, 4] rfl rfl (by decide)
  refine va_callr (va_runV (C := "ValueBenchModel") (As := [.int x6]) (rest := []) ⟨hx, hb, hml, hown, htx⟩ (cM_register_3 l hl9 D cT aK aV s.heap.size a0 a1 a2 a3 a4 x6 v12 v13 v14 v15 v16 v17 v18 v19 v20 v21 (.int x22) v23 v24 v25 v26 v27 v28 v29 v30 v31 v32 v33 v34 v35 v36 v37 v38 v39 f40 f42 f44 f49 h7 h8 h9 h10 (by first | rfl | exact h41 | exact h43 | exact h45 | exact h46 | exact h47 | exact h48 | exact h50) (by first | rfl | exact h41 | exact h43 | exact h45 | exact h46 | exact h47 | exact h48 | exact h50) (by first | rfl | exact h41 | exact h43 | exact h45 | exact h46 | exact h47 | exact h48 | exact h50) (by first | rfl | exact h41 | exact h43 | exact h45 | exact h46 | exact h47 | exact h48 | exact h50) (by first | rfl | exact h41 | exact h43 | exact h45 | exact h46 | exact h47 | exact h48 | exact h50) (by first | rfl | exact h41 | exact h43 | exact h45 | exact h46 | exact h47 | exact h48 | exact h50) (by first | rfl | exact h41 | exact h43 | exact h45 | exact h46 | exact h47 | exact h48 | exact h50)) ⟨callB_of 1 htx (xw_goodC kw_6_170) rfl rfl rfl (htx _ kw_1_5) (htx _ kw_6_167) ⟨by decide, by decide, by decide +kernel⟩ ⟨Nat.le_of_ble_eq_true rfl, Nat.le_of_ble_eq_true rfl⟩, (htx _ kw_6_169), (htx _ kp_M_register)⟩ ⟨xPre_blind, va_recv hK hP (ci := 5) rfl (q0 := 0) rfl, (fun U hU hW => ⟨rfl, xPre_of hZ hS hFc hPc hDc hK U hU hW⟩)⟩ rfl rfl hl.1 rfl (lv_room (Nat.le_of_ble_eq_true rfl)) dM_finish_3 ⟨Nat.le_of_ble_eq_true rfl, Nat.le_of_ble_eq_true rfl⟩) hS (fun q _ h => hFc q h) hFc (fun u9 r1 t H1 locs ht hvm hr9 hB hz1 hk1 hS => ?_)
  obtain ⟨hP1, hK1, hD1⟩ := hB
  rw [ht] at hP1
  obtain ⟨hP, hD⟩ := xjoin (W := [(a0, .inr (5, [v12, .ref a4, .int 1, v13, v14, v15, v16, v17, v18, v19, v20, v21, .int x22, v23, v24, .ref a3, .int 4, .int 4, .int 0, .int 100, v30, v31, v32, v33, .ref a1, .ref a2, v34, v35, v36, v37, v38, v39])), (a1, .inl (cT 5, 8, .inr (.inr (.inr (.inr f40))))), (a2, .inl (cT 1, 8, .inl f42)), (a3, .inl (cT 0, 4096, .inl f44)), (a4, .inl (cT 4, 1024, .inr (.inr (.inr (.inr (va_up f49 0 (some r1))))))), (r1, .inr (6, [.int 0, .long 0, .int 0, .int 0, .int 0, .int 1]))]) hP hD [0, 1, 2, 3, 4] [] 0 rfl rfl (by decide) (by decide) hk1 hFc hP1 hD1
  generalize H1 = H at hP hS ⊢
  refine W.eq (g2 := F0 m 6 ls [.ref r1]) rfl ?_
  refine lv_astore (lv' := [(6, .ref r1), (0, .ref a0), (1, .int x5), (2, .int 1), (3, .int 2), (4, .int x6), (5, .int x11)]) hx hb dM_finish_6 hl (by decide) rfl (fun ls hl => ?_)
  refine lv_iload_n hx hb dM_finish_8 rfl (lv_at hl 3 rfl) ?_
  refine lv_iconst (v := 1) hx hb dM_finish_9 (by decide) ?_
  refine lv_icmp_ne (tgt := 17) hx hb dM_finish_10 (by decide) (fun h => ((by revert h; decide : False)).elim) (fun _ => ?_)
  refine lv_null hx hb dM_finish_13 ?_
  refine lv_goto (tgt := 23) hx hb dM_finish_14 (by decide) ?_
  refine lv_astoreN (lv' := [(7, .null), (6, .ref r1), (0, .ref a0), (1, .int x5), (2, .int 1), (3, .int 2), (4, .int x6), (5, .int x11)]) hx hb dM_finish_23 hl (by decide) rfl (fun ls hl => ?_)
  refine lv_iload_n hx hb dM_finish_25 rfl (lv_at hl 4 rfl) ?_
  refine lv_if_ne (tgt := 43) hx hb dM_finish_26 (by decide) (fun _ => ?_) (fun h => ((by revert h; decide : False)).elim)
  refine lv_iload_n hx hb dM_finish_43 rfl (lv_at hl 4 rfl) ?_
  refine lv_iconst (v := 1) hx hb dM_finish_44 (by decide) ?_
  refine lv_icmp_ne (tgt := 60) hx hb dM_finish_45 (by decide) (fun h => ((by revert h; decide : False)).elim) (fun _ => ?_)
  refine lv_aload_n hx hb dM_finish_48 rfl (lv_at hl 2 rfl) ?_
  refine lv_iload_n hx hb dM_finish_49 rfl (lv_at hl 5 rfl) ?_
  refine lv_aload hx hb dM_finish_50 (lv_at hl 1 rfl) ?_
  obtain ⟨hPc, hDc, hFc⟩ := xcut (wc := [(a0, .inr (5, [v12, .ref a4, .int 1, v13, v14, v15, v16, v17, v18, v19, v20, v21, .int x22, v23, v24, .ref a3, .int 4, .int 4, .int 0, .int 100, v30, v31, v32, v33, .ref a1, .ref a2, v34, v35, v36, v37, v38, v39])), (r1, .inr (6, [.int 0, .long 0, .int 0, .int 0, .int 0, .int 1]))]) hP hD hS hA [0, 5] rfl rfl (by decide)
  refine xx_thr (vx_runV (C := "ValueBenchModel") (As := [.int 2, .ref r1]) (rest := []) ⟨hx, hb, hml, hown, htx⟩ (cM_one1_2 l hl9 D cT aK aV H.size a0 r1 v12 (.ref a4) (.int 1) v13 v14 v15 v16 v17 v18 v19 v20 v21 x22 v23 v24 (.ref a3) (.int 4) (.int 4) (.int 0) (.int 100) v30 v31 v32 v33 (.ref a1) (.ref a2) v34 v35 v36 v37 v38 v39 (.long 0) (.int 0) (.int 0) (.int 0) (.int 1)) ⟨callB_of 2 htx (xw_goodC kw_6_237) rfl rfl rfl (htx _ kw_1_5) (htx _ kw_6_234) ⟨by decide, by decide, by decide +kernel⟩ ⟨Nat.le_of_ble_eq_true rfl, Nat.le_of_ble_eq_true rfl⟩, (htx _ kw_6_236), (htx _ kp_M_one1)⟩ ⟨xPre_blind, va_recv hK hP (ci := 5) rfl (q0 := 0) rfl, (fun U hU hW => ⟨rfl, xPre_of hZ hS hFc hPc hDc hK U hU hW⟩)⟩ rfl rfl hl.1 rfl (lv_room (Nat.le_of_ble_eq_true rfl)) dM_finish_52 ⟨Nat.le_of_ble_eq_true rfl, Nat.le_of_ble_eq_true rfl⟩) hS hFc (fun q _ h => hFc q h) (fun E ce q9 u9 t H1 locs ht hvm _ hB hz1 hk1 hS hce hcv hcl => ?_)
  obtain ⟨rfl, hP1, hK1, hD1⟩ := hB
  rw [ht] at hP1
  obtain ⟨hP, hD⟩ := xjoin (W := [(a1, .inl (cT 5, 8, .inr (.inr (.inr (.inr f40))))), (a2, .inl (cT 1, 8, .inl f42)), (a3, .inl (cT 0, 4096, .inl f44)), (a4, .inl (cT 4, 1024, .inr (.inr (.inr (.inr (va_up f49 0 (some r1))))))), (a0, .inr (5, [v12, .ref a4, .int 1, v13, v14, v15, v16, v17, .int 1, v19, v20, v21, .int x22, v23, v24, .ref a3, .int 4, .int 4, .int 0, .int 100, v30, v31, v32, v33, .ref a1, .ref a2, v34, v35, v36, v37, v38, v39])), (r1, .inr (6, [.int 0, .long 0, .int 0, .int 0, .int 0, .int 1]))]) hP hD [0, 5] [1, 2, 3, 4] 4 rfl rfl (by decide) (by decide) hk1 hFc hP1 hD1
  generalize H1 = H at hP hS hce ⊢
  refine vx_catch (own := "ValueBenchModel") (name := "java/lang/ArithmeticException") (E := "java/lang/ArithmeticException") hown [] ⟨0, 128, 131, 83⟩ [⟨0, 128, 149, 86⟩] (by rw [htab]; rfl) (fun z hz => nomatch hz) (by decide) (by decide) (htx _ kw_6_94) ((hZ.2.2.2.2.2.1 "java/lang/ArithmeticException" (List.mem_of_getElem? (i := 3) rfl)).use rfl) hce hcv hcl ?_
  refine lv_astore (lv' := [(6, .ref q9), (7, .null), (0, .ref a0), (1, .int x5), (2, .int 1), (3, .int 2), (4, .int x6), (5, .int x11)]) hx hb dM_finish_131 hl (by decide) rfl (fun ls hl => ?_)
  refine lv_aload_n hx hb dM_finish_133 rfl (lv_at hl 2 rfl) ?_
  refine lv_aload_n hx hb dM_finish_134 rfl (lv_at hl 2 rfl) ?_
  refine va_get (D := D) (ci := 5) (v := .int 1) (C := "ValueBenchModel") (T := TM) (N := 32) hx hb htx inM hown hK hP 4 rfl rfl 8 (by decide) (htx _ kw_5_95) (fun _ h9 => h9) rfl dM_finish_135 ?_
  refine va_put (D := D) (ci := 5) (v := .int 1) (ty := .int) (C := "ValueBenchModel") (T := TM) (N := 32) hx hb htx inM tyM tyM_ok nmM hown hK hP hD hS 4 rfl rfl 30 (by decide) (htx _ kw_5_117) (fun _ h9 => h9) rfl (by decide +kernel) rfl rfl (Nat.le_of_ble_eq_true rfl) dM_finish_138 (fun H locs hP hD hS => ?_)
  obtain ⟨hP, hD⟩ : xPD D xcl A [(a1, .inl (cT 5, 8, .inr (.inr (.inr (.inr f40))))), (a2, .inl (cT 1, 8, .inl f42)), (a3, .inl (cT 0, 4096, .inl f44)), (a4, .inl (cT 4, 1024, .inr (.inr (.inr (.inr (va_up f49 0 (some r1))))))), (a0, .inr (5, [v12, .ref a4, .int 1, v13, v14, v15, v16, v17, .int 1, v19, v20, v21, .int x22, v23, v24, .ref a3, .int 4, .int 4, .int 0, .int 100, v30, v31, v32, v33, .ref a1, .ref a2, v34, v35, v36, v37, .int 1, v39])), (r1, .inr (6, [.int 0, .long 0, .int 0, .int 0, .int 0, .int 1]))] H := ⟨hP, hD⟩
  refine lv_aload_n hx hb dM_finish_141 rfl (lv_at hl 2 rfl) ?_
  refine lv_iconst (v := 2) hx hb dM_finish_142 (by decide) ?_
  refine va_put (D := D) (ci := 5) (v := .int 2) (ty := .int) (C := "ValueBenchModel") (T := TM) (N := 32) hx hb htx inM tyM tyM_ok nmM hown hK hP hD hS 4 rfl rfl 0 (by decide) (htx _ kw_5_87) (fun _ h9 => h9) rfl (by decide +kernel) rfl rfl (Nat.le_of_ble_eq_true rfl) dM_finish_143 (fun H locs hP hD hS => ?_)
  obtain ⟨hP, hD⟩ : xPD D xcl A [(a1, .inl (cT 5, 8, .inr (.inr (.inr (.inr f40))))), (a2, .inl (cT 1, 8, .inl f42)), (a3, .inl (cT 0, 4096, .inl f44)), (a4, .inl (cT 4, 1024, .inr (.inr (.inr (.inr (va_up f49 0 (some r1))))))), (a0, .inr (5, [.int 2, .ref a4, .int 1, v13, v14, v15, v16, v17, .int 1, v19, v20, v21, .int x22, v23, v24, .ref a3, .int 4, .int 4, .int 0, .int 100, v30, v31, v32, v33, .ref a1, .ref a2, v34, v35, v36, v37, .int 1, v39])), (r1, .inr (6, [.int 0, .long 0, .int 0, .int 0, .int 0, .int 1]))] H := ⟨hP, hD⟩
  refine lv_goto (tgt := 156) hx hb dM_finish_146 (by decide) ?_
  obtain ⟨hP9, hD9⟩ := xsub (wc := [(a0, .inr (5, [.int 2, .ref a4, .int 1, v13, v14, v15, v16, v17, .int 1, v19, v20, v21, .int x22, v23, v24, .ref a3, .int 4, .int 4, .int 0, .int 100, v30, v31, v32, v33, .ref a1, .ref a2, v34, v35, v36, v37, .int 1, v39])), (a1, .inl (cT 5, 8, .inr (.inr (.inr (.inr f40))))), (a2, .inl (cT 1, 8, .inl f42)), (a3, .inl (cT 0, 4096, .inl f44)), (a4, .inl (cT 4, 1024, .inr (.inr (.inr (.inr (va_up f49 0 (some r1))))))), (r1, .inr (6, [.int 0, .long 0, .int 0, .int 0, .int 0, .int 1]))]) hP hD [4, 0, 1, 2, 3, 5] rfl rfl (by decide)
  refine W.widen (k := 2) (n := 12) (Nat.le_of_ble_eq_true rfl) (Nat.le_of_ble_eq_true rfl) ?_
  exact W.vret hx hb hr (fun t ht hW => ⟨⟨(), rfl, trivial, r1, by rw [ht]; exact hP9, va_K.moved hW.alike hK, hD9⟩, hS.F ht⟩) hS.2.2 dM_finish_156
set_option maxHeartbeats 400000000 in
set_option maxRecDepth 100000 in
theorem cM_one0_10 (l : Launch) (hl9 : l.stackTraces = false) (D : va_G) (cT : Nat → ClassId) (aK aV : Nat → Nat) (sz : Nat) (a0 : Nat) (a1 : Nat) (a2 : Nat) (a3 : Nat) (a4 : Nat) (x5 : Int32) (x10 : Int32) (v15 : Value) (v16 : Value) (v17 : Value) (v18 : Value) (v19 : Value) (v20 : Value) (v21 : Value) (v22 : Value) (v23 : Value) (v24 : Value) (v25 : Value) (v26 : Value) (v27 : Value) (v28 : Value) (v29 : Value) (v30 : Value) (v31 : Value) (v32 : Value) (v33 : Value) (v34 : Value) (v35 : Value) (v36 : Value) (v37 : Value) (v38 : Value) (v39 : Value) (v40 : Value) (v41 : Value) (v42 : Value) (v43 : Value) (f44 : Nat → Option Nat) (f46 : Nat → Int32) (f48 : Nat → Int32) (f53 : Nat → Option Nat) (h6 : ¬ x5 < 0) (h7 : ¬ 7 < x5) (h8 : x5 ≤ 7) (h9 : vp_in x5 8) (h11 : ¬ x10 < 0) (h12 : ¬ 7 < x10) (h13 : x10 ≤ 7) (h14 : vp_in x10 8) (h45 : f44 x10.toNatClampNeg = some a3) (h47 : f46 x10.toNatClampNeg = 4) (h49 : f48 0 = 110) (h50 : f48 1 = 117) (h51 : f48 2 = 108) (h52 : f48 3 = 108) (h54 : f53 0 = none) : xMet l yM_one0 wyM_one0 11 2 12 217 D cT aK aV sz [.ref a0, .int x5, .int 2, .int x10] [(a0, .inr (5, [v15, .ref a4, v16, v17, v18, v19, v20, v21, v22, v23, v24, v25, v26, v27, v28, v29, v30, v31, v32, v33, v34, v35, v36, v37, .ref a1, .ref a2, v38, v39, v40, v41, v42, v43])), (a1, .inl (cT 5, 8, .inr (.inr (.inr (.inr f44))))), (a2, .inl (cT 1, 8, .inl f46)), (a3, .inl (cT 0, 4096, .inl f48)), (a4, .inl (cT 4, 1024, .inr (.inr (.inr (.inr f53)))))] (fun A => va_Qv (fun _ : Unit => True) (fun _ t => ∃ (q3 : Nat), xB D xcl cT A [(a0, .inr (5, [.int 2, .ref a4, .int 1, v17, .int 0, v19, v20, .int 0, .int 1, .int 0, v24, v25, .int 0, v27, v28, .ref a3, .int 4, .int 4, .int 0, .int 100, v34, v35, .int 0, .int 1000000000, .ref a1, .ref a2, v38, v39, v40, v41, .int 1, v43])), (a1, .inl (cT 5, 8, .inr (.inr (.inr (.inr f44))))), (a2, .inl (cT 1, 8, .inl f46)), (a3, .inl (cT 0, 4096, .inl f48)), (a4, .inl (cT 4, 1024, .inr (.inr (.inr (.inr (va_up f53 0 (some q3))))))), (q3, .inr (6, [.int 0, .long 0, .int 0, .int 0, .int 0, .int 1]))] t) A) := by
  refine Met.ofW (cc := prog_13_method_92_code) (maxL := 4) (ret := none) (by decide) rfl ?_
  intro p e s m args below meth c s₁ B hml hv
  obtain ⟨rfl, hsz, hZ, hP, hK, hD0⟩ := hv
  have hx := B.exec
  have hb := B.bytes
  have hr := B.returns
  have hts := atoms_spec (ws := wyM_one0) B.pre
  have htx := fun w h => hts w (List.mem_cons_of_mem _ h)
  have hown : s.vm.findClass "ValueBenchModel" = some m.cls := findClass_of_methodNamed B.named
  have hlocks := B.notSynchronized
  subst hsz
  have hD := hD0.self (sz := s.heap.size)
  generalize hAe : va_A [(a0, .inr (5, [v15, .ref a4, v16, v17, v18, v19, v20, v21, v22, v23, v24, v25, v26, v27, v28, v29, v30, v31, v32, v33, v34, v35, v36, v37, .ref a1, .ref a2, v38, v39, v40, v41, v42, v43])), (a1, .inl (cT 5, 8, .inr (.inr (.inr (.inr f44))))), (a2, .inl (cT 1, 8, .inl f46)), (a3, .inl (cT 0, 4096, .inl f48)), (a4, .inl (cT 4, 1024, .inr (.inr (.inr (.inr f53)))))] s.heap.size = A at hD hZ ⊢
  have hA : ∀ q : Nat, s.heap.size ≤ q → A q := fun q h => by rw [← hAe]; exact Or.inr h
  have hS : va_S A s.heap s.heap [] := va_S.rf
  have hP : va_P D xcl [(a0, .inr (5, [v15, .ref a4, v16, v17, v18, v19, v20, v21, v22, v23, v24, v25, v26, v27, v28, v29, v30, v31, v32, v33, v34, v35, v36, v37, .ref a1, .ref a2, v38, v39, v40, v41, v42, v43])), (a1, .inl (cT 5, 8, .inr (.inr (.inr (.inr f44))))), (a2, .inl (cT 1, 8, .inl f46)), (a3, .inl (cT 0, 4096, .inl f48)), (a4, .inl (cT 4, 1024, .inr (.inr (.inr (.inr f53)))))] s.heap := hP
  have hl := lv_entry ([.ref a0, .int x5, .int 2, .int x10]) (n := 4) (Nat.le_of_ble_eq_true rfl)
  rw [lg_entry_eq]
  generalize (lg_sl ([.ref a0, .int x5, .int 2, .int x10]) ++ List.replicate (4 - (lg_sl ([.ref a0, .int x5, .int 2, .int x10])).length) Slot.unset).toArray = ls at hl ⊢
  have hl : lv_has ls 4 [(0, .ref a0), (1, .int x5), (2, .int 2), (3, .int x10)] := hl
  refine lv_aload_n hx hb dM_one0_0 rfl (lv_at hl 0 rfl) ?_
  obtain ⟨hPc, hDc, hFc⟩ := xcut (wc := [(a0, .inr (5, [v15, .ref a4, v16, v17, v18, v19, v20, v21, v22, v23, v24, v25, v26, v27, v28, v29, v30, v31, v32, v33, v34, v35, v36, v37, .ref a1, .ref a2, v38, v39, v40, v41, v42, v43]))]) hP hD hS hA [0] rfl rfl (by decide)
  refine va_callv (va_runV (C := "ValueBenchModel") (As := []) (rest := []) ⟨hx, hb, hml, hown, htx⟩ (cM_begin_0 l hl9 D cT aK aV s.heap.size a0 v15 (.ref a4) v16 v17 v18 v19 v20 v21 v22 v23 v24 v25 v26 v27 v28 v29 v30 v31 v32 v33 v34 v35 v36 v37 (.ref a1) (.ref a2) v38 v39 v40 v41 v42 v43) ⟨callB_of 0 htx (xw_goodC kw_5_209) rfl rfl rfl (htx _ kw_1_5) (htx _ kw_5_206) ⟨by decide, by decide, by decide +kernel⟩ ⟨Nat.le_of_ble_eq_true rfl, Nat.le_of_ble_eq_true rfl⟩, (htx _ kw_5_208), (htx _ kp_M_begin)⟩ ⟨xPre_blind, va_recv hK hP (ci := 5) rfl (q0 := 0) rfl, (fun U hU hW => ⟨rfl, xPre_of hZ hS hFc hPc hDc hK U hU hW⟩)⟩ rfl rfl hl.1 rfl (lv_room (Nat.le_of_ble_eq_true rfl)) dM_one0_1 ⟨Nat.le_of_ble_eq_true rfl, Nat.le_of_ble_eq_true rfl⟩) hS (fun q _ h => hFc q h) hFc (fun u9 t H1 locs ht hvm hr9 hB hz1 hk1 hS => ?_)
  obtain ⟨hP1, hK1, hD1⟩ := hB
  rw [ht] at hP1
  obtain ⟨hP, hD⟩ := xjoin (W := [(a1, .inl (cT 5, 8, .inr (.inr (.inr (.inr f44))))), (a2, .inl (cT 1, 8, .inl f46)), (a3, .inl (cT 0, 4096, .inl f48)), (a4, .inl (cT 4, 1024, .inr (.inr (.inr (.inr f53))))), (a0, .inr (5, [.int 0, .ref a4, .int 0, v17, .int 0, v19, v20, .int 0, v22, .int 0, v24, v25, .int 0, v27, v28, v29, v30, v31, v32, v33, v34, v35, .int 0, .int 1000000000, .ref a1, .ref a2, v38, v39, v40, v41, v42, v43]))]) hP hD [0] [1, 2, 3, 4] 4 rfl rfl (by decide) (by decide) hk1 hFc hP1 hD1
  generalize H1 = H at hP hS ⊢
  refine lv_aload_n hx hb dM_one0_4 rfl (lv_at hl 0 rfl) ?_
  refine lv_iload_n hx hb dM_one0_5 rfl (lv_at hl 1 rfl) ?_
  obtain ⟨hPc, hDc, hFc⟩ := xcut (wc := []) hP hD hS hA [] rfl rfl (by decide)
  refine va_calli (va_runV (C := "ValueBenchModel") (As := [.int x5]) (rest := []) ⟨hx, hb, hml, hown, htx⟩ (cM_out_2 l hl9 D cT aK aV H.size a0 x5 h6 h7 h8 h9) ⟨callB_of 1 htx (xw_goodC kw_5_217) rfl rfl rfl (htx _ kw_1_5) (htx _ kw_5_214) ⟨by decide, by decide, by decide +kernel⟩ ⟨Nat.le_of_ble_eq_true rfl, Nat.le_of_ble_eq_true rfl⟩, (htx _ kw_5_216), (htx _ kp_M_out)⟩ ⟨xPre_blind, va_recv hK hP (ci := 5) rfl (q0 := 4) rfl, (fun U hU hW => ⟨rfl, xPre_of hZ hS hFc hPc hDc hK U hU hW⟩)⟩ rfl rfl hl.1 rfl (lv_room (Nat.le_of_ble_eq_true rfl)) dM_one0_6 ⟨Nat.le_of_ble_eq_true rfl, Nat.le_of_ble_eq_true rfl⟩) hS (fun q _ h => hFc q h) hFc (fun r1 u9 t H1 locs ht hvm hr9 hB hz1 hk1 hS => ?_)
  obtain ⟨hP1, hK1, hD1⟩ := hB
  rw [ht] at hP1
  obtain ⟨hP, hD⟩ := xjoin (W := [(a1, .inl (cT 5, 8, .inr (.inr (.inr (.inr f44))))), (a2, .inl (cT 1, 8, .inl f46)), (a3, .inl (cT 0, 4096, .inl f48)), (a4, .inl (cT 4, 1024, .inr (.inr (.inr (.inr f53))))), (a0, .inr (5, [.int 0, .ref a4, .int 0, v17, .int 0, v19, v20, .int 0, v22, .int 0, v24, v25, .int 0, v27, v28, v29, v30, v31, v32, v33, v34, v35, .int 0, .int 1000000000, .ref a1, .ref a2, v38, v39, v40, v41, v42, v43]))]) hP hD [] [0, 1, 2, 3, 4] 5 rfl rfl (by decide) (by decide) hk1 hFc hP1 hD1
  generalize H1 = H at hP hS ⊢
  rw [hr9]
  refine W.eq (g2 := F0 m 9 ls [.int 0]) rfl ?_
  refine lv_if_ne (tgt := 30) hx hb dM_one0_9 (by decide) (fun h => ((by revert h; decide : False)).elim) (fun _ => ?_)
  refine lv_iload_n hx hb dM_one0_12 rfl (lv_at hl 2 rfl) ?_
  refine lv_if_lt (tgt := 30) hx hb dM_one0_13 (by decide) (fun h => ((by revert h; decide : False)).elim) (fun _ => ?_)
  refine lv_iload_n hx hb dM_one0_16 rfl (lv_at hl 2 rfl) ?_
  refine lv_bipush (v := 13) hx hb dM_one0_17 (by decide) ?_
  refine lv_icmp_gt (tgt := 30) hx hb dM_one0_19 (by decide) (fun h => ((by revert h; decide : False)).elim) (fun _ => ?_)
  refine lv_aload_n hx hb dM_one0_22 rfl (lv_at hl 0 rfl) ?_
  refine lv_iload_n hx hb dM_one0_23 rfl (lv_at hl 3 rfl) ?_
  obtain ⟨hPc, hDc, hFc⟩ := xcut (wc := []) hP hD hS hA [] rfl rfl (by decide)
  refine va_calli (va_runV (C := "ValueBenchModel") (As := [.int x10]) (rest := []) ⟨hx, hb, hml, hown, htx⟩ (cM_out_2 l hl9 D cT aK aV H.size a0 x10 h11 h12 h13 h14) ⟨callB_of 1 htx (xw_goodC kw_5_217) rfl rfl rfl (htx _ kw_1_5) (htx _ kw_5_214) ⟨by decide, by decide, by decide +kernel⟩ ⟨Nat.le_of_ble_eq_true rfl, Nat.le_of_ble_eq_true rfl⟩, (htx _ kw_5_216), (htx _ kp_M_out)⟩ ⟨xPre_blind, va_recv hK hP (ci := 5) rfl (q0 := 4) rfl, (fun U hU hW => ⟨rfl, xPre_of hZ hS hFc hPc hDc hK U hU hW⟩)⟩ rfl rfl hl.1 rfl (lv_room (Nat.le_of_ble_eq_true rfl)) dM_one0_24 ⟨Nat.le_of_ble_eq_true rfl, Nat.le_of_ble_eq_true rfl⟩) hS (fun q _ h => hFc q h) hFc (fun r2 u9 t H1 locs ht hvm hr9 hB hz1 hk1 hS => ?_)
  obtain ⟨hP1, hK1, hD1⟩ := hB
  rw [ht] at hP1
  obtain ⟨hP, hD⟩ := xjoin (W := [(a1, .inl (cT 5, 8, .inr (.inr (.inr (.inr f44))))), (a2, .inl (cT 1, 8, .inl f46)), (a3, .inl (cT 0, 4096, .inl f48)), (a4, .inl (cT 4, 1024, .inr (.inr (.inr (.inr f53))))), (a0, .inr (5, [.int 0, .ref a4, .int 0, v17, .int 0, v19, v20, .int 0, v22, .int 0, v24, v25, .int 0, v27, v28, v29, v30, v31, v32, v33, v34, v35, .int 0, .int 1000000000, .ref a1, .ref a2, v38, v39, v40, v41, v42, v43]))]) hP hD [] [0, 1, 2, 3, 4] 5 rfl rfl (by decide) (by decide) hk1 hFc hP1 hD1
  generalize H1 = H at hP hS ⊢
  rw [hr9]
  refine W.eq (g2 := F0 m 27 ls [.int 0]) rfl ?_
  refine lv_if_eq (tgt := 38) hx hb dM_one0_27 (by decide) (fun _ => ?_) (fun h => ((by revert h; decide : False)).elim)
  refine lv_aload_n hx hb dM_one0_38 rfl (lv_at hl 0 rfl) ?_
  refine lv_iload_n hx hb dM_one0_39 rfl (lv_at hl 1 rfl) ?_
  refine lv_iconst (v := 1) hx hb dM_one0_40 (by decide) ?_
  refine lv_iload_n hx hb dM_one0_41 rfl (lv_at hl 2 rfl) ?_
  refine lv_iload_n hx hb dM_one0_42 rfl (lv_at hl 3 rfl) ?_
  refine lv_iload_n hx hb dM_one0_43 rfl (lv_at hl 3 rfl) ?_
  obtain ⟨hPc, hDc, hFc⟩ := xcut (wc := [(a0, .inr (5, [.int 0, .ref a4, .int 0, v17, .int 0, v19, v20, .int 0, v22, .int 0, v24, v25, .int 0, v27, v28, v29, v30, v31, v32, v33, v34, v35, .int 0, .int 1000000000, .ref a1, .ref a2, v38, v39, v40, v41, v42, v43])), (a1, .inl (cT 5, 8, .inr (.inr (.inr (.inr f44))))), (a2, .inl (cT 1, 8, .inl f46)), (a3, .inl (cT 0, 4096, .inl f48)), (a4, .inl (cT 4, 1024, .inr (.inr (.inr (.inr f53)))))]) hP hD hS hA [4, 0, 1, 2, 3] rfl rfl (by decide)
  refine va_callv (vx_runVW (C := "ValueBenchModel") (As := [.int x5, .int 1, .int 2, .int x10, .int x10]) (rest := []) ⟨hx, hb, hml, hown, htx⟩ (cM_finish_17 l hl9 D cT aK aV H.size a0 a1 a2 a3 a4 x5 x10 x10 (.int 0) v17 (.int 0) v19 v20 (.int 0) v22 (.int 0) v24 v25 0 v27 v28 v29 v30 v31 v32 v33 v34 v35 (.int 0) (.int 1000000000) v38 v39 v40 v41 v42 v43 f44 f46 f48 f53 h11 h12 h13 h14 (by first | rfl | exact h45 | exact h47 | exact h49 | exact h50 | exact h51 | exact h52 | exact h54) (by first | rfl | exact h45 | exact h47 | exact h49 | exact h50 | exact h51 | exact h52 | exact h54) (by first | rfl | exact h45 | exact h47 | exact h49 | exact h50 | exact h51 | exact h52 | exact h54) (by first | rfl | exact h45 | exact h47 | exact h49 | exact h50 | exact h51 | exact h52 | exact h54) (by first | rfl | exact h45 | exact h47 | exact h49 | exact h50 | exact h51 | exact h52 | exact h54) (by first | rfl | exact h45 | exact h47 | exact h49 | exact h50 | exact h51 | exact h52 | exact h54) (by first | rfl | exact h45 | exact h47 | exact h49 | exact h50 | exact h51 | exact h52 | exact h54)) (xcVW 5 htx (xw_goodC kw_6_195) rfl rfl rfl (htx _ kw_1_5) (htx _ kw_6_192) ⟨by decide, by decide, by decide +kernel⟩ ⟨Nat.le_of_ble_eq_true rfl, Nat.le_of_ble_eq_true rfl⟩ (htx _ kw_6_194) (htx _ kp_M_finish)) ⟨xPre_blind, va_recv hK hP (ci := 5) rfl (q0 := 4) rfl, (fun U hU hW => ⟨rfl, xPre_of hZ hS hFc hPc hDc hK U hU hW⟩)⟩ rfl rfl hl.1 rfl (lv_room (Nat.le_of_ble_eq_true rfl)) dM_one0_44 ⟨Nat.le_of_ble_eq_true rfl, Nat.le_of_ble_eq_true rfl⟩) hS (fun q _ h => hFc q h) hFc (fun u9 t H1 locs ht hvm hr9 hB hz1 hk1 hS => ?_)
  obtain ⟨q3, hP1, hK1, hD1⟩ := hB
  rw [ht] at hP1
  obtain ⟨hP, hD⟩ := xjoin (W := [(a0, .inr (5, [.int 2, .ref a4, .int 1, v17, .int 0, v19, v20, .int 0, .int 1, .int 0, v24, v25, .int 0, v27, v28, .ref a3, .int 4, .int 4, .int 0, .int 100, v34, v35, .int 0, .int 1000000000, .ref a1, .ref a2, v38, v39, v40, v41, .int 1, v43])), (a1, .inl (cT 5, 8, .inr (.inr (.inr (.inr f44))))), (a2, .inl (cT 1, 8, .inl f46)), (a3, .inl (cT 0, 4096, .inl f48)), (a4, .inl (cT 4, 1024, .inr (.inr (.inr (.inr (va_up f53 0 (some q3))))))), (q3, .inr (6, [.int 0, .long 0, .int 0, .int 0, .int 0, .int 1]))]) hP hD [4, 0, 1, 2, 3] [] 0 rfl rfl (by decide) (by decide) hk1 hFc hP1 hD1
  generalize H1 = H at hP hS ⊢
  obtain ⟨hP9, hD9⟩ := xsub (wc := [(a0, .inr (5, [.int 2, .ref a4, .int 1, v17, .int 0, v19, v20, .int 0, .int 1, .int 0, v24, v25, .int 0, v27, v28, .ref a3, .int 4, .int 4, .int 0, .int 100, v34, v35, .int 0, .int 1000000000, .ref a1, .ref a2, v38, v39, v40, v41, .int 1, v43])), (a1, .inl (cT 5, 8, .inr (.inr (.inr (.inr f44))))), (a2, .inl (cT 1, 8, .inl f46)), (a3, .inl (cT 0, 4096, .inl f48)), (a4, .inl (cT 4, 1024, .inr (.inr (.inr (.inr (va_up f53 0 (some q3))))))), (q3, .inr (6, [.int 0, .long 0, .int 0, .int 0, .int 0, .int 1]))]) hP hD [0, 1, 2, 3, 4, 5] rfl rfl (by decide)
  refine W.widen (k := 2) (n := 12) (Nat.le_of_ble_eq_true rfl) (Nat.le_of_ble_eq_true rfl) ?_
  exact W.vret hx hb hr (fun t ht hW => ⟨⟨(), rfl, trivial, q3, by rw [ht]; exact hP9, va_K.moved hW.alike hK, hD9⟩, hS.F ht⟩) hS.2.2 dM_one0_47
set_option maxHeartbeats 400000000 in
set_option maxRecDepth 100000 in
theorem cB_isWithin_17 (l : Launch) (hl9 : l.stackTraces = false) (D : va_G) (cT : Nat → ClassId) (aK aV : Nat → Nat) (sz : Nat) : xMet l yB_isWithin wyB_isWithin 0 0 0 0 D cT aK aV sz [.int 3, .int 13] [] (fun A => va_Qi (fun (r : Int32) (_ : Unit) => r = 1) (fun _ t => xB D xcl cT A [] t) A) := by
  refine Met.ofW (cc := prog_1_method_15_code) (maxL := 2) (ret := (some .boolean)) (by decide) rfl ?_
  intro p e s m args below meth c s₁ B hml hv
  obtain ⟨rfl, hsz, hZ, hP, hK, hD0⟩ := hv
  have hx := B.exec
  have hb := B.bytes
  have hr := B.returns
  have hts := atoms_spec (ws := wyB_isWithin) B.pre
  have htx := fun w h => hts w (List.mem_cons_of_mem _ h)
  have hown : s.vm.findClass "ValueBench" = some m.cls := findClass_of_methodNamed B.named
  have hlocks := B.notSynchronized
  subst hsz
  have hD := hD0.self (sz := s.heap.size)
  generalize hAe : va_A [] s.heap.size = A at hD hZ ⊢
  have hA : ∀ q : Nat, s.heap.size ≤ q → A q := fun q h => by rw [← hAe]; exact Or.inr h
  have hS : va_S A s.heap s.heap [] := va_S.rf
  have hP : va_P D xcl [] s.heap := hP
  have hl := lv_entry ([.int 3, .int 13]) (n := 2) (Nat.le_of_ble_eq_true rfl)
  rw [lg_entry_eq]
  generalize (lg_sl ([.int 3, .int 13]) ++ List.replicate (2 - (lg_sl ([.int 3, .int 13])).length) Slot.unset).toArray = ls at hl ⊢
  have hl : lv_has ls 2 [(0, .int 3), (1, .int 13)] := hl
  refine lv_iload_n hx hb dB_isWithin_0 rfl (lv_at hl 0 rfl) ?_
  refine lv_if_lt (tgt := 13) hx hb dB_isWithin_1 (by decide) (fun h => ((by revert h; decide : False)).elim) (fun _ => ?_)
  refine lv_iload_n hx hb dB_isWithin_4 rfl (lv_at hl 0 rfl) ?_
  refine lv_iload_n hx hb dB_isWithin_5 rfl (lv_at hl 1 rfl) ?_
  refine lv_icmp_gt (tgt := 13) hx hb dB_isWithin_6 (by decide) (fun h => ((by revert h; decide : False)).elim) (fun _ => ?_)
  refine lv_iconst (v := 1) hx hb dB_isWithin_9 (by decide) ?_
  refine lv_goto (tgt := 14) hx hb dB_isWithin_10 (by decide) ?_
  obtain ⟨hP9, hD9⟩ := xsub (wc := []) hP hD [] rfl rfl (by decide)
  refine W.widen (k := 0) (n := 0) (Nat.le_of_ble_eq_true rfl) (Nat.le_of_ble_eq_true rfl) ?_
  exact W.zret (v := 1) hx hb hr rfl (fun t ht hW => ⟨⟨1, (), rfl, rfl, by rw [ht]; exact hP9, va_K.moved hW.alike hK, hD9⟩, hS.F ht⟩) hS.2.2 dB_isWithin_14
set_option maxHeartbeats 400000000 in
set_option maxRecDepth 100000 in
theorem cG_apply_3 (l : Launch) (hl9 : l.stackTraces = false) (D : va_G) (cT : Nat → ClassId) (aK aV : Nat → Nat) (sz : Nat) (a0 : Nat) (a1 : Nat) (b2 : Nat) (b3 : Nat) (b4 : Nat) (v5 : Value) (f6 : Nat → Int64) (h7 : f6 0 = 0) : xMet l yG_apply wyG_apply 3 0 0 67 D cT aK aV sz [.int 3, .ref a0, .ref b2, .ref b3, .ref b4] [(a0, .inr (2, [.ref a1, .int 1, v5])), (a1, .inl (cT 2, 4096, .inr (.inl f6)))] (fun A => va_Qi (fun (r : Int32) (_ : Unit) => r = 1) (fun _ t => xB D xcl cT A [(a0, .inr (2, [.ref a1, .int 1, v5])), (a1, .inl (cT 2, 4096, .inr (.inl f6)))] t) A) := by
  refine Met.ofW (cc := prog_9_method_2_code) (maxL := 5) (ret := (some .int)) (by decide) rfl ?_
  intro p e s m args below meth c s₁ B hml hv
  obtain ⟨rfl, hsz, hZ, hP, hK, hD0⟩ := hv
  have hx := B.exec
  have hb := B.bytes
  have hr := B.returns
  have hts := atoms_spec (ws := wyG_apply) B.pre
  have htx := fun w h => hts w (List.mem_cons_of_mem _ h)
  have hown : s.vm.findClass "ValueBench$Singles" = some m.cls := findClass_of_methodNamed B.named
  have hlocks := B.notSynchronized
  subst hsz
  have hD := hD0.self (sz := s.heap.size)
  generalize hAe : va_A [(a0, .inr (2, [.ref a1, .int 1, v5])), (a1, .inl (cT 2, 4096, .inr (.inl f6)))] s.heap.size = A at hD hZ ⊢
  have hA : ∀ q : Nat, s.heap.size ≤ q → A q := fun q h => by rw [← hAe]; exact Or.inr h
  have hS : va_S A s.heap s.heap [] := va_S.rf
  have hP : va_P D xcl [(a0, .inr (2, [.ref a1, .int 1, v5])), (a1, .inl (cT 2, 4096, .inr (.inl f6)))] s.heap := hP
  have hl := lv_entry ([.int 3, .ref a0, .ref b2, .ref b3, .ref b4]) (n := 5) (Nat.le_of_ble_eq_true rfl)
  rw [lg_entry_eq]
  generalize (lg_sl ([.int 3, .ref a0, .ref b2, .ref b3, .ref b4]) ++ List.replicate (5 - (lg_sl ([.int 3, .ref a0, .ref b2, .ref b3, .ref b4])).length) Slot.unset).toArray = ls at hl ⊢
  have hl : lv_has ls 5 [(0, .int 3), (1, .ref a0), (2, .ref b2), (3, .ref b3), (4, .ref b4)] := hl
  refine lv_iload_n hx hb dG_apply_0 rfl (lv_at hl 0 rfl) ?_
  refine lv_tableIn (off := 131) (tgt := 132) hx hb dG_apply_1 (by decide) (by decide) (by decide) (by decide) ?_
  refine lv_aload_n hx hb dG_apply_132 rfl (lv_at hl 1 rfl) ?_
  refine lv_aload hx hb dG_apply_133 (lv_at hl 4 rfl) ?_
  obtain ⟨hPc, hDc, hFc⟩ := xcut (wc := [(a0, .inr (2, [.ref a1, .int 1, v5])), (a1, .inl (cT 2, 4096, .inr (.inl f6)))]) hP hD hS hA [0, 1] rfl rfl (by decide)
  refine va_calli (va_runS (As := [.ref a0, .ref b4]) (rest := []) ⟨hx, hb, hml, hown, htx⟩ (cG_keys_0 l hl9 D cT aK aV s.heap.size a0 a1 b4 v5 f6 (by first | rfl | exact h7)) ⟨callB_of 2 htx (xw_goodC kw_4_73) rfl rfl rfl (htx _ kw_1_26) (htx _ kw_4_71) ⟨by decide, by decide, by decide +kernel⟩ ⟨Nat.le_of_ble_eq_true rfl, Nat.le_of_ble_eq_true rfl⟩, htx _ kw_4_72⟩ ⟨xPre_blind, (fun U hU hW => ⟨rfl, xPre_of hZ hS hFc hPc hDc hK U hU hW⟩)⟩ rfl rfl hl.1 rfl (lv_room (Nat.le_of_ble_eq_true rfl)) dG_apply_135 ⟨Nat.le_of_ble_eq_true rfl, Nat.le_of_ble_eq_true rfl⟩) hS (fun q _ h => hFc q h) hFc (fun r1 u9 t H1 locs ht hvm hr9 hB hz1 hk1 hS => ?_)
  obtain ⟨hP1, hK1, hD1⟩ := hB
  rw [ht] at hP1
  obtain ⟨hP, hD⟩ := xjoin (W := [(a0, .inr (2, [.ref a1, .int 1, v5])), (a1, .inl (cT 2, 4096, .inr (.inl f6)))]) hP hD [0, 1] [] 0 rfl rfl (by decide) (by decide) hk1 hFc hP1 hD1
  generalize H1 = H at hP hS ⊢
  rw [hr9]
  refine W.eq (g2 := F0 m 138 ls [.int 1]) rfl ?_
  obtain ⟨hP9, hD9⟩ := xsub (wc := [(a0, .inr (2, [.ref a1, .int 1, v5])), (a1, .inl (cT 2, 4096, .inr (.inl f6)))]) hP hD [0, 1] rfl rfl (by decide)
  refine W.widen (k := 0) (n := 0) (Nat.le_of_ble_eq_true rfl) (Nat.le_of_ble_eq_true rfl) ?_
  exact W.iret (v := 1) hx hb hr (fun t ht hW => ⟨⟨1, (), rfl, rfl, by rw [ht]; exact hP9, va_K.moved hW.alike hK, hD9⟩, hS.F ht⟩) hS.2.2 dG_apply_138
set_option maxHeartbeats 400000000 in
set_option maxRecDepth 100000 in
theorem cB_one_9 (l : Launch) (hl9 : l.stackTraces = false) (D : va_G) (cT : Nat → ClassId) (aK aV : Nat → Nat) (sz : Nat) (a0 : Nat) (a1 : Nat) (a2 : Nat) (a3 : Nat) (a4 : Nat) (x5 : Int32) (x10 : Int32) (v15 : Value) (v16 : Value) (b17 : Nat) (b18 : Nat) (v19 : Value) (v20 : Value) (v21 : Value) (v22 : Value) (v23 : Value) (f24 : Nat → Option Nat) (v26 : Value) (f27 : Nat → Int64) (h6 : ¬ x5 < 0) (h7 : ¬ 7 < x5) (h8 : x5 ≤ 7) (h9 : vp_in x5 8) (h11 : ¬ x10 < 0) (h12 : ¬ 7 < x10) (h13 : x10 ≤ 7) (h14 : vp_in x10 8) (h25 : f24 x10.toNatClampNeg = some a3) (h28 : f27 0 = 0) : xMetX l yB_one wyB_one 7 1 6 121 D cT aK aV sz [.ref a0, .int x5, .int 3, .int x10] [(a0, .inr (0, [v15, v16, .ref b17, .ref a2, .ref b18, .ref a1, v19, v20])), (a1, .inr (2, [v21, v22, v23])), (a2, .inl (cT 3, 8, .inr (.inr (.inr (.inr f24))))), (a3, .inr (2, [.ref a4, .int 1, v26])), (a4, .inl (cT 2, 4096, .inr (.inl f27)))] "java/lang/ArithmeticException" (fun A t => xB D xcl cT A [(a0, .inr (0, [v15, v16, .ref b17, .ref a2, .ref b18, .ref a1, v19, .int 1])), (a1, .inr (2, [v21, .int 0, .int 0])), (a2, .inl (cT 3, 8, .inr (.inr (.inr (.inr f24))))), (a3, .inr (2, [.ref a4, .int 1, v26])), (a4, .inl (cT 2, 4096, .inr (.inl f27)))] t) := by
  refine vx_ofW (cc := prog_1_method_9_code) (maxL := 4) (ret := none) (by decide) rfl ?_
  intro p e s m args below meth c s₁ B hml hne hv
  obtain ⟨rfl, hsz, hZ, hP, hK, hD0⟩ := hv
  have hx := B.exec
  have hb := B.bytes
  have hr := B.returns
  have hts := atoms_spec (ws := wyB_one) B.pre
  have htx := fun w h => hts w (List.mem_cons_of_mem _ h)
  have hown : s.vm.findClass "ValueBench" = some m.cls := findClass_of_methodNamed B.named
  have hlocks := B.notSynchronized
  subst hsz
  have hD := hD0.self (sz := s.heap.size)
  generalize hAe : va_A [(a0, .inr (0, [v15, v16, .ref b17, .ref a2, .ref b18, .ref a1, v19, v20])), (a1, .inr (2, [v21, v22, v23])), (a2, .inl (cT 3, 8, .inr (.inr (.inr (.inr f24))))), (a3, .inr (2, [.ref a4, .int 1, v26])), (a4, .inl (cT 2, 4096, .inr (.inl f27)))] s.heap.size = A at hD hZ ⊢
  have hA : ∀ q : Nat, s.heap.size ≤ q → A q := fun q h => by rw [← hAe]; exact Or.inr h
  have hS : va_S A s.heap s.heap [] := va_S.rf
  have hP : va_P D xcl [(a0, .inr (0, [v15, v16, .ref b17, .ref a2, .ref b18, .ref a1, v19, v20])), (a1, .inr (2, [v21, v22, v23])), (a2, .inl (cT 3, 8, .inr (.inr (.inr (.inr f24))))), (a3, .inr (2, [.ref a4, .int 1, v26])), (a4, .inl (cT 2, 4096, .inr (.inl f27)))] s.heap := hP
  have hl := lv_entry ([.ref a0, .int x5, .int 3, .int x10]) (n := 4) (Nat.le_of_ble_eq_true rfl)
  rw [lg_entry_eq]
  generalize (lg_sl ([.ref a0, .int x5, .int 3, .int x10]) ++ List.replicate (4 - (lg_sl ([.ref a0, .int x5, .int 3, .int x10])).length) Slot.unset).toArray = ls at hl ⊢
  have hl : lv_has ls 4 [(0, .ref a0), (1, .int x5), (2, .int 3), (3, .int x10)] := hl
  refine lv_iload_n hx hb dB_one_0 rfl (lv_at hl 1 rfl) ?_
  obtain ⟨hPc, hDc, hFc⟩ := xcut (wc := []) hP hD hS hA [] rfl rfl (by decide)
  refine va_calli (va_runS (As := [.int x5]) (rest := []) ⟨hx, hb, hml, hown, htx⟩ (cB_isRegister_2 l hl9 D cT aK aV s.heap.size x5 h6 h7 h8 h9) ⟨callB_of 1 htx (xw_goodC kw_2_18) rfl rfl rfl (htx _ kw_1_1) (htx _ kw_2_16) ⟨by decide, by decide, by decide +kernel⟩ ⟨Nat.le_of_ble_eq_true rfl, Nat.le_of_ble_eq_true rfl⟩, htx _ kw_2_17⟩ ⟨xPre_blind, (fun U hU hW => ⟨rfl, xPre_of hZ hS hFc hPc hDc hK U hU hW⟩)⟩ rfl rfl hl.1 rfl (lv_room (Nat.le_of_ble_eq_true rfl)) dB_one_1 ⟨Nat.le_of_ble_eq_true rfl, Nat.le_of_ble_eq_true rfl⟩) hS (fun q _ h => hFc q h) hFc (fun r1 u9 t H1 locs ht hvm hr9 hB hz1 hk1 hS => ?_)
  obtain ⟨hP1, hK1, hD1⟩ := hB
  rw [ht] at hP1
  obtain ⟨hP, hD⟩ := xjoin (W := [(a0, .inr (0, [v15, v16, .ref b17, .ref a2, .ref b18, .ref a1, v19, v20])), (a1, .inr (2, [v21, v22, v23])), (a2, .inl (cT 3, 8, .inr (.inr (.inr (.inr f24))))), (a3, .inr (2, [.ref a4, .int 1, v26])), (a4, .inl (cT 2, 4096, .inr (.inl f27)))]) hP hD [] [0, 1, 2, 3, 4] 5 rfl rfl (by decide) (by decide) hk1 hFc hP1 hD1
  generalize H1 = H at hP hS ⊢
  rw [hr9]
  refine W.eq (g2 := F0 m 4 ls [.int 1]) rfl ?_
  refine lv_if_eq (tgt := 27) hx hb dB_one_4 (by decide) (fun h => ((by revert h; decide : False)).elim) (fun _ => ?_)
  refine lv_iload_n hx hb dB_one_7 rfl (lv_at hl 2 rfl) ?_
  refine lv_bipush (v := 13) hx hb dB_one_8 (by decide) ?_
  obtain ⟨hPc, hDc, hFc⟩ := xcut (wc := []) hP hD hS hA [] rfl rfl (by decide)
  refine va_calli (va_runS (As := [.int 3, .int 13]) (rest := []) ⟨hx, hb, hml, hown, htx⟩ (cB_isWithin_17 l hl9 D cT aK aV H.size) ⟨callB_of 2 htx (xw_goodC kw_1_218) rfl rfl rfl (htx _ kw_1_1) (htx _ kw_1_216) ⟨by decide, by decide, by decide +kernel⟩ ⟨Nat.le_of_ble_eq_true rfl, Nat.le_of_ble_eq_true rfl⟩, htx _ kw_1_217⟩ ⟨xPre_blind, (fun U hU hW => ⟨rfl, xPre_of hZ hS hFc hPc hDc hK U hU hW⟩)⟩ rfl rfl hl.1 rfl (lv_room (Nat.le_of_ble_eq_true rfl)) dB_one_10 ⟨Nat.le_of_ble_eq_true rfl, Nat.le_of_ble_eq_true rfl⟩) hS (fun q _ h => hFc q h) hFc (fun r2 u9 t H1 locs ht hvm hr9 hB hz1 hk1 hS => ?_)
  obtain ⟨hP1, hK1, hD1⟩ := hB
  rw [ht] at hP1
  obtain ⟨hP, hD⟩ := xjoin (W := [(a0, .inr (0, [v15, v16, .ref b17, .ref a2, .ref b18, .ref a1, v19, v20])), (a1, .inr (2, [v21, v22, v23])), (a2, .inl (cT 3, 8, .inr (.inr (.inr (.inr f24))))), (a3, .inr (2, [.ref a4, .int 1, v26])), (a4, .inl (cT 2, 4096, .inr (.inl f27)))]) hP hD [] [0, 1, 2, 3, 4] 5 rfl rfl (by decide) (by decide) hk1 hFc hP1 hD1
  generalize H1 = H at hP hS ⊢
  rw [hr9]
  refine W.eq (g2 := F0 m 13 ls [.int 1]) rfl ?_
  refine lv_if_eq (tgt := 27) hx hb dB_one_13 (by decide) (fun h => ((by revert h; decide : False)).elim) (fun _ => ?_)
  refine lv_iload_n hx hb dB_one_16 rfl (lv_at hl 3 rfl) ?_
  obtain ⟨hPc, hDc, hFc⟩ := xcut (wc := []) hP hD hS hA [] rfl rfl (by decide)
  refine va_calli (va_runS (As := [.int x10]) (rest := []) ⟨hx, hb, hml, hown, htx⟩ (cB_isRegister_2 l hl9 D cT aK aV H.size x10 h11 h12 h13 h14) ⟨callB_of 1 htx (xw_goodC kw_2_18) rfl rfl rfl (htx _ kw_1_1) (htx _ kw_2_16) ⟨by decide, by decide, by decide +kernel⟩ ⟨Nat.le_of_ble_eq_true rfl, Nat.le_of_ble_eq_true rfl⟩, htx _ kw_2_17⟩ ⟨xPre_blind, (fun U hU hW => ⟨rfl, xPre_of hZ hS hFc hPc hDc hK U hU hW⟩)⟩ rfl rfl hl.1 rfl (lv_room (Nat.le_of_ble_eq_true rfl)) dB_one_17 ⟨Nat.le_of_ble_eq_true rfl, Nat.le_of_ble_eq_true rfl⟩) hS (fun q _ h => hFc q h) hFc (fun r3 u9 t H1 locs ht hvm hr9 hB hz1 hk1 hS => ?_)
  obtain ⟨hP1, hK1, hD1⟩ := hB
  rw [ht] at hP1
  obtain ⟨hP, hD⟩ := xjoin (W := [(a0, .inr (0, [v15, v16, .ref b17, .ref a2, .ref b18, .ref a1, v19, v20])), (a1, .inr (2, [v21, v22, v23])), (a2, .inl (cT 3, 8, .inr (.inr (.inr (.inr f24))))), (a3, .inr (2, [.ref a4, .int 1, v26])), (a4, .inl (cT 2, 4096, .inr (.inl f27)))]) hP hD [] [0, 1, 2, 3, 4] 5 rfl rfl (by decide) (by decide) hk1 hFc hP1 hD1
  generalize H1 = H at hP hS ⊢
  rw [hr9]
  refine W.eq (g2 := F0 m 20 ls [.int 1]) rfl ?_
  refine lv_if_eq (tgt := 27) hx hb dB_one_20 (by decide) (fun h => ((by revert h; decide : False)).elim) (fun _ => ?_)
  refine lv_iconst (v := 1) hx hb dB_one_23 (by decide) ?_
  refine lv_goto (tgt := 28) hx hb dB_one_24 (by decide) ?_
  obtain ⟨hPc, hDc, hFc⟩ := xcut (wc := []) hP hD hS hA [] rfl rfl (by decide)
  refine va_callv (va_runS (As := [.int 1]) (rest := []) ⟨hx, hb, hml, hown, htx⟩ (cB_demand_1 l hl9 D cT aK aV H.size) ⟨callB_of 1 htx (xw_goodC kw_1_221) rfl rfl rfl (htx _ kw_1_1) (htx _ kw_1_219) ⟨by decide, by decide, by decide +kernel⟩ ⟨Nat.le_of_ble_eq_true rfl, Nat.le_of_ble_eq_true rfl⟩, htx _ kw_1_220⟩ ⟨xPre_blind, (fun U hU hW => ⟨rfl, xPre_of hZ hS hFc hPc hDc hK U hU hW⟩)⟩ rfl rfl hl.1 rfl (lv_room (Nat.le_of_ble_eq_true rfl)) dB_one_28 ⟨Nat.le_of_ble_eq_true rfl, Nat.le_of_ble_eq_true rfl⟩) hS (fun q _ h => hFc q h) hFc (fun u9 t H1 locs ht hvm hr9 hB hz1 hk1 hS => ?_)
  obtain ⟨hP1, hK1, hD1⟩ := hB
  rw [ht] at hP1
  obtain ⟨hP, hD⟩ := xjoin (W := [(a0, .inr (0, [v15, v16, .ref b17, .ref a2, .ref b18, .ref a1, v19, v20])), (a1, .inr (2, [v21, v22, v23])), (a2, .inl (cT 3, 8, .inr (.inr (.inr (.inr f24))))), (a3, .inr (2, [.ref a4, .int 1, v26])), (a4, .inl (cT 2, 4096, .inr (.inl f27)))]) hP hD [] [0, 1, 2, 3, 4] 5 rfl rfl (by decide) (by decide) hk1 hFc hP1 hD1
  generalize H1 = H at hP hS ⊢
  refine lv_aload_n hx hb dB_one_31 rfl (lv_at hl 0 rfl) ?_
  refine va_get (D := D) (ci := 0) (v := .ref a1) (C := "ValueBench") (T := TB) (N := 8) hx hb htx inB hown hK hP 0 rfl rfl 5 (by decide) (htx _ kw_1_100) (fun _ h9 => h9) rfl dB_one_32 ?_
  obtain ⟨hPc, hDc, hFc⟩ := xcut (wc := [(a1, .inr (2, [v21, v22, v23]))]) hP hD hS hA [1] rfl rfl (by decide)
  refine va_callv (va_runV (C := "ValueBench$Row") (As := []) (rest := []) ⟨hx, hb, hml, hown, htx⟩ (cR_clear_0 l hl9 D cT aK aV H.size a1 v21 v22 v23) ⟨callB_of 0 htx (xw_goodC kw_2_22) rfl rfl rfl (htx _ kw_1_4) (htx _ kw_2_19) ⟨by decide, by decide, by decide +kernel⟩ ⟨Nat.le_of_ble_eq_true rfl, Nat.le_of_ble_eq_true rfl⟩, (htx _ kw_2_20), (htx _ kw_2_21)⟩ ⟨xPre_blind, va_recv hK hP (ci := 2) rfl (q0 := 1) rfl, (fun U hU hW => ⟨rfl, xPre_of hZ hS hFc hPc hDc hK U hU hW⟩)⟩ rfl rfl hl.1 rfl (lv_room (Nat.le_of_ble_eq_true rfl)) dB_one_35 ⟨Nat.le_of_ble_eq_true rfl, Nat.le_of_ble_eq_true rfl⟩) hS (fun q _ h => hFc q h) hFc (fun u9 t H1 locs ht hvm hr9 hB hz1 hk1 hS => ?_)
  obtain ⟨hP1, hK1, hD1⟩ := hB
  rw [ht] at hP1
  obtain ⟨hP, hD⟩ := xjoin (W := [(a0, .inr (0, [v15, v16, .ref b17, .ref a2, .ref b18, .ref a1, v19, v20])), (a2, .inl (cT 3, 8, .inr (.inr (.inr (.inr f24))))), (a3, .inr (2, [.ref a4, .int 1, v26])), (a4, .inl (cT 2, 4096, .inr (.inl f27))), (a1, .inr (2, [v21, .int 0, .int 0]))]) hP hD [1] [0, 2, 3, 4] 4 rfl rfl (by decide) (by decide) hk1 hFc hP1 hD1
  generalize H1 = H at hP hS ⊢
  refine lv_aload_n hx hb dB_one_38 rfl (lv_at hl 0 rfl) ?_
  refine lv_iload_n hx hb dB_one_39 rfl (lv_at hl 2 rfl) ?_
  refine lv_aload_n hx hb dB_one_40 rfl (lv_at hl 0 rfl) ?_
  refine va_get (D := D) (ci := 0) (v := .ref a2) (C := "ValueBench") (T := TB) (N := 8) hx hb htx inB hown hK hP 0 rfl rfl 3 (by decide) (htx _ kw_1_98) (fun _ h9 => h9) rfl dB_one_41 ?_
  refine lv_iload_n hx hb dB_one_44 rfl (lv_at hl 3 rfl) ?_
  refine va_aldq hx hb hK hP 1 3 rfl rfl h14 dB_one_45 ?_
  refine W.eq (g2 := F0 m 46 ls [va_rf (f24 x10.toNatClampNeg), .int 3, .ref a0]) rfl ?_
  rw [h25]
  refine W.eq (g2 := F0 m 46 ls [.ref a3, .int 3, .ref a0]) rfl ?_
  refine lv_aload_n hx hb dB_one_46 rfl (lv_at hl 0 rfl) ?_
  refine va_get (D := D) (ci := 0) (v := .ref b17) (C := "ValueBench") (T := TB) (N := 8) hx hb htx inB hown hK hP 0 rfl rfl 2 (by decide) (htx _ kw_1_97) (fun _ h9 => h9) rfl dB_one_47 ?_
  refine lv_aload_n hx hb dB_one_50 rfl (lv_at hl 0 rfl) ?_
  refine va_get (D := D) (ci := 0) (v := .ref b18) (C := "ValueBench") (T := TB) (N := 8) hx hb htx inB hown hK hP 0 rfl rfl 4 (by decide) (htx _ kw_1_99) (fun _ h9 => h9) rfl dB_one_51 ?_
  refine lv_aload_n hx hb dB_one_54 rfl (lv_at hl 0 rfl) ?_
  refine va_get (D := D) (ci := 0) (v := .ref a1) (C := "ValueBench") (T := TB) (N := 8) hx hb htx inB hown hK hP 0 rfl rfl 5 (by decide) (htx _ kw_1_100) (fun _ h9 => h9) rfl dB_one_55 ?_
  obtain ⟨hPc, hDc, hFc⟩ := xcut (wc := [(a3, .inr (2, [.ref a4, .int 1, v26])), (a4, .inl (cT 2, 4096, .inr (.inl f27)))]) hP hD hS hA [2, 3] rfl rfl (by decide)
  refine va_calli (va_runS (As := [.int 3, .ref a3, .ref b17, .ref b18, .ref a1]) (rest := [.ref a0]) ⟨hx, hb, hml, hown, htx⟩ (cG_apply_3 l hl9 D cT aK aV H.size a3 a4 b17 b18 a1 v26 f27 (by first | rfl | exact h25 | exact h28)) ⟨callB_of 5 htx (xw_goodC kw_4_28) rfl rfl rfl (htx _ kw_1_26) (htx _ kw_4_26) ⟨by decide, by decide, by decide +kernel⟩ ⟨Nat.le_of_ble_eq_true rfl, Nat.le_of_ble_eq_true rfl⟩, htx _ kw_4_27⟩ ⟨xPre_blind, (fun U hU hW => ⟨rfl, xPre_of hZ hS hFc hPc hDc hK U hU hW⟩)⟩ rfl rfl hl.1 rfl (lv_room (Nat.le_of_ble_eq_true rfl)) dB_one_58 ⟨Nat.le_of_ble_eq_true rfl, Nat.le_of_ble_eq_true rfl⟩) hS (fun q _ h => hFc q h) hFc (fun r4 u9 t H1 locs ht hvm hr9 hB hz1 hk1 hS => ?_)
  obtain ⟨hP1, hK1, hD1⟩ := hB
  rw [ht] at hP1
  obtain ⟨hP, hD⟩ := xjoin (W := [(a0, .inr (0, [v15, v16, .ref b17, .ref a2, .ref b18, .ref a1, v19, v20])), (a2, .inl (cT 3, 8, .inr (.inr (.inr (.inr f24))))), (a1, .inr (2, [v21, .int 0, .int 0])), (a3, .inr (2, [.ref a4, .int 1, v26])), (a4, .inl (cT 2, 4096, .inr (.inl f27)))]) hP hD [2, 3] [0, 1, 4] 3 rfl rfl (by decide) (by decide) hk1 hFc hP1 hD1
  generalize H1 = H at hP hS ⊢
  rw [hr9]
  refine W.eq (g2 := F0 m 61 ls [.int 1, .ref a0]) rfl ?_
  obtain ⟨hPc, hDc, hFc⟩ := xcut (wc := [(a0, .inr (0, [v15, v16, .ref b17, .ref a2, .ref b18, .ref a1, v19, v20]))]) hP hD hS hA [0] rfl rfl (by decide)
  refine xx_thr (vx_runV (C := "ValueBench") (As := [.int 1]) (rest := []) ⟨hx, hb, hml, hown, htx⟩ (cB_demandDone_1 l hl9 D cT aK aV H.size a0 v15 v16 (.ref b17) (.ref a2) (.ref b18) (.ref a1) v19 v20) ⟨callB_of 1 htx (xw_goodC kw_3_222) rfl rfl rfl (htx _ kw_1_1) (htx _ kw_3_219) ⟨by decide, by decide, by decide +kernel⟩ ⟨Nat.le_of_ble_eq_true rfl, Nat.le_of_ble_eq_true rfl⟩, (htx _ kw_3_221), (htx _ kp_B_demandDone)⟩ ⟨xPre_blind, va_recv hK hP (ci := 0) rfl (q0 := 0) rfl, (fun U hU hW => ⟨rfl, xPre_of hZ hS hFc hPc hDc hK U hU hW⟩)⟩ rfl rfl hl.1 rfl (lv_room (Nat.le_of_ble_eq_true rfl)) dB_one_61 ⟨Nat.le_of_ble_eq_true rfl, Nat.le_of_ble_eq_true rfl⟩) hS hFc (fun q _ h => hFc q h) (fun E ce q9 u9 t H1 locs ht hvm _ hB hz1 hk1 hS hce hcv hcl => ?_)
  obtain ⟨rfl, hP1, hK1, hD1⟩ := hB
  rw [ht] at hP1
  obtain ⟨hP, hD⟩ := xjoin (W := [(a2, .inl (cT 3, 8, .inr (.inr (.inr (.inr f24))))), (a1, .inr (2, [v21, .int 0, .int 0])), (a3, .inr (2, [.ref a4, .int 1, v26])), (a4, .inl (cT 2, 4096, .inr (.inl f27))), (a0, .inr (0, [v15, v16, .ref b17, .ref a2, .ref b18, .ref a1, v19, .int 1]))]) hP hD [0] [1, 2, 3, 4] 4 rfl rfl (by decide) (by decide) hk1 hFc hP1 hD1
  generalize H1 = H at hP hS hce ⊢
  obtain ⟨hP9, hD9⟩ := xsub (wc := [(a0, .inr (0, [v15, v16, .ref b17, .ref a2, .ref b18, .ref a1, v19, .int 1])), (a1, .inr (2, [v21, .int 0, .int 0])), (a2, .inl (cT 3, 8, .inr (.inr (.inr (.inr f24))))), (a3, .inr (2, [.ref a4, .int 1, v26])), (a4, .inl (cT 2, 4096, .inr (.inl f27)))]) hP hD [4, 1, 0, 2, 3] rfl rfl (by decide)
  exact vx_out (E := "java/lang/ArithmeticException") (fun x h => (hne x h).elim) hlocks hce hcv hcl (fun t ht ha => ⟨(), trivial, ⟨rfl, by rw [ht]; exact hP9, va_K.moved ha hK, hD9⟩, hS.F ht⟩) hS.2.2 (Nat.le_of_ble_eq_true rfl) (Nat.le_of_ble_eq_true rfl)
set_option maxHeartbeats 400000000 in
set_option maxRecDepth 100000 in
theorem cL_one_9 (l : Launch) (hl9 : l.stackTraces = false) (D : va_G) (cT : Nat → ClassId) (aK aV : Nat → Nat) (sz : Nat) (a0 : Nat) (a1 : Nat) (a2 : Nat) (a3 : Nat) (a4 : Nat) (x5 : Int32) (x10 : Int32) (v15 : Value) (v16 : Value) (b17 : Nat) (b18 : Nat) (v19 : Value) (v20 : Value) (v21 : Value) (v22 : Value) (v23 : Value) (f24 : Nat → Option Nat) (v26 : Value) (f27 : Nat → Int64) (h6 : ¬ x5 < 0) (h7 : ¬ 7 < x5) (h8 : x5 ≤ 7) (h9 : vp_in x5 8) (h11 : ¬ x10 < 0) (h12 : ¬ 7 < x10) (h13 : x10 ≤ 7) (h14 : vp_in x10 8) (h25 : f24 x10.toNatClampNeg = some a3) (h28 : f27 0 = 0) : xMet l yL_one wyL_one 8 1 6 144 D cT aK aV sz [.ref a0, .int x5, .int 3, .int x10] [(a0, .inr (0, [v15, v16, .ref b17, .ref a2, .ref b18, .ref a1, v19, v20])), (a1, .inr (2, [v21, v22, v23])), (a2, .inl (cT 3, 8, .inr (.inr (.inr (.inr f24))))), (a3, .inr (2, [.ref a4, .int 1, v26])), (a4, .inl (cT 2, 4096, .inr (.inl f27)))] (fun A => va_Qi (fun (r : Int32) (_ : Unit) => r = 2) (fun _ t => xB D xcl cT A [(a0, .inr (0, [v15, v16, .ref b17, .ref a2, .ref b18, .ref a1, v19, .int 1])), (a1, .inr (2, [v21, .int 0, .int 0])), (a2, .inl (cT 3, 8, .inr (.inr (.inr (.inr f24))))), (a3, .inr (2, [.ref a4, .int 1, v26])), (a4, .inl (cT 2, 4096, .inr (.inl f27)))] t) A) := by
  refine va_MetW (cc := method_10_code) (maxL := 5) (ret := (some .int)) (hh := [(0, 7, 10, 19), (0, 7, 14, 33), (0, 7, 18, 13)]) (by decide) rfl ?_
  intro p e s m args below meth c s₁ B hml hv
  obtain ⟨rfl, hsz, hZ, hP, hK, hD0⟩ := hv
  have hx := B.exec
  have hb := B.bytes
  have hr := B.returns
  have hts := atoms_spec (ws := wyL_one) B.pre
  have htx := fun w h => hts w (List.mem_cons_of_mem _ h)
  have hown : s.vm.findClass "ValueBenchLaw" = some m.cls := findClass_of_methodNamed B.named
  have hlocks := B.notSynchronized
  subst hsz
  have hD := hD0.self (sz := s.heap.size)
  generalize hAe : va_A [(a0, .inr (0, [v15, v16, .ref b17, .ref a2, .ref b18, .ref a1, v19, v20])), (a1, .inr (2, [v21, v22, v23])), (a2, .inl (cT 3, 8, .inr (.inr (.inr (.inr f24))))), (a3, .inr (2, [.ref a4, .int 1, v26])), (a4, .inl (cT 2, 4096, .inr (.inl f27)))] s.heap.size = A at hD hZ ⊢
  have hA : ∀ q : Nat, s.heap.size ≤ q → A q := fun q h => by rw [← hAe]; exact Or.inr h
  have hS : va_S A s.heap s.heap [] := va_S.rf
  have hP : va_P D xcl [(a0, .inr (0, [v15, v16, .ref b17, .ref a2, .ref b18, .ref a1, v19, v20])), (a1, .inr (2, [v21, v22, v23])), (a2, .inl (cT 3, 8, .inr (.inr (.inr (.inr f24))))), (a3, .inr (2, [.ref a4, .int 1, v26])), (a4, .inl (cT 2, 4096, .inr (.inl f27)))] s.heap := hP
  have hl := lv_entry ([.ref a0, .int x5, .int 3, .int x10]) (n := 5) (Nat.le_of_ble_eq_true rfl)
  rw [lg_entry_eq]
  generalize (lg_sl ([.ref a0, .int x5, .int 3, .int x10]) ++ List.replicate (5 - (lg_sl ([.ref a0, .int x5, .int 3, .int x10])).length) Slot.unset).toArray = ls at hl ⊢
  have hl : lv_has ls 5 [(0, .ref a0), (1, .int x5), (2, .int 3), (3, .int x10)] := hl
  have htab := vx_table (x := yL_one) B (hts _ List.mem_cons_self)
  refine lv_aload_n hx hb dL_one_0 rfl (lv_at hl 0 rfl) ?_
  refine lv_iload_n hx hb dL_one_1 rfl (lv_at hl 1 rfl) ?_
  refine lv_iload_n hx hb dL_one_2 rfl (lv_at hl 2 rfl) ?_
  refine lv_iload_n hx hb dL_one_3 rfl (lv_at hl 3 rfl) ?_
  obtain ⟨hPc, hDc, hFc⟩ := xcut (wc := [(a0, .inr (0, [v15, v16, .ref b17, .ref a2, .ref b18, .ref a1, v19, v20])), (a1, .inr (2, [v21, v22, v23])), (a2, .inl (cT 3, 8, .inr (.inr (.inr (.inr f24))))), (a3, .inr (2, [.ref a4, .int 1, v26])), (a4, .inl (cT 2, 4096, .inr (.inl f27)))]) hP hD hS hA [0, 1, 2, 3, 4] rfl rfl (by decide)
  refine xx_thr (vx_runV (C := "ValueBench") (As := [.int x5, .int 3, .int x10]) (rest := []) ⟨hx, hb, hml, hown, htx⟩ (cB_one_9 l hl9 D cT aK aV s.heap.size a0 a1 a2 a3 a4 x5 x10 v15 v16 b17 b18 v19 v20 v21 v22 v23 f24 v26 f27 h6 h7 h8 h9 h11 h12 h13 h14 (by first | rfl | exact h25 | exact h28) (by first | rfl | exact h25 | exact h28)) ⟨callB_of 3 htx (xw_goodC kw_4_25) rfl rfl rfl (htx _ kw_1_1) (htx _ kw_4_22) ⟨by decide, by decide, by decide +kernel⟩ ⟨Nat.le_of_ble_eq_true rfl, Nat.le_of_ble_eq_true rfl⟩, (htx _ kw_4_23), (htx _ kw_4_24)⟩ ⟨xPre_blind, va_recv hK hP (ci := 0) rfl (q0 := 0) rfl, (fun U hU hW => ⟨rfl, xPre_of hZ hS hFc hPc hDc hK U hU hW⟩)⟩ rfl rfl hl.1 rfl (lv_room (Nat.le_of_ble_eq_true rfl)) dL_one_4 ⟨Nat.le_of_ble_eq_true rfl, Nat.le_of_ble_eq_true rfl⟩) hS hFc (fun q _ h => hFc q h) (fun E ce q9 u9 t H1 locs ht hvm _ hB hz1 hk1 hS hce hcv hcl => ?_)
  obtain ⟨rfl, hP1, hK1, hD1⟩ := hB
  rw [ht] at hP1
  obtain ⟨hP, hD⟩ := xjoin (W := [(a0, .inr (0, [v15, v16, .ref b17, .ref a2, .ref b18, .ref a1, v19, .int 1])), (a1, .inr (2, [v21, .int 0, .int 0])), (a2, .inl (cT 3, 8, .inr (.inr (.inr (.inr f24))))), (a3, .inr (2, [.ref a4, .int 1, v26])), (a4, .inl (cT 2, 4096, .inr (.inl f27)))]) hP hD [0, 1, 2, 3, 4] [] 0 rfl rfl (by decide) (by decide) hk1 hFc hP1 hD1
  generalize H1 = H at hP hS hce ⊢
  refine vx_catch (own := "ValueBenchLaw") (name := "java/lang/ArithmeticException") (E := "java/lang/ArithmeticException") hown [⟨0, 7, 10, 19⟩] ⟨0, 7, 14, 33⟩ [⟨0, 7, 18, 13⟩] (by rw [htab]; rfl) (by intro z hz; rcases List.mem_cons.mp hz with rfl | hz; (exact Or.inr ⟨by decide, "java/lang/IllegalArgumentException", htx _ kw_1_211, hZ.2.2.2.2.2.2.2.1 ("java/lang/ArithmeticException", "java/lang/IllegalArgumentException") (List.mem_of_getElem? (i := 10) rfl)⟩); cases hz) (by decide) (by decide) (htx _ kw_3_98) ((hZ.2.2.2.2.2.1 "java/lang/ArithmeticException" (List.mem_of_getElem? (i := 3) rfl)).use rfl) hce hcv hcl ?_
  refine lv_astore (lv' := [(4, .ref q9), (0, .ref a0), (1, .int x5), (2, .int 3), (3, .int x10)]) hx hb dL_one_14 hl (by decide) rfl (fun ls hl => ?_)
  refine lv_iconst (v := 2) hx hb dL_one_16 (by decide) ?_
  obtain ⟨hP9, hD9⟩ := xsub (wc := [(a0, .inr (0, [v15, v16, .ref b17, .ref a2, .ref b18, .ref a1, v19, .int 1])), (a1, .inr (2, [v21, .int 0, .int 0])), (a2, .inl (cT 3, 8, .inr (.inr (.inr (.inr f24))))), (a3, .inr (2, [.ref a4, .int 1, v26])), (a4, .inl (cT 2, 4096, .inr (.inl f27)))]) hP hD [0, 1, 2, 3, 4] rfl rfl (by decide)
  refine W.widen (k := 1) (n := 6) (Nat.le_of_ble_eq_true rfl) (Nat.le_of_ble_eq_true rfl) ?_
  exact W.iret (v := 2) hx hb hr (fun t ht hW => ⟨⟨2, (), rfl, rfl, by rw [ht]; exact hP9, va_K.moved hW.alike hK, hD9⟩, hS.F ht⟩) hS.2.2 dL_one_17
set_option maxHeartbeats 400000000 in
set_option maxRecDepth 100000 in
theorem cM_one1_3 (l : Launch) (hl9 : l.stackTraces = false) (D : va_G) (cT : Nat → ClassId) (aK aV : Nat → Nat) (sz : Nat) (a0 : Nat) (a1 : Nat) (v2 : Value) (v3 : Value) (v4 : Value) (v5 : Value) (v6 : Value) (v7 : Value) (v8 : Value) (v9 : Value) (v10 : Value) (v11 : Value) (v12 : Value) (v13 : Value) (x14 : Int32) (v15 : Value) (v16 : Value) (v17 : Value) (v18 : Value) (v19 : Value) (v20 : Value) (v21 : Value) (v22 : Value) (v23 : Value) (v24 : Value) (v25 : Value) (v26 : Value) (v27 : Value) (v28 : Value) (v29 : Value) (v30 : Value) (v31 : Value) (v32 : Value) (v33 : Value) (v34 : Value) (v35 : Value) (v36 : Value) (v37 : Value) (v38 : Value) : xMetX l yM_one1 wyM_one1 9 1 6 166 D cT aK aV sz [.ref a0, .int 3, .ref a1] [(a0, .inr (5, [v2, v3, v4, v5, v6, v7, v8, v9, v10, v11, v12, v13, .int x14, v15, v16, v17, v18, v19, v20, v21, v22, v23, v24, v25, v26, v27, v28, v29, v30, v31, v32, v33])), (a1, .inr (6, [.int 0, v34, v35, v36, v37, v38]))] "java/lang/ArithmeticException" (fun A t => xB D xcl cT A [(a0, .inr (5, [v2, v3, v4, v5, v6, v7, v8, v9, .int 1, v11, v12, v13, .int x14, v15, v16, v17, v18, v19, v20, v21, v22, v23, v24, v25, v26, v27, v28, v29, v30, v31, v32, v33])), (a1, .inr (6, [.int 0, v34, v35, v36, v37, v38]))] t) := by
  refine vx_ofW (cc := prog_13_method_66_code) (maxL := 3) (ret := (some (.object "ValueBenchModel$V"))) (by decide) rfl ?_
  intro p e s m args below meth c s₁ B hml hne hv
  obtain ⟨rfl, hsz, hZ, hP, hK, hD0⟩ := hv
  have hx := B.exec
  have hb := B.bytes
  have hr := B.returns
  have hts := atoms_spec (ws := wyM_one1) B.pre
  have htx := fun w h => hts w (List.mem_cons_of_mem _ h)
  have hown : s.vm.findClass "ValueBenchModel" = some m.cls := findClass_of_methodNamed B.named
  have hlocks := B.notSynchronized
  subst hsz
  have hD := hD0.self (sz := s.heap.size)
  generalize hAe : va_A [(a0, .inr (5, [v2, v3, v4, v5, v6, v7, v8, v9, v10, v11, v12, v13, .int x14, v15, v16, v17, v18, v19, v20, v21, v22, v23, v24, v25, v26, v27, v28, v29, v30, v31, v32, v33])), (a1, .inr (6, [.int 0, v34, v35, v36, v37, v38]))] s.heap.size = A at hD hZ ⊢
  have hA : ∀ q : Nat, s.heap.size ≤ q → A q := fun q h => by rw [← hAe]; exact Or.inr h
  have hS : va_S A s.heap s.heap [] := va_S.rf
  have hP : va_P D xcl [(a0, .inr (5, [v2, v3, v4, v5, v6, v7, v8, v9, v10, v11, v12, v13, .int x14, v15, v16, v17, v18, v19, v20, v21, v22, v23, v24, v25, v26, v27, v28, v29, v30, v31, v32, v33])), (a1, .inr (6, [.int 0, v34, v35, v36, v37, v38]))] s.heap := hP
  have hl := lv_entry ([.ref a0, .int 3, .ref a1]) (n := 3) (Nat.le_of_ble_eq_true rfl)
  rw [lg_entry_eq]
  generalize (lg_sl ([.ref a0, .int 3, .ref a1]) ++ List.replicate (3 - (lg_sl ([.ref a0, .int 3, .ref a1])).length) Slot.unset).toArray = ls at hl ⊢
  have hl : lv_has ls 3 [(0, .ref a0), (1, .int 3), (2, .ref a1)] := hl
  refine lv_iload_n hx hb dM_one1_0 rfl (lv_at hl 1 rfl) ?_
  refine lv_tableIn (off := 98) (tgt := 99) hx hb dM_one1_1 (by decide) (by decide) (by decide) (by decide) ?_
  refine lv_aload_n hx hb dM_one1_99 rfl (lv_at hl 0 rfl) ?_
  refine lv_aload_n hx hb dM_one1_100 rfl (lv_at hl 2 rfl) ?_
  refine lv_iconst (v := 0) hx hb dM_one1_101 (by decide) ?_
  obtain ⟨hPc, hDc, hFc⟩ := xcut (wc := [(a1, .inr (6, [.int 0, v34, v35, v36, v37, v38])), (a0, .inr (5, [v2, v3, v4, v5, v6, v7, v8, v9, v10, v11, v12, v13, .int x14, v15, v16, v17, v18, v19, v20, v21, v22, v23, v24, v25, v26, v27, v28, v29, v30, v31, v32, v33]))]) hP hD hS hA [1, 0] rfl rfl (by decide)
  refine xx_thr (vx_runV (C := "ValueBenchModel") (As := [.ref a1, .int 0]) (rest := []) ⟨hx, hb, hml, hown, htx⟩ (cM_keysOf_0 l hl9 D cT aK aV s.heap.size a1 a0 0 v34 v35 v36 v37 v38 v2 v3 v4 v5 v6 v7 v8 v9 v10 v11 v12 v13 x14 v15 v16 v17 v18 v19 v20 v21 v22 v23 v24 v25 v26 v27 v28 v29 v30 v31 v32 v33) ⟨callB_of 2 htx (xw_goodC kw_7_13) rfl rfl rfl (htx _ kw_1_5) (htx _ kw_7_10) ⟨by decide, by decide, by decide +kernel⟩ ⟨Nat.le_of_ble_eq_true rfl, Nat.le_of_ble_eq_true rfl⟩, (htx _ kw_7_12), (htx _ kp_M_keysOf)⟩ ⟨xPre_blind, va_recv hK hP (ci := 5) rfl (q0 := 0) rfl, (fun U hU hW => ⟨rfl, xPre_of hZ hS hFc hPc hDc hK U hU hW⟩)⟩ rfl rfl hl.1 rfl (lv_room (Nat.le_of_ble_eq_true rfl)) dM_one1_102 ⟨Nat.le_of_ble_eq_true rfl, Nat.le_of_ble_eq_true rfl⟩) hS hFc (fun q _ h => hFc q h) (fun E ce q9 u9 t H1 locs ht hvm _ hB hz1 hk1 hS hce hcv hcl => ?_)
  obtain ⟨rfl, hP1, hK1, hD1⟩ := hB
  rw [ht] at hP1
  obtain ⟨hP, hD⟩ := xjoin (W := [(a1, .inr (6, [.int 0, v34, v35, v36, v37, v38])), (a0, .inr (5, [v2, v3, v4, v5, v6, v7, v8, v9, .int 1, v11, v12, v13, .int x14, v15, v16, v17, v18, v19, v20, v21, v22, v23, v24, v25, v26, v27, v28, v29, v30, v31, v32, v33]))]) hP hD [1, 0] [] 0 rfl rfl (by decide) (by decide) hk1 hFc hP1 hD1
  generalize H1 = H at hP hS hce ⊢
  obtain ⟨hP9, hD9⟩ := xsub (wc := [(a0, .inr (5, [v2, v3, v4, v5, v6, v7, v8, v9, .int 1, v11, v12, v13, .int x14, v15, v16, v17, v18, v19, v20, v21, v22, v23, v24, v25, v26, v27, v28, v29, v30, v31, v32, v33])), (a1, .inr (6, [.int 0, v34, v35, v36, v37, v38]))]) hP hD [1, 0] rfl rfl (by decide)
  exact vx_out (E := "java/lang/ArithmeticException") (fun x h => (hne x h).elim) hlocks hce hcv hcl (fun t ht ha => ⟨(), trivial, ⟨rfl, by rw [ht]; exact hP9, va_K.moved ha hK, hD9⟩, hS.F ht⟩) hS.2.2 (Nat.le_of_ble_eq_true rfl) (Nat.le_of_ble_eq_true rfl)
set_option maxHeartbeats 400000000 in
set_option maxRecDepth 100000 in
theorem cM_finish_18 (l : Launch) (hl9 : l.stackTraces = false) (D : va_G) (cT : Nat → ClassId) (aK aV : Nat → Nat) (sz : Nat) (a0 : Nat) (a1 : Nat) (a2 : Nat) (a3 : Nat) (a4 : Nat) (x5 : Int32) (x6 : Int32) (x11 : Int32) (v12 : Value) (v13 : Value) (v14 : Value) (v15 : Value) (v16 : Value) (v17 : Value) (v18 : Value) (v19 : Value) (v20 : Value) (v21 : Value) (x22 : Int32) (v23 : Value) (v24 : Value) (v25 : Value) (v26 : Value) (v27 : Value) (v28 : Value) (v29 : Value) (v30 : Value) (v31 : Value) (v32 : Value) (v33 : Value) (v34 : Value) (v35 : Value) (v36 : Value) (v37 : Value) (v38 : Value) (v39 : Value) (f40 : Nat → Option Nat) (f42 : Nat → Int32) (f44 : Nat → Int32) (f49 : Nat → Option Nat) (h7 : ¬ x6 < 0) (h8 : ¬ 7 < x6) (h9 : x6 ≤ 7) (h10 : vp_in x6 8) (h41 : f40 x6.toNatClampNeg = some a3) (h43 : f42 x6.toNatClampNeg = 4) (h45 : f44 0 = 110) (h46 : f44 1 = 117) (h47 : f44 2 = 108) (h48 : f44 3 = 108) (h50 : f49 0 = none) : xMet l yM_finish wyM_finish 10 2 12 188 D cT aK aV sz [.ref a0, .int x5, .int 1, .int 3, .int x6, .int x11] [(a0, .inr (5, [v12, .ref a4, .int 0, v13, v14, v15, v16, v17, v18, v19, v20, v21, .int x22, v23, v24, v25, v26, v27, v28, v29, v30, v31, v32, v33, .ref a1, .ref a2, v34, v35, v36, v37, v38, v39])), (a1, .inl (cT 5, 8, .inr (.inr (.inr (.inr f40))))), (a2, .inl (cT 1, 8, .inl f42)), (a3, .inl (cT 0, 4096, .inl f44)), (a4, .inl (cT 4, 1024, .inr (.inr (.inr (.inr f49)))))] (fun A => va_Qv (fun _ : Unit => True) (fun _ t => ∃ (r1 : Nat), xB D xcl cT A [(a0, .inr (5, [.int 2, .ref a4, .int 1, v13, v14, v15, v16, v17, .int 1, v19, v20, v21, .int x22, v23, v24, .ref a3, .int 4, .int 4, .int 0, .int 100, v30, v31, v32, v33, .ref a1, .ref a2, v34, v35, v36, v37, .int 1, v39])), (a1, .inl (cT 5, 8, .inr (.inr (.inr (.inr f40))))), (a2, .inl (cT 1, 8, .inl f42)), (a3, .inl (cT 0, 4096, .inl f44)), (a4, .inl (cT 4, 1024, .inr (.inr (.inr (.inr (va_up f49 0 (some r1))))))), (r1, .inr (6, [.int 0, .long 0, .int 0, .int 0, .int 0, .int 1]))] t) A) := by
  refine va_MetW (cc := prog_13_method_90_code) (maxL := 10) (ret := none) (hh := [(0, 128, 131, 83), (0, 128, 149, 86)]) (by decide) rfl ?_
  intro p e s m args below meth c s₁ B hml hv
  obtain ⟨rfl, hsz, hZ, hP, hK, hD0⟩ := hv
  have hx := B.exec
  have hb := B.bytes
  have hr := B.returns
  have hts := atoms_spec (ws := wyM_finish) B.pre
  have htx := fun w h => hts w (List.mem_cons_of_mem _ h)
  have hown : s.vm.findClass "ValueBenchModel" = some m.cls := findClass_of_methodNamed B.named
  have hlocks := B.notSynchronized
  subst hsz
  have hD := hD0.self (sz := s.heap.size)
  generalize hAe : va_A [(a0, .inr (5, [v12, .ref a4, .int 0, v13, v14, v15, v16, v17, v18, v19, v20, v21, .int x22, v23, v24, v25, v26, v27, v28, v29, v30, v31, v32, v33, .ref a1, .ref a2, v34, v35, v36, v37, v38, v39])), (a1, .inl (cT 5, 8, .inr (.inr (.inr (.inr f40))))), (a2, .inl (cT 1, 8, .inl f42)), (a3, .inl (cT 0, 4096, .inl f44)), (a4, .inl (cT 4, 1024, .inr (.inr (.inr (.inr f49)))))] s.heap.size = A at hD hZ ⊢
  have hA : ∀ q : Nat, s.heap.size ≤ q → A q := fun q h => by rw [← hAe]; exact Or.inr h
  have hS : va_S A s.heap s.heap [] := va_S.rf
  have hP : va_P D xcl [(a0, .inr (5, [v12, .ref a4, .int 0, v13, v14, v15, v16, v17, v18, v19, v20, v21, .int x22, v23, v24, v25, v26, v27, v28, v29, v30, v31, v32, v33, .ref a1, .ref a2, v34, v35, v36, v37, v38, v39])), (a1, .inl (cT 5, 8, .inr (.inr (.inr (.inr f40))))), (a2, .inl (cT 1, 8, .inl f42)), (a3, .inl (cT 0, 4096, .inl f44)), (a4, .inl (cT 4, 1024, .inr (.inr (.inr (.inr f49)))))] s.heap := hP
  have hl := lv_entry ([.ref a0, .int x5, .int 1, .int 3, .int x6, .int x11]) (n := 10) (Nat.le_of_ble_eq_true rfl)
  rw [lg_entry_eq]
  generalize (lg_sl ([.ref a0, .int x5, .int 1, .int 3, .int x6, .int x11]) ++ List.replicate (10 - (lg_sl ([.ref a0, .int x5, .int 1, .int 3, .int x6, .int x11])).length) Slot.unset).toArray = ls at hl ⊢
  have hl : lv_has ls 10 [(0, .ref a0), (1, .int x5), (2, .int 1), (3, .int 3), (4, .int x6), (5, .int x11)] := hl
  have htab := vx_table (x := yM_finish) B (hts _ List.mem_cons_self)
  refine lv_aload_n hx hb dM_finish_0 rfl (lv_at hl 0 rfl) ?_
  refine lv_iload hx hb dM_finish_1 (lv_at hl 4 rfl) ?_
  obtain ⟨hPc, hDc, hFc⟩ := xcut (wc := [(a0, .inr (5, [v12, .ref a4, .int 0, v13, v14, v15, v16, v17, v18, v19, v20, v21, .int x22, v23, v24, v25, v26, v27, v28, v29, v30, v31, v32, v33, .ref a1, .ref a2, v34, v35, v36, v37, v38, v39])), (a1, .inl (cT 5, 8, .inr (.inr (.inr (.inr f40))))), (a2, .inl (cT 1, 8, .inl f42)), (a3, .inl (cT 0, 4096, .inl f44)), (a4, .inl (cT 4, 1024, .inr (.inr (.inr (.inr f49)))))]) hP hD hS hA [0, 1, 2, 3, 4] rfl rfl (by decide)
  refine va_callr (va_runV (C := "ValueBenchModel") (As := [.int x6]) (rest := []) ⟨hx, hb, hml, hown, htx⟩ (cM_register_3 l hl9 D cT aK aV s.heap.size a0 a1 a2 a3 a4 x6 v12 v13 v14 v15 v16 v17 v18 v19 v20 v21 (.int x22) v23 v24 v25 v26 v27 v28 v29 v30 v31 v32 v33 v34 v35 v36 v37 v38 v39 f40 f42 f44 f49 h7 h8 h9 h10 (by first | rfl | exact h41 | exact h43 | exact h45 | exact h46 | exact h47 | exact h48 | exact h50) (by first | rfl | exact h41 | exact h43 | exact h45 | exact h46 | exact h47 | exact h48 | exact h50) (by first | rfl | exact h41 | exact h43 | exact h45 | exact h46 | exact h47 | exact h48 | exact h50) (by first | rfl | exact h41 | exact h43 | exact h45 | exact h46 | exact h47 | exact h48 | exact h50) (by first | rfl | exact h41 | exact h43 | exact h45 | exact h46 | exact h47 | exact h48 | exact h50) (by first | rfl | exact h41 | exact h43 | exact h45 | exact h46 | exact h47 | exact h48 | exact h50) (by first | rfl | exact h41 | exact h43 | exact h45 | exact h46 | exact h47 | exact h48 | exact h50)) ⟨callB_of 1 htx (xw_goodC kw_6_170) rfl rfl rfl (htx _ kw_1_5) (htx _ kw_6_167) ⟨by decide, by decide, by decide +kernel⟩ ⟨Nat.le_of_ble_eq_true rfl, Nat.le_of_ble_eq_true rfl⟩, (htx _ kw_6_169), (htx _ kp_M_register)⟩ ⟨xPre_blind, va_recv hK hP (ci := 5) rfl (q0 := 0) rfl, (fun U hU hW => ⟨rfl, xPre_of hZ hS hFc hPc hDc hK U hU hW⟩)⟩ rfl rfl hl.1 rfl (lv_room (Nat.le_of_ble_eq_true rfl)) dM_finish_3 ⟨Nat.le_of_ble_eq_true rfl, Nat.le_of_ble_eq_true rfl⟩) hS (fun q _ h => hFc q h) hFc (fun u9 r1 t H1 locs ht hvm hr9 hB hz1 hk1 hS => ?_)
  obtain ⟨hP1, hK1, hD1⟩ := hB
  rw [ht] at hP1
  obtain ⟨hP, hD⟩ := xjoin (W := [(a0, .inr (5, [v12, .ref a4, .int 1, v13, v14, v15, v16, v17, v18, v19, v20, v21, .int x22, v23, v24, .ref a3, .int 4, .int 4, .int 0, .int 100, v30, v31, v32, v33, .ref a1, .ref a2, v34, v35, v36, v37, v38, v39])), (a1, .inl (cT 5, 8, .inr (.inr (.inr (.inr f40))))), (a2, .inl (cT 1, 8, .inl f42)), (a3, .inl (cT 0, 4096, .inl f44)), (a4, .inl (cT 4, 1024, .inr (.inr (.inr (.inr (va_up f49 0 (some r1))))))), (r1, .inr (6, [.int 0, .long 0, .int 0, .int 0, .int 0, .int 1]))]) hP hD [0, 1, 2, 3, 4] [] 0 rfl rfl (by decide) (by decide) hk1 hFc hP1 hD1
  generalize H1 = H at hP hS ⊢
  refine W.eq (g2 := F0 m 6 ls [.ref r1]) rfl ?_
  refine lv_astore (lv' := [(6, .ref r1), (0, .ref a0), (1, .int x5), (2, .int 1), (3, .int 3), (4, .int x6), (5, .int x11)]) hx hb dM_finish_6 hl (by decide) rfl (fun ls hl => ?_)
  refine lv_iload_n hx hb dM_finish_8 rfl (lv_at hl 3 rfl) ?_
  refine lv_iconst (v := 1) hx hb dM_finish_9 (by decide) ?_
  refine lv_icmp_ne (tgt := 17) hx hb dM_finish_10 (by decide) (fun h => ((by revert h; decide : False)).elim) (fun _ => ?_)
  refine lv_null hx hb dM_finish_13 ?_
  refine lv_goto (tgt := 23) hx hb dM_finish_14 (by decide) ?_
  refine lv_astoreN (lv' := [(7, .null), (6, .ref r1), (0, .ref a0), (1, .int x5), (2, .int 1), (3, .int 3), (4, .int x6), (5, .int x11)]) hx hb dM_finish_23 hl (by decide) rfl (fun ls hl => ?_)
  refine lv_iload_n hx hb dM_finish_25 rfl (lv_at hl 4 rfl) ?_
  refine lv_if_ne (tgt := 43) hx hb dM_finish_26 (by decide) (fun _ => ?_) (fun h => ((by revert h; decide : False)).elim)
  refine lv_iload_n hx hb dM_finish_43 rfl (lv_at hl 4 rfl) ?_
  refine lv_iconst (v := 1) hx hb dM_finish_44 (by decide) ?_
  refine lv_icmp_ne (tgt := 60) hx hb dM_finish_45 (by decide) (fun h => ((by revert h; decide : False)).elim) (fun _ => ?_)
  refine lv_aload_n hx hb dM_finish_48 rfl (lv_at hl 2 rfl) ?_
  refine lv_iload_n hx hb dM_finish_49 rfl (lv_at hl 5 rfl) ?_
  refine lv_aload hx hb dM_finish_50 (lv_at hl 1 rfl) ?_
  obtain ⟨hPc, hDc, hFc⟩ := xcut (wc := [(a0, .inr (5, [v12, .ref a4, .int 1, v13, v14, v15, v16, v17, v18, v19, v20, v21, .int x22, v23, v24, .ref a3, .int 4, .int 4, .int 0, .int 100, v30, v31, v32, v33, .ref a1, .ref a2, v34, v35, v36, v37, v38, v39])), (r1, .inr (6, [.int 0, .long 0, .int 0, .int 0, .int 0, .int 1]))]) hP hD hS hA [0, 5] rfl rfl (by decide)
  refine xx_thr (vx_runV (C := "ValueBenchModel") (As := [.int 3, .ref r1]) (rest := []) ⟨hx, hb, hml, hown, htx⟩ (cM_one1_3 l hl9 D cT aK aV H.size a0 r1 v12 (.ref a4) (.int 1) v13 v14 v15 v16 v17 v18 v19 v20 v21 x22 v23 v24 (.ref a3) (.int 4) (.int 4) (.int 0) (.int 100) v30 v31 v32 v33 (.ref a1) (.ref a2) v34 v35 v36 v37 v38 v39 (.long 0) (.int 0) (.int 0) (.int 0) (.int 1)) ⟨callB_of 2 htx (xw_goodC kw_6_237) rfl rfl rfl (htx _ kw_1_5) (htx _ kw_6_234) ⟨by decide, by decide, by decide +kernel⟩ ⟨Nat.le_of_ble_eq_true rfl, Nat.le_of_ble_eq_true rfl⟩, (htx _ kw_6_236), (htx _ kp_M_one1)⟩ ⟨xPre_blind, va_recv hK hP (ci := 5) rfl (q0 := 0) rfl, (fun U hU hW => ⟨rfl, xPre_of hZ hS hFc hPc hDc hK U hU hW⟩)⟩ rfl rfl hl.1 rfl (lv_room (Nat.le_of_ble_eq_true rfl)) dM_finish_52 ⟨Nat.le_of_ble_eq_true rfl, Nat.le_of_ble_eq_true rfl⟩) hS hFc (fun q _ h => hFc q h) (fun E ce q9 u9 t H1 locs ht hvm _ hB hz1 hk1 hS hce hcv hcl => ?_)
  obtain ⟨rfl, hP1, hK1, hD1⟩ := hB
  rw [ht] at hP1
  obtain ⟨hP, hD⟩ := xjoin (W := [(a1, .inl (cT 5, 8, .inr (.inr (.inr (.inr f40))))), (a2, .inl (cT 1, 8, .inl f42)), (a3, .inl (cT 0, 4096, .inl f44)), (a4, .inl (cT 4, 1024, .inr (.inr (.inr (.inr (va_up f49 0 (some r1))))))), (a0, .inr (5, [v12, .ref a4, .int 1, v13, v14, v15, v16, v17, .int 1, v19, v20, v21, .int x22, v23, v24, .ref a3, .int 4, .int 4, .int 0, .int 100, v30, v31, v32, v33, .ref a1, .ref a2, v34, v35, v36, v37, v38, v39])), (r1, .inr (6, [.int 0, .long 0, .int 0, .int 0, .int 0, .int 1]))]) hP hD [0, 5] [1, 2, 3, 4] 4 rfl rfl (by decide) (by decide) hk1 hFc hP1 hD1
  generalize H1 = H at hP hS hce ⊢
  refine vx_catch (own := "ValueBenchModel") (name := "java/lang/ArithmeticException") (E := "java/lang/ArithmeticException") hown [] ⟨0, 128, 131, 83⟩ [⟨0, 128, 149, 86⟩] (by rw [htab]; rfl) (fun z hz => nomatch hz) (by decide) (by decide) (htx _ kw_6_94) ((hZ.2.2.2.2.2.1 "java/lang/ArithmeticException" (List.mem_of_getElem? (i := 3) rfl)).use rfl) hce hcv hcl ?_
  refine lv_astore (lv' := [(6, .ref q9), (7, .null), (0, .ref a0), (1, .int x5), (2, .int 1), (3, .int 3), (4, .int x6), (5, .int x11)]) hx hb dM_finish_131 hl (by decide) rfl (fun ls hl => ?_)
  refine lv_aload_n hx hb dM_finish_133 rfl (lv_at hl 2 rfl) ?_
  refine lv_aload_n hx hb dM_finish_134 rfl (lv_at hl 2 rfl) ?_
  refine va_get (D := D) (ci := 5) (v := .int 1) (C := "ValueBenchModel") (T := TM) (N := 32) hx hb htx inM hown hK hP 4 rfl rfl 8 (by decide) (htx _ kw_5_95) (fun _ h9 => h9) rfl dM_finish_135 ?_
  refine va_put (D := D) (ci := 5) (v := .int 1) (ty := .int) (C := "ValueBenchModel") (T := TM) (N := 32) hx hb htx inM tyM tyM_ok nmM hown hK hP hD hS 4 rfl rfl 30 (by decide) (htx _ kw_5_117) (fun _ h9 => h9) rfl (by decide +kernel) rfl rfl (Nat.le_of_ble_eq_true rfl) dM_finish_138 (fun H locs hP hD hS => ?_)
  obtain ⟨hP, hD⟩ : xPD D xcl A [(a1, .inl (cT 5, 8, .inr (.inr (.inr (.inr f40))))), (a2, .inl (cT 1, 8, .inl f42)), (a3, .inl (cT 0, 4096, .inl f44)), (a4, .inl (cT 4, 1024, .inr (.inr (.inr (.inr (va_up f49 0 (some r1))))))), (a0, .inr (5, [v12, .ref a4, .int 1, v13, v14, v15, v16, v17, .int 1, v19, v20, v21, .int x22, v23, v24, .ref a3, .int 4, .int 4, .int 0, .int 100, v30, v31, v32, v33, .ref a1, .ref a2, v34, v35, v36, v37, .int 1, v39])), (r1, .inr (6, [.int 0, .long 0, .int 0, .int 0, .int 0, .int 1]))] H := ⟨hP, hD⟩
  refine lv_aload_n hx hb dM_finish_141 rfl (lv_at hl 2 rfl) ?_
  refine lv_iconst (v := 2) hx hb dM_finish_142 (by decide) ?_
  refine va_put (D := D) (ci := 5) (v := .int 2) (ty := .int) (C := "ValueBenchModel") (T := TM) (N := 32) hx hb htx inM tyM tyM_ok nmM hown hK hP hD hS 4 rfl rfl 0 (by decide) (htx _ kw_5_87) (fun _ h9 => h9) rfl (by decide +kernel) rfl rfl (Nat.le_of_ble_eq_true rfl) dM_finish_143 (fun H locs hP hD hS => ?_)
  obtain ⟨hP, hD⟩ : xPD D xcl A [(a1, .inl (cT 5, 8, .inr (.inr (.inr (.inr f40))))), (a2, .inl (cT 1, 8, .inl f42)), (a3, .inl (cT 0, 4096, .inl f44)), (a4, .inl (cT 4, 1024, .inr (.inr (.inr (.inr (va_up f49 0 (some r1))))))), (a0, .inr (5, [.int 2, .ref a4, .int 1, v13, v14, v15, v16, v17, .int 1, v19, v20, v21, .int x22, v23, v24, .ref a3, .int 4, .int 4, .int 0, .int 100, v30, v31, v32, v33, .ref a1, .ref a2, v34, v35, v36, v37, .int 1, v39])), (r1, .inr (6, [.int 0, .long 0, .int 0, .int 0, .int 0, .int 1]))] H := ⟨hP, hD⟩
  refine lv_goto (tgt := 156) hx hb dM_finish_146 (by decide) ?_
  obtain ⟨hP9, hD9⟩ := xsub (wc := [(a0, .inr (5, [.int 2, .ref a4, .int 1, v13, v14, v15, v16, v17, .int 1, v19, v20, v21, .int x22, v23, v24, .ref a3, .int 4, .int 4, .int 0, .int 100, v30, v31, v32, v33, .ref a1, .ref a2, v34, v35, v36, v37, .int 1, v39])), (a1, .inl (cT 5, 8, .inr (.inr (.inr (.inr f40))))), (a2, .inl (cT 1, 8, .inl f42)), (a3, .inl (cT 0, 4096, .inl f44)), (a4, .inl (cT 4, 1024, .inr (.inr (.inr (.inr (va_up f49 0 (some r1))))))), (r1, .inr (6, [.int 0, .long 0, .int 0, .int 0, .int 0, .int 1]))]) hP hD [4, 0, 1, 2, 3, 5] rfl rfl (by decide)
  refine W.widen (k := 2) (n := 12) (Nat.le_of_ble_eq_true rfl) (Nat.le_of_ble_eq_true rfl) ?_
  exact W.vret hx hb hr (fun t ht hW => ⟨⟨(), rfl, trivial, r1, by rw [ht]; exact hP9, va_K.moved hW.alike hK, hD9⟩, hS.F ht⟩) hS.2.2 dM_finish_156
set_option maxHeartbeats 400000000 in
set_option maxRecDepth 100000 in
theorem cM_one0_11 (l : Launch) (hl9 : l.stackTraces = false) (D : va_G) (cT : Nat → ClassId) (aK aV : Nat → Nat) (sz : Nat) (a0 : Nat) (a1 : Nat) (a2 : Nat) (a3 : Nat) (a4 : Nat) (x5 : Int32) (x10 : Int32) (v15 : Value) (v16 : Value) (v17 : Value) (v18 : Value) (v19 : Value) (v20 : Value) (v21 : Value) (v22 : Value) (v23 : Value) (v24 : Value) (v25 : Value) (v26 : Value) (v27 : Value) (v28 : Value) (v29 : Value) (v30 : Value) (v31 : Value) (v32 : Value) (v33 : Value) (v34 : Value) (v35 : Value) (v36 : Value) (v37 : Value) (v38 : Value) (v39 : Value) (v40 : Value) (v41 : Value) (v42 : Value) (v43 : Value) (f44 : Nat → Option Nat) (f46 : Nat → Int32) (f48 : Nat → Int32) (f53 : Nat → Option Nat) (h6 : ¬ x5 < 0) (h7 : ¬ 7 < x5) (h8 : x5 ≤ 7) (h9 : vp_in x5 8) (h11 : ¬ x10 < 0) (h12 : ¬ 7 < x10) (h13 : x10 ≤ 7) (h14 : vp_in x10 8) (h45 : f44 x10.toNatClampNeg = some a3) (h47 : f46 x10.toNatClampNeg = 4) (h49 : f48 0 = 110) (h50 : f48 1 = 117) (h51 : f48 2 = 108) (h52 : f48 3 = 108) (h54 : f53 0 = none) : xMet l yM_one0 wyM_one0 11 2 12 217 D cT aK aV sz [.ref a0, .int x5, .int 3, .int x10] [(a0, .inr (5, [v15, .ref a4, v16, v17, v18, v19, v20, v21, v22, v23, v24, v25, v26, v27, v28, v29, v30, v31, v32, v33, v34, v35, v36, v37, .ref a1, .ref a2, v38, v39, v40, v41, v42, v43])), (a1, .inl (cT 5, 8, .inr (.inr (.inr (.inr f44))))), (a2, .inl (cT 1, 8, .inl f46)), (a3, .inl (cT 0, 4096, .inl f48)), (a4, .inl (cT 4, 1024, .inr (.inr (.inr (.inr f53)))))] (fun A => va_Qv (fun _ : Unit => True) (fun _ t => ∃ (q3 : Nat), xB D xcl cT A [(a0, .inr (5, [.int 2, .ref a4, .int 1, v17, .int 0, v19, v20, .int 0, .int 1, .int 0, v24, v25, .int 0, v27, v28, .ref a3, .int 4, .int 4, .int 0, .int 100, v34, v35, .int 0, .int 1000000000, .ref a1, .ref a2, v38, v39, v40, v41, .int 1, v43])), (a1, .inl (cT 5, 8, .inr (.inr (.inr (.inr f44))))), (a2, .inl (cT 1, 8, .inl f46)), (a3, .inl (cT 0, 4096, .inl f48)), (a4, .inl (cT 4, 1024, .inr (.inr (.inr (.inr (va_up f53 0 (some q3))))))), (q3, .inr (6, [.int 0, .long 0, .int 0, .int 0, .int 0, .int 1]))] t) A) := by
  refine Met.ofW (cc := prog_13_method_92_code) (maxL := 4) (ret := none) (by decide) rfl ?_
  intro p e s m args below meth c s₁ B hml hv
  obtain ⟨rfl, hsz, hZ, hP, hK, hD0⟩ := hv
  have hx := B.exec
  have hb := B.bytes
  have hr := B.returns
  have hts := atoms_spec (ws := wyM_one0) B.pre
  have htx := fun w h => hts w (List.mem_cons_of_mem _ h)
  have hown : s.vm.findClass "ValueBenchModel" = some m.cls := findClass_of_methodNamed B.named
  have hlocks := B.notSynchronized
  subst hsz
  have hD := hD0.self (sz := s.heap.size)
  generalize hAe : va_A [(a0, .inr (5, [v15, .ref a4, v16, v17, v18, v19, v20, v21, v22, v23, v24, v25, v26, v27, v28, v29, v30, v31, v32, v33, v34, v35, v36, v37, .ref a1, .ref a2, v38, v39, v40, v41, v42, v43])), (a1, .inl (cT 5, 8, .inr (.inr (.inr (.inr f44))))), (a2, .inl (cT 1, 8, .inl f46)), (a3, .inl (cT 0, 4096, .inl f48)), (a4, .inl (cT 4, 1024, .inr (.inr (.inr (.inr f53)))))] s.heap.size = A at hD hZ ⊢
  have hA : ∀ q : Nat, s.heap.size ≤ q → A q := fun q h => by rw [← hAe]; exact Or.inr h
  have hS : va_S A s.heap s.heap [] := va_S.rf
  have hP : va_P D xcl [(a0, .inr (5, [v15, .ref a4, v16, v17, v18, v19, v20, v21, v22, v23, v24, v25, v26, v27, v28, v29, v30, v31, v32, v33, v34, v35, v36, v37, .ref a1, .ref a2, v38, v39, v40, v41, v42, v43])), (a1, .inl (cT 5, 8, .inr (.inr (.inr (.inr f44))))), (a2, .inl (cT 1, 8, .inl f46)), (a3, .inl (cT 0, 4096, .inl f48)), (a4, .inl (cT 4, 1024, .inr (.inr (.inr (.inr f53)))))] s.heap := hP
  have hl := lv_entry ([.ref a0, .int x5, .int 3, .int x10]) (n := 4) (Nat.le_of_ble_eq_true rfl)
  rw [lg_entry_eq]
  generalize (lg_sl ([.ref a0, .int x5, .int 3, .int x10]) ++ List.replicate (4 - (lg_sl ([.ref a0, .int x5, .int 3, .int x10])).length) Slot.unset).toArray = ls at hl ⊢
  have hl : lv_has ls 4 [(0, .ref a0), (1, .int x5), (2, .int 3), (3, .int x10)] := hl
  refine lv_aload_n hx hb dM_one0_0 rfl (lv_at hl 0 rfl) ?_
  obtain ⟨hPc, hDc, hFc⟩ := xcut (wc := [(a0, .inr (5, [v15, .ref a4, v16, v17, v18, v19, v20, v21, v22, v23, v24, v25, v26, v27, v28, v29, v30, v31, v32, v33, v34, v35, v36, v37, .ref a1, .ref a2, v38, v39, v40, v41, v42, v43]))]) hP hD hS hA [0] rfl rfl (by decide)
  refine va_callv (va_runV (C := "ValueBenchModel") (As := []) (rest := []) ⟨hx, hb, hml, hown, htx⟩ (cM_begin_0 l hl9 D cT aK aV s.heap.size a0 v15 (.ref a4) v16 v17 v18 v19 v20 v21 v22 v23 v24 v25 v26 v27 v28 v29 v30 v31 v32 v33 v34 v35 v36 v37 (.ref a1) (.ref a2) v38 v39 v40 v41 v42 v43) ⟨callB_of 0 htx (xw_goodC kw_5_209) rfl rfl rfl (htx _ kw_1_5) (htx _ kw_5_206) ⟨by decide, by decide, by decide +kernel⟩ ⟨Nat.le_of_ble_eq_true rfl, Nat.le_of_ble_eq_true rfl⟩, (htx _ kw_5_208), (htx _ kp_M_begin)⟩ ⟨xPre_blind, va_recv hK hP (ci := 5) rfl (q0 := 0) rfl, (fun U hU hW => ⟨rfl, xPre_of hZ hS hFc hPc hDc hK U hU hW⟩)⟩ rfl rfl hl.1 rfl (lv_room (Nat.le_of_ble_eq_true rfl)) dM_one0_1 ⟨Nat.le_of_ble_eq_true rfl, Nat.le_of_ble_eq_true rfl⟩) hS (fun q _ h => hFc q h) hFc (fun u9 t H1 locs ht hvm hr9 hB hz1 hk1 hS => ?_)
  obtain ⟨hP1, hK1, hD1⟩ := hB
  rw [ht] at hP1
  obtain ⟨hP, hD⟩ := xjoin (W := [(a1, .inl (cT 5, 8, .inr (.inr (.inr (.inr f44))))), (a2, .inl (cT 1, 8, .inl f46)), (a3, .inl (cT 0, 4096, .inl f48)), (a4, .inl (cT 4, 1024, .inr (.inr (.inr (.inr f53))))), (a0, .inr (5, [.int 0, .ref a4, .int 0, v17, .int 0, v19, v20, .int 0, v22, .int 0, v24, v25, .int 0, v27, v28, v29, v30, v31, v32, v33, v34, v35, .int 0, .int 1000000000, .ref a1, .ref a2, v38, v39, v40, v41, v42, v43]))]) hP hD [0] [1, 2, 3, 4] 4 rfl rfl (by decide) (by decide) hk1 hFc hP1 hD1
  generalize H1 = H at hP hS ⊢
  refine lv_aload_n hx hb dM_one0_4 rfl (lv_at hl 0 rfl) ?_
  refine lv_iload_n hx hb dM_one0_5 rfl (lv_at hl 1 rfl) ?_
  obtain ⟨hPc, hDc, hFc⟩ := xcut (wc := []) hP hD hS hA [] rfl rfl (by decide)
  refine va_calli (va_runV (C := "ValueBenchModel") (As := [.int x5]) (rest := []) ⟨hx, hb, hml, hown, htx⟩ (cM_out_2 l hl9 D cT aK aV H.size a0 x5 h6 h7 h8 h9) ⟨callB_of 1 htx (xw_goodC kw_5_217) rfl rfl rfl (htx _ kw_1_5) (htx _ kw_5_214) ⟨by decide, by decide, by decide +kernel⟩ ⟨Nat.le_of_ble_eq_true rfl, Nat.le_of_ble_eq_true rfl⟩, (htx _ kw_5_216), (htx _ kp_M_out)⟩ ⟨xPre_blind, va_recv hK hP (ci := 5) rfl (q0 := 4) rfl, (fun U hU hW => ⟨rfl, xPre_of hZ hS hFc hPc hDc hK U hU hW⟩)⟩ rfl rfl hl.1 rfl (lv_room (Nat.le_of_ble_eq_true rfl)) dM_one0_6 ⟨Nat.le_of_ble_eq_true rfl, Nat.le_of_ble_eq_true rfl⟩) hS (fun q _ h => hFc q h) hFc (fun r1 u9 t H1 locs ht hvm hr9 hB hz1 hk1 hS => ?_)
  obtain ⟨hP1, hK1, hD1⟩ := hB
  rw [ht] at hP1
  obtain ⟨hP, hD⟩ := xjoin (W := [(a1, .inl (cT 5, 8, .inr (.inr (.inr (.inr f44))))), (a2, .inl (cT 1, 8, .inl f46)), (a3, .inl (cT 0, 4096, .inl f48)), (a4, .inl (cT 4, 1024, .inr (.inr (.inr (.inr f53))))), (a0, .inr (5, [.int 0, .ref a4, .int 0, v17, .int 0, v19, v20, .int 0, v22, .int 0, v24, v25, .int 0, v27, v28, v29, v30, v31, v32, v33, v34, v35, .int 0, .int 1000000000, .ref a1, .ref a2, v38, v39, v40, v41, v42, v43]))]) hP hD [] [0, 1, 2, 3, 4] 5 rfl rfl (by decide) (by decide) hk1 hFc hP1 hD1
  generalize H1 = H at hP hS ⊢
  rw [hr9]
  refine W.eq (g2 := F0 m 9 ls [.int 0]) rfl ?_
  refine lv_if_ne (tgt := 30) hx hb dM_one0_9 (by decide) (fun h => ((by revert h; decide : False)).elim) (fun _ => ?_)
  refine lv_iload_n hx hb dM_one0_12 rfl (lv_at hl 2 rfl) ?_
  refine lv_if_lt (tgt := 30) hx hb dM_one0_13 (by decide) (fun h => ((by revert h; decide : False)).elim) (fun _ => ?_)
  refine lv_iload_n hx hb dM_one0_16 rfl (lv_at hl 2 rfl) ?_
  refine lv_bipush (v := 13) hx hb dM_one0_17 (by decide) ?_
  refine lv_icmp_gt (tgt := 30) hx hb dM_one0_19 (by decide) (fun h => ((by revert h; decide : False)).elim) (fun _ => ?_)
  refine lv_aload_n hx hb dM_one0_22 rfl (lv_at hl 0 rfl) ?_
  refine lv_iload_n hx hb dM_one0_23 rfl (lv_at hl 3 rfl) ?_
  obtain ⟨hPc, hDc, hFc⟩ := xcut (wc := []) hP hD hS hA [] rfl rfl (by decide)
  refine va_calli (va_runV (C := "ValueBenchModel") (As := [.int x10]) (rest := []) ⟨hx, hb, hml, hown, htx⟩ (cM_out_2 l hl9 D cT aK aV H.size a0 x10 h11 h12 h13 h14) ⟨callB_of 1 htx (xw_goodC kw_5_217) rfl rfl rfl (htx _ kw_1_5) (htx _ kw_5_214) ⟨by decide, by decide, by decide +kernel⟩ ⟨Nat.le_of_ble_eq_true rfl, Nat.le_of_ble_eq_true rfl⟩, (htx _ kw_5_216), (htx _ kp_M_out)⟩ ⟨xPre_blind, va_recv hK hP (ci := 5) rfl (q0 := 4) rfl, (fun U hU hW => ⟨rfl, xPre_of hZ hS hFc hPc hDc hK U hU hW⟩)⟩ rfl rfl hl.1 rfl (lv_room (Nat.le_of_ble_eq_true rfl)) dM_one0_24 ⟨Nat.le_of_ble_eq_true rfl, Nat.le_of_ble_eq_true rfl⟩) hS (fun q _ h => hFc q h) hFc (fun r2 u9 t H1 locs ht hvm hr9 hB hz1 hk1 hS => ?_)
  obtain ⟨hP1, hK1, hD1⟩ := hB
  rw [ht] at hP1
  obtain ⟨hP, hD⟩ := xjoin (W := [(a1, .inl (cT 5, 8, .inr (.inr (.inr (.inr f44))))), (a2, .inl (cT 1, 8, .inl f46)), (a3, .inl (cT 0, 4096, .inl f48)), (a4, .inl (cT 4, 1024, .inr (.inr (.inr (.inr f53))))), (a0, .inr (5, [.int 0, .ref a4, .int 0, v17, .int 0, v19, v20, .int 0, v22, .int 0, v24, v25, .int 0, v27, v28, v29, v30, v31, v32, v33, v34, v35, .int 0, .int 1000000000, .ref a1, .ref a2, v38, v39, v40, v41, v42, v43]))]) hP hD [] [0, 1, 2, 3, 4] 5 rfl rfl (by decide) (by decide) hk1 hFc hP1 hD1
  generalize H1 = H at hP hS ⊢
  rw [hr9]
  refine W.eq (g2 := F0 m 27 ls [.int 0]) rfl ?_
  refine lv_if_eq (tgt := 38) hx hb dM_one0_27 (by decide) (fun _ => ?_) (fun h => ((by revert h; decide : False)).elim)
  refine lv_aload_n hx hb dM_one0_38 rfl (lv_at hl 0 rfl) ?_
  refine lv_iload_n hx hb dM_one0_39 rfl (lv_at hl 1 rfl) ?_
  refine lv_iconst (v := 1) hx hb dM_one0_40 (by decide) ?_
  refine lv_iload_n hx hb dM_one0_41 rfl (lv_at hl 2 rfl) ?_
  refine lv_iload_n hx hb dM_one0_42 rfl (lv_at hl 3 rfl) ?_
  refine lv_iload_n hx hb dM_one0_43 rfl (lv_at hl 3 rfl) ?_
  obtain ⟨hPc, hDc, hFc⟩ := xcut (wc := [(a0, .inr (5, [.int 0, .ref a4, .int 0, v17, .int 0, v19, v20, .int 0, v22, .int 0, v24, v25, .int 0, v27, v28, v29, v30, v31, v32, v33, v34, v35, .int 0, .int 1000000000, .ref a1, .ref a2, v38, v39, v40, v41, v42, v43])), (a1, .inl (cT 5, 8, .inr (.inr (.inr (.inr f44))))), (a2, .inl (cT 1, 8, .inl f46)), (a3, .inl (cT 0, 4096, .inl f48)), (a4, .inl (cT 4, 1024, .inr (.inr (.inr (.inr f53)))))]) hP hD hS hA [4, 0, 1, 2, 3] rfl rfl (by decide)
  refine va_callv (vx_runVW (C := "ValueBenchModel") (As := [.int x5, .int 1, .int 3, .int x10, .int x10]) (rest := []) ⟨hx, hb, hml, hown, htx⟩ (cM_finish_18 l hl9 D cT aK aV H.size a0 a1 a2 a3 a4 x5 x10 x10 (.int 0) v17 (.int 0) v19 v20 (.int 0) v22 (.int 0) v24 v25 0 v27 v28 v29 v30 v31 v32 v33 v34 v35 (.int 0) (.int 1000000000) v38 v39 v40 v41 v42 v43 f44 f46 f48 f53 h11 h12 h13 h14 (by first | rfl | exact h45 | exact h47 | exact h49 | exact h50 | exact h51 | exact h52 | exact h54) (by first | rfl | exact h45 | exact h47 | exact h49 | exact h50 | exact h51 | exact h52 | exact h54) (by first | rfl | exact h45 | exact h47 | exact h49 | exact h50 | exact h51 | exact h52 | exact h54) (by first | rfl | exact h45 | exact h47 | exact h49 | exact h50 | exact h51 | exact h52 | exact h54) (by first | rfl | exact h45 | exact h47 | exact h49 | exact h50 | exact h51 | exact h52 | exact h54) (by first | rfl | exact h45 | exact h47 | exact h49 | exact h50 | exact h51 | exact h52 | exact h54) (by first | rfl | exact h45 | exact h47 | exact h49 | exact h50 | exact h51 | exact h52 | exact h54)) (xcVW 5 htx (xw_goodC kw_6_195) rfl rfl rfl (htx _ kw_1_5) (htx _ kw_6_192) ⟨by decide, by decide, by decide +kernel⟩ ⟨Nat.le_of_ble_eq_true rfl, Nat.le_of_ble_eq_true rfl⟩ (htx _ kw_6_194) (htx _ kp_M_finish)) ⟨xPre_blind, va_recv hK hP (ci := 5) rfl (q0 := 4) rfl, (fun U hU hW => ⟨rfl, xPre_of hZ hS hFc hPc hDc hK U hU hW⟩)⟩ rfl rfl hl.1 rfl (lv_room (Nat.le_of_ble_eq_true rfl)) dM_one0_44 ⟨Nat.le_of_ble_eq_true rfl, Nat.le_of_ble_eq_true rfl⟩) hS (fun q _ h => hFc q h) hFc (fun u9 t H1 locs ht hvm hr9 hB hz1 hk1 hS => ?_)
  obtain ⟨q3, hP1, hK1, hD1⟩ := hB
  rw [ht] at hP1
  obtain ⟨hP, hD⟩ := xjoin (W := [(a0, .inr (5, [.int 2, .ref a4, .int 1, v17, .int 0, v19, v20, .int 0, .int 1, .int 0, v24, v25, .int 0, v27, v28, .ref a3, .int 4, .int 4, .int 0, .int 100, v34, v35, .int 0, .int 1000000000, .ref a1, .ref a2, v38, v39, v40, v41, .int 1, v43])), (a1, .inl (cT 5, 8, .inr (.inr (.inr (.inr f44))))), (a2, .inl (cT 1, 8, .inl f46)), (a3, .inl (cT 0, 4096, .inl f48)), (a4, .inl (cT 4, 1024, .inr (.inr (.inr (.inr (va_up f53 0 (some q3))))))), (q3, .inr (6, [.int 0, .long 0, .int 0, .int 0, .int 0, .int 1]))]) hP hD [4, 0, 1, 2, 3] [] 0 rfl rfl (by decide) (by decide) hk1 hFc hP1 hD1
  generalize H1 = H at hP hS ⊢
  obtain ⟨hP9, hD9⟩ := xsub (wc := [(a0, .inr (5, [.int 2, .ref a4, .int 1, v17, .int 0, v19, v20, .int 0, .int 1, .int 0, v24, v25, .int 0, v27, v28, .ref a3, .int 4, .int 4, .int 0, .int 100, v34, v35, .int 0, .int 1000000000, .ref a1, .ref a2, v38, v39, v40, v41, .int 1, v43])), (a1, .inl (cT 5, 8, .inr (.inr (.inr (.inr f44))))), (a2, .inl (cT 1, 8, .inl f46)), (a3, .inl (cT 0, 4096, .inl f48)), (a4, .inl (cT 4, 1024, .inr (.inr (.inr (.inr (va_up f53 0 (some q3))))))), (q3, .inr (6, [.int 0, .long 0, .int 0, .int 0, .int 0, .int 1]))]) hP hD [0, 1, 2, 3, 4, 5] rfl rfl (by decide)
  refine W.widen (k := 2) (n := 12) (Nat.le_of_ble_eq_true rfl) (Nat.le_of_ble_eq_true rfl) ?_
  exact W.vret hx hb hr (fun t ht hW => ⟨⟨(), rfl, trivial, q3, by rw [ht]; exact hP9, va_K.moved hW.alike hK, hD9⟩, hS.F ht⟩) hS.2.2 dM_one0_47
set_option maxHeartbeats 400000000 in
set_option maxRecDepth 100000 in
theorem cB_isWithin_18 (l : Launch) (hl9 : l.stackTraces = false) (D : va_G) (cT : Nat → ClassId) (aK aV : Nat → Nat) (sz : Nat) : xMet l yB_isWithin wyB_isWithin 0 0 0 0 D cT aK aV sz [.int 4, .int 13] [] (fun A => va_Qi (fun (r : Int32) (_ : Unit) => r = 1) (fun _ t => xB D xcl cT A [] t) A) := by
  refine Met.ofW (cc := prog_1_method_15_code) (maxL := 2) (ret := (some .boolean)) (by decide) rfl ?_
  intro p e s m args below meth c s₁ B hml hv
  obtain ⟨rfl, hsz, hZ, hP, hK, hD0⟩ := hv
  have hx := B.exec
  have hb := B.bytes
  have hr := B.returns
  have hts := atoms_spec (ws := wyB_isWithin) B.pre
  have htx := fun w h => hts w (List.mem_cons_of_mem _ h)
  have hown : s.vm.findClass "ValueBench" = some m.cls := findClass_of_methodNamed B.named
  have hlocks := B.notSynchronized
  subst hsz
  have hD := hD0.self (sz := s.heap.size)
  generalize hAe : va_A [] s.heap.size = A at hD hZ ⊢
  have hA : ∀ q : Nat, s.heap.size ≤ q → A q := fun q h => by rw [← hAe]; exact Or.inr h
  have hS : va_S A s.heap s.heap [] := va_S.rf
  have hP : va_P D xcl [] s.heap := hP
  have hl := lv_entry ([.int 4, .int 13]) (n := 2) (Nat.le_of_ble_eq_true rfl)
  rw [lg_entry_eq]
  generalize (lg_sl ([.int 4, .int 13]) ++ List.replicate (2 - (lg_sl ([.int 4, .int 13])).length) Slot.unset).toArray = ls at hl ⊢
  have hl : lv_has ls 2 [(0, .int 4), (1, .int 13)] := hl
  refine lv_iload_n hx hb dB_isWithin_0 rfl (lv_at hl 0 rfl) ?_
  refine lv_if_lt (tgt := 13) hx hb dB_isWithin_1 (by decide) (fun h => ((by revert h; decide : False)).elim) (fun _ => ?_)
  refine lv_iload_n hx hb dB_isWithin_4 rfl (lv_at hl 0 rfl) ?_
  refine lv_iload_n hx hb dB_isWithin_5 rfl (lv_at hl 1 rfl) ?_
  refine lv_icmp_gt (tgt := 13) hx hb dB_isWithin_6 (by decide) (fun h => ((by revert h; decide : False)).elim) (fun _ => ?_)
  refine lv_iconst (v := 1) hx hb dB_isWithin_9 (by decide) ?_
  refine lv_goto (tgt := 14) hx hb dB_isWithin_10 (by decide) ?_
  obtain ⟨hP9, hD9⟩ := xsub (wc := []) hP hD [] rfl rfl (by decide)
  refine W.widen (k := 0) (n := 0) (Nat.le_of_ble_eq_true rfl) (Nat.le_of_ble_eq_true rfl) ?_
  exact W.zret (v := 1) hx hb hr rfl (fun t ht hW => ⟨⟨1, (), rfl, rfl, by rw [ht]; exact hP9, va_K.moved hW.alike hK, hD9⟩, hS.F ht⟩) hS.2.2 dB_isWithin_14
set_option maxHeartbeats 400000000 in
set_option maxRecDepth 100000 in
theorem cT_add_22 (l : Launch) (hl9 : l.stackTraces = false) (D : va_G) (cT : Nat → ClassId) (aK aV : Nat → Nat) (sz : Nat) (a0 : Nat) (a1 : Nat) (v2 : Value) (f3 : Nat → Int32) : xMet l yT_add wyT_add 0 0 0 0 D cT aK aV sz [.ref a0, .int 110] [(a0, .inr (1, [.ref a1, .int 0, v2])), (a1, .inl (cT 0, 4096, .inl f3))] (fun A => va_Qv (fun _ : Unit => True) (fun _ t => xB D xcl cT A [(a0, .inr (1, [.ref a1, .int 1, v2])), (a1, .inl (cT 0, 4096, .inl (upd f3 0 110)))] t) A) := by
  refine Met.ofW (cc := prog_11_method_8_code) (maxL := 2) (ret := none) (by decide) rfl ?_
  intro p e s m args below meth c s₁ B hml hv
  obtain ⟨rfl, hsz, hZ, hP, hK, hD0⟩ := hv
  have hx := B.exec
  have hb := B.bytes
  have hr := B.returns
  have hts := atoms_spec (ws := wyT_add) B.pre
  have htx := fun w h => hts w (List.mem_cons_of_mem _ h)
  have hown : s.vm.findClass "ValueBench$Text" = some m.cls := findClass_of_methodNamed B.named
  have hlocks := B.notSynchronized
  subst hsz
  have hD := hD0.self (sz := s.heap.size)
  generalize hAe : va_A [(a0, .inr (1, [.ref a1, .int 0, v2])), (a1, .inl (cT 0, 4096, .inl f3))] s.heap.size = A at hD hZ ⊢
  have hA : ∀ q : Nat, s.heap.size ≤ q → A q := fun q h => by rw [← hAe]; exact Or.inr h
  have hS : va_S A s.heap s.heap [] := va_S.rf
  have hP : va_P D xcl [(a0, .inr (1, [.ref a1, .int 0, v2])), (a1, .inl (cT 0, 4096, .inl f3))] s.heap := hP
  have hl := lv_entry ([.ref a0, .int 110]) (n := 2) (Nat.le_of_ble_eq_true rfl)
  rw [lg_entry_eq]
  generalize (lg_sl ([.ref a0, .int 110]) ++ List.replicate (2 - (lg_sl ([.ref a0, .int 110])).length) Slot.unset).toArray = ls at hl ⊢
  have hl : lv_has ls 2 [(0, .ref a0), (1, .int 110)] := hl
  refine lv_aload_n hx hb dT_add_0 rfl (lv_at hl 0 rfl) ?_
  refine va_get (D := D) (ci := 1) (v := .int 0) (C := "ValueBench$Text") (T := TT) (N := 3) hx hb htx inT hown hK hP 0 rfl rfl 1 (by decide) (htx _ kw_1_44) (fun _ h9 => h9) rfl dT_add_1 ?_
  refine lv_sipush (v := 4096) hx hb dT_add_4 (by decide) ?_
  refine lv_icmp_lt (tgt := 16) hx hb dT_add_7 (by decide) (fun _ => ?_) (fun h => ((by revert h; decide : False)).elim)
  refine lv_aload_n hx hb dT_add_16 rfl (lv_at hl 0 rfl) ?_
  refine va_get (D := D) (ci := 1) (v := .ref a1) (C := "ValueBench$Text") (T := TT) (N := 3) hx hb htx inT hown hK hP 0 rfl rfl 0 (by decide) (htx _ kw_1_43) (fun _ h9 => h9) rfl dT_add_17 ?_
  refine lv_aload_n hx hb dT_add_20 rfl (lv_at hl 0 rfl) ?_
  refine va_get (D := D) (ci := 1) (v := .int 0) (C := "ValueBench$Text") (T := TT) (N := 3) hx hb htx inT hown hK hP 0 rfl rfl 1 (by decide) (htx _ kw_1_44) (fun _ h9 => h9) rfl dT_add_21 ?_
  refine lv_iload_n hx hb dT_add_24 rfl (lv_at hl 1 rfl) ?_
  refine lv_i2b hx hb dT_add_25 rfl ?_
  refine W.eq (g2 := F0 m 26 ls [.int 110, .int 0, .ref a1]) rfl ?_
  refine va_bast hx hb hK hP hD hS 1 0 rfl rfl (show ¬ ((0 : Int32) < 0 ∨ 4096 ≤ (0 : Int32).toNatClampNeg) by decide) dT_add_26 (fun H locs hP hD hS => ?_)
  obtain ⟨hP, hD⟩ : xPD D xcl A [(a0, .inr (1, [.ref a1, .int 0, v2])), (a1, .inl (cT 0, 4096, .inl (upd f3 0 110)))] H := ⟨hP, hD⟩
  refine lv_aload_n hx hb dT_add_27 rfl (lv_at hl 0 rfl) ?_
  refine lv_dup hx hb dT_add_28 rfl ?_
  refine va_get (D := D) (ci := 1) (v := .int 0) (C := "ValueBench$Text") (T := TT) (N := 3) hx hb htx inT hown hK hP 0 rfl rfl 1 (by decide) (htx _ kw_1_44) (fun _ h9 => h9) rfl dT_add_29 ?_
  refine lv_iconst (v := 1) hx hb dT_add_32 (by decide) ?_
  refine lv_iadd hx hb dT_add_33 ?_
  refine W.eq (g2 := F0 m 34 ls [.int 1, .ref a0]) rfl ?_
  refine va_put (D := D) (ci := 1) (v := .int 1) (ty := .int) (C := "ValueBench$Text") (T := TT) (N := 3) hx hb htx inT tyT tyT_ok nmT hown hK hP hD hS 0 rfl rfl 1 (by decide) (htx _ kw_1_44) (fun _ h9 => h9) rfl (by decide +kernel) rfl rfl (Nat.le_of_ble_eq_true rfl) dT_add_34 (fun H locs hP hD hS => ?_)
  obtain ⟨hP, hD⟩ : xPD D xcl A [(a0, .inr (1, [.ref a1, .int 1, v2])), (a1, .inl (cT 0, 4096, .inl (upd f3 0 110)))] H := ⟨hP, hD⟩
  obtain ⟨hP9, hD9⟩ := xsub (wc := [(a0, .inr (1, [.ref a1, .int 1, v2])), (a1, .inl (cT 0, 4096, .inl (upd f3 0 110)))]) hP hD [0, 1] rfl rfl (by decide)
  refine W.widen (k := 0) (n := 0) (Nat.le_of_ble_eq_true rfl) (Nat.le_of_ble_eq_true rfl) ?_
  exact W.vret hx hb hr (fun t ht hW => ⟨⟨(), rfl, trivial, by rw [ht]; exact hP9, va_K.moved hW.alike hK, hD9⟩, hS.F ht⟩) hS.2.2 dT_add_37
set_option maxHeartbeats 400000000 in
set_option maxRecDepth 100000 in
theorem cT_add_23 (l : Launch) (hl9 : l.stackTraces = false) (D : va_G) (cT : Nat → ClassId) (aK aV : Nat → Nat) (sz : Nat) (a0 : Nat) (a1 : Nat) (v2 : Value) (f3 : Nat → Int32) : xMet l yT_add wyT_add 0 0 0 0 D cT aK aV sz [.ref a0, .int 117] [(a0, .inr (1, [.ref a1, .int 1, v2])), (a1, .inl (cT 0, 4096, .inl f3))] (fun A => va_Qv (fun _ : Unit => True) (fun _ t => xB D xcl cT A [(a0, .inr (1, [.ref a1, .int 2, v2])), (a1, .inl (cT 0, 4096, .inl (upd f3 1 117)))] t) A) := by
  refine Met.ofW (cc := prog_11_method_8_code) (maxL := 2) (ret := none) (by decide) rfl ?_
  intro p e s m args below meth c s₁ B hml hv
  obtain ⟨rfl, hsz, hZ, hP, hK, hD0⟩ := hv
  have hx := B.exec
  have hb := B.bytes
  have hr := B.returns
  have hts := atoms_spec (ws := wyT_add) B.pre
  have htx := fun w h => hts w (List.mem_cons_of_mem _ h)
  have hown : s.vm.findClass "ValueBench$Text" = some m.cls := findClass_of_methodNamed B.named
  have hlocks := B.notSynchronized
  subst hsz
  have hD := hD0.self (sz := s.heap.size)
  generalize hAe : va_A [(a0, .inr (1, [.ref a1, .int 1, v2])), (a1, .inl (cT 0, 4096, .inl f3))] s.heap.size = A at hD hZ ⊢
  have hA : ∀ q : Nat, s.heap.size ≤ q → A q := fun q h => by rw [← hAe]; exact Or.inr h
  have hS : va_S A s.heap s.heap [] := va_S.rf
  have hP : va_P D xcl [(a0, .inr (1, [.ref a1, .int 1, v2])), (a1, .inl (cT 0, 4096, .inl f3))] s.heap := hP
  have hl := lv_entry ([.ref a0, .int 117]) (n := 2) (Nat.le_of_ble_eq_true rfl)
  rw [lg_entry_eq]
  generalize (lg_sl ([.ref a0, .int 117]) ++ List.replicate (2 - (lg_sl ([.ref a0, .int 117])).length) Slot.unset).toArray = ls at hl ⊢
  have hl : lv_has ls 2 [(0, .ref a0), (1, .int 117)] := hl
  refine lv_aload_n hx hb dT_add_0 rfl (lv_at hl 0 rfl) ?_
  refine va_get (D := D) (ci := 1) (v := .int 1) (C := "ValueBench$Text") (T := TT) (N := 3) hx hb htx inT hown hK hP 0 rfl rfl 1 (by decide) (htx _ kw_1_44) (fun _ h9 => h9) rfl dT_add_1 ?_
  refine lv_sipush (v := 4096) hx hb dT_add_4 (by decide) ?_
  refine lv_icmp_lt (tgt := 16) hx hb dT_add_7 (by decide) (fun _ => ?_) (fun h => ((by revert h; decide : False)).elim)
  refine lv_aload_n hx hb dT_add_16 rfl (lv_at hl 0 rfl) ?_
  refine va_get (D := D) (ci := 1) (v := .ref a1) (C := "ValueBench$Text") (T := TT) (N := 3) hx hb htx inT hown hK hP 0 rfl rfl 0 (by decide) (htx _ kw_1_43) (fun _ h9 => h9) rfl dT_add_17 ?_
  refine lv_aload_n hx hb dT_add_20 rfl (lv_at hl 0 rfl) ?_
  refine va_get (D := D) (ci := 1) (v := .int 1) (C := "ValueBench$Text") (T := TT) (N := 3) hx hb htx inT hown hK hP 0 rfl rfl 1 (by decide) (htx _ kw_1_44) (fun _ h9 => h9) rfl dT_add_21 ?_
  refine lv_iload_n hx hb dT_add_24 rfl (lv_at hl 1 rfl) ?_
  refine lv_i2b hx hb dT_add_25 rfl ?_
  refine W.eq (g2 := F0 m 26 ls [.int 117, .int 1, .ref a1]) rfl ?_
  refine va_bast hx hb hK hP hD hS 1 0 rfl rfl (show ¬ ((1 : Int32) < 0 ∨ 4096 ≤ (1 : Int32).toNatClampNeg) by decide) dT_add_26 (fun H locs hP hD hS => ?_)
  obtain ⟨hP, hD⟩ : xPD D xcl A [(a0, .inr (1, [.ref a1, .int 1, v2])), (a1, .inl (cT 0, 4096, .inl (upd f3 1 117)))] H := ⟨hP, hD⟩
  refine lv_aload_n hx hb dT_add_27 rfl (lv_at hl 0 rfl) ?_
  refine lv_dup hx hb dT_add_28 rfl ?_
  refine va_get (D := D) (ci := 1) (v := .int 1) (C := "ValueBench$Text") (T := TT) (N := 3) hx hb htx inT hown hK hP 0 rfl rfl 1 (by decide) (htx _ kw_1_44) (fun _ h9 => h9) rfl dT_add_29 ?_
  refine lv_iconst (v := 1) hx hb dT_add_32 (by decide) ?_
  refine lv_iadd hx hb dT_add_33 ?_
  refine W.eq (g2 := F0 m 34 ls [.int 2, .ref a0]) rfl ?_
  refine va_put (D := D) (ci := 1) (v := .int 2) (ty := .int) (C := "ValueBench$Text") (T := TT) (N := 3) hx hb htx inT tyT tyT_ok nmT hown hK hP hD hS 0 rfl rfl 1 (by decide) (htx _ kw_1_44) (fun _ h9 => h9) rfl (by decide +kernel) rfl rfl (Nat.le_of_ble_eq_true rfl) dT_add_34 (fun H locs hP hD hS => ?_)
  obtain ⟨hP, hD⟩ : xPD D xcl A [(a0, .inr (1, [.ref a1, .int 2, v2])), (a1, .inl (cT 0, 4096, .inl (upd f3 1 117)))] H := ⟨hP, hD⟩
  obtain ⟨hP9, hD9⟩ := xsub (wc := [(a0, .inr (1, [.ref a1, .int 2, v2])), (a1, .inl (cT 0, 4096, .inl (upd f3 1 117)))]) hP hD [0, 1] rfl rfl (by decide)
  refine W.widen (k := 0) (n := 0) (Nat.le_of_ble_eq_true rfl) (Nat.le_of_ble_eq_true rfl) ?_
  exact W.vret hx hb hr (fun t ht hW => ⟨⟨(), rfl, trivial, by rw [ht]; exact hP9, va_K.moved hW.alike hK, hD9⟩, hS.F ht⟩) hS.2.2 dT_add_37
set_option maxHeartbeats 400000000 in
set_option maxRecDepth 100000 in
theorem cT_add_24 (l : Launch) (hl9 : l.stackTraces = false) (D : va_G) (cT : Nat → ClassId) (aK aV : Nat → Nat) (sz : Nat) (a0 : Nat) (a1 : Nat) (v2 : Value) (f3 : Nat → Int32) : xMet l yT_add wyT_add 0 0 0 0 D cT aK aV sz [.ref a0, .int 108] [(a0, .inr (1, [.ref a1, .int 2, v2])), (a1, .inl (cT 0, 4096, .inl f3))] (fun A => va_Qv (fun _ : Unit => True) (fun _ t => xB D xcl cT A [(a0, .inr (1, [.ref a1, .int 3, v2])), (a1, .inl (cT 0, 4096, .inl (upd f3 2 108)))] t) A) := by
  refine Met.ofW (cc := prog_11_method_8_code) (maxL := 2) (ret := none) (by decide) rfl ?_
  intro p e s m args below meth c s₁ B hml hv
  obtain ⟨rfl, hsz, hZ, hP, hK, hD0⟩ := hv
  have hx := B.exec
  have hb := B.bytes
  have hr := B.returns
  have hts := atoms_spec (ws := wyT_add) B.pre
  have htx := fun w h => hts w (List.mem_cons_of_mem _ h)
  have hown : s.vm.findClass "ValueBench$Text" = some m.cls := findClass_of_methodNamed B.named
  have hlocks := B.notSynchronized
  subst hsz
  have hD := hD0.self (sz := s.heap.size)
  generalize hAe : va_A [(a0, .inr (1, [.ref a1, .int 2, v2])), (a1, .inl (cT 0, 4096, .inl f3))] s.heap.size = A at hD hZ ⊢
  have hA : ∀ q : Nat, s.heap.size ≤ q → A q := fun q h => by rw [← hAe]; exact Or.inr h
  have hS : va_S A s.heap s.heap [] := va_S.rf
  have hP : va_P D xcl [(a0, .inr (1, [.ref a1, .int 2, v2])), (a1, .inl (cT 0, 4096, .inl f3))] s.heap := hP
  have hl := lv_entry ([.ref a0, .int 108]) (n := 2) (Nat.le_of_ble_eq_true rfl)
  rw [lg_entry_eq]
  generalize (lg_sl ([.ref a0, .int 108]) ++ List.replicate (2 - (lg_sl ([.ref a0, .int 108])).length) Slot.unset).toArray = ls at hl ⊢
  have hl : lv_has ls 2 [(0, .ref a0), (1, .int 108)] := hl
  refine lv_aload_n hx hb dT_add_0 rfl (lv_at hl 0 rfl) ?_
  refine va_get (D := D) (ci := 1) (v := .int 2) (C := "ValueBench$Text") (T := TT) (N := 3) hx hb htx inT hown hK hP 0 rfl rfl 1 (by decide) (htx _ kw_1_44) (fun _ h9 => h9) rfl dT_add_1 ?_
  refine lv_sipush (v := 4096) hx hb dT_add_4 (by decide) ?_
  refine lv_icmp_lt (tgt := 16) hx hb dT_add_7 (by decide) (fun _ => ?_) (fun h => ((by revert h; decide : False)).elim)
  refine lv_aload_n hx hb dT_add_16 rfl (lv_at hl 0 rfl) ?_
  refine va_get (D := D) (ci := 1) (v := .ref a1) (C := "ValueBench$Text") (T := TT) (N := 3) hx hb htx inT hown hK hP 0 rfl rfl 0 (by decide) (htx _ kw_1_43) (fun _ h9 => h9) rfl dT_add_17 ?_
  refine lv_aload_n hx hb dT_add_20 rfl (lv_at hl 0 rfl) ?_
  refine va_get (D := D) (ci := 1) (v := .int 2) (C := "ValueBench$Text") (T := TT) (N := 3) hx hb htx inT hown hK hP 0 rfl rfl 1 (by decide) (htx _ kw_1_44) (fun _ h9 => h9) rfl dT_add_21 ?_
  refine lv_iload_n hx hb dT_add_24 rfl (lv_at hl 1 rfl) ?_
  refine lv_i2b hx hb dT_add_25 rfl ?_
  refine W.eq (g2 := F0 m 26 ls [.int 108, .int 2, .ref a1]) rfl ?_
  refine va_bast hx hb hK hP hD hS 1 0 rfl rfl (show ¬ ((2 : Int32) < 0 ∨ 4096 ≤ (2 : Int32).toNatClampNeg) by decide) dT_add_26 (fun H locs hP hD hS => ?_)
  obtain ⟨hP, hD⟩ : xPD D xcl A [(a0, .inr (1, [.ref a1, .int 2, v2])), (a1, .inl (cT 0, 4096, .inl (upd f3 2 108)))] H := ⟨hP, hD⟩
  refine lv_aload_n hx hb dT_add_27 rfl (lv_at hl 0 rfl) ?_
  refine lv_dup hx hb dT_add_28 rfl ?_
  refine va_get (D := D) (ci := 1) (v := .int 2) (C := "ValueBench$Text") (T := TT) (N := 3) hx hb htx inT hown hK hP 0 rfl rfl 1 (by decide) (htx _ kw_1_44) (fun _ h9 => h9) rfl dT_add_29 ?_
  refine lv_iconst (v := 1) hx hb dT_add_32 (by decide) ?_
  refine lv_iadd hx hb dT_add_33 ?_
  refine W.eq (g2 := F0 m 34 ls [.int 3, .ref a0]) rfl ?_
  refine va_put (D := D) (ci := 1) (v := .int 3) (ty := .int) (C := "ValueBench$Text") (T := TT) (N := 3) hx hb htx inT tyT tyT_ok nmT hown hK hP hD hS 0 rfl rfl 1 (by decide) (htx _ kw_1_44) (fun _ h9 => h9) rfl (by decide +kernel) rfl rfl (Nat.le_of_ble_eq_true rfl) dT_add_34 (fun H locs hP hD hS => ?_)
  obtain ⟨hP, hD⟩ : xPD D xcl A [(a0, .inr (1, [.ref a1, .int 3, v2])), (a1, .inl (cT 0, 4096, .inl (upd f3 2 108)))] H := ⟨hP, hD⟩
  obtain ⟨hP9, hD9⟩ := xsub (wc := [(a0, .inr (1, [.ref a1, .int 3, v2])), (a1, .inl (cT 0, 4096, .inl (upd f3 2 108)))]) hP hD [0, 1] rfl rfl (by decide)
  refine W.widen (k := 0) (n := 0) (Nat.le_of_ble_eq_true rfl) (Nat.le_of_ble_eq_true rfl) ?_
  exact W.vret hx hb hr (fun t ht hW => ⟨⟨(), rfl, trivial, by rw [ht]; exact hP9, va_K.moved hW.alike hK, hD9⟩, hS.F ht⟩) hS.2.2 dT_add_37
set_option maxHeartbeats 400000000 in
set_option maxRecDepth 100000 in
theorem cT_add_25 (l : Launch) (hl9 : l.stackTraces = false) (D : va_G) (cT : Nat → ClassId) (aK aV : Nat → Nat) (sz : Nat) (a0 : Nat) (a1 : Nat) (v2 : Value) (f3 : Nat → Int32) : xMet l yT_add wyT_add 0 0 0 0 D cT aK aV sz [.ref a0, .int 108] [(a0, .inr (1, [.ref a1, .int 3, v2])), (a1, .inl (cT 0, 4096, .inl f3))] (fun A => va_Qv (fun _ : Unit => True) (fun _ t => xB D xcl cT A [(a0, .inr (1, [.ref a1, .int 4, v2])), (a1, .inl (cT 0, 4096, .inl (upd f3 3 108)))] t) A) := by
  refine Met.ofW (cc := prog_11_method_8_code) (maxL := 2) (ret := none) (by decide) rfl ?_
  intro p e s m args below meth c s₁ B hml hv
  obtain ⟨rfl, hsz, hZ, hP, hK, hD0⟩ := hv
  have hx := B.exec
  have hb := B.bytes
  have hr := B.returns
  have hts := atoms_spec (ws := wyT_add) B.pre
  have htx := fun w h => hts w (List.mem_cons_of_mem _ h)
  have hown : s.vm.findClass "ValueBench$Text" = some m.cls := findClass_of_methodNamed B.named
  have hlocks := B.notSynchronized
  subst hsz
  have hD := hD0.self (sz := s.heap.size)
  generalize hAe : va_A [(a0, .inr (1, [.ref a1, .int 3, v2])), (a1, .inl (cT 0, 4096, .inl f3))] s.heap.size = A at hD hZ ⊢
  have hA : ∀ q : Nat, s.heap.size ≤ q → A q := fun q h => by rw [← hAe]; exact Or.inr h
  have hS : va_S A s.heap s.heap [] := va_S.rf
  have hP : va_P D xcl [(a0, .inr (1, [.ref a1, .int 3, v2])), (a1, .inl (cT 0, 4096, .inl f3))] s.heap := hP
  have hl := lv_entry ([.ref a0, .int 108]) (n := 2) (Nat.le_of_ble_eq_true rfl)
  rw [lg_entry_eq]
  generalize (lg_sl ([.ref a0, .int 108]) ++ List.replicate (2 - (lg_sl ([.ref a0, .int 108])).length) Slot.unset).toArray = ls at hl ⊢
  have hl : lv_has ls 2 [(0, .ref a0), (1, .int 108)] := hl
  refine lv_aload_n hx hb dT_add_0 rfl (lv_at hl 0 rfl) ?_
  refine va_get (D := D) (ci := 1) (v := .int 3) (C := "ValueBench$Text") (T := TT) (N := 3) hx hb htx inT hown hK hP 0 rfl rfl 1 (by decide) (htx _ kw_1_44) (fun _ h9 => h9) rfl dT_add_1 ?_
  refine lv_sipush (v := 4096) hx hb dT_add_4 (by decide) ?_
  refine lv_icmp_lt (tgt := 16) hx hb dT_add_7 (by decide) (fun _ => ?_) (fun h => ((by revert h; decide : False)).elim)
  refine lv_aload_n hx hb dT_add_16 rfl (lv_at hl 0 rfl) ?_
  refine va_get (D := D) (ci := 1) (v := .ref a1) (C := "ValueBench$Text") (T := TT) (N := 3) hx hb htx inT hown hK hP 0 rfl rfl 0 (by decide) (htx _ kw_1_43) (fun _ h9 => h9) rfl dT_add_17 ?_
  refine lv_aload_n hx hb dT_add_20 rfl (lv_at hl 0 rfl) ?_
  refine va_get (D := D) (ci := 1) (v := .int 3) (C := "ValueBench$Text") (T := TT) (N := 3) hx hb htx inT hown hK hP 0 rfl rfl 1 (by decide) (htx _ kw_1_44) (fun _ h9 => h9) rfl dT_add_21 ?_
  refine lv_iload_n hx hb dT_add_24 rfl (lv_at hl 1 rfl) ?_
  refine lv_i2b hx hb dT_add_25 rfl ?_
  refine W.eq (g2 := F0 m 26 ls [.int 108, .int 3, .ref a1]) rfl ?_
  refine va_bast hx hb hK hP hD hS 1 0 rfl rfl (show ¬ ((3 : Int32) < 0 ∨ 4096 ≤ (3 : Int32).toNatClampNeg) by decide) dT_add_26 (fun H locs hP hD hS => ?_)
  obtain ⟨hP, hD⟩ : xPD D xcl A [(a0, .inr (1, [.ref a1, .int 3, v2])), (a1, .inl (cT 0, 4096, .inl (upd f3 3 108)))] H := ⟨hP, hD⟩
  refine lv_aload_n hx hb dT_add_27 rfl (lv_at hl 0 rfl) ?_
  refine lv_dup hx hb dT_add_28 rfl ?_
  refine va_get (D := D) (ci := 1) (v := .int 3) (C := "ValueBench$Text") (T := TT) (N := 3) hx hb htx inT hown hK hP 0 rfl rfl 1 (by decide) (htx _ kw_1_44) (fun _ h9 => h9) rfl dT_add_29 ?_
  refine lv_iconst (v := 1) hx hb dT_add_32 (by decide) ?_
  refine lv_iadd hx hb dT_add_33 ?_
  refine W.eq (g2 := F0 m 34 ls [.int 4, .ref a0]) rfl ?_
  refine va_put (D := D) (ci := 1) (v := .int 4) (ty := .int) (C := "ValueBench$Text") (T := TT) (N := 3) hx hb htx inT tyT tyT_ok nmT hown hK hP hD hS 0 rfl rfl 1 (by decide) (htx _ kw_1_44) (fun _ h9 => h9) rfl (by decide +kernel) rfl rfl (Nat.le_of_ble_eq_true rfl) dT_add_34 (fun H locs hP hD hS => ?_)
  obtain ⟨hP, hD⟩ : xPD D xcl A [(a0, .inr (1, [.ref a1, .int 4, v2])), (a1, .inl (cT 0, 4096, .inl (upd f3 3 108)))] H := ⟨hP, hD⟩
  obtain ⟨hP9, hD9⟩ := xsub (wc := [(a0, .inr (1, [.ref a1, .int 4, v2])), (a1, .inl (cT 0, 4096, .inl (upd f3 3 108)))]) hP hD [0, 1] rfl rfl (by decide)
  refine W.widen (k := 0) (n := 0) (Nat.le_of_ble_eq_true rfl) (Nat.le_of_ble_eq_true rfl) ?_
  exact W.vret hx hb hr (fun t ht hW => ⟨⟨(), rfl, trivial, by rw [ht]; exact hP9, va_K.moved hW.alike hK, hD9⟩, hS.F ht⟩) hS.2.2 dT_add_37
set_option maxHeartbeats 400000000 in
set_option maxRecDepth 100000 in
theorem cT_addWord_3 (l : Launch) (hl9 : l.stackTraces = false) (D : va_G) (cT : Nat → ClassId) (aK aV : Nat → Nat) (sz : Nat) (a0 : Nat) (a1 : Nat) (v2 : Value) (f3 : Nat → Int32) : xMet l yT_addWord wyT_addWord 4 0 0 85 D cT aK aV sz [.ref a0, .ref (aK 10)] [(a0, .inr (1, [.ref a1, .int 0, v2])), (a1, .inl (cT 0, 4096, .inl f3))] (fun A => va_Qv (fun _ : Unit => True) (fun _ t => xB D xcl cT A [(a0, .inr (1, [.ref a1, .int 4, v2])), (a1, .inl (cT 0, 4096, .inl (upd (upd (upd (upd f3 0 110) 1 117) 2 108) 3 108)))] t) A) := by
  refine Met.ofW (cc := prog_11_method_10_code) (maxL := 3) (ret := none) (by decide) rfl ?_
  intro p e s m args below meth c s₁ B hml hv
  obtain ⟨rfl, hsz, hZ, hP, hK, hD0⟩ := hv
  have hx := B.exec
  have hb := B.bytes
  have hr := B.returns
  have hts := atoms_spec (ws := wyT_addWord) B.pre
  have htx := fun w h => hts w (List.mem_cons_of_mem _ h)
  have hown : s.vm.findClass "ValueBench$Text" = some m.cls := findClass_of_methodNamed B.named
  have hlocks := B.notSynchronized
  subst hsz
  have hD := hD0.self (sz := s.heap.size)
  generalize hAe : va_A [(a0, .inr (1, [.ref a1, .int 0, v2])), (a1, .inl (cT 0, 4096, .inl f3))] s.heap.size = A at hD hZ ⊢
  have hA : ∀ q : Nat, s.heap.size ≤ q → A q := fun q h => by rw [← hAe]; exact Or.inr h
  have hS : va_S A s.heap s.heap [] := va_S.rf
  have hP : va_P D xcl [(a0, .inr (1, [.ref a1, .int 0, v2])), (a1, .inl (cT 0, 4096, .inl f3))] s.heap := hP
  have hl := lv_entry ([.ref a0, .ref (aK 10)]) (n := 3) (Nat.le_of_ble_eq_true rfl)
  rw [lg_entry_eq]
  generalize (lg_sl ([.ref a0, .ref (aK 10)]) ++ List.replicate (3 - (lg_sl ([.ref a0, .ref (aK 10)])).length) Slot.unset).toArray = ls at hl ⊢
  have hl : lv_has ls 3 [(0, .ref a0), (1, .ref (aK 10))] := hl
  refine lv_iconst (v := 0) hx hb dT_addWord_0 (by decide) ?_
  refine lv_istore_n (lv' := [(2, .int 0), (0, .ref a0), (1, .ref (aK 10))]) hx hb dT_addWord_1 rfl hl (by decide) rfl (fun ls hl => ?_)
  refine lv_iload_n hx hb dT_addWord_2 rfl (lv_at hl 0 rfl) ?_
  refine lv_aload_n hx hb dT_addWord_3 rfl (lv_at hl 2 rfl) ?_
  obtain ⟨hPc, hDc, hFc⟩ := xcut (wc := []) hP hD hS hA [] rfl rfl (by decide)
  refine va_calli (va_runV (C := "java/lang/String") (As := []) (rest := [.int 0]) ⟨hx, hb, hml, hown, htx⟩ (cJS_length_0 l hl9 D cT aK aV s.heap.size) ⟨callB_of 0 htx (xw_goodC kw_2_70) rfl rfl rfl (htx _ kw_1_6) (htx _ kw_3_30) ⟨by decide, by decide, by decide +kernel⟩ ⟨Nat.le_of_ble_eq_true rfl, Nat.le_of_ble_eq_true rfl⟩, (htx _ kw_2_68), (htx _ kw_2_69)⟩ ⟨xPre_blind, vk_recv hZ.2.2.2.2.2.2.2.2.2.1 (i := 10) (by decide) hS, (fun U hU hW => ⟨rfl, xPre_of hZ hS hFc hPc hDc hK U hU hW⟩)⟩ rfl rfl hl.1 rfl (lv_room (Nat.le_of_ble_eq_true rfl)) dT_addWord_4 ⟨Nat.le_of_ble_eq_true rfl, Nat.le_of_ble_eq_true rfl⟩) hS (fun q _ h => hFc q h) hFc (fun r1 u9 t H1 locs ht hvm hr9 hB hz1 hk1 hS => ?_)
  obtain ⟨hP1, hK1, hD1⟩ := hB
  rw [ht] at hP1
  obtain ⟨hP, hD⟩ := xjoin (W := [(a0, .inr (1, [.ref a1, .int 0, v2])), (a1, .inl (cT 0, 4096, .inl f3))]) hP hD [] [0, 1] 2 rfl rfl (by decide) (by decide) hk1 hFc hP1 hD1
  generalize H1 = H at hP hS ⊢
  rw [hr9]
  refine W.eq (g2 := F0 m 7 ls [.int 4, .int 0]) rfl ?_
  refine lv_icmp_ge (tgt := 25) hx hb dT_addWord_7 (by decide) (fun h => ((by revert h; decide : False)).elim) (fun _ => ?_)
  refine lv_aload_n hx hb dT_addWord_10 rfl (lv_at hl 1 rfl) ?_
  refine lv_aload_n hx hb dT_addWord_11 rfl (lv_at hl 2 rfl) ?_
  refine lv_iload_n hx hb dT_addWord_12 rfl (lv_at hl 0 rfl) ?_
  obtain ⟨hPc, hDc, hFc⟩ := xcut (wc := []) hP hD hS hA [] rfl rfl (by decide)
  refine va_calli (va_runV (C := "java/lang/String") (As := [.int 0]) (rest := [.ref a0]) ⟨hx, hb, hml, hown, htx⟩ (cJS_charAt_0 l hl9 D cT aK aV H.size) ⟨callB_of 1 htx (xw_goodC kw_2_80) rfl rfl rfl (htx _ kw_1_6) (htx _ kw_3_31) ⟨by decide, by decide, by decide +kernel⟩ ⟨Nat.le_of_ble_eq_true rfl, Nat.le_of_ble_eq_true rfl⟩, (htx _ kw_2_78), (htx _ kw_2_79)⟩ ⟨xPre_blind, vk_recv hZ.2.2.2.2.2.2.2.2.2.1 (i := 10) (by decide) hS, (fun U hU hW => ⟨rfl, xPre_of hZ hS hFc hPc hDc hK U hU hW⟩)⟩ rfl rfl hl.1 rfl (lv_room (Nat.le_of_ble_eq_true rfl)) dT_addWord_13 ⟨Nat.le_of_ble_eq_true rfl, Nat.le_of_ble_eq_true rfl⟩) hS (fun q _ h => hFc q h) hFc (fun r2 u9 t H1 locs ht hvm hr9 hB hz1 hk1 hS => ?_)
  obtain ⟨hP1, hK1, hD1⟩ := hB
  rw [ht] at hP1
  obtain ⟨hP, hD⟩ := xjoin (W := [(a0, .inr (1, [.ref a1, .int 0, v2])), (a1, .inl (cT 0, 4096, .inl f3))]) hP hD [] [0, 1] 2 rfl rfl (by decide) (by decide) hk1 hFc hP1 hD1
  generalize H1 = H at hP hS ⊢
  rw [hr9]
  refine W.eq (g2 := F0 m 16 ls [.int 110, .ref a0]) rfl ?_
  obtain ⟨hPc, hDc, hFc⟩ := xcut (wc := [(a0, .inr (1, [.ref a1, .int 0, v2])), (a1, .inl (cT 0, 4096, .inl f3))]) hP hD hS hA [0, 1] rfl rfl (by decide)
  refine va_callv (va_runV (C := "ValueBench$Text") (As := [.int 110]) (rest := []) ⟨hx, hb, hml, hown, htx⟩ (cT_add_22 l hl9 D cT aK aV H.size a0 a1 v2 f3) ⟨callB_of 1 htx (xw_goodC kw_1_207) rfl rfl rfl (htx _ kw_1_2) (htx _ kw_1_204) ⟨by decide, by decide, by decide +kernel⟩ ⟨Nat.le_of_ble_eq_true rfl, Nat.le_of_ble_eq_true rfl⟩, (htx _ kw_1_205), (htx _ kw_1_206)⟩ ⟨xPre_blind, va_recv hK hP (ci := 1) rfl (q0 := 0) rfl, (fun U hU hW => ⟨rfl, xPre_of hZ hS hFc hPc hDc hK U hU hW⟩)⟩ rfl rfl hl.1 rfl (lv_room (Nat.le_of_ble_eq_true rfl)) dT_addWord_16 ⟨Nat.le_of_ble_eq_true rfl, Nat.le_of_ble_eq_true rfl⟩) hS (fun q _ h => hFc q h) hFc (fun u9 t H1 locs ht hvm hr9 hB hz1 hk1 hS => ?_)
  obtain ⟨hP1, hK1, hD1⟩ := hB
  rw [ht] at hP1
  obtain ⟨hP, hD⟩ := xjoin (W := [(a0, .inr (1, [.ref a1, .int 1, v2])), (a1, .inl (cT 0, 4096, .inl (upd f3 0 110)))]) hP hD [0, 1] [] 0 rfl rfl (by decide) (by decide) hk1 hFc hP1 hD1
  generalize H1 = H at hP hS ⊢
  refine lv_iinc (v := 1) (lv' := [(2, .int 1), (0, .ref a0), (1, .ref (aK 10))]) hx hb dT_addWord_19 hl (k := 0) rfl (by decide) (by decide) rfl (fun ls hl => ?_)
  refine lv_goto (tgt := 2) hx hb dT_addWord_22 (by decide) ?_
  refine lv_iload_n hx hb dT_addWord_2 rfl (lv_at hl 0 rfl) ?_
  refine lv_aload_n hx hb dT_addWord_3 rfl (lv_at hl 2 rfl) ?_
  obtain ⟨hPc, hDc, hFc⟩ := xcut (wc := []) hP hD hS hA [] rfl rfl (by decide)
  refine va_calli (va_runV (C := "java/lang/String") (As := []) (rest := [.int 1]) ⟨hx, hb, hml, hown, htx⟩ (cJS_length_0 l hl9 D cT aK aV H.size) ⟨callB_of 0 htx (xw_goodC kw_2_70) rfl rfl rfl (htx _ kw_1_6) (htx _ kw_3_30) ⟨by decide, by decide, by decide +kernel⟩ ⟨Nat.le_of_ble_eq_true rfl, Nat.le_of_ble_eq_true rfl⟩, (htx _ kw_2_68), (htx _ kw_2_69)⟩ ⟨xPre_blind, vk_recv hZ.2.2.2.2.2.2.2.2.2.1 (i := 10) (by decide) hS, (fun U hU hW => ⟨rfl, xPre_of hZ hS hFc hPc hDc hK U hU hW⟩)⟩ rfl rfl hl.1 rfl (lv_room (Nat.le_of_ble_eq_true rfl)) dT_addWord_4 ⟨Nat.le_of_ble_eq_true rfl, Nat.le_of_ble_eq_true rfl⟩) hS (fun q _ h => hFc q h) hFc (fun r3 u9 t H1 locs ht hvm hr9 hB hz1 hk1 hS => ?_)
  obtain ⟨hP1, hK1, hD1⟩ := hB
  rw [ht] at hP1
  obtain ⟨hP, hD⟩ := xjoin (W := [(a0, .inr (1, [.ref a1, .int 1, v2])), (a1, .inl (cT 0, 4096, .inl (upd f3 0 110)))]) hP hD [] [0, 1] 2 rfl rfl (by decide) (by decide) hk1 hFc hP1 hD1
  generalize H1 = H at hP hS ⊢
  rw [hr9]
  refine W.eq (g2 := F0 m 7 ls [.int 4, .int 1]) rfl ?_
  refine lv_icmp_ge (tgt := 25) hx hb dT_addWord_7 (by decide) (fun h => ((by revert h; decide : False)).elim) (fun _ => ?_)
  refine lv_aload_n hx hb dT_addWord_10 rfl (lv_at hl 1 rfl) ?_
  refine lv_aload_n hx hb dT_addWord_11 rfl (lv_at hl 2 rfl) ?_
  refine lv_iload_n hx hb dT_addWord_12 rfl (lv_at hl 0 rfl) ?_
  obtain ⟨hPc, hDc, hFc⟩ := xcut (wc := []) hP hD hS hA [] rfl rfl (by decide)
  refine va_calli (va_runV (C := "java/lang/String") (As := [.int 1]) (rest := [.ref a0]) ⟨hx, hb, hml, hown, htx⟩ (cJS_charAt_1 l hl9 D cT aK aV H.size) ⟨callB_of 1 htx (xw_goodC kw_2_80) rfl rfl rfl (htx _ kw_1_6) (htx _ kw_3_31) ⟨by decide, by decide, by decide +kernel⟩ ⟨Nat.le_of_ble_eq_true rfl, Nat.le_of_ble_eq_true rfl⟩, (htx _ kw_2_78), (htx _ kw_2_79)⟩ ⟨xPre_blind, vk_recv hZ.2.2.2.2.2.2.2.2.2.1 (i := 10) (by decide) hS, (fun U hU hW => ⟨rfl, xPre_of hZ hS hFc hPc hDc hK U hU hW⟩)⟩ rfl rfl hl.1 rfl (lv_room (Nat.le_of_ble_eq_true rfl)) dT_addWord_13 ⟨Nat.le_of_ble_eq_true rfl, Nat.le_of_ble_eq_true rfl⟩) hS (fun q _ h => hFc q h) hFc (fun r4 u9 t H1 locs ht hvm hr9 hB hz1 hk1 hS => ?_)
  obtain ⟨hP1, hK1, hD1⟩ := hB
  rw [ht] at hP1
  obtain ⟨hP, hD⟩ := xjoin (W := [(a0, .inr (1, [.ref a1, .int 1, v2])), (a1, .inl (cT 0, 4096, .inl (upd f3 0 110)))]) hP hD [] [0, 1] 2 rfl rfl (by decide) (by decide) hk1 hFc hP1 hD1
  generalize H1 = H at hP hS ⊢
  rw [hr9]
  refine W.eq (g2 := F0 m 16 ls [.int 117, .ref a0]) rfl ?_
  obtain ⟨hPc, hDc, hFc⟩ := xcut (wc := [(a0, .inr (1, [.ref a1, .int 1, v2])), (a1, .inl (cT 0, 4096, .inl (upd f3 0 110)))]) hP hD hS hA [0, 1] rfl rfl (by decide)
  refine va_callv (va_runV (C := "ValueBench$Text") (As := [.int 117]) (rest := []) ⟨hx, hb, hml, hown, htx⟩ (cT_add_23 l hl9 D cT aK aV H.size a0 a1 v2 (upd f3 0 110)) ⟨callB_of 1 htx (xw_goodC kw_1_207) rfl rfl rfl (htx _ kw_1_2) (htx _ kw_1_204) ⟨by decide, by decide, by decide +kernel⟩ ⟨Nat.le_of_ble_eq_true rfl, Nat.le_of_ble_eq_true rfl⟩, (htx _ kw_1_205), (htx _ kw_1_206)⟩ ⟨xPre_blind, va_recv hK hP (ci := 1) rfl (q0 := 0) rfl, (fun U hU hW => ⟨rfl, xPre_of hZ hS hFc hPc hDc hK U hU hW⟩)⟩ rfl rfl hl.1 rfl (lv_room (Nat.le_of_ble_eq_true rfl)) dT_addWord_16 ⟨Nat.le_of_ble_eq_true rfl, Nat.le_of_ble_eq_true rfl⟩) hS (fun q _ h => hFc q h) hFc (fun u9 t H1 locs ht hvm hr9 hB hz1 hk1 hS => ?_)
  obtain ⟨hP1, hK1, hD1⟩ := hB
  rw [ht] at hP1
  obtain ⟨hP, hD⟩ := xjoin (W := [(a0, .inr (1, [.ref a1, .int 2, v2])), (a1, .inl (cT 0, 4096, .inl (upd (upd f3 0 110) 1 117)))]) hP hD [0, 1] [] 0 rfl rfl (by decide) (by decide) hk1 hFc hP1 hD1
  generalize H1 = H at hP hS ⊢
  refine lv_iinc (v := 2) (lv' := [(2, .int 2), (0, .ref a0), (1, .ref (aK 10))]) hx hb dT_addWord_19 hl (k := 0) rfl (by decide) (by decide) rfl (fun ls hl => ?_)
  refine lv_goto (tgt := 2) hx hb dT_addWord_22 (by decide) ?_
  refine lv_iload_n hx hb dT_addWord_2 rfl (lv_at hl 0 rfl) ?_
  refine lv_aload_n hx hb dT_addWord_3 rfl (lv_at hl 2 rfl) ?_
  obtain ⟨hPc, hDc, hFc⟩ := xcut (wc := []) hP hD hS hA [] rfl rfl (by decide)
  refine va_calli (va_runV (C := "java/lang/String") (As := []) (rest := [.int 2]) ⟨hx, hb, hml, hown, htx⟩ (cJS_length_0 l hl9 D cT aK aV H.size) ⟨callB_of 0 htx (xw_goodC kw_2_70) rfl rfl rfl (htx _ kw_1_6) (htx _ kw_3_30) ⟨by decide, by decide, by decide +kernel⟩ ⟨Nat.le_of_ble_eq_true rfl, Nat.le_of_ble_eq_true rfl⟩, (htx _ kw_2_68), (htx _ kw_2_69)⟩ ⟨xPre_blind, vk_recv hZ.2.2.2.2.2.2.2.2.2.1 (i := 10) (by decide) hS, (fun U hU hW => ⟨rfl, xPre_of hZ hS hFc hPc hDc hK U hU hW⟩)⟩ rfl rfl hl.1 rfl (lv_room (Nat.le_of_ble_eq_true rfl)) dT_addWord_4 ⟨Nat.le_of_ble_eq_true rfl, Nat.le_of_ble_eq_true rfl⟩) hS (fun q _ h => hFc q h) hFc (fun r5 u9 t H1 locs ht hvm hr9 hB hz1 hk1 hS => ?_)
  obtain ⟨hP1, hK1, hD1⟩ := hB
  rw [ht] at hP1
  obtain ⟨hP, hD⟩ := xjoin (W := [(a0, .inr (1, [.ref a1, .int 2, v2])), (a1, .inl (cT 0, 4096, .inl (upd (upd f3 0 110) 1 117)))]) hP hD [] [0, 1] 2 rfl rfl (by decide) (by decide) hk1 hFc hP1 hD1
  generalize H1 = H at hP hS ⊢
  rw [hr9]
  refine W.eq (g2 := F0 m 7 ls [.int 4, .int 2]) rfl ?_
  refine lv_icmp_ge (tgt := 25) hx hb dT_addWord_7 (by decide) (fun h => ((by revert h; decide : False)).elim) (fun _ => ?_)
  refine lv_aload_n hx hb dT_addWord_10 rfl (lv_at hl 1 rfl) ?_
  refine lv_aload_n hx hb dT_addWord_11 rfl (lv_at hl 2 rfl) ?_
  refine lv_iload_n hx hb dT_addWord_12 rfl (lv_at hl 0 rfl) ?_
  obtain ⟨hPc, hDc, hFc⟩ := xcut (wc := []) hP hD hS hA [] rfl rfl (by decide)
  refine va_calli (va_runV (C := "java/lang/String") (As := [.int 2]) (rest := [.ref a0]) ⟨hx, hb, hml, hown, htx⟩ (cJS_charAt_2 l hl9 D cT aK aV H.size) ⟨callB_of 1 htx (xw_goodC kw_2_80) rfl rfl rfl (htx _ kw_1_6) (htx _ kw_3_31) ⟨by decide, by decide, by decide +kernel⟩ ⟨Nat.le_of_ble_eq_true rfl, Nat.le_of_ble_eq_true rfl⟩, (htx _ kw_2_78), (htx _ kw_2_79)⟩ ⟨xPre_blind, vk_recv hZ.2.2.2.2.2.2.2.2.2.1 (i := 10) (by decide) hS, (fun U hU hW => ⟨rfl, xPre_of hZ hS hFc hPc hDc hK U hU hW⟩)⟩ rfl rfl hl.1 rfl (lv_room (Nat.le_of_ble_eq_true rfl)) dT_addWord_13 ⟨Nat.le_of_ble_eq_true rfl, Nat.le_of_ble_eq_true rfl⟩) hS (fun q _ h => hFc q h) hFc (fun r6 u9 t H1 locs ht hvm hr9 hB hz1 hk1 hS => ?_)
  obtain ⟨hP1, hK1, hD1⟩ := hB
  rw [ht] at hP1
  obtain ⟨hP, hD⟩ := xjoin (W := [(a0, .inr (1, [.ref a1, .int 2, v2])), (a1, .inl (cT 0, 4096, .inl (upd (upd f3 0 110) 1 117)))]) hP hD [] [0, 1] 2 rfl rfl (by decide) (by decide) hk1 hFc hP1 hD1
  generalize H1 = H at hP hS ⊢
  rw [hr9]
  refine W.eq (g2 := F0 m 16 ls [.int 108, .ref a0]) rfl ?_
  obtain ⟨hPc, hDc, hFc⟩ := xcut (wc := [(a0, .inr (1, [.ref a1, .int 2, v2])), (a1, .inl (cT 0, 4096, .inl (upd (upd f3 0 110) 1 117)))]) hP hD hS hA [0, 1] rfl rfl (by decide)
  refine va_callv (va_runV (C := "ValueBench$Text") (As := [.int 108]) (rest := []) ⟨hx, hb, hml, hown, htx⟩ (cT_add_24 l hl9 D cT aK aV H.size a0 a1 v2 (upd (upd f3 0 110) 1 117)) ⟨callB_of 1 htx (xw_goodC kw_1_207) rfl rfl rfl (htx _ kw_1_2) (htx _ kw_1_204) ⟨by decide, by decide, by decide +kernel⟩ ⟨Nat.le_of_ble_eq_true rfl, Nat.le_of_ble_eq_true rfl⟩, (htx _ kw_1_205), (htx _ kw_1_206)⟩ ⟨xPre_blind, va_recv hK hP (ci := 1) rfl (q0 := 0) rfl, (fun U hU hW => ⟨rfl, xPre_of hZ hS hFc hPc hDc hK U hU hW⟩)⟩ rfl rfl hl.1 rfl (lv_room (Nat.le_of_ble_eq_true rfl)) dT_addWord_16 ⟨Nat.le_of_ble_eq_true rfl, Nat.le_of_ble_eq_true rfl⟩) hS (fun q _ h => hFc q h) hFc (fun u9 t H1 locs ht hvm hr9 hB hz1 hk1 hS => ?_)
  obtain ⟨hP1, hK1, hD1⟩ := hB
  rw [ht] at hP1
  obtain ⟨hP, hD⟩ := xjoin (W := [(a0, .inr (1, [.ref a1, .int 3, v2])), (a1, .inl (cT 0, 4096, .inl (upd (upd (upd f3 0 110) 1 117) 2 108)))]) hP hD [0, 1] [] 0 rfl rfl (by decide) (by decide) hk1 hFc hP1 hD1
  generalize H1 = H at hP hS ⊢
  refine lv_iinc (v := 3) (lv' := [(2, .int 3), (0, .ref a0), (1, .ref (aK 10))]) hx hb dT_addWord_19 hl (k := 0) rfl (by decide) (by decide) rfl (fun ls hl => ?_)
  refine lv_goto (tgt := 2) hx hb dT_addWord_22 (by decide) ?_
  refine lv_iload_n hx hb dT_addWord_2 rfl (lv_at hl 0 rfl) ?_
  refine lv_aload_n hx hb dT_addWord_3 rfl (lv_at hl 2 rfl) ?_
  obtain ⟨hPc, hDc, hFc⟩ := xcut (wc := []) hP hD hS hA [] rfl rfl (by decide)
  refine va_calli (va_runV (C := "java/lang/String") (As := []) (rest := [.int 3]) ⟨hx, hb, hml, hown, htx⟩ (cJS_length_0 l hl9 D cT aK aV H.size) ⟨callB_of 0 htx (xw_goodC kw_2_70) rfl rfl rfl (htx _ kw_1_6) (htx _ kw_3_30) ⟨by decide, by decide, by decide +kernel⟩ ⟨Nat.le_of_ble_eq_true rfl, Nat.le_of_ble_eq_true rfl⟩, (htx _ kw_2_68), (htx _ kw_2_69)⟩ ⟨xPre_blind, vk_recv hZ.2.2.2.2.2.2.2.2.2.1 (i := 10) (by decide) hS, (fun U hU hW => ⟨rfl, xPre_of hZ hS hFc hPc hDc hK U hU hW⟩)⟩ rfl rfl hl.1 rfl (lv_room (Nat.le_of_ble_eq_true rfl)) dT_addWord_4 ⟨Nat.le_of_ble_eq_true rfl, Nat.le_of_ble_eq_true rfl⟩) hS (fun q _ h => hFc q h) hFc (fun r7 u9 t H1 locs ht hvm hr9 hB hz1 hk1 hS => ?_)
  obtain ⟨hP1, hK1, hD1⟩ := hB
  rw [ht] at hP1
  obtain ⟨hP, hD⟩ := xjoin (W := [(a0, .inr (1, [.ref a1, .int 3, v2])), (a1, .inl (cT 0, 4096, .inl (upd (upd (upd f3 0 110) 1 117) 2 108)))]) hP hD [] [0, 1] 2 rfl rfl (by decide) (by decide) hk1 hFc hP1 hD1
  generalize H1 = H at hP hS ⊢
  rw [hr9]
  refine W.eq (g2 := F0 m 7 ls [.int 4, .int 3]) rfl ?_
  refine lv_icmp_ge (tgt := 25) hx hb dT_addWord_7 (by decide) (fun h => ((by revert h; decide : False)).elim) (fun _ => ?_)
  refine lv_aload_n hx hb dT_addWord_10 rfl (lv_at hl 1 rfl) ?_
  refine lv_aload_n hx hb dT_addWord_11 rfl (lv_at hl 2 rfl) ?_
  refine lv_iload_n hx hb dT_addWord_12 rfl (lv_at hl 0 rfl) ?_
  obtain ⟨hPc, hDc, hFc⟩ := xcut (wc := []) hP hD hS hA [] rfl rfl (by decide)
  refine va_calli (va_runV (C := "java/lang/String") (As := [.int 3]) (rest := [.ref a0]) ⟨hx, hb, hml, hown, htx⟩ (cJS_charAt_3 l hl9 D cT aK aV H.size) ⟨callB_of 1 htx (xw_goodC kw_2_80) rfl rfl rfl (htx _ kw_1_6) (htx _ kw_3_31) ⟨by decide, by decide, by decide +kernel⟩ ⟨Nat.le_of_ble_eq_true rfl, Nat.le_of_ble_eq_true rfl⟩, (htx _ kw_2_78), (htx _ kw_2_79)⟩ ⟨xPre_blind, vk_recv hZ.2.2.2.2.2.2.2.2.2.1 (i := 10) (by decide) hS, (fun U hU hW => ⟨rfl, xPre_of hZ hS hFc hPc hDc hK U hU hW⟩)⟩ rfl rfl hl.1 rfl (lv_room (Nat.le_of_ble_eq_true rfl)) dT_addWord_13 ⟨Nat.le_of_ble_eq_true rfl, Nat.le_of_ble_eq_true rfl⟩) hS (fun q _ h => hFc q h) hFc (fun r8 u9 t H1 locs ht hvm hr9 hB hz1 hk1 hS => ?_)
  obtain ⟨hP1, hK1, hD1⟩ := hB
  rw [ht] at hP1
  obtain ⟨hP, hD⟩ := xjoin (W := [(a0, .inr (1, [.ref a1, .int 3, v2])), (a1, .inl (cT 0, 4096, .inl (upd (upd (upd f3 0 110) 1 117) 2 108)))]) hP hD [] [0, 1] 2 rfl rfl (by decide) (by decide) hk1 hFc hP1 hD1
  generalize H1 = H at hP hS ⊢
  rw [hr9]
  refine W.eq (g2 := F0 m 16 ls [.int 108, .ref a0]) rfl ?_
  obtain ⟨hPc, hDc, hFc⟩ := xcut (wc := [(a0, .inr (1, [.ref a1, .int 3, v2])), (a1, .inl (cT 0, 4096, .inl (upd (upd (upd f3 0 110) 1 117) 2 108)))]) hP hD hS hA [0, 1] rfl rfl (by decide)
  refine va_callv (va_runV (C := "ValueBench$Text") (As := [.int 108]) (rest := []) ⟨hx, hb, hml, hown, htx⟩ (cT_add_25 l hl9 D cT aK aV H.size a0 a1 v2 (upd (upd (upd f3 0 110) 1 117) 2 108)) ⟨callB_of 1 htx (xw_goodC kw_1_207) rfl rfl rfl (htx _ kw_1_2) (htx _ kw_1_204) ⟨by decide, by decide, by decide +kernel⟩ ⟨Nat.le_of_ble_eq_true rfl, Nat.le_of_ble_eq_true rfl⟩, (htx _ kw_1_205), (htx _ kw_1_206)⟩ ⟨xPre_blind, va_recv hK hP (ci := 1) rfl (q0 := 0) rfl, (fun U hU hW => ⟨rfl, xPre_of hZ hS hFc hPc hDc hK U hU hW⟩)⟩ rfl rfl hl.1 rfl (lv_room (Nat.le_of_ble_eq_true rfl)) dT_addWord_16 ⟨Nat.le_of_ble_eq_true rfl, Nat.le_of_ble_eq_true rfl⟩) hS (fun q _ h => hFc q h) hFc (fun u9 t H1 locs ht hvm hr9 hB hz1 hk1 hS => ?_)
  obtain ⟨hP1, hK1, hD1⟩ := hB
  rw [ht] at hP1
  obtain ⟨hP, hD⟩ := xjoin (W := [(a0, .inr (1, [.ref a1, .int 4, v2])), (a1, .inl (cT 0, 4096, .inl (upd (upd (upd (upd f3 0 110) 1 117) 2 108) 3 108)))]) hP hD [0, 1] [] 0 rfl rfl (by decide) (by decide) hk1 hFc hP1 hD1
  generalize H1 = H at hP hS ⊢
  refine lv_iinc (v := 4) (lv' := [(2, .int 4), (0, .ref a0), (1, .ref (aK 10))]) hx hb dT_addWord_19 hl (k := 0) rfl (by decide) (by decide) rfl (fun ls hl => ?_)
  refine lv_goto (tgt := 2) hx hb dT_addWord_22 (by decide) ?_
  refine lv_iload_n hx hb dT_addWord_2 rfl (lv_at hl 0 rfl) ?_
  refine lv_aload_n hx hb dT_addWord_3 rfl (lv_at hl 2 rfl) ?_
  obtain ⟨hPc, hDc, hFc⟩ := xcut (wc := []) hP hD hS hA [] rfl rfl (by decide)
  refine va_calli (va_runV (C := "java/lang/String") (As := []) (rest := [.int 4]) ⟨hx, hb, hml, hown, htx⟩ (cJS_length_0 l hl9 D cT aK aV H.size) ⟨callB_of 0 htx (xw_goodC kw_2_70) rfl rfl rfl (htx _ kw_1_6) (htx _ kw_3_30) ⟨by decide, by decide, by decide +kernel⟩ ⟨Nat.le_of_ble_eq_true rfl, Nat.le_of_ble_eq_true rfl⟩, (htx _ kw_2_68), (htx _ kw_2_69)⟩ ⟨xPre_blind, vk_recv hZ.2.2.2.2.2.2.2.2.2.1 (i := 10) (by decide) hS, (fun U hU hW => ⟨rfl, xPre_of hZ hS hFc hPc hDc hK U hU hW⟩)⟩ rfl rfl hl.1 rfl (lv_room (Nat.le_of_ble_eq_true rfl)) dT_addWord_4 ⟨Nat.le_of_ble_eq_true rfl, Nat.le_of_ble_eq_true rfl⟩) hS (fun q _ h => hFc q h) hFc (fun r9 u9 t H1 locs ht hvm hr9 hB hz1 hk1 hS => ?_)
  obtain ⟨hP1, hK1, hD1⟩ := hB
  rw [ht] at hP1
  obtain ⟨hP, hD⟩ := xjoin (W := [(a0, .inr (1, [.ref a1, .int 4, v2])), (a1, .inl (cT 0, 4096, .inl (upd (upd (upd (upd f3 0 110) 1 117) 2 108) 3 108)))]) hP hD [] [0, 1] 2 rfl rfl (by decide) (by decide) hk1 hFc hP1 hD1
  generalize H1 = H at hP hS ⊢
  rw [hr9]
  refine W.eq (g2 := F0 m 7 ls [.int 4, .int 4]) rfl ?_
  refine lv_icmp_ge (tgt := 25) hx hb dT_addWord_7 (by decide) (fun _ => ?_) (fun h => ((by revert h; decide : False)).elim)
  obtain ⟨hP9, hD9⟩ := xsub (wc := [(a0, .inr (1, [.ref a1, .int 4, v2])), (a1, .inl (cT 0, 4096, .inl (upd (upd (upd (upd f3 0 110) 1 117) 2 108) 3 108)))]) hP hD [0, 1] rfl rfl (by decide)
  refine W.widen (k := 0) (n := 0) (Nat.le_of_ble_eq_true rfl) (Nat.le_of_ble_eq_true rfl) ?_
  exact W.vret hx hb hr (fun t ht hW => ⟨⟨(), rfl, trivial, by rw [ht]; exact hP9, va_K.moved hW.alike hK, hD9⟩, hS.F ht⟩) hS.2.2 dT_addWord_25
set_option maxHeartbeats 400000000 in
set_option maxRecDepth 100000 in
theorem cP_write_4 (l : Launch) (hl9 : l.stackTraces = false) (D : va_G) (cT : Nat → ClassId) (aK aV : Nat → Nat) (sz : Nat) (a0 : Nat) (a1 : Nat) (a2 : Nat) (a3 : Nat) (x4 : Int32) (v5 : Value) (f6 : Nat → Int64) (v8 : Value) (f9 : Nat → Int32) (h7 : f6 0 = 0) : xMet l yP_write wyP_write 5 0 0 107 D cT aK aV sz [.ref a0, .int 0, .ref a2, .int x4] [(a0, .inr (2, [.ref a1, .int 1, v5])), (a1, .inl (cT 2, 4096, .inr (.inl f6))), (a2, .inr (1, [.ref a3, .int 0, v8])), (a3, .inl (cT 0, 4096, .inl f9))] (fun A => va_Qv (fun _ : Unit => True) (fun _ t => xB D xcl cT A [(a0, .inr (2, [.ref a1, .int 1, v5])), (a1, .inl (cT 2, 4096, .inr (.inl f6))), (a2, .inr (1, [.ref a3, .int 4, v8])), (a3, .inl (cT 0, 4096, .inl (upd (upd (upd (upd f9 0 110) 1 117) 2 108) 3 108)))] t) A) := by
  refine Met.ofW (cc := prog_6_method_2_code) (maxL := 4) (ret := none) (by decide) rfl ?_
  intro p e s m args below meth c s₁ B hml hv
  obtain ⟨rfl, hsz, hZ, hP, hK, hD0⟩ := hv
  have hx := B.exec
  have hb := B.bytes
  have hr := B.returns
  have hts := atoms_spec (ws := wyP_write) B.pre
  have htx := fun w h => hts w (List.mem_cons_of_mem _ h)
  have hown : s.vm.findClass "ValueBench$Printer" = some m.cls := findClass_of_methodNamed B.named
  have hlocks := B.notSynchronized
  subst hsz
  have hD := hD0.self (sz := s.heap.size)
  generalize hAe : va_A [(a0, .inr (2, [.ref a1, .int 1, v5])), (a1, .inl (cT 2, 4096, .inr (.inl f6))), (a2, .inr (1, [.ref a3, .int 0, v8])), (a3, .inl (cT 0, 4096, .inl f9))] s.heap.size = A at hD hZ ⊢
  have hA : ∀ q : Nat, s.heap.size ≤ q → A q := fun q h => by rw [← hAe]; exact Or.inr h
  have hS : va_S A s.heap s.heap [] := va_S.rf
  have hP : va_P D xcl [(a0, .inr (2, [.ref a1, .int 1, v5])), (a1, .inl (cT 2, 4096, .inr (.inl f6))), (a2, .inr (1, [.ref a3, .int 0, v8])), (a3, .inl (cT 0, 4096, .inl f9))] s.heap := hP
  have hl := lv_entry ([.ref a0, .int 0, .ref a2, .int x4]) (n := 4) (Nat.le_of_ble_eq_true rfl)
  rw [lg_entry_eq]
  generalize (lg_sl ([.ref a0, .int 0, .ref a2, .int x4]) ++ List.replicate (4 - (lg_sl ([.ref a0, .int 0, .ref a2, .int x4])).length) Slot.unset).toArray = ls at hl ⊢
  have hl : lv_has ls 4 [(0, .ref a0), (1, .int 0), (2, .ref a2), (3, .int x4)] := hl
  refine lv_aload_n hx hb dP_write_0 rfl (lv_at hl 0 rfl) ?_
  refine lv_iload_n hx hb dP_write_1 rfl (lv_at hl 1 rfl) ?_
  obtain ⟨hPc, hDc, hFc⟩ := xcut (wc := [(a0, .inr (2, [.ref a1, .int 1, v5])), (a1, .inl (cT 2, 4096, .inr (.inl f6)))]) hP hD hS hA [0, 1] rfl rfl (by decide)
  refine va_calli (va_runV (C := "ValueBench$Row") (As := [.int 0]) (rest := []) ⟨hx, hb, hml, hown, htx⟩ (cR_kind_0 l hl9 D cT aK aV s.heap.size a0 a1 v5 f6 (by first | rfl | exact h7)) ⟨callB_of 1 htx (xw_goodC kw_3_24) rfl rfl rfl (htx _ kw_1_4) (htx _ kw_3_21) ⟨by decide, by decide, by decide +kernel⟩ ⟨Nat.le_of_ble_eq_true rfl, Nat.le_of_ble_eq_true rfl⟩, (htx _ kw_3_22), (htx _ kw_3_23)⟩ ⟨xPre_blind, va_recv hK hP (ci := 2) rfl (q0 := 0) rfl, (fun U hU hW => ⟨rfl, xPre_of hZ hS hFc hPc hDc hK U hU hW⟩)⟩ rfl rfl hl.1 rfl (lv_room (Nat.le_of_ble_eq_true rfl)) dP_write_2 ⟨Nat.le_of_ble_eq_true rfl, Nat.le_of_ble_eq_true rfl⟩) hS (fun q _ h => hFc q h) hFc (fun r1 u9 t H1 locs ht hvm hr9 hB hz1 hk1 hS => ?_)
  obtain ⟨hP1, hK1, hD1⟩ := hB
  rw [ht] at hP1
  obtain ⟨hP, hD⟩ := xjoin (W := [(a2, .inr (1, [.ref a3, .int 0, v8])), (a3, .inl (cT 0, 4096, .inl f9)), (a0, .inr (2, [.ref a1, .int 1, v5])), (a1, .inl (cT 2, 4096, .inr (.inl f6)))]) hP hD [0, 1] [2, 3] 2 rfl rfl (by decide) (by decide) hk1 hFc hP1 hD1
  generalize H1 = H at hP hS ⊢
  rw [hr9]
  refine W.eq (g2 := F0 m 5 ls [.int 0]) rfl ?_
  refine lv_tableIn (off := 35) (tgt := 40) hx hb dP_write_5 (by decide) (by decide) (by decide) (by decide) ?_
  refine lv_aload_n hx hb dP_write_40 rfl (lv_at hl 2 rfl) ?_
  refine va_ldcS (q := aK 10) hx hb hown (hZ.2.2.2.2.2.2.2.2.1 ("ValueBench$Printer", 15, "null", 10) (List.mem_of_getElem? (i := 10) rfl)) dP_write_41 ?_
  obtain ⟨hPc, hDc, hFc⟩ := xcut (wc := [(a2, .inr (1, [.ref a3, .int 0, v8])), (a3, .inl (cT 0, 4096, .inl f9))]) hP hD hS hA [0, 1] rfl rfl (by decide)
  refine va_callv (va_runV (C := "ValueBench$Text") (As := [.ref (aK 10)]) (rest := []) ⟨hx, hb, hml, hown, htx⟩ (cT_addWord_3 l hl9 D cT aK aV H.size a2 a3 v8 f9) ⟨callB_of 1 htx (xw_goodC kw_3_29) rfl rfl rfl (htx _ kw_1_2) (htx _ kw_3_26) ⟨by decide, by decide, by decide +kernel⟩ ⟨Nat.le_of_ble_eq_true rfl, Nat.le_of_ble_eq_true rfl⟩, (htx _ kw_3_27), (htx _ kw_3_28)⟩ ⟨xPre_blind, va_recv hK hP (ci := 1) rfl (q0 := 0) rfl, (fun U hU hW => ⟨rfl, xPre_of hZ hS hFc hPc hDc hK U hU hW⟩)⟩ rfl rfl hl.1 rfl (lv_room (Nat.le_of_ble_eq_true rfl)) dP_write_43 ⟨Nat.le_of_ble_eq_true rfl, Nat.le_of_ble_eq_true rfl⟩) hS (fun q _ h => hFc q h) hFc (fun u9 t H1 locs ht hvm hr9 hB hz1 hk1 hS => ?_)
  obtain ⟨hP1, hK1, hD1⟩ := hB
  rw [ht] at hP1
  obtain ⟨hP, hD⟩ := xjoin (W := [(a0, .inr (2, [.ref a1, .int 1, v5])), (a1, .inl (cT 2, 4096, .inr (.inl f6))), (a2, .inr (1, [.ref a3, .int 4, v8])), (a3, .inl (cT 0, 4096, .inl (upd (upd (upd (upd f9 0 110) 1 117) 2 108) 3 108)))]) hP hD [0, 1] [2, 3] 2 rfl rfl (by decide) (by decide) hk1 hFc hP1 hD1
  generalize H1 = H at hP hS ⊢
  refine lv_goto (tgt := 95) hx hb dP_write_46 (by decide) ?_
  obtain ⟨hP9, hD9⟩ := xsub (wc := [(a0, .inr (2, [.ref a1, .int 1, v5])), (a1, .inl (cT 2, 4096, .inr (.inl f6))), (a2, .inr (1, [.ref a3, .int 4, v8])), (a3, .inl (cT 0, 4096, .inl (upd (upd (upd (upd f9 0 110) 1 117) 2 108) 3 108)))]) hP hD [0, 1, 2, 3] rfl rfl (by decide)
  refine W.widen (k := 0) (n := 0) (Nat.le_of_ble_eq_true rfl) (Nat.le_of_ble_eq_true rfl) ?_
  exact W.vret hx hb hr (fun t ht hW => ⟨⟨(), rfl, trivial, by rw [ht]; exact hP9, va_K.moved hW.alike hK, hD9⟩, hS.F ht⟩) hS.2.2 dP_write_95
set_option maxHeartbeats 400000000 in
set_option maxRecDepth 100000 in
theorem cR_put_2 (l : Launch) (hl9 : l.stackTraces = false) (D : va_G) (cT : Nat → ClassId) (aK aV : Nat → Nat) (sz : Nat) (a0 : Nat) (a1 : Nat) (x2 : Int64) (f3 : Nat → Int64) : xMet l yR_put wyR_put 0 0 0 0 D cT aK aV sz [.ref a0, .long x2] [(a0, .inr (2, [.ref a1, .int 0, .int 0])), (a1, .inl (cT 2, 4096, .inr (.inl f3)))] (fun A => va_Qv (fun _ : Unit => True) (fun _ t => xB D xcl cT A [(a0, .inr (2, [.ref a1, .int 1, .int 0])), (a1, .inl (cT 2, 4096, .inr (.inl (vp_updL f3 0 x2))))] t) A) := by
  refine Met.ofW (cc := prog_8_method_16_code) (maxL := 3) (ret := none) (by decide) rfl ?_
  intro p e s m args below meth c s₁ B hml hv
  obtain ⟨rfl, hsz, hZ, hP, hK, hD0⟩ := hv
  have hx := B.exec
  have hb := B.bytes
  have hr := B.returns
  have hts := atoms_spec (ws := wyR_put) B.pre
  have htx := fun w h => hts w (List.mem_cons_of_mem _ h)
  have hown : s.vm.findClass "ValueBench$Row" = some m.cls := findClass_of_methodNamed B.named
  have hlocks := B.notSynchronized
  subst hsz
  have hD := hD0.self (sz := s.heap.size)
  generalize hAe : va_A [(a0, .inr (2, [.ref a1, .int 0, .int 0])), (a1, .inl (cT 2, 4096, .inr (.inl f3)))] s.heap.size = A at hD hZ ⊢
  have hA : ∀ q : Nat, s.heap.size ≤ q → A q := fun q h => by rw [← hAe]; exact Or.inr h
  have hS : va_S A s.heap s.heap [] := va_S.rf
  have hP : va_P D xcl [(a0, .inr (2, [.ref a1, .int 0, .int 0])), (a1, .inl (cT 2, 4096, .inr (.inl f3)))] s.heap := hP
  have hl := lv_entry ([.ref a0, .long x2]) (n := 3) (Nat.le_of_ble_eq_true rfl)
  rw [lg_entry_eq]
  generalize (lg_sl ([.ref a0, .long x2]) ++ List.replicate (3 - (lg_sl ([.ref a0, .long x2])).length) Slot.unset).toArray = ls at hl ⊢
  have hl : lv_has ls 3 [(0, .ref a0), (1, .long x2)] := hl
  refine lv_aload_n hx hb dR_put_0 rfl (lv_at hl 0 rfl) ?_
  refine va_get (D := D) (ci := 2) (v := .int 0) (C := "ValueBench$Row") (T := TR) (N := 3) hx hb htx inR hown hK hP 0 rfl rfl 2 (by decide) (htx _ kw_1_86) (fun _ h9 => h9) rfl dR_put_1 ?_
  refine lv_if_ne (tgt := 17) hx hb dR_put_4 (by decide) (fun h => ((by revert h; decide : False)).elim) (fun _ => ?_)
  refine lv_aload_n hx hb dR_put_7 rfl (lv_at hl 0 rfl) ?_
  refine va_get (D := D) (ci := 2) (v := .int 0) (C := "ValueBench$Row") (T := TR) (N := 3) hx hb htx inR hown hK hP 0 rfl rfl 1 (by decide) (htx _ kw_1_85) (fun _ h9 => h9) rfl dR_put_8 ?_
  refine lv_sipush (v := 4096) hx hb dR_put_11 (by decide) ?_
  refine lv_icmp_lt (tgt := 23) hx hb dR_put_14 (by decide) (fun _ => ?_) (fun h => ((by revert h; decide : False)).elim)
  refine lv_aload_n hx hb dR_put_23 rfl (lv_at hl 0 rfl) ?_
  refine va_get (D := D) (ci := 2) (v := .ref a1) (C := "ValueBench$Row") (T := TR) (N := 3) hx hb htx inR hown hK hP 0 rfl rfl 0 (by decide) (htx _ kw_1_84) (fun _ h9 => h9) rfl dR_put_24 ?_
  refine lv_aload_n hx hb dR_put_27 rfl (lv_at hl 0 rfl) ?_
  refine va_get (D := D) (ci := 2) (v := .int 0) (C := "ValueBench$Row") (T := TR) (N := 3) hx hb htx inR hown hK hP 0 rfl rfl 1 (by decide) (htx _ kw_1_85) (fun _ h9 => h9) rfl dR_put_28 ?_
  refine lv_lload_n hx hb dR_put_31 rfl (lv_at hl 1 rfl) ?_
  refine va_last hx hb hK hP hD hS 1 2 rfl rfl (show ¬ ((0 : Int32) < 0 ∨ 4096 ≤ (0 : Int32).toNatClampNeg) by decide) dR_put_32 (fun H locs hP hD hS => ?_)
  obtain ⟨hP, hD⟩ : xPD D xcl A [(a0, .inr (2, [.ref a1, .int 0, .int 0])), (a1, .inl (cT 2, 4096, .inr (.inl (vp_updL f3 0 x2))))] H := ⟨hP, hD⟩
  refine lv_aload_n hx hb dR_put_33 rfl (lv_at hl 0 rfl) ?_
  refine lv_dup hx hb dR_put_34 rfl ?_
  refine va_get (D := D) (ci := 2) (v := .int 0) (C := "ValueBench$Row") (T := TR) (N := 3) hx hb htx inR hown hK hP 0 rfl rfl 1 (by decide) (htx _ kw_1_85) (fun _ h9 => h9) rfl dR_put_35 ?_
  refine lv_iconst (v := 1) hx hb dR_put_38 (by decide) ?_
  refine lv_iadd hx hb dR_put_39 ?_
  refine W.eq (g2 := F0 m 40 ls [.int 1, .ref a0]) rfl ?_
  refine va_put (D := D) (ci := 2) (v := .int 1) (ty := .int) (C := "ValueBench$Row") (T := TR) (N := 3) hx hb htx inR tyR tyR_ok nmR hown hK hP hD hS 0 rfl rfl 1 (by decide) (htx _ kw_1_85) (fun _ h9 => h9) rfl (by decide +kernel) rfl rfl (Nat.le_of_ble_eq_true rfl) dR_put_40 (fun H locs hP hD hS => ?_)
  obtain ⟨hP, hD⟩ : xPD D xcl A [(a0, .inr (2, [.ref a1, .int 1, .int 0])), (a1, .inl (cT 2, 4096, .inr (.inl (vp_updL f3 0 x2))))] H := ⟨hP, hD⟩
  obtain ⟨hP9, hD9⟩ := xsub (wc := [(a0, .inr (2, [.ref a1, .int 1, .int 0])), (a1, .inl (cT 2, 4096, .inr (.inl (vp_updL f3 0 x2))))]) hP hD [0, 1] rfl rfl (by decide)
  refine W.widen (k := 0) (n := 0) (Nat.le_of_ble_eq_true rfl) (Nat.le_of_ble_eq_true rfl) ?_
  exact W.vret hx hb hr (fun t ht hW => ⟨⟨(), rfl, trivial, by rw [ht]; exact hP9, va_K.moved hW.alike hK, hD9⟩, hS.F ht⟩) hS.2.2 dR_put_43
set_option maxHeartbeats 400000000 in
set_option maxRecDepth 100000 in
theorem cR_open_0 (l : Launch) (hl9 : l.stackTraces = false) (D : va_G) (cT : Nat → ClassId) (aK aV : Nat → Nat) (sz : Nat) (a0 : Nat) (a1 : Nat) (f2 : Nat → Int64) : xMet l yR_open wyR_open 1 0 0 22 D cT aK aV sz [.ref a0] [(a0, .inr (2, [.ref a1, .int 0, .int 0])), (a1, .inl (cT 2, 4096, .inr (.inl f2)))] (fun A => va_Qi (fun (r : Int32) (_ : Unit) => r = 0) (fun _ t => xB D xcl cT A [(a0, .inr (2, [.ref a1, .int 1, .int 0])), (a1, .inl (cT 2, 4096, .inr (.inl (vp_updL f2 0 0))))] t) A) := by
  refine Met.ofW (cc := prog_8_method_25_code) (maxL := 1) (ret := (some .int)) (by decide) rfl ?_
  intro p e s m args below meth c s₁ B hml hv
  obtain ⟨rfl, hsz, hZ, hP, hK, hD0⟩ := hv
  have hx := B.exec
  have hb := B.bytes
  have hr := B.returns
  have hts := atoms_spec (ws := wyR_open) B.pre
  have htx := fun w h => hts w (List.mem_cons_of_mem _ h)
  have hown : s.vm.findClass "ValueBench$Row" = some m.cls := findClass_of_methodNamed B.named
  have hlocks := B.notSynchronized
  subst hsz
  have hD := hD0.self (sz := s.heap.size)
  generalize hAe : va_A [(a0, .inr (2, [.ref a1, .int 0, .int 0])), (a1, .inl (cT 2, 4096, .inr (.inl f2)))] s.heap.size = A at hD hZ ⊢
  have hA : ∀ q : Nat, s.heap.size ≤ q → A q := fun q h => by rw [← hAe]; exact Or.inr h
  have hS : va_S A s.heap s.heap [] := va_S.rf
  have hP : va_P D xcl [(a0, .inr (2, [.ref a1, .int 0, .int 0])), (a1, .inl (cT 2, 4096, .inr (.inl f2)))] s.heap := hP
  have hl := lv_entry ([.ref a0]) (n := 1) (Nat.le_of_ble_eq_true rfl)
  rw [lg_entry_eq]
  generalize (lg_sl ([.ref a0]) ++ List.replicate (1 - (lg_sl ([.ref a0])).length) Slot.unset).toArray = ls at hl ⊢
  have hl : lv_has ls 1 [(0, .ref a0)] := hl
  refine lv_aload_n hx hb dR_open_0 rfl (lv_at hl 0 rfl) ?_
  refine lv_lconst (v := 0) hx hb dR_open_1 (by decide) ?_
  obtain ⟨hPc, hDc, hFc⟩ := xcut (wc := [(a0, .inr (2, [.ref a1, .int 0, .int 0])), (a1, .inl (cT 2, 4096, .inr (.inl f2)))]) hP hD hS hA [0, 1] rfl rfl (by decide)
  refine va_callv (va_runV (C := "ValueBench$Row") (As := [.long 0]) (rest := []) ⟨hx, hb, hml, hown, htx⟩ (cR_put_2 l hl9 D cT aK aV s.heap.size a0 a1 0 f2) ⟨callB_of 1 htx (xw_goodC kw_2_126) rfl rfl rfl (htx _ kw_1_4) (htx _ kw_2_137) ⟨by decide, by decide, by decide +kernel⟩ ⟨Nat.le_of_ble_eq_true rfl, Nat.le_of_ble_eq_true rfl⟩, (htx _ kw_2_124), (htx _ kw_2_125)⟩ ⟨xPre_blind, va_recv hK hP (ci := 2) rfl (q0 := 0) rfl, (fun U hU hW => ⟨rfl, xPre_of hZ hS hFc hPc hDc hK U hU hW⟩)⟩ rfl rfl hl.1 rfl (lv_room (Nat.le_of_ble_eq_true rfl)) dR_open_2 ⟨Nat.le_of_ble_eq_true rfl, Nat.le_of_ble_eq_true rfl⟩) hS (fun q _ h => hFc q h) hFc (fun u9 t H1 locs ht hvm hr9 hB hz1 hk1 hS => ?_)
  obtain ⟨hP1, hK1, hD1⟩ := hB
  rw [ht] at hP1
  obtain ⟨hP, hD⟩ := xjoin (W := [(a0, .inr (2, [.ref a1, .int 1, .int 0])), (a1, .inl (cT 2, 4096, .inr (.inl (vp_updL f2 0 0))))]) hP hD [0, 1] [] 0 rfl rfl (by decide) (by decide) hk1 hFc hP1 hD1
  generalize H1 = H at hP hS ⊢
  refine lv_aload_n hx hb dR_open_5 rfl (lv_at hl 0 rfl) ?_
  refine va_get (D := D) (ci := 2) (v := .int 1) (C := "ValueBench$Row") (T := TR) (N := 3) hx hb htx inR hown hK hP 0 rfl rfl 1 (by decide) (htx _ kw_1_85) (fun _ h9 => h9) rfl dR_open_6 ?_
  refine lv_iconst (v := 1) hx hb dR_open_9 (by decide) ?_
  refine lv_isub hx hb dR_open_10 ?_
  refine W.eq (g2 := F0 m 11 ls [.int 0]) rfl ?_
  obtain ⟨hP9, hD9⟩ := xsub (wc := [(a0, .inr (2, [.ref a1, .int 1, .int 0])), (a1, .inl (cT 2, 4096, .inr (.inl (vp_updL f2 0 0))))]) hP hD [0, 1] rfl rfl (by decide)
  refine W.widen (k := 0) (n := 0) (Nat.le_of_ble_eq_true rfl) (Nat.le_of_ble_eq_true rfl) ?_
  exact W.iret (v := 0) hx hb hr (fun t ht hW => ⟨⟨0, (), rfl, rfl, by rw [ht]; exact hP9, va_K.moved hW.alike hK, hD9⟩, hS.F ht⟩) hS.2.2 dR_open_11
set_option maxHeartbeats 400000000 in
set_option maxRecDepth 100000 in
theorem cT_at_1 (l : Launch) (hl9 : l.stackTraces = false) (D : va_G) (cT : Nat → ClassId) (aK aV : Nat → Nat) (sz : Nat) (a0 : Nat) (a1 : Nat) (v2 : Value) (f3 : Nat → Int32) (h4 : f3 0 = 110) : xMet l yT_at wyT_at 0 0 0 0 D cT aK aV sz [.ref a0, .int 0] [(a0, .inr (1, [.ref a1, .int 4, v2])), (a1, .inl (cT 0, 4096, .inl f3))] (fun A => va_Qi (fun (r : Int32) (_ : Unit) => r = 110) (fun _ t => xB D xcl cT A [(a0, .inr (1, [.ref a1, .int 4, v2])), (a1, .inl (cT 0, 4096, .inl f3))] t) A) := by
  refine Met.ofW (cc := prog_11_method_7_code) (maxL := 2) (ret := (some .int)) (by decide) rfl ?_
  intro p e s m args below meth c s₁ B hml hv
  obtain ⟨rfl, hsz, hZ, hP, hK, hD0⟩ := hv
  have hx := B.exec
  have hb := B.bytes
  have hr := B.returns
  have hts := atoms_spec (ws := wyT_at) B.pre
  have htx := fun w h => hts w (List.mem_cons_of_mem _ h)
  have hown : s.vm.findClass "ValueBench$Text" = some m.cls := findClass_of_methodNamed B.named
  have hlocks := B.notSynchronized
  subst hsz
  have hD := hD0.self (sz := s.heap.size)
  generalize hAe : va_A [(a0, .inr (1, [.ref a1, .int 4, v2])), (a1, .inl (cT 0, 4096, .inl f3))] s.heap.size = A at hD hZ ⊢
  have hA : ∀ q : Nat, s.heap.size ≤ q → A q := fun q h => by rw [← hAe]; exact Or.inr h
  have hS : va_S A s.heap s.heap [] := va_S.rf
  have hP : va_P D xcl [(a0, .inr (1, [.ref a1, .int 4, v2])), (a1, .inl (cT 0, 4096, .inl f3))] s.heap := hP
  have hl := lv_entry ([.ref a0, .int 0]) (n := 2) (Nat.le_of_ble_eq_true rfl)
  rw [lg_entry_eq]
  generalize (lg_sl ([.ref a0, .int 0]) ++ List.replicate (2 - (lg_sl ([.ref a0, .int 0])).length) Slot.unset).toArray = ls at hl ⊢
  have hl : lv_has ls 2 [(0, .ref a0), (1, .int 0)] := hl
  refine lv_iload_n hx hb dT_at_0 rfl (lv_at hl 1 rfl) ?_
  refine lv_if_lt (tgt := 25) hx hb dT_at_1 (by decide) (fun h => ((by revert h; decide : False)).elim) (fun _ => ?_)
  refine lv_iload_n hx hb dT_at_4 rfl (lv_at hl 1 rfl) ?_
  refine lv_aload_n hx hb dT_at_5 rfl (lv_at hl 0 rfl) ?_
  refine va_get (D := D) (ci := 1) (v := .int 4) (C := "ValueBench$Text") (T := TT) (N := 3) hx hb htx inT hown hK hP 0 rfl rfl 1 (by decide) (htx _ kw_1_44) (fun _ h9 => h9) rfl dT_at_6 ?_
  refine lv_icmp_ge (tgt := 25) hx hb dT_at_9 (by decide) (fun h => ((by revert h; decide : False)).elim) (fun _ => ?_)
  refine lv_aload_n hx hb dT_at_12 rfl (lv_at hl 0 rfl) ?_
  refine va_get (D := D) (ci := 1) (v := .ref a1) (C := "ValueBench$Text") (T := TT) (N := 3) hx hb htx inT hown hK hP 0 rfl rfl 0 (by decide) (htx _ kw_1_43) (fun _ h9 => h9) rfl dT_at_13 ?_
  refine lv_iload_n hx hb dT_at_16 rfl (lv_at hl 1 rfl) ?_
  refine va_bald hx hb hK hP 1 0 rfl rfl (show ¬ ((0 : Int32) < 0 ∨ 4096 ≤ (0 : Int32).toNatClampNeg) by decide) dT_at_17 ?_
  refine W.eq (g2 := F0 m 18 ls [.int (f3 0)]) rfl ?_
  rw [h4]
  refine W.eq (g2 := F0 m 18 ls [.int 110]) rfl ?_
  refine lv_sipush (v := 255) hx hb dT_at_18 (by decide) ?_
  refine lv_iand hx hb dT_at_21 ?_
  refine W.eq (g2 := F0 m 22 ls [.int 110]) rfl ?_
  refine lv_goto (tgt := 26) hx hb dT_at_22 (by decide) ?_
  obtain ⟨hP9, hD9⟩ := xsub (wc := [(a0, .inr (1, [.ref a1, .int 4, v2])), (a1, .inl (cT 0, 4096, .inl f3))]) hP hD [0, 1] rfl rfl (by decide)
  refine W.widen (k := 0) (n := 0) (Nat.le_of_ble_eq_true rfl) (Nat.le_of_ble_eq_true rfl) ?_
  exact W.iret (v := 110) hx hb hr (fun t ht hW => ⟨⟨110, (), rfl, rfl, by rw [ht]; exact hP9, va_K.moved hW.alike hK, hD9⟩, hS.F ht⟩) hS.2.2 dT_at_26
set_option maxHeartbeats 400000000 in
set_option maxRecDepth 100000 in
theorem cR_put_3 (l : Launch) (hl9 : l.stackTraces = false) (D : va_G) (cT : Nat → ClassId) (aK aV : Nat → Nat) (sz : Nat) (a0 : Nat) (a1 : Nat) (f2 : Nat → Int64) : xMet l yR_put wyR_put 0 0 0 0 D cT aK aV sz [.ref a0, .long 110] [(a0, .inr (2, [.ref a1, .int 1, .int 0])), (a1, .inl (cT 2, 4096, .inr (.inl f2)))] (fun A => va_Qv (fun _ : Unit => True) (fun _ t => xB D xcl cT A [(a0, .inr (2, [.ref a1, .int 2, .int 0])), (a1, .inl (cT 2, 4096, .inr (.inl (vp_updL f2 1 110))))] t) A) := by
  refine Met.ofW (cc := prog_8_method_16_code) (maxL := 3) (ret := none) (by decide) rfl ?_
  intro p e s m args below meth c s₁ B hml hv
  obtain ⟨rfl, hsz, hZ, hP, hK, hD0⟩ := hv
  have hx := B.exec
  have hb := B.bytes
  have hr := B.returns
  have hts := atoms_spec (ws := wyR_put) B.pre
  have htx := fun w h => hts w (List.mem_cons_of_mem _ h)
  have hown : s.vm.findClass "ValueBench$Row" = some m.cls := findClass_of_methodNamed B.named
  have hlocks := B.notSynchronized
  subst hsz
  have hD := hD0.self (sz := s.heap.size)
  generalize hAe : va_A [(a0, .inr (2, [.ref a1, .int 1, .int 0])), (a1, .inl (cT 2, 4096, .inr (.inl f2)))] s.heap.size = A at hD hZ ⊢
  have hA : ∀ q : Nat, s.heap.size ≤ q → A q := fun q h => by rw [← hAe]; exact Or.inr h
  have hS : va_S A s.heap s.heap [] := va_S.rf
  have hP : va_P D xcl [(a0, .inr (2, [.ref a1, .int 1, .int 0])), (a1, .inl (cT 2, 4096, .inr (.inl f2)))] s.heap := hP
  have hl := lv_entry ([.ref a0, .long 110]) (n := 3) (Nat.le_of_ble_eq_true rfl)
  rw [lg_entry_eq]
  generalize (lg_sl ([.ref a0, .long 110]) ++ List.replicate (3 - (lg_sl ([.ref a0, .long 110])).length) Slot.unset).toArray = ls at hl ⊢
  have hl : lv_has ls 3 [(0, .ref a0), (1, .long 110)] := hl
  refine lv_aload_n hx hb dR_put_0 rfl (lv_at hl 0 rfl) ?_
  refine va_get (D := D) (ci := 2) (v := .int 0) (C := "ValueBench$Row") (T := TR) (N := 3) hx hb htx inR hown hK hP 0 rfl rfl 2 (by decide) (htx _ kw_1_86) (fun _ h9 => h9) rfl dR_put_1 ?_
  refine lv_if_ne (tgt := 17) hx hb dR_put_4 (by decide) (fun h => ((by revert h; decide : False)).elim) (fun _ => ?_)
  refine lv_aload_n hx hb dR_put_7 rfl (lv_at hl 0 rfl) ?_
  refine va_get (D := D) (ci := 2) (v := .int 1) (C := "ValueBench$Row") (T := TR) (N := 3) hx hb htx inR hown hK hP 0 rfl rfl 1 (by decide) (htx _ kw_1_85) (fun _ h9 => h9) rfl dR_put_8 ?_
  refine lv_sipush (v := 4096) hx hb dR_put_11 (by decide) ?_
  refine lv_icmp_lt (tgt := 23) hx hb dR_put_14 (by decide) (fun _ => ?_) (fun h => ((by revert h; decide : False)).elim)
  refine lv_aload_n hx hb dR_put_23 rfl (lv_at hl 0 rfl) ?_
  refine va_get (D := D) (ci := 2) (v := .ref a1) (C := "ValueBench$Row") (T := TR) (N := 3) hx hb htx inR hown hK hP 0 rfl rfl 0 (by decide) (htx _ kw_1_84) (fun _ h9 => h9) rfl dR_put_24 ?_
  refine lv_aload_n hx hb dR_put_27 rfl (lv_at hl 0 rfl) ?_
  refine va_get (D := D) (ci := 2) (v := .int 1) (C := "ValueBench$Row") (T := TR) (N := 3) hx hb htx inR hown hK hP 0 rfl rfl 1 (by decide) (htx _ kw_1_85) (fun _ h9 => h9) rfl dR_put_28 ?_
  refine lv_lload_n hx hb dR_put_31 rfl (lv_at hl 1 rfl) ?_
  refine va_last hx hb hK hP hD hS 1 2 rfl rfl (show ¬ ((1 : Int32) < 0 ∨ 4096 ≤ (1 : Int32).toNatClampNeg) by decide) dR_put_32 (fun H locs hP hD hS => ?_)
  obtain ⟨hP, hD⟩ : xPD D xcl A [(a0, .inr (2, [.ref a1, .int 1, .int 0])), (a1, .inl (cT 2, 4096, .inr (.inl (vp_updL f2 1 110))))] H := ⟨hP, hD⟩
  refine lv_aload_n hx hb dR_put_33 rfl (lv_at hl 0 rfl) ?_
  refine lv_dup hx hb dR_put_34 rfl ?_
  refine va_get (D := D) (ci := 2) (v := .int 1) (C := "ValueBench$Row") (T := TR) (N := 3) hx hb htx inR hown hK hP 0 rfl rfl 1 (by decide) (htx _ kw_1_85) (fun _ h9 => h9) rfl dR_put_35 ?_
  refine lv_iconst (v := 1) hx hb dR_put_38 (by decide) ?_
  refine lv_iadd hx hb dR_put_39 ?_
  refine W.eq (g2 := F0 m 40 ls [.int 2, .ref a0]) rfl ?_
  refine va_put (D := D) (ci := 2) (v := .int 2) (ty := .int) (C := "ValueBench$Row") (T := TR) (N := 3) hx hb htx inR tyR tyR_ok nmR hown hK hP hD hS 0 rfl rfl 1 (by decide) (htx _ kw_1_85) (fun _ h9 => h9) rfl (by decide +kernel) rfl rfl (Nat.le_of_ble_eq_true rfl) dR_put_40 (fun H locs hP hD hS => ?_)
  obtain ⟨hP, hD⟩ : xPD D xcl A [(a0, .inr (2, [.ref a1, .int 2, .int 0])), (a1, .inl (cT 2, 4096, .inr (.inl (vp_updL f2 1 110))))] H := ⟨hP, hD⟩
  obtain ⟨hP9, hD9⟩ := xsub (wc := [(a0, .inr (2, [.ref a1, .int 2, .int 0])), (a1, .inl (cT 2, 4096, .inr (.inl (vp_updL f2 1 110))))]) hP hD [0, 1] rfl rfl (by decide)
  refine W.widen (k := 0) (n := 0) (Nat.le_of_ble_eq_true rfl) (Nat.le_of_ble_eq_true rfl) ?_
  exact W.vret hx hb hr (fun t ht hW => ⟨⟨(), rfl, trivial, by rw [ht]; exact hP9, va_K.moved hW.alike hK, hD9⟩, hS.F ht⟩) hS.2.2 dR_put_43
set_option maxHeartbeats 400000000 in
set_option maxRecDepth 100000 in
theorem cT_at_2 (l : Launch) (hl9 : l.stackTraces = false) (D : va_G) (cT : Nat → ClassId) (aK aV : Nat → Nat) (sz : Nat) (a0 : Nat) (a1 : Nat) (v2 : Value) (f3 : Nat → Int32) (h4 : f3 1 = 117) : xMet l yT_at wyT_at 0 0 0 0 D cT aK aV sz [.ref a0, .int 1] [(a0, .inr (1, [.ref a1, .int 4, v2])), (a1, .inl (cT 0, 4096, .inl f3))] (fun A => va_Qi (fun (r : Int32) (_ : Unit) => r = 117) (fun _ t => xB D xcl cT A [(a0, .inr (1, [.ref a1, .int 4, v2])), (a1, .inl (cT 0, 4096, .inl f3))] t) A) := by
  refine Met.ofW (cc := prog_11_method_7_code) (maxL := 2) (ret := (some .int)) (by decide) rfl ?_
  intro p e s m args below meth c s₁ B hml hv
  obtain ⟨rfl, hsz, hZ, hP, hK, hD0⟩ := hv
  have hx := B.exec
  have hb := B.bytes
  have hr := B.returns
  have hts := atoms_spec (ws := wyT_at) B.pre
  have htx := fun w h => hts w (List.mem_cons_of_mem _ h)
  have hown : s.vm.findClass "ValueBench$Text" = some m.cls := findClass_of_methodNamed B.named
  have hlocks := B.notSynchronized
  subst hsz
  have hD := hD0.self (sz := s.heap.size)
  generalize hAe : va_A [(a0, .inr (1, [.ref a1, .int 4, v2])), (a1, .inl (cT 0, 4096, .inl f3))] s.heap.size = A at hD hZ ⊢
  have hA : ∀ q : Nat, s.heap.size ≤ q → A q := fun q h => by rw [← hAe]; exact Or.inr h
  have hS : va_S A s.heap s.heap [] := va_S.rf
  have hP : va_P D xcl [(a0, .inr (1, [.ref a1, .int 4, v2])), (a1, .inl (cT 0, 4096, .inl f3))] s.heap := hP
  have hl := lv_entry ([.ref a0, .int 1]) (n := 2) (Nat.le_of_ble_eq_true rfl)
  rw [lg_entry_eq]
  generalize (lg_sl ([.ref a0, .int 1]) ++ List.replicate (2 - (lg_sl ([.ref a0, .int 1])).length) Slot.unset).toArray = ls at hl ⊢
  have hl : lv_has ls 2 [(0, .ref a0), (1, .int 1)] := hl
  refine lv_iload_n hx hb dT_at_0 rfl (lv_at hl 1 rfl) ?_
  refine lv_if_lt (tgt := 25) hx hb dT_at_1 (by decide) (fun h => ((by revert h; decide : False)).elim) (fun _ => ?_)
  refine lv_iload_n hx hb dT_at_4 rfl (lv_at hl 1 rfl) ?_
  refine lv_aload_n hx hb dT_at_5 rfl (lv_at hl 0 rfl) ?_
  refine va_get (D := D) (ci := 1) (v := .int 4) (C := "ValueBench$Text") (T := TT) (N := 3) hx hb htx inT hown hK hP 0 rfl rfl 1 (by decide) (htx _ kw_1_44) (fun _ h9 => h9) rfl dT_at_6 ?_
  refine lv_icmp_ge (tgt := 25) hx hb dT_at_9 (by decide) (fun h => ((by revert h; decide : False)).elim) (fun _ => ?_)
  refine lv_aload_n hx hb dT_at_12 rfl (lv_at hl 0 rfl) ?_
  refine va_get (D := D) (ci := 1) (v := .ref a1) (C := "ValueBench$Text") (T := TT) (N := 3) hx hb htx inT hown hK hP 0 rfl rfl 0 (by decide) (htx _ kw_1_43) (fun _ h9 => h9) rfl dT_at_13 ?_
  refine lv_iload_n hx hb dT_at_16 rfl (lv_at hl 1 rfl) ?_
  refine va_bald hx hb hK hP 1 0 rfl rfl (show ¬ ((1 : Int32) < 0 ∨ 4096 ≤ (1 : Int32).toNatClampNeg) by decide) dT_at_17 ?_
  refine W.eq (g2 := F0 m 18 ls [.int (f3 1)]) rfl ?_
  rw [h4]
  refine W.eq (g2 := F0 m 18 ls [.int 117]) rfl ?_
  refine lv_sipush (v := 255) hx hb dT_at_18 (by decide) ?_
  refine lv_iand hx hb dT_at_21 ?_
  refine W.eq (g2 := F0 m 22 ls [.int 117]) rfl ?_
  refine lv_goto (tgt := 26) hx hb dT_at_22 (by decide) ?_
  obtain ⟨hP9, hD9⟩ := xsub (wc := [(a0, .inr (1, [.ref a1, .int 4, v2])), (a1, .inl (cT 0, 4096, .inl f3))]) hP hD [0, 1] rfl rfl (by decide)
  refine W.widen (k := 0) (n := 0) (Nat.le_of_ble_eq_true rfl) (Nat.le_of_ble_eq_true rfl) ?_
  exact W.iret (v := 117) hx hb hr (fun t ht hW => ⟨⟨117, (), rfl, rfl, by rw [ht]; exact hP9, va_K.moved hW.alike hK, hD9⟩, hS.F ht⟩) hS.2.2 dT_at_26
set_option maxHeartbeats 400000000 in
set_option maxRecDepth 100000 in
theorem cR_put_4 (l : Launch) (hl9 : l.stackTraces = false) (D : va_G) (cT : Nat → ClassId) (aK aV : Nat → Nat) (sz : Nat) (a0 : Nat) (a1 : Nat) (f2 : Nat → Int64) : xMet l yR_put wyR_put 0 0 0 0 D cT aK aV sz [.ref a0, .long 117] [(a0, .inr (2, [.ref a1, .int 2, .int 0])), (a1, .inl (cT 2, 4096, .inr (.inl f2)))] (fun A => va_Qv (fun _ : Unit => True) (fun _ t => xB D xcl cT A [(a0, .inr (2, [.ref a1, .int 3, .int 0])), (a1, .inl (cT 2, 4096, .inr (.inl (vp_updL f2 2 117))))] t) A) := by
  refine Met.ofW (cc := prog_8_method_16_code) (maxL := 3) (ret := none) (by decide) rfl ?_
  intro p e s m args below meth c s₁ B hml hv
  obtain ⟨rfl, hsz, hZ, hP, hK, hD0⟩ := hv
  have hx := B.exec
  have hb := B.bytes
  have hr := B.returns
  have hts := atoms_spec (ws := wyR_put) B.pre
  have htx := fun w h => hts w (List.mem_cons_of_mem _ h)
  have hown : s.vm.findClass "ValueBench$Row" = some m.cls := findClass_of_methodNamed B.named
  have hlocks := B.notSynchronized
  subst hsz
  have hD := hD0.self (sz := s.heap.size)
  generalize hAe : va_A [(a0, .inr (2, [.ref a1, .int 2, .int 0])), (a1, .inl (cT 2, 4096, .inr (.inl f2)))] s.heap.size = A at hD hZ ⊢
  have hA : ∀ q : Nat, s.heap.size ≤ q → A q := fun q h => by rw [← hAe]; exact Or.inr h
  have hS : va_S A s.heap s.heap [] := va_S.rf
  have hP : va_P D xcl [(a0, .inr (2, [.ref a1, .int 2, .int 0])), (a1, .inl (cT 2, 4096, .inr (.inl f2)))] s.heap := hP
  have hl := lv_entry ([.ref a0, .long 117]) (n := 3) (Nat.le_of_ble_eq_true rfl)
  rw [lg_entry_eq]
  generalize (lg_sl ([.ref a0, .long 117]) ++ List.replicate (3 - (lg_sl ([.ref a0, .long 117])).length) Slot.unset).toArray = ls at hl ⊢
  have hl : lv_has ls 3 [(0, .ref a0), (1, .long 117)] := hl
  refine lv_aload_n hx hb dR_put_0 rfl (lv_at hl 0 rfl) ?_
  refine va_get (D := D) (ci := 2) (v := .int 0) (C := "ValueBench$Row") (T := TR) (N := 3) hx hb htx inR hown hK hP 0 rfl rfl 2 (by decide) (htx _ kw_1_86) (fun _ h9 => h9) rfl dR_put_1 ?_
  refine lv_if_ne (tgt := 17) hx hb dR_put_4 (by decide) (fun h => ((by revert h; decide : False)).elim) (fun _ => ?_)
  refine lv_aload_n hx hb dR_put_7 rfl (lv_at hl 0 rfl) ?_
  refine va_get (D := D) (ci := 2) (v := .int 2) (C := "ValueBench$Row") (T := TR) (N := 3) hx hb htx inR hown hK hP 0 rfl rfl 1 (by decide) (htx _ kw_1_85) (fun _ h9 => h9) rfl dR_put_8 ?_
  refine lv_sipush (v := 4096) hx hb dR_put_11 (by decide) ?_
  refine lv_icmp_lt (tgt := 23) hx hb dR_put_14 (by decide) (fun _ => ?_) (fun h => ((by revert h; decide : False)).elim)
  refine lv_aload_n hx hb dR_put_23 rfl (lv_at hl 0 rfl) ?_
  refine va_get (D := D) (ci := 2) (v := .ref a1) (C := "ValueBench$Row") (T := TR) (N := 3) hx hb htx inR hown hK hP 0 rfl rfl 0 (by decide) (htx _ kw_1_84) (fun _ h9 => h9) rfl dR_put_24 ?_
  refine lv_aload_n hx hb dR_put_27 rfl (lv_at hl 0 rfl) ?_
  refine va_get (D := D) (ci := 2) (v := .int 2) (C := "ValueBench$Row") (T := TR) (N := 3) hx hb htx inR hown hK hP 0 rfl rfl 1 (by decide) (htx _ kw_1_85) (fun _ h9 => h9) rfl dR_put_28 ?_
  refine lv_lload_n hx hb dR_put_31 rfl (lv_at hl 1 rfl) ?_
  refine va_last hx hb hK hP hD hS 1 2 rfl rfl (show ¬ ((2 : Int32) < 0 ∨ 4096 ≤ (2 : Int32).toNatClampNeg) by decide) dR_put_32 (fun H locs hP hD hS => ?_)
  obtain ⟨hP, hD⟩ : xPD D xcl A [(a0, .inr (2, [.ref a1, .int 2, .int 0])), (a1, .inl (cT 2, 4096, .inr (.inl (vp_updL f2 2 117))))] H := ⟨hP, hD⟩
  refine lv_aload_n hx hb dR_put_33 rfl (lv_at hl 0 rfl) ?_
  refine lv_dup hx hb dR_put_34 rfl ?_
  refine va_get (D := D) (ci := 2) (v := .int 2) (C := "ValueBench$Row") (T := TR) (N := 3) hx hb htx inR hown hK hP 0 rfl rfl 1 (by decide) (htx _ kw_1_85) (fun _ h9 => h9) rfl dR_put_35 ?_
  refine lv_iconst (v := 1) hx hb dR_put_38 (by decide) ?_
  refine lv_iadd hx hb dR_put_39 ?_
  refine W.eq (g2 := F0 m 40 ls [.int 3, .ref a0]) rfl ?_
  refine va_put (D := D) (ci := 2) (v := .int 3) (ty := .int) (C := "ValueBench$Row") (T := TR) (N := 3) hx hb htx inR tyR tyR_ok nmR hown hK hP hD hS 0 rfl rfl 1 (by decide) (htx _ kw_1_85) (fun _ h9 => h9) rfl (by decide +kernel) rfl rfl (Nat.le_of_ble_eq_true rfl) dR_put_40 (fun H locs hP hD hS => ?_)
  obtain ⟨hP, hD⟩ : xPD D xcl A [(a0, .inr (2, [.ref a1, .int 3, .int 0])), (a1, .inl (cT 2, 4096, .inr (.inl (vp_updL f2 2 117))))] H := ⟨hP, hD⟩
  obtain ⟨hP9, hD9⟩ := xsub (wc := [(a0, .inr (2, [.ref a1, .int 3, .int 0])), (a1, .inl (cT 2, 4096, .inr (.inl (vp_updL f2 2 117))))]) hP hD [0, 1] rfl rfl (by decide)
  refine W.widen (k := 0) (n := 0) (Nat.le_of_ble_eq_true rfl) (Nat.le_of_ble_eq_true rfl) ?_
  exact W.vret hx hb hr (fun t ht hW => ⟨⟨(), rfl, trivial, by rw [ht]; exact hP9, va_K.moved hW.alike hK, hD9⟩, hS.F ht⟩) hS.2.2 dR_put_43
set_option maxHeartbeats 400000000 in
set_option maxRecDepth 100000 in
theorem cT_at_3 (l : Launch) (hl9 : l.stackTraces = false) (D : va_G) (cT : Nat → ClassId) (aK aV : Nat → Nat) (sz : Nat) (a0 : Nat) (a1 : Nat) (v2 : Value) (f3 : Nat → Int32) (h4 : f3 2 = 108) : xMet l yT_at wyT_at 0 0 0 0 D cT aK aV sz [.ref a0, .int 2] [(a0, .inr (1, [.ref a1, .int 4, v2])), (a1, .inl (cT 0, 4096, .inl f3))] (fun A => va_Qi (fun (r : Int32) (_ : Unit) => r = 108) (fun _ t => xB D xcl cT A [(a0, .inr (1, [.ref a1, .int 4, v2])), (a1, .inl (cT 0, 4096, .inl f3))] t) A) := by
  refine Met.ofW (cc := prog_11_method_7_code) (maxL := 2) (ret := (some .int)) (by decide) rfl ?_
  intro p e s m args below meth c s₁ B hml hv
  obtain ⟨rfl, hsz, hZ, hP, hK, hD0⟩ := hv
  have hx := B.exec
  have hb := B.bytes
  have hr := B.returns
  have hts := atoms_spec (ws := wyT_at) B.pre
  have htx := fun w h => hts w (List.mem_cons_of_mem _ h)
  have hown : s.vm.findClass "ValueBench$Text" = some m.cls := findClass_of_methodNamed B.named
  have hlocks := B.notSynchronized
  subst hsz
  have hD := hD0.self (sz := s.heap.size)
  generalize hAe : va_A [(a0, .inr (1, [.ref a1, .int 4, v2])), (a1, .inl (cT 0, 4096, .inl f3))] s.heap.size = A at hD hZ ⊢
  have hA : ∀ q : Nat, s.heap.size ≤ q → A q := fun q h => by rw [← hAe]; exact Or.inr h
  have hS : va_S A s.heap s.heap [] := va_S.rf
  have hP : va_P D xcl [(a0, .inr (1, [.ref a1, .int 4, v2])), (a1, .inl (cT 0, 4096, .inl f3))] s.heap := hP
  have hl := lv_entry ([.ref a0, .int 2]) (n := 2) (Nat.le_of_ble_eq_true rfl)
  rw [lg_entry_eq]
  generalize (lg_sl ([.ref a0, .int 2]) ++ List.replicate (2 - (lg_sl ([.ref a0, .int 2])).length) Slot.unset).toArray = ls at hl ⊢
  have hl : lv_has ls 2 [(0, .ref a0), (1, .int 2)] := hl
  refine lv_iload_n hx hb dT_at_0 rfl (lv_at hl 1 rfl) ?_
  refine lv_if_lt (tgt := 25) hx hb dT_at_1 (by decide) (fun h => ((by revert h; decide : False)).elim) (fun _ => ?_)
  refine lv_iload_n hx hb dT_at_4 rfl (lv_at hl 1 rfl) ?_
  refine lv_aload_n hx hb dT_at_5 rfl (lv_at hl 0 rfl) ?_
  refine va_get (D := D) (ci := 1) (v := .int 4) (C := "ValueBench$Text") (T := TT) (N := 3) hx hb htx inT hown hK hP 0 rfl rfl 1 (by decide) (htx _ kw_1_44) (fun _ h9 => h9) rfl dT_at_6 ?_
  refine lv_icmp_ge (tgt := 25) hx hb dT_at_9 (by decide) (fun h => ((by revert h; decide : False)).elim) (fun _ => ?_)
  refine lv_aload_n hx hb dT_at_12 rfl (lv_at hl 0 rfl) ?_
  refine va_get (D := D) (ci := 1) (v := .ref a1) (C := "ValueBench$Text") (T := TT) (N := 3) hx hb htx inT hown hK hP 0 rfl rfl 0 (by decide) (htx _ kw_1_43) (fun _ h9 => h9) rfl dT_at_13 ?_
  refine lv_iload_n hx hb dT_at_16 rfl (lv_at hl 1 rfl) ?_
  refine va_bald hx hb hK hP 1 0 rfl rfl (show ¬ ((2 : Int32) < 0 ∨ 4096 ≤ (2 : Int32).toNatClampNeg) by decide) dT_at_17 ?_
  refine W.eq (g2 := F0 m 18 ls [.int (f3 2)]) rfl ?_
  rw [h4]
  refine W.eq (g2 := F0 m 18 ls [.int 108]) rfl ?_
  refine lv_sipush (v := 255) hx hb dT_at_18 (by decide) ?_
  refine lv_iand hx hb dT_at_21 ?_
  refine W.eq (g2 := F0 m 22 ls [.int 108]) rfl ?_
  refine lv_goto (tgt := 26) hx hb dT_at_22 (by decide) ?_
  obtain ⟨hP9, hD9⟩ := xsub (wc := [(a0, .inr (1, [.ref a1, .int 4, v2])), (a1, .inl (cT 0, 4096, .inl f3))]) hP hD [0, 1] rfl rfl (by decide)
  refine W.widen (k := 0) (n := 0) (Nat.le_of_ble_eq_true rfl) (Nat.le_of_ble_eq_true rfl) ?_
  exact W.iret (v := 108) hx hb hr (fun t ht hW => ⟨⟨108, (), rfl, rfl, by rw [ht]; exact hP9, va_K.moved hW.alike hK, hD9⟩, hS.F ht⟩) hS.2.2 dT_at_26
set_option maxHeartbeats 400000000 in
set_option maxRecDepth 100000 in
theorem cR_put_5 (l : Launch) (hl9 : l.stackTraces = false) (D : va_G) (cT : Nat → ClassId) (aK aV : Nat → Nat) (sz : Nat) (a0 : Nat) (a1 : Nat) (f2 : Nat → Int64) : xMet l yR_put wyR_put 0 0 0 0 D cT aK aV sz [.ref a0, .long 108] [(a0, .inr (2, [.ref a1, .int 3, .int 0])), (a1, .inl (cT 2, 4096, .inr (.inl f2)))] (fun A => va_Qv (fun _ : Unit => True) (fun _ t => xB D xcl cT A [(a0, .inr (2, [.ref a1, .int 4, .int 0])), (a1, .inl (cT 2, 4096, .inr (.inl (vp_updL f2 3 108))))] t) A) := by
  refine Met.ofW (cc := prog_8_method_16_code) (maxL := 3) (ret := none) (by decide) rfl ?_
  intro p e s m args below meth c s₁ B hml hv
  obtain ⟨rfl, hsz, hZ, hP, hK, hD0⟩ := hv
  have hx := B.exec
  have hb := B.bytes
  have hr := B.returns
  have hts := atoms_spec (ws := wyR_put) B.pre
  have htx := fun w h => hts w (List.mem_cons_of_mem _ h)
  have hown : s.vm.findClass "ValueBench$Row" = some m.cls := findClass_of_methodNamed B.named
  have hlocks := B.notSynchronized
  subst hsz
  have hD := hD0.self (sz := s.heap.size)
  generalize hAe : va_A [(a0, .inr (2, [.ref a1, .int 3, .int 0])), (a1, .inl (cT 2, 4096, .inr (.inl f2)))] s.heap.size = A at hD hZ ⊢
  have hA : ∀ q : Nat, s.heap.size ≤ q → A q := fun q h => by rw [← hAe]; exact Or.inr h
  have hS : va_S A s.heap s.heap [] := va_S.rf
  have hP : va_P D xcl [(a0, .inr (2, [.ref a1, .int 3, .int 0])), (a1, .inl (cT 2, 4096, .inr (.inl f2)))] s.heap := hP
  have hl := lv_entry ([.ref a0, .long 108]) (n := 3) (Nat.le_of_ble_eq_true rfl)
  rw [lg_entry_eq]
  generalize (lg_sl ([.ref a0, .long 108]) ++ List.replicate (3 - (lg_sl ([.ref a0, .long 108])).length) Slot.unset).toArray = ls at hl ⊢
  have hl : lv_has ls 3 [(0, .ref a0), (1, .long 108)] := hl
  refine lv_aload_n hx hb dR_put_0 rfl (lv_at hl 0 rfl) ?_
  refine va_get (D := D) (ci := 2) (v := .int 0) (C := "ValueBench$Row") (T := TR) (N := 3) hx hb htx inR hown hK hP 0 rfl rfl 2 (by decide) (htx _ kw_1_86) (fun _ h9 => h9) rfl dR_put_1 ?_
  refine lv_if_ne (tgt := 17) hx hb dR_put_4 (by decide) (fun h => ((by revert h; decide : False)).elim) (fun _ => ?_)
  refine lv_aload_n hx hb dR_put_7 rfl (lv_at hl 0 rfl) ?_
  refine va_get (D := D) (ci := 2) (v := .int 3) (C := "ValueBench$Row") (T := TR) (N := 3) hx hb htx inR hown hK hP 0 rfl rfl 1 (by decide) (htx _ kw_1_85) (fun _ h9 => h9) rfl dR_put_8 ?_
  refine lv_sipush (v := 4096) hx hb dR_put_11 (by decide) ?_
  refine lv_icmp_lt (tgt := 23) hx hb dR_put_14 (by decide) (fun _ => ?_) (fun h => ((by revert h; decide : False)).elim)
  refine lv_aload_n hx hb dR_put_23 rfl (lv_at hl 0 rfl) ?_
  refine va_get (D := D) (ci := 2) (v := .ref a1) (C := "ValueBench$Row") (T := TR) (N := 3) hx hb htx inR hown hK hP 0 rfl rfl 0 (by decide) (htx _ kw_1_84) (fun _ h9 => h9) rfl dR_put_24 ?_
  refine lv_aload_n hx hb dR_put_27 rfl (lv_at hl 0 rfl) ?_
  refine va_get (D := D) (ci := 2) (v := .int 3) (C := "ValueBench$Row") (T := TR) (N := 3) hx hb htx inR hown hK hP 0 rfl rfl 1 (by decide) (htx _ kw_1_85) (fun _ h9 => h9) rfl dR_put_28 ?_
  refine lv_lload_n hx hb dR_put_31 rfl (lv_at hl 1 rfl) ?_
  refine va_last hx hb hK hP hD hS 1 2 rfl rfl (show ¬ ((3 : Int32) < 0 ∨ 4096 ≤ (3 : Int32).toNatClampNeg) by decide) dR_put_32 (fun H locs hP hD hS => ?_)
  obtain ⟨hP, hD⟩ : xPD D xcl A [(a0, .inr (2, [.ref a1, .int 3, .int 0])), (a1, .inl (cT 2, 4096, .inr (.inl (vp_updL f2 3 108))))] H := ⟨hP, hD⟩
  refine lv_aload_n hx hb dR_put_33 rfl (lv_at hl 0 rfl) ?_
  refine lv_dup hx hb dR_put_34 rfl ?_
  refine va_get (D := D) (ci := 2) (v := .int 3) (C := "ValueBench$Row") (T := TR) (N := 3) hx hb htx inR hown hK hP 0 rfl rfl 1 (by decide) (htx _ kw_1_85) (fun _ h9 => h9) rfl dR_put_35 ?_
  refine lv_iconst (v := 1) hx hb dR_put_38 (by decide) ?_
  refine lv_iadd hx hb dR_put_39 ?_
  refine W.eq (g2 := F0 m 40 ls [.int 4, .ref a0]) rfl ?_
  refine va_put (D := D) (ci := 2) (v := .int 4) (ty := .int) (C := "ValueBench$Row") (T := TR) (N := 3) hx hb htx inR tyR tyR_ok nmR hown hK hP hD hS 0 rfl rfl 1 (by decide) (htx _ kw_1_85) (fun _ h9 => h9) rfl (by decide +kernel) rfl rfl (Nat.le_of_ble_eq_true rfl) dR_put_40 (fun H locs hP hD hS => ?_)
  obtain ⟨hP, hD⟩ : xPD D xcl A [(a0, .inr (2, [.ref a1, .int 4, .int 0])), (a1, .inl (cT 2, 4096, .inr (.inl (vp_updL f2 3 108))))] H := ⟨hP, hD⟩
  obtain ⟨hP9, hD9⟩ := xsub (wc := [(a0, .inr (2, [.ref a1, .int 4, .int 0])), (a1, .inl (cT 2, 4096, .inr (.inl (vp_updL f2 3 108))))]) hP hD [0, 1] rfl rfl (by decide)
  refine W.widen (k := 0) (n := 0) (Nat.le_of_ble_eq_true rfl) (Nat.le_of_ble_eq_true rfl) ?_
  exact W.vret hx hb hr (fun t ht hW => ⟨⟨(), rfl, trivial, by rw [ht]; exact hP9, va_K.moved hW.alike hK, hD9⟩, hS.F ht⟩) hS.2.2 dR_put_43
set_option maxHeartbeats 400000000 in
set_option maxRecDepth 100000 in
theorem cT_at_4 (l : Launch) (hl9 : l.stackTraces = false) (D : va_G) (cT : Nat → ClassId) (aK aV : Nat → Nat) (sz : Nat) (a0 : Nat) (a1 : Nat) (v2 : Value) (f3 : Nat → Int32) (h4 : f3 3 = 108) : xMet l yT_at wyT_at 0 0 0 0 D cT aK aV sz [.ref a0, .int 3] [(a0, .inr (1, [.ref a1, .int 4, v2])), (a1, .inl (cT 0, 4096, .inl f3))] (fun A => va_Qi (fun (r : Int32) (_ : Unit) => r = 108) (fun _ t => xB D xcl cT A [(a0, .inr (1, [.ref a1, .int 4, v2])), (a1, .inl (cT 0, 4096, .inl f3))] t) A) := by
  refine Met.ofW (cc := prog_11_method_7_code) (maxL := 2) (ret := (some .int)) (by decide) rfl ?_
  intro p e s m args below meth c s₁ B hml hv
  obtain ⟨rfl, hsz, hZ, hP, hK, hD0⟩ := hv
  have hx := B.exec
  have hb := B.bytes
  have hr := B.returns
  have hts := atoms_spec (ws := wyT_at) B.pre
  have htx := fun w h => hts w (List.mem_cons_of_mem _ h)
  have hown : s.vm.findClass "ValueBench$Text" = some m.cls := findClass_of_methodNamed B.named
  have hlocks := B.notSynchronized
  subst hsz
  have hD := hD0.self (sz := s.heap.size)
  generalize hAe : va_A [(a0, .inr (1, [.ref a1, .int 4, v2])), (a1, .inl (cT 0, 4096, .inl f3))] s.heap.size = A at hD hZ ⊢
  have hA : ∀ q : Nat, s.heap.size ≤ q → A q := fun q h => by rw [← hAe]; exact Or.inr h
  have hS : va_S A s.heap s.heap [] := va_S.rf
  have hP : va_P D xcl [(a0, .inr (1, [.ref a1, .int 4, v2])), (a1, .inl (cT 0, 4096, .inl f3))] s.heap := hP
  have hl := lv_entry ([.ref a0, .int 3]) (n := 2) (Nat.le_of_ble_eq_true rfl)
  rw [lg_entry_eq]
  generalize (lg_sl ([.ref a0, .int 3]) ++ List.replicate (2 - (lg_sl ([.ref a0, .int 3])).length) Slot.unset).toArray = ls at hl ⊢
  have hl : lv_has ls 2 [(0, .ref a0), (1, .int 3)] := hl
  refine lv_iload_n hx hb dT_at_0 rfl (lv_at hl 1 rfl) ?_
  refine lv_if_lt (tgt := 25) hx hb dT_at_1 (by decide) (fun h => ((by revert h; decide : False)).elim) (fun _ => ?_)
  refine lv_iload_n hx hb dT_at_4 rfl (lv_at hl 1 rfl) ?_
  refine lv_aload_n hx hb dT_at_5 rfl (lv_at hl 0 rfl) ?_
  refine va_get (D := D) (ci := 1) (v := .int 4) (C := "ValueBench$Text") (T := TT) (N := 3) hx hb htx inT hown hK hP 0 rfl rfl 1 (by decide) (htx _ kw_1_44) (fun _ h9 => h9) rfl dT_at_6 ?_
  refine lv_icmp_ge (tgt := 25) hx hb dT_at_9 (by decide) (fun h => ((by revert h; decide : False)).elim) (fun _ => ?_)
  refine lv_aload_n hx hb dT_at_12 rfl (lv_at hl 0 rfl) ?_
  refine va_get (D := D) (ci := 1) (v := .ref a1) (C := "ValueBench$Text") (T := TT) (N := 3) hx hb htx inT hown hK hP 0 rfl rfl 0 (by decide) (htx _ kw_1_43) (fun _ h9 => h9) rfl dT_at_13 ?_
  refine lv_iload_n hx hb dT_at_16 rfl (lv_at hl 1 rfl) ?_
  refine va_bald hx hb hK hP 1 0 rfl rfl (show ¬ ((3 : Int32) < 0 ∨ 4096 ≤ (3 : Int32).toNatClampNeg) by decide) dT_at_17 ?_
  refine W.eq (g2 := F0 m 18 ls [.int (f3 3)]) rfl ?_
  rw [h4]
  refine W.eq (g2 := F0 m 18 ls [.int 108]) rfl ?_
  refine lv_sipush (v := 255) hx hb dT_at_18 (by decide) ?_
  refine lv_iand hx hb dT_at_21 ?_
  refine W.eq (g2 := F0 m 22 ls [.int 108]) rfl ?_
  refine lv_goto (tgt := 26) hx hb dT_at_22 (by decide) ?_
  obtain ⟨hP9, hD9⟩ := xsub (wc := [(a0, .inr (1, [.ref a1, .int 4, v2])), (a1, .inl (cT 0, 4096, .inl f3))]) hP hD [0, 1] rfl rfl (by decide)
  refine W.widen (k := 0) (n := 0) (Nat.le_of_ble_eq_true rfl) (Nat.le_of_ble_eq_true rfl) ?_
  exact W.iret (v := 108) hx hb hr (fun t ht hW => ⟨⟨108, (), rfl, rfl, by rw [ht]; exact hP9, va_K.moved hW.alike hK, hD9⟩, hS.F ht⟩) hS.2.2 dT_at_26
set_option maxHeartbeats 400000000 in
set_option maxRecDepth 100000 in
theorem cR_put_6 (l : Launch) (hl9 : l.stackTraces = false) (D : va_G) (cT : Nat → ClassId) (aK aV : Nat → Nat) (sz : Nat) (a0 : Nat) (a1 : Nat) (f2 : Nat → Int64) : xMet l yR_put wyR_put 0 0 0 0 D cT aK aV sz [.ref a0, .long 108] [(a0, .inr (2, [.ref a1, .int 4, .int 0])), (a1, .inl (cT 2, 4096, .inr (.inl f2)))] (fun A => va_Qv (fun _ : Unit => True) (fun _ t => xB D xcl cT A [(a0, .inr (2, [.ref a1, .int 5, .int 0])), (a1, .inl (cT 2, 4096, .inr (.inl (vp_updL f2 4 108))))] t) A) := by
  refine Met.ofW (cc := prog_8_method_16_code) (maxL := 3) (ret := none) (by decide) rfl ?_
  intro p e s m args below meth c s₁ B hml hv
  obtain ⟨rfl, hsz, hZ, hP, hK, hD0⟩ := hv
  have hx := B.exec
  have hb := B.bytes
  have hr := B.returns
  have hts := atoms_spec (ws := wyR_put) B.pre
  have htx := fun w h => hts w (List.mem_cons_of_mem _ h)
  have hown : s.vm.findClass "ValueBench$Row" = some m.cls := findClass_of_methodNamed B.named
  have hlocks := B.notSynchronized
  subst hsz
  have hD := hD0.self (sz := s.heap.size)
  generalize hAe : va_A [(a0, .inr (2, [.ref a1, .int 4, .int 0])), (a1, .inl (cT 2, 4096, .inr (.inl f2)))] s.heap.size = A at hD hZ ⊢
  have hA : ∀ q : Nat, s.heap.size ≤ q → A q := fun q h => by rw [← hAe]; exact Or.inr h
  have hS : va_S A s.heap s.heap [] := va_S.rf
  have hP : va_P D xcl [(a0, .inr (2, [.ref a1, .int 4, .int 0])), (a1, .inl (cT 2, 4096, .inr (.inl f2)))] s.heap := hP
  have hl := lv_entry ([.ref a0, .long 108]) (n := 3) (Nat.le_of_ble_eq_true rfl)
  rw [lg_entry_eq]
  generalize (lg_sl ([.ref a0, .long 108]) ++ List.replicate (3 - (lg_sl ([.ref a0, .long 108])).length) Slot.unset).toArray = ls at hl ⊢
  have hl : lv_has ls 3 [(0, .ref a0), (1, .long 108)] := hl
  refine lv_aload_n hx hb dR_put_0 rfl (lv_at hl 0 rfl) ?_
  refine va_get (D := D) (ci := 2) (v := .int 0) (C := "ValueBench$Row") (T := TR) (N := 3) hx hb htx inR hown hK hP 0 rfl rfl 2 (by decide) (htx _ kw_1_86) (fun _ h9 => h9) rfl dR_put_1 ?_
  refine lv_if_ne (tgt := 17) hx hb dR_put_4 (by decide) (fun h => ((by revert h; decide : False)).elim) (fun _ => ?_)
  refine lv_aload_n hx hb dR_put_7 rfl (lv_at hl 0 rfl) ?_
  refine va_get (D := D) (ci := 2) (v := .int 4) (C := "ValueBench$Row") (T := TR) (N := 3) hx hb htx inR hown hK hP 0 rfl rfl 1 (by decide) (htx _ kw_1_85) (fun _ h9 => h9) rfl dR_put_8 ?_
  refine lv_sipush (v := 4096) hx hb dR_put_11 (by decide) ?_
  refine lv_icmp_lt (tgt := 23) hx hb dR_put_14 (by decide) (fun _ => ?_) (fun h => ((by revert h; decide : False)).elim)
  refine lv_aload_n hx hb dR_put_23 rfl (lv_at hl 0 rfl) ?_
  refine va_get (D := D) (ci := 2) (v := .ref a1) (C := "ValueBench$Row") (T := TR) (N := 3) hx hb htx inR hown hK hP 0 rfl rfl 0 (by decide) (htx _ kw_1_84) (fun _ h9 => h9) rfl dR_put_24 ?_
  refine lv_aload_n hx hb dR_put_27 rfl (lv_at hl 0 rfl) ?_
  refine va_get (D := D) (ci := 2) (v := .int 4) (C := "ValueBench$Row") (T := TR) (N := 3) hx hb htx inR hown hK hP 0 rfl rfl 1 (by decide) (htx _ kw_1_85) (fun _ h9 => h9) rfl dR_put_28 ?_
  refine lv_lload_n hx hb dR_put_31 rfl (lv_at hl 1 rfl) ?_
  refine va_last hx hb hK hP hD hS 1 2 rfl rfl (show ¬ ((4 : Int32) < 0 ∨ 4096 ≤ (4 : Int32).toNatClampNeg) by decide) dR_put_32 (fun H locs hP hD hS => ?_)
  obtain ⟨hP, hD⟩ : xPD D xcl A [(a0, .inr (2, [.ref a1, .int 4, .int 0])), (a1, .inl (cT 2, 4096, .inr (.inl (vp_updL f2 4 108))))] H := ⟨hP, hD⟩
  refine lv_aload_n hx hb dR_put_33 rfl (lv_at hl 0 rfl) ?_
  refine lv_dup hx hb dR_put_34 rfl ?_
  refine va_get (D := D) (ci := 2) (v := .int 4) (C := "ValueBench$Row") (T := TR) (N := 3) hx hb htx inR hown hK hP 0 rfl rfl 1 (by decide) (htx _ kw_1_85) (fun _ h9 => h9) rfl dR_put_35 ?_
  refine lv_iconst (v := 1) hx hb dR_put_38 (by decide) ?_
  refine lv_iadd hx hb dR_put_39 ?_
  refine W.eq (g2 := F0 m 40 ls [.int 5, .ref a0]) rfl ?_
  refine va_put (D := D) (ci := 2) (v := .int 5) (ty := .int) (C := "ValueBench$Row") (T := TR) (N := 3) hx hb htx inR tyR tyR_ok nmR hown hK hP hD hS 0 rfl rfl 1 (by decide) (htx _ kw_1_85) (fun _ h9 => h9) rfl (by decide +kernel) rfl rfl (Nat.le_of_ble_eq_true rfl) dR_put_40 (fun H locs hP hD hS => ?_)
  obtain ⟨hP, hD⟩ : xPD D xcl A [(a0, .inr (2, [.ref a1, .int 5, .int 0])), (a1, .inl (cT 2, 4096, .inr (.inl (vp_updL f2 4 108))))] H := ⟨hP, hD⟩
  obtain ⟨hP9, hD9⟩ := xsub (wc := [(a0, .inr (2, [.ref a1, .int 5, .int 0])), (a1, .inl (cT 2, 4096, .inr (.inl (vp_updL f2 4 108))))]) hP hD [0, 1] rfl rfl (by decide)
  refine W.widen (k := 0) (n := 0) (Nat.le_of_ble_eq_true rfl) (Nat.le_of_ble_eq_true rfl) ?_
  exact W.vret hx hb hr (fun t ht hW => ⟨⟨(), rfl, trivial, by rw [ht]; exact hP9, va_K.moved hW.alike hK, hD9⟩, hS.F ht⟩) hS.2.2 dR_put_43
set_option maxHeartbeats 400000000 in
set_option maxRecDepth 100000 in
theorem cR_close_0 (l : Launch) (hl9 : l.stackTraces = false) (D : va_G) (cT : Nat → ClassId) (aK aV : Nat → Nat) (sz : Nat) (a0 : Nat) (a1 : Nat) (f2 : Nat → Int64) : xMet l yR_close wyR_close 0 0 0 0 D cT aK aV sz [.ref a0, .int 0, .int 4, .int 4] [(a0, .inr (2, [.ref a1, .int 5, .int 0])), (a1, .inl (cT 2, 4096, .inr (.inl f2)))] (fun A => va_Qv (fun _ : Unit => True) (fun _ t => xB D xcl cT A [(a0, .inr (2, [.ref a1, .int 5, .int 0])), (a1, .inl (cT 2, 4096, .inr (.inl (vp_updL f2 0 2621476))))] t) A) := by
  refine Met.ofW (cc := prog_8_method_26_code) (maxL := 4) (ret := none) (by decide) rfl ?_
  intro p e s m args below meth c s₁ B hml hv
  obtain ⟨rfl, hsz, hZ, hP, hK, hD0⟩ := hv
  have hx := B.exec
  have hb := B.bytes
  have hr := B.returns
  have hts := atoms_spec (ws := wyR_close) B.pre
  have htx := fun w h => hts w (List.mem_cons_of_mem _ h)
  have hown : s.vm.findClass "ValueBench$Row" = some m.cls := findClass_of_methodNamed B.named
  have hlocks := B.notSynchronized
  subst hsz
  have hD := hD0.self (sz := s.heap.size)
  generalize hAe : va_A [(a0, .inr (2, [.ref a1, .int 5, .int 0])), (a1, .inl (cT 2, 4096, .inr (.inl f2)))] s.heap.size = A at hD hZ ⊢
  have hA : ∀ q : Nat, s.heap.size ≤ q → A q := fun q h => by rw [← hAe]; exact Or.inr h
  have hS : va_S A s.heap s.heap [] := va_S.rf
  have hP : va_P D xcl [(a0, .inr (2, [.ref a1, .int 5, .int 0])), (a1, .inl (cT 2, 4096, .inr (.inl f2)))] s.heap := hP
  have hl := lv_entry ([.ref a0, .int 0, .int 4, .int 4]) (n := 4) (Nat.le_of_ble_eq_true rfl)
  rw [lg_entry_eq]
  generalize (lg_sl ([.ref a0, .int 0, .int 4, .int 4]) ++ List.replicate (4 - (lg_sl ([.ref a0, .int 0, .int 4, .int 4])).length) Slot.unset).toArray = ls at hl ⊢
  have hl : lv_has ls 4 [(0, .ref a0), (1, .int 0), (2, .int 4), (3, .int 4)] := hl
  refine lv_aload_n hx hb dR_close_0 rfl (lv_at hl 0 rfl) ?_
  refine va_get (D := D) (ci := 2) (v := .int 0) (C := "ValueBench$Row") (T := TR) (N := 3) hx hb htx inR hown hK hP 0 rfl rfl 2 (by decide) (htx _ kw_1_86) (fun _ h9 => h9) rfl dR_close_1 ?_
  refine lv_if_ne (tgt := 43) hx hb dR_close_4 (by decide) (fun h => ((by revert h; decide : False)).elim) (fun _ => ?_)
  refine lv_iload_n hx hb dR_close_7 rfl (lv_at hl 1 rfl) ?_
  refine lv_if_lt (tgt := 43) hx hb dR_close_8 (by decide) (fun h => ((by revert h; decide : False)).elim) (fun _ => ?_)
  refine lv_iload_n hx hb dR_close_11 rfl (lv_at hl 1 rfl) ?_
  refine lv_aload_n hx hb dR_close_12 rfl (lv_at hl 0 rfl) ?_
  refine va_get (D := D) (ci := 2) (v := .int 5) (C := "ValueBench$Row") (T := TR) (N := 3) hx hb htx inR hown hK hP 0 rfl rfl 1 (by decide) (htx _ kw_1_85) (fun _ h9 => h9) rfl dR_close_13 ?_
  refine lv_icmp_ge (tgt := 43) hx hb dR_close_16 (by decide) (fun h => ((by revert h; decide : False)).elim) (fun _ => ?_)
  refine lv_aload_n hx hb dR_close_19 rfl (lv_at hl 0 rfl) ?_
  refine va_get (D := D) (ci := 2) (v := .ref a1) (C := "ValueBench$Row") (T := TR) (N := 3) hx hb htx inR hown hK hP 0 rfl rfl 0 (by decide) (htx _ kw_1_84) (fun _ h9 => h9) rfl dR_close_20 ?_
  refine lv_iload_n hx hb dR_close_23 rfl (lv_at hl 1 rfl) ?_
  refine lv_aload_n hx hb dR_close_24 rfl (lv_at hl 0 rfl) ?_
  refine va_get (D := D) (ci := 2) (v := .int 5) (C := "ValueBench$Row") (T := TR) (N := 3) hx hb htx inR hown hK hP 0 rfl rfl 1 (by decide) (htx _ kw_1_85) (fun _ h9 => h9) rfl dR_close_25 ?_
  refine lv_iload_n hx hb dR_close_28 rfl (lv_at hl 1 rfl) ?_
  refine lv_isub hx hb dR_close_29 ?_
  refine W.eq (g2 := F0 m 30 ls [.int 5, .int 0, .ref a1]) rfl ?_
  refine lv_i2l hx hb dR_close_30 rfl ?_
  refine W.eq (g2 := F0 m 31 ls [.long 5, .int 0, .ref a1]) rfl ?_
  refine lv_bipush (v := 19) hx hb dR_close_31 (by decide) ?_
  refine lv_lshl hx hb dR_close_33 rfl ?_
  refine W.eq (g2 := F0 m 34 ls [.long 2621440, .int 0, .ref a1]) rfl ?_
  refine lv_iload_n hx hb dR_close_34 rfl (lv_at hl 3 rfl) ?_
  refine lv_i2l hx hb dR_close_35 rfl ?_
  refine W.eq (g2 := F0 m 36 ls [.long 4, .long 2621440, .int 0, .ref a1]) rfl ?_
  refine lv_iconst (v := 3) hx hb dR_close_36 (by decide) ?_
  refine lv_lshl hx hb dR_close_37 rfl ?_
  refine W.eq (g2 := F0 m 38 ls [.long 32, .long 2621440, .int 0, .ref a1]) rfl ?_
  refine lv_lor hx hb dR_close_38 ?_
  refine W.eq (g2 := F0 m 39 ls [.long 2621472, .int 0, .ref a1]) rfl ?_
  refine lv_iload_n hx hb dR_close_39 rfl (lv_at hl 2 rfl) ?_
  refine lv_i2l hx hb dR_close_40 rfl ?_
  refine W.eq (g2 := F0 m 41 ls [.long 4, .long 2621472, .int 0, .ref a1]) rfl ?_
  refine lv_lor hx hb dR_close_41 ?_
  refine W.eq (g2 := F0 m 42 ls [.long 2621476, .int 0, .ref a1]) rfl ?_
  refine va_last hx hb hK hP hD hS 1 2 rfl rfl (show ¬ ((0 : Int32) < 0 ∨ 4096 ≤ (0 : Int32).toNatClampNeg) by decide) dR_close_42 (fun H locs hP hD hS => ?_)
  obtain ⟨hP, hD⟩ : xPD D xcl A [(a0, .inr (2, [.ref a1, .int 5, .int 0])), (a1, .inl (cT 2, 4096, .inr (.inl (vp_updL f2 0 2621476))))] H := ⟨hP, hD⟩
  obtain ⟨hP9, hD9⟩ := xsub (wc := [(a0, .inr (2, [.ref a1, .int 5, .int 0])), (a1, .inl (cT 2, 4096, .inr (.inl (vp_updL f2 0 2621476))))]) hP hD [0, 1] rfl rfl (by decide)
  refine W.widen (k := 0) (n := 0) (Nat.le_of_ble_eq_true rfl) (Nat.le_of_ble_eq_true rfl) ?_
  exact W.vret hx hb hr (fun t ht hW => ⟨⟨(), rfl, trivial, by rw [ht]; exact hP9, va_K.moved hW.alike hK, hD9⟩, hS.F ht⟩) hS.2.2 dR_close_43
set_option maxHeartbeats 400000000 in
set_option maxRecDepth 100000 in
theorem cR_putText_0 (l : Launch) (hl9 : l.stackTraces = false) (D : va_G) (cT : Nat → ClassId) (aK aV : Nat → Nat) (sz : Nat) (a0 : Nat) (a1 : Nat) (a2 : Nat) (a3 : Nat) (f4 : Nat → Int64) (f5 : Nat → Int32) (h6 : f5 0 = 110) (h7 : f5 1 = 117) (h8 : f5 2 = 108) (h9 : f5 3 = 108) : xMet l yR_putText wyR_putText 2 0 0 42 D cT aK aV sz [.ref a0, .ref a2] [(a0, .inr (2, [.ref a1, .int 0, .int 0])), (a1, .inl (cT 2, 4096, .inr (.inl f4))), (a2, .inr (1, [.ref a3, .int 4, .int 0])), (a3, .inl (cT 0, 4096, .inl f5))] (fun A => va_Qv (fun _ : Unit => True) (fun _ t => xB D xcl cT A [(a0, .inr (2, [.ref a1, .int 5, .int 0])), (a1, .inl (cT 2, 4096, .inr (.inl (vp_updL (vp_updL (vp_updL (vp_updL (vp_updL (vp_updL f4 0 0) 1 110) 2 117) 3 108) 4 108) 0 2621476)))), (a2, .inr (1, [.ref a3, .int 4, .int 0])), (a3, .inl (cT 0, 4096, .inl f5))] t) A) := by
  refine Met.ofW (cc := prog_8_method_20_code) (maxL := 4) (ret := none) (by decide) rfl ?_
  intro p e s m args below meth c s₁ B hml hv
  obtain ⟨rfl, hsz, hZ, hP, hK, hD0⟩ := hv
  have hx := B.exec
  have hb := B.bytes
  have hr := B.returns
  have hts := atoms_spec (ws := wyR_putText) B.pre
  have htx := fun w h => hts w (List.mem_cons_of_mem _ h)
  have hown : s.vm.findClass "ValueBench$Row" = some m.cls := findClass_of_methodNamed B.named
  have hlocks := B.notSynchronized
  subst hsz
  have hD := hD0.self (sz := s.heap.size)
  generalize hAe : va_A [(a0, .inr (2, [.ref a1, .int 0, .int 0])), (a1, .inl (cT 2, 4096, .inr (.inl f4))), (a2, .inr (1, [.ref a3, .int 4, .int 0])), (a3, .inl (cT 0, 4096, .inl f5))] s.heap.size = A at hD hZ ⊢
  have hA : ∀ q : Nat, s.heap.size ≤ q → A q := fun q h => by rw [← hAe]; exact Or.inr h
  have hS : va_S A s.heap s.heap [] := va_S.rf
  have hP : va_P D xcl [(a0, .inr (2, [.ref a1, .int 0, .int 0])), (a1, .inl (cT 2, 4096, .inr (.inl f4))), (a2, .inr (1, [.ref a3, .int 4, .int 0])), (a3, .inl (cT 0, 4096, .inl f5))] s.heap := hP
  have hl := lv_entry ([.ref a0, .ref a2]) (n := 4) (Nat.le_of_ble_eq_true rfl)
  rw [lg_entry_eq]
  generalize (lg_sl ([.ref a0, .ref a2]) ++ List.replicate (4 - (lg_sl ([.ref a0, .ref a2])).length) Slot.unset).toArray = ls at hl ⊢
  have hl : lv_has ls 4 [(0, .ref a0), (1, .ref a2)] := hl
  refine lv_aload_n hx hb dR_putText_0 rfl (lv_at hl 0 rfl) ?_
  obtain ⟨hPc, hDc, hFc⟩ := xcut (wc := [(a0, .inr (2, [.ref a1, .int 0, .int 0])), (a1, .inl (cT 2, 4096, .inr (.inl f4)))]) hP hD hS hA [0, 1] rfl rfl (by decide)
  refine va_calli (va_runV (C := "ValueBench$Row") (As := []) (rest := []) ⟨hx, hb, hml, hown, htx⟩ (cR_open_0 l hl9 D cT aK aV s.heap.size a0 a1 f4) ⟨callB_of 0 htx (xw_goodC kw_2_136) rfl rfl rfl (htx _ kw_1_4) (htx _ kw_3_209) ⟨by decide, by decide, by decide +kernel⟩ ⟨Nat.le_of_ble_eq_true rfl, Nat.le_of_ble_eq_true rfl⟩, (htx _ kw_2_134), (htx _ kw_2_135)⟩ ⟨xPre_blind, va_recv hK hP (ci := 2) rfl (q0 := 0) rfl, (fun U hU hW => ⟨rfl, xPre_of hZ hS hFc hPc hDc hK U hU hW⟩)⟩ rfl rfl hl.1 rfl (lv_room (Nat.le_of_ble_eq_true rfl)) dR_putText_1 ⟨Nat.le_of_ble_eq_true rfl, Nat.le_of_ble_eq_true rfl⟩) hS (fun q _ h => hFc q h) hFc (fun r1 u9 t H1 locs ht hvm hr9 hB hz1 hk1 hS => ?_)
  obtain ⟨hP1, hK1, hD1⟩ := hB
  rw [ht] at hP1
  obtain ⟨hP, hD⟩ := xjoin (W := [(a2, .inr (1, [.ref a3, .int 4, .int 0])), (a3, .inl (cT 0, 4096, .inl f5)), (a0, .inr (2, [.ref a1, .int 1, .int 0])), (a1, .inl (cT 2, 4096, .inr (.inl (vp_updL f4 0 0))))]) hP hD [0, 1] [2, 3] 2 rfl rfl (by decide) (by decide) hk1 hFc hP1 hD1
  generalize H1 = H at hP hS ⊢
  rw [hr9]
  refine W.eq (g2 := F0 m 4 ls [.int 0]) rfl ?_
  refine lv_istore_n (lv' := [(2, .int 0), (0, .ref a0), (1, .ref a2)]) hx hb dR_putText_4 rfl hl (by decide) rfl (fun ls hl => ?_)
  refine lv_iconst (v := 0) hx hb dR_putText_5 (by decide) ?_
  refine lv_istore_n (lv' := [(3, .int 0), (2, .int 0), (0, .ref a0), (1, .ref a2)]) hx hb dR_putText_6 rfl hl (by decide) rfl (fun ls hl => ?_)
  refine lv_iload_n hx hb dR_putText_7 rfl (lv_at hl 0 rfl) ?_
  refine lv_aload_n hx hb dR_putText_8 rfl (lv_at hl 3 rfl) ?_
  obtain ⟨hPc, hDc, hFc⟩ := xcut (wc := [(a2, .inr (1, [.ref a3, .int 4, .int 0]))]) hP hD hS hA [0] rfl rfl (by decide)
  refine va_calli (va_runV (C := "ValueBench$Text") (As := []) (rest := [.int 0]) ⟨hx, hb, hml, hown, htx⟩ (cT_size_3 l hl9 D cT aK aV H.size a2 (.ref a3) (.int 0)) ⟨callB_of 0 htx (xw_goodC kw_1_131) rfl rfl rfl (htx _ kw_1_2) (htx _ kw_4_87) ⟨by decide, by decide, by decide +kernel⟩ ⟨Nat.le_of_ble_eq_true rfl, Nat.le_of_ble_eq_true rfl⟩, (htx _ kw_1_129), (htx _ kw_1_130)⟩ ⟨xPre_blind, va_recv hK hP (ci := 1) rfl (q0 := 0) rfl, (fun U hU hW => ⟨rfl, xPre_of hZ hS hFc hPc hDc hK U hU hW⟩)⟩ rfl rfl hl.1 rfl (lv_room (Nat.le_of_ble_eq_true rfl)) dR_putText_9 ⟨Nat.le_of_ble_eq_true rfl, Nat.le_of_ble_eq_true rfl⟩) hS (fun q _ h => hFc q h) hFc (fun r2 u9 t H1 locs ht hvm hr9 hB hz1 hk1 hS => ?_)
  obtain ⟨hP1, hK1, hD1⟩ := hB
  rw [ht] at hP1
  obtain ⟨hP, hD⟩ := xjoin (W := [(a3, .inl (cT 0, 4096, .inl f5)), (a0, .inr (2, [.ref a1, .int 1, .int 0])), (a1, .inl (cT 2, 4096, .inr (.inl (vp_updL f4 0 0)))), (a2, .inr (1, [.ref a3, .int 4, .int 0]))]) hP hD [0] [1, 2, 3] 3 rfl rfl (by decide) (by decide) hk1 hFc hP1 hD1
  generalize H1 = H at hP hS ⊢
  rw [hr9]
  refine W.eq (g2 := F0 m 12 ls [.int 4, .int 0]) rfl ?_
  refine lv_icmp_ge (tgt := 31) hx hb dR_putText_12 (by decide) (fun h => ((by revert h; decide : False)).elim) (fun _ => ?_)
  refine lv_aload_n hx hb dR_putText_15 rfl (lv_at hl 2 rfl) ?_
  refine lv_aload_n hx hb dR_putText_16 rfl (lv_at hl 3 rfl) ?_
  refine lv_iload_n hx hb dR_putText_17 rfl (lv_at hl 0 rfl) ?_
  obtain ⟨hPc, hDc, hFc⟩ := xcut (wc := [(a2, .inr (1, [.ref a3, .int 4, .int 0])), (a3, .inl (cT 0, 4096, .inl f5))]) hP hD hS hA [3, 0] rfl rfl (by decide)
  refine va_calli (va_runV (C := "ValueBench$Text") (As := [.int 0]) (rest := [.ref a0]) ⟨hx, hb, hml, hown, htx⟩ (cT_at_1 l hl9 D cT aK aV H.size a2 a3 (.int 0) f5 (by first | rfl | exact h6 | exact h7 | exact h8 | exact h9)) ⟨callB_of 1 htx (xw_goodC kw_2_58) rfl rfl rfl (htx _ kw_1_2) (htx _ kw_4_88) ⟨by decide, by decide, by decide +kernel⟩ ⟨Nat.le_of_ble_eq_true rfl, Nat.le_of_ble_eq_true rfl⟩, (htx _ kw_2_56), (htx _ kw_2_57)⟩ ⟨xPre_blind, va_recv hK hP (ci := 1) rfl (q0 := 3) rfl, (fun U hU hW => ⟨rfl, xPre_of hZ hS hFc hPc hDc hK U hU hW⟩)⟩ rfl rfl hl.1 rfl (lv_room (Nat.le_of_ble_eq_true rfl)) dR_putText_18 ⟨Nat.le_of_ble_eq_true rfl, Nat.le_of_ble_eq_true rfl⟩) hS (fun q _ h => hFc q h) hFc (fun r3 u9 t H1 locs ht hvm hr9 hB hz1 hk1 hS => ?_)
  obtain ⟨hP1, hK1, hD1⟩ := hB
  rw [ht] at hP1
  obtain ⟨hP, hD⟩ := xjoin (W := [(a0, .inr (2, [.ref a1, .int 1, .int 0])), (a1, .inl (cT 2, 4096, .inr (.inl (vp_updL f4 0 0)))), (a2, .inr (1, [.ref a3, .int 4, .int 0])), (a3, .inl (cT 0, 4096, .inl f5))]) hP hD [3, 0] [1, 2] 2 rfl rfl (by decide) (by decide) hk1 hFc hP1 hD1
  generalize H1 = H at hP hS ⊢
  rw [hr9]
  refine W.eq (g2 := F0 m 21 ls [.int 110, .ref a0]) rfl ?_
  refine lv_i2l hx hb dR_putText_21 rfl ?_
  refine W.eq (g2 := F0 m 22 ls [.long 110, .ref a0]) rfl ?_
  obtain ⟨hPc, hDc, hFc⟩ := xcut (wc := [(a0, .inr (2, [.ref a1, .int 1, .int 0])), (a1, .inl (cT 2, 4096, .inr (.inl (vp_updL f4 0 0))))]) hP hD hS hA [0, 1] rfl rfl (by decide)
  refine va_callv (va_runV (C := "ValueBench$Row") (As := [.long 110]) (rest := []) ⟨hx, hb, hml, hown, htx⟩ (cR_put_3 l hl9 D cT aK aV H.size a0 a1 (vp_updL f4 0 0)) ⟨callB_of 1 htx (xw_goodC kw_2_126) rfl rfl rfl (htx _ kw_1_4) (htx _ kw_2_137) ⟨by decide, by decide, by decide +kernel⟩ ⟨Nat.le_of_ble_eq_true rfl, Nat.le_of_ble_eq_true rfl⟩, (htx _ kw_2_124), (htx _ kw_2_125)⟩ ⟨xPre_blind, va_recv hK hP (ci := 2) rfl (q0 := 0) rfl, (fun U hU hW => ⟨rfl, xPre_of hZ hS hFc hPc hDc hK U hU hW⟩)⟩ rfl rfl hl.1 rfl (lv_room (Nat.le_of_ble_eq_true rfl)) dR_putText_22 ⟨Nat.le_of_ble_eq_true rfl, Nat.le_of_ble_eq_true rfl⟩) hS (fun q _ h => hFc q h) hFc (fun u9 t H1 locs ht hvm hr9 hB hz1 hk1 hS => ?_)
  obtain ⟨hP1, hK1, hD1⟩ := hB
  rw [ht] at hP1
  obtain ⟨hP, hD⟩ := xjoin (W := [(a2, .inr (1, [.ref a3, .int 4, .int 0])), (a3, .inl (cT 0, 4096, .inl f5)), (a0, .inr (2, [.ref a1, .int 2, .int 0])), (a1, .inl (cT 2, 4096, .inr (.inl (vp_updL (vp_updL f4 0 0) 1 110))))]) hP hD [0, 1] [2, 3] 2 rfl rfl (by decide) (by decide) hk1 hFc hP1 hD1
  generalize H1 = H at hP hS ⊢
  refine lv_iinc (v := 1) (lv' := [(3, .int 1), (2, .int 0), (0, .ref a0), (1, .ref a2)]) hx hb dR_putText_25 hl (k := 0) rfl (by decide) (by decide) rfl (fun ls hl => ?_)
  refine lv_goto (tgt := 7) hx hb dR_putText_28 (by decide) ?_
  refine lv_iload_n hx hb dR_putText_7 rfl (lv_at hl 0 rfl) ?_
  refine lv_aload_n hx hb dR_putText_8 rfl (lv_at hl 3 rfl) ?_
  obtain ⟨hPc, hDc, hFc⟩ := xcut (wc := [(a2, .inr (1, [.ref a3, .int 4, .int 0]))]) hP hD hS hA [0] rfl rfl (by decide)
  refine va_calli (va_runV (C := "ValueBench$Text") (As := []) (rest := [.int 1]) ⟨hx, hb, hml, hown, htx⟩ (cT_size_3 l hl9 D cT aK aV H.size a2 (.ref a3) (.int 0)) ⟨callB_of 0 htx (xw_goodC kw_1_131) rfl rfl rfl (htx _ kw_1_2) (htx _ kw_4_87) ⟨by decide, by decide, by decide +kernel⟩ ⟨Nat.le_of_ble_eq_true rfl, Nat.le_of_ble_eq_true rfl⟩, (htx _ kw_1_129), (htx _ kw_1_130)⟩ ⟨xPre_blind, va_recv hK hP (ci := 1) rfl (q0 := 0) rfl, (fun U hU hW => ⟨rfl, xPre_of hZ hS hFc hPc hDc hK U hU hW⟩)⟩ rfl rfl hl.1 rfl (lv_room (Nat.le_of_ble_eq_true rfl)) dR_putText_9 ⟨Nat.le_of_ble_eq_true rfl, Nat.le_of_ble_eq_true rfl⟩) hS (fun q _ h => hFc q h) hFc (fun r4 u9 t H1 locs ht hvm hr9 hB hz1 hk1 hS => ?_)
  obtain ⟨hP1, hK1, hD1⟩ := hB
  rw [ht] at hP1
  obtain ⟨hP, hD⟩ := xjoin (W := [(a3, .inl (cT 0, 4096, .inl f5)), (a0, .inr (2, [.ref a1, .int 2, .int 0])), (a1, .inl (cT 2, 4096, .inr (.inl (vp_updL (vp_updL f4 0 0) 1 110)))), (a2, .inr (1, [.ref a3, .int 4, .int 0]))]) hP hD [0] [1, 2, 3] 3 rfl rfl (by decide) (by decide) hk1 hFc hP1 hD1
  generalize H1 = H at hP hS ⊢
  rw [hr9]
  refine W.eq (g2 := F0 m 12 ls [.int 4, .int 1]) rfl ?_
  refine lv_icmp_ge (tgt := 31) hx hb dR_putText_12 (by decide) (fun h => ((by revert h; decide : False)).elim) (fun _ => ?_)
  refine lv_aload_n hx hb dR_putText_15 rfl (lv_at hl 2 rfl) ?_
  refine lv_aload_n hx hb dR_putText_16 rfl (lv_at hl 3 rfl) ?_
  refine lv_iload_n hx hb dR_putText_17 rfl (lv_at hl 0 rfl) ?_
  obtain ⟨hPc, hDc, hFc⟩ := xcut (wc := [(a2, .inr (1, [.ref a3, .int 4, .int 0])), (a3, .inl (cT 0, 4096, .inl f5))]) hP hD hS hA [3, 0] rfl rfl (by decide)
  refine va_calli (va_runV (C := "ValueBench$Text") (As := [.int 1]) (rest := [.ref a0]) ⟨hx, hb, hml, hown, htx⟩ (cT_at_2 l hl9 D cT aK aV H.size a2 a3 (.int 0) f5 (by first | rfl | exact h6 | exact h7 | exact h8 | exact h9)) ⟨callB_of 1 htx (xw_goodC kw_2_58) rfl rfl rfl (htx _ kw_1_2) (htx _ kw_4_88) ⟨by decide, by decide, by decide +kernel⟩ ⟨Nat.le_of_ble_eq_true rfl, Nat.le_of_ble_eq_true rfl⟩, (htx _ kw_2_56), (htx _ kw_2_57)⟩ ⟨xPre_blind, va_recv hK hP (ci := 1) rfl (q0 := 3) rfl, (fun U hU hW => ⟨rfl, xPre_of hZ hS hFc hPc hDc hK U hU hW⟩)⟩ rfl rfl hl.1 rfl (lv_room (Nat.le_of_ble_eq_true rfl)) dR_putText_18 ⟨Nat.le_of_ble_eq_true rfl, Nat.le_of_ble_eq_true rfl⟩) hS (fun q _ h => hFc q h) hFc (fun r5 u9 t H1 locs ht hvm hr9 hB hz1 hk1 hS => ?_)
  obtain ⟨hP1, hK1, hD1⟩ := hB
  rw [ht] at hP1
  obtain ⟨hP, hD⟩ := xjoin (W := [(a0, .inr (2, [.ref a1, .int 2, .int 0])), (a1, .inl (cT 2, 4096, .inr (.inl (vp_updL (vp_updL f4 0 0) 1 110)))), (a2, .inr (1, [.ref a3, .int 4, .int 0])), (a3, .inl (cT 0, 4096, .inl f5))]) hP hD [3, 0] [1, 2] 2 rfl rfl (by decide) (by decide) hk1 hFc hP1 hD1
  generalize H1 = H at hP hS ⊢
  rw [hr9]
  refine W.eq (g2 := F0 m 21 ls [.int 117, .ref a0]) rfl ?_
  refine lv_i2l hx hb dR_putText_21 rfl ?_
  refine W.eq (g2 := F0 m 22 ls [.long 117, .ref a0]) rfl ?_
  obtain ⟨hPc, hDc, hFc⟩ := xcut (wc := [(a0, .inr (2, [.ref a1, .int 2, .int 0])), (a1, .inl (cT 2, 4096, .inr (.inl (vp_updL (vp_updL f4 0 0) 1 110))))]) hP hD hS hA [0, 1] rfl rfl (by decide)
  refine va_callv (va_runV (C := "ValueBench$Row") (As := [.long 117]) (rest := []) ⟨hx, hb, hml, hown, htx⟩ (cR_put_4 l hl9 D cT aK aV H.size a0 a1 (vp_updL (vp_updL f4 0 0) 1 110)) ⟨callB_of 1 htx (xw_goodC kw_2_126) rfl rfl rfl (htx _ kw_1_4) (htx _ kw_2_137) ⟨by decide, by decide, by decide +kernel⟩ ⟨Nat.le_of_ble_eq_true rfl, Nat.le_of_ble_eq_true rfl⟩, (htx _ kw_2_124), (htx _ kw_2_125)⟩ ⟨xPre_blind, va_recv hK hP (ci := 2) rfl (q0 := 0) rfl, (fun U hU hW => ⟨rfl, xPre_of hZ hS hFc hPc hDc hK U hU hW⟩)⟩ rfl rfl hl.1 rfl (lv_room (Nat.le_of_ble_eq_true rfl)) dR_putText_22 ⟨Nat.le_of_ble_eq_true rfl, Nat.le_of_ble_eq_true rfl⟩) hS (fun q _ h => hFc q h) hFc (fun u9 t H1 locs ht hvm hr9 hB hz1 hk1 hS => ?_)
  obtain ⟨hP1, hK1, hD1⟩ := hB
  rw [ht] at hP1
  obtain ⟨hP, hD⟩ := xjoin (W := [(a2, .inr (1, [.ref a3, .int 4, .int 0])), (a3, .inl (cT 0, 4096, .inl f5)), (a0, .inr (2, [.ref a1, .int 3, .int 0])), (a1, .inl (cT 2, 4096, .inr (.inl (vp_updL (vp_updL (vp_updL f4 0 0) 1 110) 2 117))))]) hP hD [0, 1] [2, 3] 2 rfl rfl (by decide) (by decide) hk1 hFc hP1 hD1
  generalize H1 = H at hP hS ⊢
  refine lv_iinc (v := 2) (lv' := [(3, .int 2), (2, .int 0), (0, .ref a0), (1, .ref a2)]) hx hb dR_putText_25 hl (k := 0) rfl (by decide) (by decide) rfl (fun ls hl => ?_)
  refine lv_goto (tgt := 7) hx hb dR_putText_28 (by decide) ?_
  refine lv_iload_n hx hb dR_putText_7 rfl (lv_at hl 0 rfl) ?_
  refine lv_aload_n hx hb dR_putText_8 rfl (lv_at hl 3 rfl) ?_
  obtain ⟨hPc, hDc, hFc⟩ := xcut (wc := [(a2, .inr (1, [.ref a3, .int 4, .int 0]))]) hP hD hS hA [0] rfl rfl (by decide)
  refine va_calli (va_runV (C := "ValueBench$Text") (As := []) (rest := [.int 2]) ⟨hx, hb, hml, hown, htx⟩ (cT_size_3 l hl9 D cT aK aV H.size a2 (.ref a3) (.int 0)) ⟨callB_of 0 htx (xw_goodC kw_1_131) rfl rfl rfl (htx _ kw_1_2) (htx _ kw_4_87) ⟨by decide, by decide, by decide +kernel⟩ ⟨Nat.le_of_ble_eq_true rfl, Nat.le_of_ble_eq_true rfl⟩, (htx _ kw_1_129), (htx _ kw_1_130)⟩ ⟨xPre_blind, va_recv hK hP (ci := 1) rfl (q0 := 0) rfl, (fun U hU hW => ⟨rfl, xPre_of hZ hS hFc hPc hDc hK U hU hW⟩)⟩ rfl rfl hl.1 rfl (lv_room (Nat.le_of_ble_eq_true rfl)) dR_putText_9 ⟨Nat.le_of_ble_eq_true rfl, Nat.le_of_ble_eq_true rfl⟩) hS (fun q _ h => hFc q h) hFc (fun r6 u9 t H1 locs ht hvm hr9 hB hz1 hk1 hS => ?_)
  obtain ⟨hP1, hK1, hD1⟩ := hB
  rw [ht] at hP1
  obtain ⟨hP, hD⟩ := xjoin (W := [(a3, .inl (cT 0, 4096, .inl f5)), (a0, .inr (2, [.ref a1, .int 3, .int 0])), (a1, .inl (cT 2, 4096, .inr (.inl (vp_updL (vp_updL (vp_updL f4 0 0) 1 110) 2 117)))), (a2, .inr (1, [.ref a3, .int 4, .int 0]))]) hP hD [0] [1, 2, 3] 3 rfl rfl (by decide) (by decide) hk1 hFc hP1 hD1
  generalize H1 = H at hP hS ⊢
  rw [hr9]
  refine W.eq (g2 := F0 m 12 ls [.int 4, .int 2]) rfl ?_
  refine lv_icmp_ge (tgt := 31) hx hb dR_putText_12 (by decide) (fun h => ((by revert h; decide : False)).elim) (fun _ => ?_)
  refine lv_aload_n hx hb dR_putText_15 rfl (lv_at hl 2 rfl) ?_
  refine lv_aload_n hx hb dR_putText_16 rfl (lv_at hl 3 rfl) ?_
  refine lv_iload_n hx hb dR_putText_17 rfl (lv_at hl 0 rfl) ?_
  obtain ⟨hPc, hDc, hFc⟩ := xcut (wc := [(a2, .inr (1, [.ref a3, .int 4, .int 0])), (a3, .inl (cT 0, 4096, .inl f5))]) hP hD hS hA [3, 0] rfl rfl (by decide)
  refine va_calli (va_runV (C := "ValueBench$Text") (As := [.int 2]) (rest := [.ref a0]) ⟨hx, hb, hml, hown, htx⟩ (cT_at_3 l hl9 D cT aK aV H.size a2 a3 (.int 0) f5 (by first | rfl | exact h6 | exact h7 | exact h8 | exact h9)) ⟨callB_of 1 htx (xw_goodC kw_2_58) rfl rfl rfl (htx _ kw_1_2) (htx _ kw_4_88) ⟨by decide, by decide, by decide +kernel⟩ ⟨Nat.le_of_ble_eq_true rfl, Nat.le_of_ble_eq_true rfl⟩, (htx _ kw_2_56), (htx _ kw_2_57)⟩ ⟨xPre_blind, va_recv hK hP (ci := 1) rfl (q0 := 3) rfl, (fun U hU hW => ⟨rfl, xPre_of hZ hS hFc hPc hDc hK U hU hW⟩)⟩ rfl rfl hl.1 rfl (lv_room (Nat.le_of_ble_eq_true rfl)) dR_putText_18 ⟨Nat.le_of_ble_eq_true rfl, Nat.le_of_ble_eq_true rfl⟩) hS (fun q _ h => hFc q h) hFc (fun r7 u9 t H1 locs ht hvm hr9 hB hz1 hk1 hS => ?_)
  obtain ⟨hP1, hK1, hD1⟩ := hB
  rw [ht] at hP1
  obtain ⟨hP, hD⟩ := xjoin (W := [(a0, .inr (2, [.ref a1, .int 3, .int 0])), (a1, .inl (cT 2, 4096, .inr (.inl (vp_updL (vp_updL (vp_updL f4 0 0) 1 110) 2 117)))), (a2, .inr (1, [.ref a3, .int 4, .int 0])), (a3, .inl (cT 0, 4096, .inl f5))]) hP hD [3, 0] [1, 2] 2 rfl rfl (by decide) (by decide) hk1 hFc hP1 hD1
  generalize H1 = H at hP hS ⊢
  rw [hr9]
  refine W.eq (g2 := F0 m 21 ls [.int 108, .ref a0]) rfl ?_
  refine lv_i2l hx hb dR_putText_21 rfl ?_
  refine W.eq (g2 := F0 m 22 ls [.long 108, .ref a0]) rfl ?_
  obtain ⟨hPc, hDc, hFc⟩ := xcut (wc := [(a0, .inr (2, [.ref a1, .int 3, .int 0])), (a1, .inl (cT 2, 4096, .inr (.inl (vp_updL (vp_updL (vp_updL f4 0 0) 1 110) 2 117))))]) hP hD hS hA [0, 1] rfl rfl (by decide)
  refine va_callv (va_runV (C := "ValueBench$Row") (As := [.long 108]) (rest := []) ⟨hx, hb, hml, hown, htx⟩ (cR_put_5 l hl9 D cT aK aV H.size a0 a1 (vp_updL (vp_updL (vp_updL f4 0 0) 1 110) 2 117)) ⟨callB_of 1 htx (xw_goodC kw_2_126) rfl rfl rfl (htx _ kw_1_4) (htx _ kw_2_137) ⟨by decide, by decide, by decide +kernel⟩ ⟨Nat.le_of_ble_eq_true rfl, Nat.le_of_ble_eq_true rfl⟩, (htx _ kw_2_124), (htx _ kw_2_125)⟩ ⟨xPre_blind, va_recv hK hP (ci := 2) rfl (q0 := 0) rfl, (fun U hU hW => ⟨rfl, xPre_of hZ hS hFc hPc hDc hK U hU hW⟩)⟩ rfl rfl hl.1 rfl (lv_room (Nat.le_of_ble_eq_true rfl)) dR_putText_22 ⟨Nat.le_of_ble_eq_true rfl, Nat.le_of_ble_eq_true rfl⟩) hS (fun q _ h => hFc q h) hFc (fun u9 t H1 locs ht hvm hr9 hB hz1 hk1 hS => ?_)
  obtain ⟨hP1, hK1, hD1⟩ := hB
  rw [ht] at hP1
  obtain ⟨hP, hD⟩ := xjoin (W := [(a2, .inr (1, [.ref a3, .int 4, .int 0])), (a3, .inl (cT 0, 4096, .inl f5)), (a0, .inr (2, [.ref a1, .int 4, .int 0])), (a1, .inl (cT 2, 4096, .inr (.inl (vp_updL (vp_updL (vp_updL (vp_updL f4 0 0) 1 110) 2 117) 3 108))))]) hP hD [0, 1] [2, 3] 2 rfl rfl (by decide) (by decide) hk1 hFc hP1 hD1
  generalize H1 = H at hP hS ⊢
  refine lv_iinc (v := 3) (lv' := [(3, .int 3), (2, .int 0), (0, .ref a0), (1, .ref a2)]) hx hb dR_putText_25 hl (k := 0) rfl (by decide) (by decide) rfl (fun ls hl => ?_)
  refine lv_goto (tgt := 7) hx hb dR_putText_28 (by decide) ?_
  refine lv_iload_n hx hb dR_putText_7 rfl (lv_at hl 0 rfl) ?_
  refine lv_aload_n hx hb dR_putText_8 rfl (lv_at hl 3 rfl) ?_
  obtain ⟨hPc, hDc, hFc⟩ := xcut (wc := [(a2, .inr (1, [.ref a3, .int 4, .int 0]))]) hP hD hS hA [0] rfl rfl (by decide)
  refine va_calli (va_runV (C := "ValueBench$Text") (As := []) (rest := [.int 3]) ⟨hx, hb, hml, hown, htx⟩ (cT_size_3 l hl9 D cT aK aV H.size a2 (.ref a3) (.int 0)) ⟨callB_of 0 htx (xw_goodC kw_1_131) rfl rfl rfl (htx _ kw_1_2) (htx _ kw_4_87) ⟨by decide, by decide, by decide +kernel⟩ ⟨Nat.le_of_ble_eq_true rfl, Nat.le_of_ble_eq_true rfl⟩, (htx _ kw_1_129), (htx _ kw_1_130)⟩ ⟨xPre_blind, va_recv hK hP (ci := 1) rfl (q0 := 0) rfl, (fun U hU hW => ⟨rfl, xPre_of hZ hS hFc hPc hDc hK U hU hW⟩)⟩ rfl rfl hl.1 rfl (lv_room (Nat.le_of_ble_eq_true rfl)) dR_putText_9 ⟨Nat.le_of_ble_eq_true rfl, Nat.le_of_ble_eq_true rfl⟩) hS (fun q _ h => hFc q h) hFc (fun r8 u9 t H1 locs ht hvm hr9 hB hz1 hk1 hS => ?_)
  obtain ⟨hP1, hK1, hD1⟩ := hB
  rw [ht] at hP1
  obtain ⟨hP, hD⟩ := xjoin (W := [(a3, .inl (cT 0, 4096, .inl f5)), (a0, .inr (2, [.ref a1, .int 4, .int 0])), (a1, .inl (cT 2, 4096, .inr (.inl (vp_updL (vp_updL (vp_updL (vp_updL f4 0 0) 1 110) 2 117) 3 108)))), (a2, .inr (1, [.ref a3, .int 4, .int 0]))]) hP hD [0] [1, 2, 3] 3 rfl rfl (by decide) (by decide) hk1 hFc hP1 hD1
  generalize H1 = H at hP hS ⊢
  rw [hr9]
  refine W.eq (g2 := F0 m 12 ls [.int 4, .int 3]) rfl ?_
  refine lv_icmp_ge (tgt := 31) hx hb dR_putText_12 (by decide) (fun h => ((by revert h; decide : False)).elim) (fun _ => ?_)
  refine lv_aload_n hx hb dR_putText_15 rfl (lv_at hl 2 rfl) ?_
  refine lv_aload_n hx hb dR_putText_16 rfl (lv_at hl 3 rfl) ?_
  refine lv_iload_n hx hb dR_putText_17 rfl (lv_at hl 0 rfl) ?_
  obtain ⟨hPc, hDc, hFc⟩ := xcut (wc := [(a2, .inr (1, [.ref a3, .int 4, .int 0])), (a3, .inl (cT 0, 4096, .inl f5))]) hP hD hS hA [3, 0] rfl rfl (by decide)
  refine va_calli (va_runV (C := "ValueBench$Text") (As := [.int 3]) (rest := [.ref a0]) ⟨hx, hb, hml, hown, htx⟩ (cT_at_4 l hl9 D cT aK aV H.size a2 a3 (.int 0) f5 (by first | rfl | exact h6 | exact h7 | exact h8 | exact h9)) ⟨callB_of 1 htx (xw_goodC kw_2_58) rfl rfl rfl (htx _ kw_1_2) (htx _ kw_4_88) ⟨by decide, by decide, by decide +kernel⟩ ⟨Nat.le_of_ble_eq_true rfl, Nat.le_of_ble_eq_true rfl⟩, (htx _ kw_2_56), (htx _ kw_2_57)⟩ ⟨xPre_blind, va_recv hK hP (ci := 1) rfl (q0 := 3) rfl, (fun U hU hW => ⟨rfl, xPre_of hZ hS hFc hPc hDc hK U hU hW⟩)⟩ rfl rfl hl.1 rfl (lv_room (Nat.le_of_ble_eq_true rfl)) dR_putText_18 ⟨Nat.le_of_ble_eq_true rfl, Nat.le_of_ble_eq_true rfl⟩) hS (fun q _ h => hFc q h) hFc (fun r9 u9 t H1 locs ht hvm hr9 hB hz1 hk1 hS => ?_)
  obtain ⟨hP1, hK1, hD1⟩ := hB
  rw [ht] at hP1
  obtain ⟨hP, hD⟩ := xjoin (W := [(a0, .inr (2, [.ref a1, .int 4, .int 0])), (a1, .inl (cT 2, 4096, .inr (.inl (vp_updL (vp_updL (vp_updL (vp_updL f4 0 0) 1 110) 2 117) 3 108)))), (a2, .inr (1, [.ref a3, .int 4, .int 0])), (a3, .inl (cT 0, 4096, .inl f5))]) hP hD [3, 0] [1, 2] 2 rfl rfl (by decide) (by decide) hk1 hFc hP1 hD1
  generalize H1 = H at hP hS ⊢
  rw [hr9]
  refine W.eq (g2 := F0 m 21 ls [.int 108, .ref a0]) rfl ?_
  refine lv_i2l hx hb dR_putText_21 rfl ?_
  refine W.eq (g2 := F0 m 22 ls [.long 108, .ref a0]) rfl ?_
  obtain ⟨hPc, hDc, hFc⟩ := xcut (wc := [(a0, .inr (2, [.ref a1, .int 4, .int 0])), (a1, .inl (cT 2, 4096, .inr (.inl (vp_updL (vp_updL (vp_updL (vp_updL f4 0 0) 1 110) 2 117) 3 108))))]) hP hD hS hA [0, 1] rfl rfl (by decide)
  refine va_callv (va_runV (C := "ValueBench$Row") (As := [.long 108]) (rest := []) ⟨hx, hb, hml, hown, htx⟩ (cR_put_6 l hl9 D cT aK aV H.size a0 a1 (vp_updL (vp_updL (vp_updL (vp_updL f4 0 0) 1 110) 2 117) 3 108)) ⟨callB_of 1 htx (xw_goodC kw_2_126) rfl rfl rfl (htx _ kw_1_4) (htx _ kw_2_137) ⟨by decide, by decide, by decide +kernel⟩ ⟨Nat.le_of_ble_eq_true rfl, Nat.le_of_ble_eq_true rfl⟩, (htx _ kw_2_124), (htx _ kw_2_125)⟩ ⟨xPre_blind, va_recv hK hP (ci := 2) rfl (q0 := 0) rfl, (fun U hU hW => ⟨rfl, xPre_of hZ hS hFc hPc hDc hK U hU hW⟩)⟩ rfl rfl hl.1 rfl (lv_room (Nat.le_of_ble_eq_true rfl)) dR_putText_22 ⟨Nat.le_of_ble_eq_true rfl, Nat.le_of_ble_eq_true rfl⟩) hS (fun q _ h => hFc q h) hFc (fun u9 t H1 locs ht hvm hr9 hB hz1 hk1 hS => ?_)
  obtain ⟨hP1, hK1, hD1⟩ := hB
  rw [ht] at hP1
  obtain ⟨hP, hD⟩ := xjoin (W := [(a2, .inr (1, [.ref a3, .int 4, .int 0])), (a3, .inl (cT 0, 4096, .inl f5)), (a0, .inr (2, [.ref a1, .int 5, .int 0])), (a1, .inl (cT 2, 4096, .inr (.inl (vp_updL (vp_updL (vp_updL (vp_updL (vp_updL f4 0 0) 1 110) 2 117) 3 108) 4 108))))]) hP hD [0, 1] [2, 3] 2 rfl rfl (by decide) (by decide) hk1 hFc hP1 hD1
  generalize H1 = H at hP hS ⊢
  refine lv_iinc (v := 4) (lv' := [(3, .int 4), (2, .int 0), (0, .ref a0), (1, .ref a2)]) hx hb dR_putText_25 hl (k := 0) rfl (by decide) (by decide) rfl (fun ls hl => ?_)
  refine lv_goto (tgt := 7) hx hb dR_putText_28 (by decide) ?_
  refine lv_iload_n hx hb dR_putText_7 rfl (lv_at hl 0 rfl) ?_
  refine lv_aload_n hx hb dR_putText_8 rfl (lv_at hl 3 rfl) ?_
  obtain ⟨hPc, hDc, hFc⟩ := xcut (wc := [(a2, .inr (1, [.ref a3, .int 4, .int 0]))]) hP hD hS hA [0] rfl rfl (by decide)
  refine va_calli (va_runV (C := "ValueBench$Text") (As := []) (rest := [.int 4]) ⟨hx, hb, hml, hown, htx⟩ (cT_size_3 l hl9 D cT aK aV H.size a2 (.ref a3) (.int 0)) ⟨callB_of 0 htx (xw_goodC kw_1_131) rfl rfl rfl (htx _ kw_1_2) (htx _ kw_4_87) ⟨by decide, by decide, by decide +kernel⟩ ⟨Nat.le_of_ble_eq_true rfl, Nat.le_of_ble_eq_true rfl⟩, (htx _ kw_1_129), (htx _ kw_1_130)⟩ ⟨xPre_blind, va_recv hK hP (ci := 1) rfl (q0 := 0) rfl, (fun U hU hW => ⟨rfl, xPre_of hZ hS hFc hPc hDc hK U hU hW⟩)⟩ rfl rfl hl.1 rfl (lv_room (Nat.le_of_ble_eq_true rfl)) dR_putText_9 ⟨Nat.le_of_ble_eq_true rfl, Nat.le_of_ble_eq_true rfl⟩) hS (fun q _ h => hFc q h) hFc (fun r10 u9 t H1 locs ht hvm hr9 hB hz1 hk1 hS => ?_)
  obtain ⟨hP1, hK1, hD1⟩ := hB
  rw [ht] at hP1
  obtain ⟨hP, hD⟩ := xjoin (W := [(a3, .inl (cT 0, 4096, .inl f5)), (a0, .inr (2, [.ref a1, .int 5, .int 0])), (a1, .inl (cT 2, 4096, .inr (.inl (vp_updL (vp_updL (vp_updL (vp_updL (vp_updL f4 0 0) 1 110) 2 117) 3 108) 4 108)))), (a2, .inr (1, [.ref a3, .int 4, .int 0]))]) hP hD [0] [1, 2, 3] 3 rfl rfl (by decide) (by decide) hk1 hFc hP1 hD1
  generalize H1 = H at hP hS ⊢
  rw [hr9]
  refine W.eq (g2 := F0 m 12 ls [.int 4, .int 4]) rfl ?_
  refine lv_icmp_ge (tgt := 31) hx hb dR_putText_12 (by decide) (fun _ => ?_) (fun h => ((by revert h; decide : False)).elim)
  refine lv_aload_n hx hb dR_putText_31 rfl (lv_at hl 2 rfl) ?_
  refine lv_iload_n hx hb dR_putText_32 rfl (lv_at hl 1 rfl) ?_
  refine lv_iconst (v := 4) hx hb dR_putText_33 (by decide) ?_
  refine lv_aload_n hx hb dR_putText_34 rfl (lv_at hl 3 rfl) ?_
  obtain ⟨hPc, hDc, hFc⟩ := xcut (wc := [(a2, .inr (1, [.ref a3, .int 4, .int 0]))]) hP hD hS hA [3] rfl rfl (by decide)
  refine va_calli (va_runV (C := "ValueBench$Text") (As := []) (rest := [.int 4, .int 0, .ref a0]) ⟨hx, hb, hml, hown, htx⟩ (cT_size_3 l hl9 D cT aK aV H.size a2 (.ref a3) (.int 0)) ⟨callB_of 0 htx (xw_goodC kw_1_131) rfl rfl rfl (htx _ kw_1_2) (htx _ kw_4_87) ⟨by decide, by decide, by decide +kernel⟩ ⟨Nat.le_of_ble_eq_true rfl, Nat.le_of_ble_eq_true rfl⟩, (htx _ kw_1_129), (htx _ kw_1_130)⟩ ⟨xPre_blind, va_recv hK hP (ci := 1) rfl (q0 := 3) rfl, (fun U hU hW => ⟨rfl, xPre_of hZ hS hFc hPc hDc hK U hU hW⟩)⟩ rfl rfl hl.1 rfl (lv_room (Nat.le_of_ble_eq_true rfl)) dR_putText_35 ⟨Nat.le_of_ble_eq_true rfl, Nat.le_of_ble_eq_true rfl⟩) hS (fun q _ h => hFc q h) hFc (fun r11 u9 t H1 locs ht hvm hr9 hB hz1 hk1 hS => ?_)
  obtain ⟨hP1, hK1, hD1⟩ := hB
  rw [ht] at hP1
  obtain ⟨hP, hD⟩ := xjoin (W := [(a3, .inl (cT 0, 4096, .inl f5)), (a0, .inr (2, [.ref a1, .int 5, .int 0])), (a1, .inl (cT 2, 4096, .inr (.inl (vp_updL (vp_updL (vp_updL (vp_updL (vp_updL f4 0 0) 1 110) 2 117) 3 108) 4 108)))), (a2, .inr (1, [.ref a3, .int 4, .int 0]))]) hP hD [3] [0, 1, 2] 3 rfl rfl (by decide) (by decide) hk1 hFc hP1 hD1
  generalize H1 = H at hP hS ⊢
  rw [hr9]
  refine W.eq (g2 := F0 m 38 ls [.int 4, .int 4, .int 0, .ref a0]) rfl ?_
  obtain ⟨hPc, hDc, hFc⟩ := xcut (wc := [(a0, .inr (2, [.ref a1, .int 5, .int 0])), (a1, .inl (cT 2, 4096, .inr (.inl (vp_updL (vp_updL (vp_updL (vp_updL (vp_updL f4 0 0) 1 110) 2 117) 3 108) 4 108))))]) hP hD hS hA [1, 2] rfl rfl (by decide)
  refine va_callv (va_runV (C := "ValueBench$Row") (As := [.int 0, .int 4, .int 4]) (rest := []) ⟨hx, hb, hml, hown, htx⟩ (cR_close_0 l hl9 D cT aK aV H.size a0 a1 (vp_updL (vp_updL (vp_updL (vp_updL (vp_updL f4 0 0) 1 110) 2 117) 3 108) 4 108)) ⟨callB_of 3 htx (xw_goodC kw_2_167) rfl rfl rfl (htx _ kw_1_4) (htx _ kw_3_210) ⟨by decide, by decide, by decide +kernel⟩ ⟨Nat.le_of_ble_eq_true rfl, Nat.le_of_ble_eq_true rfl⟩, (htx _ kw_2_165), (htx _ kw_2_166)⟩ ⟨xPre_blind, va_recv hK hP (ci := 2) rfl (q0 := 1) rfl, (fun U hU hW => ⟨rfl, xPre_of hZ hS hFc hPc hDc hK U hU hW⟩)⟩ rfl rfl hl.1 rfl (lv_room (Nat.le_of_ble_eq_true rfl)) dR_putText_38 ⟨Nat.le_of_ble_eq_true rfl, Nat.le_of_ble_eq_true rfl⟩) hS (fun q _ h => hFc q h) hFc (fun u9 t H1 locs ht hvm hr9 hB hz1 hk1 hS => ?_)
  obtain ⟨hP1, hK1, hD1⟩ := hB
  rw [ht] at hP1
  obtain ⟨hP, hD⟩ := xjoin (W := [(a3, .inl (cT 0, 4096, .inl f5)), (a2, .inr (1, [.ref a3, .int 4, .int 0])), (a0, .inr (2, [.ref a1, .int 5, .int 0])), (a1, .inl (cT 2, 4096, .inr (.inl (vp_updL (vp_updL (vp_updL (vp_updL (vp_updL (vp_updL f4 0 0) 1 110) 2 117) 3 108) 4 108) 0 2621476))))]) hP hD [1, 2] [0, 3] 2 rfl rfl (by decide) (by decide) hk1 hFc hP1 hD1
  generalize H1 = H at hP hS ⊢
  refine lv_aload_n hx hb dR_putText_41 rfl (lv_at hl 2 rfl) ?_
  refine lv_aload_n hx hb dR_putText_42 rfl (lv_at hl 2 rfl) ?_
  refine va_get (D := D) (ci := 2) (v := .int 0) (C := "ValueBench$Row") (T := TR) (N := 3) hx hb htx inR hown hK hP 2 rfl rfl 2 (by decide) (htx _ kw_1_86) (fun _ h9 => h9) rfl dR_putText_43 ?_
  refine lv_if_ne (tgt := 56) hx hb dR_putText_46 (by decide) (fun h => ((by revert h; decide : False)).elim) (fun _ => ?_)
  refine lv_aload_n hx hb dR_putText_49 rfl (lv_at hl 3 rfl) ?_
  obtain ⟨hPc, hDc, hFc⟩ := xcut (wc := [(a2, .inr (1, [.ref a3, .int 4, .int 0]))]) hP hD hS hA [1] rfl rfl (by decide)
  refine va_calli (va_runV (C := "ValueBench$Text") (As := []) (rest := [.ref a0]) ⟨hx, hb, hml, hown, htx⟩ (cT_isOver_0 l hl9 D cT aK aV H.size a2 (.ref a3) (.int 4)) ⟨callB_of 0 htx (xw_goodC kw_3_86) rfl rfl rfl (htx _ kw_1_2) (htx _ kw_4_89) ⟨by decide, by decide, by decide +kernel⟩ ⟨Nat.le_of_ble_eq_true rfl, Nat.le_of_ble_eq_true rfl⟩, (htx _ kw_3_84), (htx _ kw_3_85)⟩ ⟨xPre_blind, va_recv hK hP (ci := 1) rfl (q0 := 1) rfl, (fun U hU hW => ⟨rfl, xPre_of hZ hS hFc hPc hDc hK U hU hW⟩)⟩ rfl rfl hl.1 rfl (lv_room (Nat.le_of_ble_eq_true rfl)) dR_putText_50 ⟨Nat.le_of_ble_eq_true rfl, Nat.le_of_ble_eq_true rfl⟩) hS (fun q _ h => hFc q h) hFc (fun r12 u9 t H1 locs ht hvm hr9 hB hz1 hk1 hS => ?_)
  obtain ⟨hP1, hK1, hD1⟩ := hB
  rw [ht] at hP1
  obtain ⟨hP, hD⟩ := xjoin (W := [(a3, .inl (cT 0, 4096, .inl f5)), (a0, .inr (2, [.ref a1, .int 5, .int 0])), (a1, .inl (cT 2, 4096, .inr (.inl (vp_updL (vp_updL (vp_updL (vp_updL (vp_updL (vp_updL f4 0 0) 1 110) 2 117) 3 108) 4 108) 0 2621476)))), (a2, .inr (1, [.ref a3, .int 4, .int 0]))]) hP hD [1] [0, 2, 3] 3 rfl rfl (by decide) (by decide) hk1 hFc hP1 hD1
  generalize H1 = H at hP hS ⊢
  rw [hr9]
  refine W.eq (g2 := F0 m 53 ls [.int 0, .ref a0]) rfl ?_
  refine lv_if_eq (tgt := 60) hx hb dR_putText_53 (by decide) (fun _ => ?_) (fun h => ((by revert h; decide : False)).elim)
  refine lv_iconst (v := 0) hx hb dR_putText_60 (by decide) ?_
  refine va_put (D := D) (ci := 2) (v := .int 0) (ty := .boolean) (C := "ValueBench$Row") (T := TR) (N := 3) hx hb htx inR tyR tyR_ok nmR hown hK hP hD hS 1 rfl rfl 2 (by decide) (htx _ kw_1_86) (fun _ h9 => h9) rfl (by decide +kernel) rfl rfl (Nat.le_of_ble_eq_true rfl) dR_putText_61 (fun H locs hP hD hS => ?_)
  obtain ⟨hP, hD⟩ : xPD D xcl A [(a3, .inl (cT 0, 4096, .inl f5)), (a0, .inr (2, [.ref a1, .int 5, .int 0])), (a1, .inl (cT 2, 4096, .inr (.inl (vp_updL (vp_updL (vp_updL (vp_updL (vp_updL (vp_updL f4 0 0) 1 110) 2 117) 3 108) 4 108) 0 2621476)))), (a2, .inr (1, [.ref a3, .int 4, .int 0]))] H := ⟨hP, hD⟩
  obtain ⟨hP9, hD9⟩ := xsub (wc := [(a0, .inr (2, [.ref a1, .int 5, .int 0])), (a1, .inl (cT 2, 4096, .inr (.inl (vp_updL (vp_updL (vp_updL (vp_updL (vp_updL (vp_updL f4 0 0) 1 110) 2 117) 3 108) 4 108) 0 2621476)))), (a2, .inr (1, [.ref a3, .int 4, .int 0])), (a3, .inl (cT 0, 4096, .inl f5))]) hP hD [1, 2, 3, 0] rfl rfl (by decide)
  refine W.widen (k := 0) (n := 0) (Nat.le_of_ble_eq_true rfl) (Nat.le_of_ble_eq_true rfl) ?_
  exact W.vret hx hb hr (fun t ht hW => ⟨⟨(), rfl, trivial, by rw [ht]; exact hP9, va_K.moved hW.alike hK, hD9⟩, hS.F ht⟩) hS.2.2 dR_putText_64
